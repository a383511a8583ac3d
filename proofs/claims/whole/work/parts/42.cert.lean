/-! CERTIFICATES: the bytecode does what F says (by program) -/
theorem c_X6_copyFrom_e {Ω : mO} {d : Nat} (hd : 1 ≤ d) {t0 : Nat} (hT0 : IsShop t0) {t1 : Nat} (hT1 : IsShop t1) {r : Int × mD} {D : mD} (h : F_X6_copyFrom t0 t1 D = some r) : J Ω M_X6_copyFrom d 0 0 (rV r.2) 0 [some (mR t0), some (mR t1)] [] (SK, D, false) 0 0 := by
  rw [F_X6_copyFrom] at h
  refine j_aload_n (pc' := 1) dX6_copyFrom_0 rfl rfl ?_
  refine j_aload_n (pc' := 2) dX6_copyFrom_1 rfl rfl ?_
  refine k_getI (pc' := 5) (sl := 0) (z := D t1 0) kc_6 w_71 (by decide) dX6_copyFrom_2 rfl (shop_lt hT1) (shopA_0 hT1) (by decide) rfl rfl ?_
  refine k_putI (pc' := 8) (sl := 0) (i' := 0) kc_6 w_71 (by decide) (Or.inl rfl) dX6_copyFrom_5 rfl (shop_lt hT0) (shopA_0 hT0) (by decide) ⟨rfl, rfl⟩ rfl ?_
  refine j_aload_n (pc' := 9) dX6_copyFrom_8 rfl rfl ?_
  refine k_getR (pc' := 12) (sl := 1) (r := (t1 + 1)) kc_6 w_74 (Or.inl rfl) (by decide) dX6_copyFrom_9 rfl (shop_lt hT1) (shopA_0 hT1) (by decide) rfl (shopL_1 hT1) ?_
  refine j_iconst (pc' := 13) dX6_copyFrom_12 rfl ?_
  refine j_aload_n (pc' := 14) dX6_copyFrom_13 rfl rfl ?_
  refine k_getR (pc' := 17) (sl := 1) (r := (t0 + 1)) kc_6 w_74 (Or.inl rfl) (by decide) dX6_copyFrom_14 rfl (shop_lt hT0) (shopA_0 hT0) (by decide) rfl (shopL_1 hT0) ?_
  refine j_iconst (pc' := 18) dX6_copyFrom_17 rfl ?_
  refine j_bipush (pc' := 20) dX6_copyFrom_18 rfl rfl ?_
  refine k_copy (pc' := 23) w_509 w_496 w_495 w_15 dX6_copyFrom_20 rfl (by omega) (shopL_1 hT1) (shopL_1 hT0) (shopA_1 hT1) (shopA_1 hT0) (by decide) (by decide) (by decide) (by decide) (by decide) rfl ?_
  refine j_aload_n (pc' := 24) dX6_copyFrom_23 rfl rfl ?_
  refine k_getR (pc' := 27) (sl := 2) (r := (t1 + 2)) kc_6 w_78 (Or.inl rfl) (by decide) dX6_copyFrom_24 rfl (shop_lt hT1) (shopA_0 hT1) (by decide) rfl (shopL_2 hT1) ?_
  refine j_iconst (pc' := 28) dX6_copyFrom_27 rfl ?_
  refine j_aload_n (pc' := 29) dX6_copyFrom_28 rfl rfl ?_
  refine k_getR (pc' := 32) (sl := 2) (r := (t0 + 2)) kc_6 w_78 (Or.inl rfl) (by decide) dX6_copyFrom_29 rfl (shop_lt hT0) (shopA_0 hT0) (by decide) rfl (shopL_2 hT0) ?_
  refine j_iconst (pc' := 33) dX6_copyFrom_32 rfl ?_
  refine j_bipush (pc' := 35) dX6_copyFrom_33 rfl rfl ?_
  refine k_copy (pc' := 38) w_509 w_496 w_495 w_15 dX6_copyFrom_35 rfl (by omega) (shopL_2 hT1) (shopL_2 hT0) (shopA_2 hT1) (shopA_2 hT0) (by decide) (by decide) (by decide) (by decide) (by decide) rfl ?_
  refine j_aload_n (pc' := 39) dX6_copyFrom_38 rfl rfl ?_
  refine k_getR (pc' := 42) (sl := 3) (r := (t1 + 3)) kc_6 w_82 (Or.inl rfl) (by decide) dX6_copyFrom_39 rfl (shop_lt hT1) (shopA_0 hT1) (by decide) rfl (shopL_3 hT1) ?_
  refine j_iconst (pc' := 43) dX6_copyFrom_42 rfl ?_
  refine j_aload_n (pc' := 44) dX6_copyFrom_43 rfl rfl ?_
  refine k_getR (pc' := 47) (sl := 3) (r := (t0 + 3)) kc_6 w_82 (Or.inl rfl) (by decide) dX6_copyFrom_44 rfl (shop_lt hT0) (shopA_0 hT0) (by decide) rfl (shopL_3 hT0) ?_
  refine j_iconst (pc' := 48) dX6_copyFrom_47 rfl ?_
  refine j_bipush (pc' := 50) dX6_copyFrom_48 rfl rfl ?_
  refine k_copy (pc' := 53) w_509 w_496 w_495 w_15 dX6_copyFrom_50 rfl (by omega) (shopL_3 hT1) (shopL_3 hT0) (shopA_3 hT1) (shopA_3 hT0) (by decide) (by decide) (by decide) (by decide) (by decide) rfl ?_
  refine j_aload_n (pc' := 54) dX6_copyFrom_53 rfl rfl ?_
  refine k_getR (pc' := 57) (sl := 4) (r := (t1 + 4)) kc_6 w_84 (Or.inl rfl) (by decide) dX6_copyFrom_54 rfl (shop_lt hT1) (shopA_0 hT1) (by decide) rfl (shopL_4 hT1) ?_
  refine j_iconst (pc' := 58) dX6_copyFrom_57 rfl ?_
  refine j_aload_n (pc' := 59) dX6_copyFrom_58 rfl rfl ?_
  refine k_getR (pc' := 62) (sl := 4) (r := (t0 + 4)) kc_6 w_84 (Or.inl rfl) (by decide) dX6_copyFrom_59 rfl (shop_lt hT0) (shopA_0 hT0) (by decide) rfl (shopL_4 hT0) ?_
  refine j_iconst (pc' := 63) dX6_copyFrom_62 rfl ?_
  refine j_bipush (pc' := 65) dX6_copyFrom_63 rfl rfl ?_
  refine k_copy (pc' := 68) w_509 w_496 w_495 w_15 dX6_copyFrom_65 rfl (by omega) (shopL_4 hT1) (shopL_4 hT0) (shopA_4 hT1) (shopA_4 hT0) (by decide) (by decide) (by decide) (by decide) (by decide) rfl ?_
  refine j_aload_n (pc' := 69) dX6_copyFrom_68 rfl rfl ?_
  refine j_aload_n (pc' := 70) dX6_copyFrom_69 rfl rfl ?_
  refine k_getI (pc' := 73) (sl := 5) (z := (cpD (cpD (cpD (cpD (pD D t0 0 (D t1 0)) (t1 + 1) (t0 + 1) 12) (t1 + 2) (t0 + 2) 12) (t1 + 3) (t0 + 3) 60) (t1 + 4) (t0 + 4) 60) t1 5) kc_6 w_88 (by decide) dX6_copyFrom_70 rfl (shop_lt hT1) (shopA_0 hT1) (by decide) rfl rfl ?_
  refine k_putI (pc' := 76) (sl := 5) (i' := 5) kc_6 w_88 (by decide) (Or.inl rfl) dX6_copyFrom_73 rfl (shop_lt hT0) (shopA_0 hT0) (by decide) ⟨rfl, rfl⟩ rfl ?_
  refine j_aload_n (pc' := 77) dX6_copyFrom_76 rfl rfl ?_
  refine k_getR (pc' := 80) (sl := 6) (r := (t1 + 5)) kc_6 w_92 (Or.inl rfl) (by decide) dX6_copyFrom_77 rfl (shop_lt hT1) (shopA_0 hT1) (by decide) rfl (shopL_5 hT1) ?_
  refine j_iconst (pc' := 81) dX6_copyFrom_80 rfl ?_
  refine j_aload_n (pc' := 82) dX6_copyFrom_81 rfl rfl ?_
  refine k_getR (pc' := 85) (sl := 6) (r := (t0 + 5)) kc_6 w_92 (Or.inl rfl) (by decide) dX6_copyFrom_82 rfl (shop_lt hT0) (shopA_0 hT0) (by decide) rfl (shopL_5 hT0) ?_
  refine j_iconst (pc' := 86) dX6_copyFrom_85 rfl ?_
  refine j_bipush (pc' := 88) dX6_copyFrom_86 rfl rfl ?_
  refine k_copy (pc' := 91) w_509 w_496 w_495 w_15 dX6_copyFrom_88 rfl (by omega) (shopL_5 hT1) (shopL_5 hT0) (shopA_5 hT1) (shopA_5 hT0) (by decide) (by decide) (by decide) (by decide) (by decide) rfl ?_
  refine j_aload_n (pc' := 92) dX6_copyFrom_91 rfl rfl ?_
  refine j_aload_n (pc' := 93) dX6_copyFrom_92 rfl rfl ?_
  refine k_getI (pc' := 96) (sl := 7) (z := (cpD (pD (cpD (cpD (cpD (cpD (pD D t0 0 (D t1 0)) (t1 + 1) (t0 + 1) 12) (t1 + 2) (t0 + 2) 12) (t1 + 3) (t0 + 3) 60) (t1 + 4) (t0 + 4) 60) t0 5 ((cpD (cpD (cpD (cpD (pD D t0 0 (D t1 0)) (t1 + 1) (t0 + 1) 12) (t1 + 2) (t0 + 2) 12) (t1 + 3) (t0 + 3) 60) (t1 + 4) (t0 + 4) 60) t1 5)) (t1 + 5) (t0 + 5) 14) t1 7) kc_6 w_97 (by decide) dX6_copyFrom_93 rfl (shop_lt hT1) (shopA_0 hT1) (by decide) rfl rfl ?_
  refine k_putI (pc' := 99) (sl := 7) (i' := 7) kc_6 w_97 (by decide) (Or.inl rfl) dX6_copyFrom_96 rfl (shop_lt hT0) (shopA_0 hT0) (by decide) ⟨rfl, rfl⟩ rfl ?_
  refine j_aload_n (pc' := 100) dX6_copyFrom_99 rfl rfl ?_
  refine j_aload_n (pc' := 101) dX6_copyFrom_100 rfl rfl ?_
  refine k_getI (pc' := 104) (sl := 8) (z := (pD (cpD (pD (cpD (cpD (cpD (cpD (pD D t0 0 (D t1 0)) (t1 + 1) (t0 + 1) 12) (t1 + 2) (t0 + 2) 12) (t1 + 3) (t0 + 3) 60) (t1 + 4) (t0 + 4) 60) t0 5 ((cpD (cpD (cpD (cpD (pD D t0 0 (D t1 0)) (t1 + 1) (t0 + 1) 12) (t1 + 2) (t0 + 2) 12) (t1 + 3) (t0 + 3) 60) (t1 + 4) (t0 + 4) 60) t1 5)) (t1 + 5) (t0 + 5) 14) t0 7 ((cpD (pD (cpD (cpD (cpD (cpD (pD D t0 0 (D t1 0)) (t1 + 1) (t0 + 1) 12) (t1 + 2) (t0 + 2) 12) (t1 + 3) (t0 + 3) 60) (t1 + 4) (t0 + 4) 60) t0 5 ((cpD (cpD (cpD (cpD (pD D t0 0 (D t1 0)) (t1 + 1) (t0 + 1) 12) (t1 + 2) (t0 + 2) 12) (t1 + 3) (t0 + 3) 60) (t1 + 4) (t0 + 4) 60) t1 5)) (t1 + 5) (t0 + 5) 14) t1 7)) t1 8) kc_6 w_101 (by decide) dX6_copyFrom_101 rfl (shop_lt hT1) (shopA_0 hT1) (by decide) rfl rfl ?_
  refine k_putI (pc' := 107) (sl := 8) (i' := 8) kc_6 w_101 (by decide) (Or.inl rfl) dX6_copyFrom_104 rfl (shop_lt hT0) (shopA_0 hT0) (by decide) ⟨rfl, rfl⟩ rfl ?_
  refine j_aload_n (pc' := 108) dX6_copyFrom_107 rfl rfl ?_
  refine j_aload_n (pc' := 109) dX6_copyFrom_108 rfl rfl ?_
  refine k_getI (pc' := 112) (sl := 9) (z := (pD (pD (cpD (pD (cpD (cpD (cpD (cpD (pD D t0 0 (D t1 0)) (t1 + 1) (t0 + 1) 12) (t1 + 2) (t0 + 2) 12) (t1 + 3) (t0 + 3) 60) (t1 + 4) (t0 + 4) 60) t0 5 ((cpD (cpD (cpD (cpD (pD D t0 0 (D t1 0)) (t1 + 1) (t0 + 1) 12) (t1 + 2) (t0 + 2) 12) (t1 + 3) (t0 + 3) 60) (t1 + 4) (t0 + 4) 60) t1 5)) (t1 + 5) (t0 + 5) 14) t0 7 ((cpD (pD (cpD (cpD (cpD (cpD (pD D t0 0 (D t1 0)) (t1 + 1) (t0 + 1) 12) (t1 + 2) (t0 + 2) 12) (t1 + 3) (t0 + 3) 60) (t1 + 4) (t0 + 4) 60) t0 5 ((cpD (cpD (cpD (cpD (pD D t0 0 (D t1 0)) (t1 + 1) (t0 + 1) 12) (t1 + 2) (t0 + 2) 12) (t1 + 3) (t0 + 3) 60) (t1 + 4) (t0 + 4) 60) t1 5)) (t1 + 5) (t0 + 5) 14) t1 7)) t0 8 ((pD (cpD (pD (cpD (cpD (cpD (cpD (pD D t0 0 (D t1 0)) (t1 + 1) (t0 + 1) 12) (t1 + 2) (t0 + 2) 12) (t1 + 3) (t0 + 3) 60) (t1 + 4) (t0 + 4) 60) t0 5 ((cpD (cpD (cpD (cpD (pD D t0 0 (D t1 0)) (t1 + 1) (t0 + 1) 12) (t1 + 2) (t0 + 2) 12) (t1 + 3) (t0 + 3) 60) (t1 + 4) (t0 + 4) 60) t1 5)) (t1 + 5) (t0 + 5) 14) t0 7 ((cpD (pD (cpD (cpD (cpD (cpD (pD D t0 0 (D t1 0)) (t1 + 1) (t0 + 1) 12) (t1 + 2) (t0 + 2) 12) (t1 + 3) (t0 + 3) 60) (t1 + 4) (t0 + 4) 60) t0 5 ((cpD (cpD (cpD (cpD (pD D t0 0 (D t1 0)) (t1 + 1) (t0 + 1) 12) (t1 + 2) (t0 + 2) 12) (t1 + 3) (t0 + 3) 60) (t1 + 4) (t0 + 4) 60) t1 5)) (t1 + 5) (t0 + 5) 14) t1 7)) t1 8)) t1 9) kc_6 w_105 (by decide) dX6_copyFrom_109 rfl (shop_lt hT1) (shopA_0 hT1) (by decide) rfl rfl ?_
  refine k_putI (pc' := 115) (sl := 9) (i' := 9) kc_6 w_105 (by decide) (Or.inl rfl) dX6_copyFrom_112 rfl (shop_lt hT0) (shopA_0 hT0) (by decide) ⟨rfl, rfl⟩ rfl ?_
  refine j_aload_n (pc' := 116) dX6_copyFrom_115 rfl rfl ?_
  refine j_aload_n (pc' := 117) dX6_copyFrom_116 rfl rfl ?_
  refine k_getI (pc' := 120) (sl := 10) (z := (pD (pD (pD (cpD (pD (cpD (cpD (cpD (cpD (pD D t0 0 (D t1 0)) (t1 + 1) (t0 + 1) 12) (t1 + 2) (t0 + 2) 12) (t1 + 3) (t0 + 3) 60) (t1 + 4) (t0 + 4) 60) t0 5 ((cpD (cpD (cpD (cpD (pD D t0 0 (D t1 0)) (t1 + 1) (t0 + 1) 12) (t1 + 2) (t0 + 2) 12) (t1 + 3) (t0 + 3) 60) (t1 + 4) (t0 + 4) 60) t1 5)) (t1 + 5) (t0 + 5) 14) t0 7 ((cpD (pD (cpD (cpD (cpD (cpD (pD D t0 0 (D t1 0)) (t1 + 1) (t0 + 1) 12) (t1 + 2) (t0 + 2) 12) (t1 + 3) (t0 + 3) 60) (t1 + 4) (t0 + 4) 60) t0 5 ((cpD (cpD (cpD (cpD (pD D t0 0 (D t1 0)) (t1 + 1) (t0 + 1) 12) (t1 + 2) (t0 + 2) 12) (t1 + 3) (t0 + 3) 60) (t1 + 4) (t0 + 4) 60) t1 5)) (t1 + 5) (t0 + 5) 14) t1 7)) t0 8 ((pD (cpD (pD (cpD (cpD (cpD (cpD (pD D t0 0 (D t1 0)) (t1 + 1) (t0 + 1) 12) (t1 + 2) (t0 + 2) 12) (t1 + 3) (t0 + 3) 60) (t1 + 4) (t0 + 4) 60) t0 5 ((cpD (cpD (cpD (cpD (pD D t0 0 (D t1 0)) (t1 + 1) (t0 + 1) 12) (t1 + 2) (t0 + 2) 12) (t1 + 3) (t0 + 3) 60) (t1 + 4) (t0 + 4) 60) t1 5)) (t1 + 5) (t0 + 5) 14) t0 7 ((cpD (pD (cpD (cpD (cpD (cpD (pD D t0 0 (D t1 0)) (t1 + 1) (t0 + 1) 12) (t1 + 2) (t0 + 2) 12) (t1 + 3) (t0 + 3) 60) (t1 + 4) (t0 + 4) 60) t0 5 ((cpD (cpD (cpD (cpD (pD D t0 0 (D t1 0)) (t1 + 1) (t0 + 1) 12) (t1 + 2) (t0 + 2) 12) (t1 + 3) (t0 + 3) 60) (t1 + 4) (t0 + 4) 60) t1 5)) (t1 + 5) (t0 + 5) 14) t1 7)) t1 8)) t0 9 ((pD (pD (cpD (pD (cpD (cpD (cpD (cpD (pD D t0 0 (D t1 0)) (t1 + 1) (t0 + 1) 12) (t1 + 2) (t0 + 2) 12) (t1 + 3) (t0 + 3) 60) (t1 + 4) (t0 + 4) 60) t0 5 ((cpD (cpD (cpD (cpD (pD D t0 0 (D t1 0)) (t1 + 1) (t0 + 1) 12) (t1 + 2) (t0 + 2) 12) (t1 + 3) (t0 + 3) 60) (t1 + 4) (t0 + 4) 60) t1 5)) (t1 + 5) (t0 + 5) 14) t0 7 ((cpD (pD (cpD (cpD (cpD (cpD (pD D t0 0 (D t1 0)) (t1 + 1) (t0 + 1) 12) (t1 + 2) (t0 + 2) 12) (t1 + 3) (t0 + 3) 60) (t1 + 4) (t0 + 4) 60) t0 5 ((cpD (cpD (cpD (cpD (pD D t0 0 (D t1 0)) (t1 + 1) (t0 + 1) 12) (t1 + 2) (t0 + 2) 12) (t1 + 3) (t0 + 3) 60) (t1 + 4) (t0 + 4) 60) t1 5)) (t1 + 5) (t0 + 5) 14) t1 7)) t0 8 ((pD (cpD (pD (cpD (cpD (cpD (cpD (pD D t0 0 (D t1 0)) (t1 + 1) (t0 + 1) 12) (t1 + 2) (t0 + 2) 12) (t1 + 3) (t0 + 3) 60) (t1 + 4) (t0 + 4) 60) t0 5 ((cpD (cpD (cpD (cpD (pD D t0 0 (D t1 0)) (t1 + 1) (t0 + 1) 12) (t1 + 2) (t0 + 2) 12) (t1 + 3) (t0 + 3) 60) (t1 + 4) (t0 + 4) 60) t1 5)) (t1 + 5) (t0 + 5) 14) t0 7 ((cpD (pD (cpD (cpD (cpD (cpD (pD D t0 0 (D t1 0)) (t1 + 1) (t0 + 1) 12) (t1 + 2) (t0 + 2) 12) (t1 + 3) (t0 + 3) 60) (t1 + 4) (t0 + 4) 60) t0 5 ((cpD (cpD (cpD (cpD (pD D t0 0 (D t1 0)) (t1 + 1) (t0 + 1) 12) (t1 + 2) (t0 + 2) 12) (t1 + 3) (t0 + 3) 60) (t1 + 4) (t0 + 4) 60) t1 5)) (t1 + 5) (t0 + 5) 14) t1 7)) t1 8)) t1 9)) t1 10) kc_6 w_109 (by decide) dX6_copyFrom_117 rfl (shop_lt hT1) (shopA_0 hT1) (by decide) rfl rfl ?_
  refine k_putI (pc' := 123) (sl := 10) (i' := 10) kc_6 w_109 (by decide) (Or.inl rfl) dX6_copyFrom_120 rfl (shop_lt hT0) (shopA_0 hT0) (by decide) ⟨rfl, rfl⟩ rfl ?_
  refine j_aload_n (pc' := 124) dX6_copyFrom_123 rfl rfl ?_
  refine j_aload_n (pc' := 125) dX6_copyFrom_124 rfl rfl ?_
  refine k_getI (pc' := 128) (sl := 11) (z := (pD (pD (pD (pD (cpD (pD (cpD (cpD (cpD (cpD (pD D t0 0 (D t1 0)) (t1 + 1) (t0 + 1) 12) (t1 + 2) (t0 + 2) 12) (t1 + 3) (t0 + 3) 60) (t1 + 4) (t0 + 4) 60) t0 5 ((cpD (cpD (cpD (cpD (pD D t0 0 (D t1 0)) (t1 + 1) (t0 + 1) 12) (t1 + 2) (t0 + 2) 12) (t1 + 3) (t0 + 3) 60) (t1 + 4) (t0 + 4) 60) t1 5)) (t1 + 5) (t0 + 5) 14) t0 7 ((cpD (pD (cpD (cpD (cpD (cpD (pD D t0 0 (D t1 0)) (t1 + 1) (t0 + 1) 12) (t1 + 2) (t0 + 2) 12) (t1 + 3) (t0 + 3) 60) (t1 + 4) (t0 + 4) 60) t0 5 ((cpD (cpD (cpD (cpD (pD D t0 0 (D t1 0)) (t1 + 1) (t0 + 1) 12) (t1 + 2) (t0 + 2) 12) (t1 + 3) (t0 + 3) 60) (t1 + 4) (t0 + 4) 60) t1 5)) (t1 + 5) (t0 + 5) 14) t1 7)) t0 8 ((pD (cpD (pD (cpD (cpD (cpD (cpD (pD D t0 0 (D t1 0)) (t1 + 1) (t0 + 1) 12) (t1 + 2) (t0 + 2) 12) (t1 + 3) (t0 + 3) 60) (t1 + 4) (t0 + 4) 60) t0 5 ((cpD (cpD (cpD (cpD (pD D t0 0 (D t1 0)) (t1 + 1) (t0 + 1) 12) (t1 + 2) (t0 + 2) 12) (t1 + 3) (t0 + 3) 60) (t1 + 4) (t0 + 4) 60) t1 5)) (t1 + 5) (t0 + 5) 14) t0 7 ((cpD (pD (cpD (cpD (cpD (cpD (pD D t0 0 (D t1 0)) (t1 + 1) (t0 + 1) 12) (t1 + 2) (t0 + 2) 12) (t1 + 3) (t0 + 3) 60) (t1 + 4) (t0 + 4) 60) t0 5 ((cpD (cpD (cpD (cpD (pD D t0 0 (D t1 0)) (t1 + 1) (t0 + 1) 12) (t1 + 2) (t0 + 2) 12) (t1 + 3) (t0 + 3) 60) (t1 + 4) (t0 + 4) 60) t1 5)) (t1 + 5) (t0 + 5) 14) t1 7)) t1 8)) t0 9 ((pD (pD (cpD (pD (cpD (cpD (cpD (cpD (pD D t0 0 (D t1 0)) (t1 + 1) (t0 + 1) 12) (t1 + 2) (t0 + 2) 12) (t1 + 3) (t0 + 3) 60) (t1 + 4) (t0 + 4) 60) t0 5 ((cpD (cpD (cpD (cpD (pD D t0 0 (D t1 0)) (t1 + 1) (t0 + 1) 12) (t1 + 2) (t0 + 2) 12) (t1 + 3) (t0 + 3) 60) (t1 + 4) (t0 + 4) 60) t1 5)) (t1 + 5) (t0 + 5) 14) t0 7 ((cpD (pD (cpD (cpD (cpD (cpD (pD D t0 0 (D t1 0)) (t1 + 1) (t0 + 1) 12) (t1 + 2) (t0 + 2) 12) (t1 + 3) (t0 + 3) 60) (t1 + 4) (t0 + 4) 60) t0 5 ((cpD (cpD (cpD (cpD (pD D t0 0 (D t1 0)) (t1 + 1) (t0 + 1) 12) (t1 + 2) (t0 + 2) 12) (t1 + 3) (t0 + 3) 60) (t1 + 4) (t0 + 4) 60) t1 5)) (t1 + 5) (t0 + 5) 14) t1 7)) t0 8 ((pD (cpD (pD (cpD (cpD (cpD (cpD (pD D t0 0 (D t1 0)) (t1 + 1) (t0 + 1) 12) (t1 + 2) (t0 + 2) 12) (t1 + 3) (t0 + 3) 60) (t1 + 4) (t0 + 4) 60) t0 5 ((cpD (cpD (cpD (cpD (pD D t0 0 (D t1 0)) (t1 + 1) (t0 + 1) 12) (t1 + 2) (t0 + 2) 12) (t1 + 3) (t0 + 3) 60) (t1 + 4) (t0 + 4) 60) t1 5)) (t1 + 5) (t0 + 5) 14) t0 7 ((cpD (pD (cpD (cpD (cpD (cpD (pD D t0 0 (D t1 0)) (t1 + 1) (t0 + 1) 12) (t1 + 2) (t0 + 2) 12) (t1 + 3) (t0 + 3) 60) (t1 + 4) (t0 + 4) 60) t0 5 ((cpD (cpD (cpD (cpD (pD D t0 0 (D t1 0)) (t1 + 1) (t0 + 1) 12) (t1 + 2) (t0 + 2) 12) (t1 + 3) (t0 + 3) 60) (t1 + 4) (t0 + 4) 60) t1 5)) (t1 + 5) (t0 + 5) 14) t1 7)) t1 8)) t1 9)) t0 10 ((pD (pD (pD (cpD (pD (cpD (cpD (cpD (cpD (pD D t0 0 (D t1 0)) (t1 + 1) (t0 + 1) 12) (t1 + 2) (t0 + 2) 12) (t1 + 3) (t0 + 3) 60) (t1 + 4) (t0 + 4) 60) t0 5 ((cpD (cpD (cpD (cpD (pD D t0 0 (D t1 0)) (t1 + 1) (t0 + 1) 12) (t1 + 2) (t0 + 2) 12) (t1 + 3) (t0 + 3) 60) (t1 + 4) (t0 + 4) 60) t1 5)) (t1 + 5) (t0 + 5) 14) t0 7 ((cpD (pD (cpD (cpD (cpD (cpD (pD D t0 0 (D t1 0)) (t1 + 1) (t0 + 1) 12) (t1 + 2) (t0 + 2) 12) (t1 + 3) (t0 + 3) 60) (t1 + 4) (t0 + 4) 60) t0 5 ((cpD (cpD (cpD (cpD (pD D t0 0 (D t1 0)) (t1 + 1) (t0 + 1) 12) (t1 + 2) (t0 + 2) 12) (t1 + 3) (t0 + 3) 60) (t1 + 4) (t0 + 4) 60) t1 5)) (t1 + 5) (t0 + 5) 14) t1 7)) t0 8 ((pD (cpD (pD (cpD (cpD (cpD (cpD (pD D t0 0 (D t1 0)) (t1 + 1) (t0 + 1) 12) (t1 + 2) (t0 + 2) 12) (t1 + 3) (t0 + 3) 60) (t1 + 4) (t0 + 4) 60) t0 5 ((cpD (cpD (cpD (cpD (pD D t0 0 (D t1 0)) (t1 + 1) (t0 + 1) 12) (t1 + 2) (t0 + 2) 12) (t1 + 3) (t0 + 3) 60) (t1 + 4) (t0 + 4) 60) t1 5)) (t1 + 5) (t0 + 5) 14) t0 7 ((cpD (pD (cpD (cpD (cpD (cpD (pD D t0 0 (D t1 0)) (t1 + 1) (t0 + 1) 12) (t1 + 2) (t0 + 2) 12) (t1 + 3) (t0 + 3) 60) (t1 + 4) (t0 + 4) 60) t0 5 ((cpD (cpD (cpD (cpD (pD D t0 0 (D t1 0)) (t1 + 1) (t0 + 1) 12) (t1 + 2) (t0 + 2) 12) (t1 + 3) (t0 + 3) 60) (t1 + 4) (t0 + 4) 60) t1 5)) (t1 + 5) (t0 + 5) 14) t1 7)) t1 8)) t0 9 ((pD (pD (cpD (pD (cpD (cpD (cpD (cpD (pD D t0 0 (D t1 0)) (t1 + 1) (t0 + 1) 12) (t1 + 2) (t0 + 2) 12) (t1 + 3) (t0 + 3) 60) (t1 + 4) (t0 + 4) 60) t0 5 ((cpD (cpD (cpD (cpD (pD D t0 0 (D t1 0)) (t1 + 1) (t0 + 1) 12) (t1 + 2) (t0 + 2) 12) (t1 + 3) (t0 + 3) 60) (t1 + 4) (t0 + 4) 60) t1 5)) (t1 + 5) (t0 + 5) 14) t0 7 ((cpD (pD (cpD (cpD (cpD (cpD (pD D t0 0 (D t1 0)) (t1 + 1) (t0 + 1) 12) (t1 + 2) (t0 + 2) 12) (t1 + 3) (t0 + 3) 60) (t1 + 4) (t0 + 4) 60) t0 5 ((cpD (cpD (cpD (cpD (pD D t0 0 (D t1 0)) (t1 + 1) (t0 + 1) 12) (t1 + 2) (t0 + 2) 12) (t1 + 3) (t0 + 3) 60) (t1 + 4) (t0 + 4) 60) t1 5)) (t1 + 5) (t0 + 5) 14) t1 7)) t0 8 ((pD (cpD (pD (cpD (cpD (cpD (cpD (pD D t0 0 (D t1 0)) (t1 + 1) (t0 + 1) 12) (t1 + 2) (t0 + 2) 12) (t1 + 3) (t0 + 3) 60) (t1 + 4) (t0 + 4) 60) t0 5 ((cpD (cpD (cpD (cpD (pD D t0 0 (D t1 0)) (t1 + 1) (t0 + 1) 12) (t1 + 2) (t0 + 2) 12) (t1 + 3) (t0 + 3) 60) (t1 + 4) (t0 + 4) 60) t1 5)) (t1 + 5) (t0 + 5) 14) t0 7 ((cpD (pD (cpD (cpD (cpD (cpD (pD D t0 0 (D t1 0)) (t1 + 1) (t0 + 1) 12) (t1 + 2) (t0 + 2) 12) (t1 + 3) (t0 + 3) 60) (t1 + 4) (t0 + 4) 60) t0 5 ((cpD (cpD (cpD (cpD (pD D t0 0 (D t1 0)) (t1 + 1) (t0 + 1) 12) (t1 + 2) (t0 + 2) 12) (t1 + 3) (t0 + 3) 60) (t1 + 4) (t0 + 4) 60) t1 5)) (t1 + 5) (t0 + 5) 14) t1 7)) t1 8)) t1 9)) t1 10)) t1 11) kc_6 w_113 (by decide) dX6_copyFrom_125 rfl (shop_lt hT1) (shopA_0 hT1) (by decide) rfl rfl ?_
  refine k_putI (pc' := 131) (sl := 11) (i' := 11) kc_6 w_113 (by decide) (Or.inl rfl) dX6_copyFrom_128 rfl (shop_lt hT0) (shopA_0 hT0) (by decide) ⟨rfl, rfl⟩ rfl ?_
  refine j_aload_n (pc' := 132) dX6_copyFrom_131 rfl rfl ?_
  refine k_getR (pc' := 135) (sl := 12) (r := (t1 + 6)) kc_6 w_116 (Or.inl rfl) (by decide) dX6_copyFrom_132 rfl (shop_lt hT1) (shopA_0 hT1) (by decide) rfl (shopL_6 hT1) ?_
  refine j_iconst (pc' := 136) dX6_copyFrom_135 rfl ?_
  refine j_aload_n (pc' := 137) dX6_copyFrom_136 rfl rfl ?_
  refine k_getR (pc' := 140) (sl := 12) (r := (t0 + 6)) kc_6 w_116 (Or.inl rfl) (by decide) dX6_copyFrom_137 rfl (shop_lt hT0) (shopA_0 hT0) (by decide) rfl (shopL_6 hT0) ?_
  refine j_iconst (pc' := 141) dX6_copyFrom_140 rfl ?_
  refine j_bipush (pc' := 143) dX6_copyFrom_141 rfl rfl ?_
  refine k_copy (pc' := 146) w_509 w_496 w_495 w_15 dX6_copyFrom_143 rfl (by omega) (shopL_6 hT1) (shopL_6 hT0) (shopA_6 hT1) (shopA_6 hT0) (by decide) (by decide) (by decide) (by decide) (by decide) rfl ?_
  refine j_aload_n (pc' := 147) dX6_copyFrom_146 rfl rfl ?_
  refine k_getR (pc' := 150) (sl := 13) (r := (t1 + 7)) kc_6 w_119 (Or.inl rfl) (by decide) dX6_copyFrom_147 rfl (shop_lt hT1) (shopA_0 hT1) (by decide) rfl (shopL_7 hT1) ?_
  refine j_iconst (pc' := 151) dX6_copyFrom_150 rfl ?_
  refine j_aload_n (pc' := 152) dX6_copyFrom_151 rfl rfl ?_
  refine k_getR (pc' := 155) (sl := 13) (r := (t0 + 7)) kc_6 w_119 (Or.inl rfl) (by decide) dX6_copyFrom_152 rfl (shop_lt hT0) (shopA_0 hT0) (by decide) rfl (shopL_7 hT0) ?_
  refine j_iconst (pc' := 156) dX6_copyFrom_155 rfl ?_
  refine j_bipush (pc' := 158) dX6_copyFrom_156 rfl rfl ?_
  refine k_copy (pc' := 161) w_509 w_496 w_495 w_15 dX6_copyFrom_158 rfl (by omega) (shopL_7 hT1) (shopL_7 hT0) (shopA_7 hT1) (shopA_7 hT0) (by decide) (by decide) (by decide) (by decide) (by decide) rfl ?_
  refine j_aload_n (pc' := 162) dX6_copyFrom_161 rfl rfl ?_
  refine j_aload_n (pc' := 163) dX6_copyFrom_162 rfl rfl ?_
  refine k_getI (pc' := 166) (sl := 14) (z := (cpD (cpD (pD (pD (pD (pD (pD (cpD (pD (cpD (cpD (cpD (cpD (pD D t0 0 (D t1 0)) (t1 + 1) (t0 + 1) 12) (t1 + 2) (t0 + 2) 12) (t1 + 3) (t0 + 3) 60) (t1 + 4) (t0 + 4) 60) t0 5 ((cpD (cpD (cpD (cpD (pD D t0 0 (D t1 0)) (t1 + 1) (t0 + 1) 12) (t1 + 2) (t0 + 2) 12) (t1 + 3) (t0 + 3) 60) (t1 + 4) (t0 + 4) 60) t1 5)) (t1 + 5) (t0 + 5) 14) t0 7 ((cpD (pD (cpD (cpD (cpD (cpD (pD D t0 0 (D t1 0)) (t1 + 1) (t0 + 1) 12) (t1 + 2) (t0 + 2) 12) (t1 + 3) (t0 + 3) 60) (t1 + 4) (t0 + 4) 60) t0 5 ((cpD (cpD (cpD (cpD (pD D t0 0 (D t1 0)) (t1 + 1) (t0 + 1) 12) (t1 + 2) (t0 + 2) 12) (t1 + 3) (t0 + 3) 60) (t1 + 4) (t0 + 4) 60) t1 5)) (t1 + 5) (t0 + 5) 14) t1 7)) t0 8 ((pD (cpD (pD (cpD (cpD (cpD (cpD (pD D t0 0 (D t1 0)) (t1 + 1) (t0 + 1) 12) (t1 + 2) (t0 + 2) 12) (t1 + 3) (t0 + 3) 60) (t1 + 4) (t0 + 4) 60) t0 5 ((cpD (cpD (cpD (cpD (pD D t0 0 (D t1 0)) (t1 + 1) (t0 + 1) 12) (t1 + 2) (t0 + 2) 12) (t1 + 3) (t0 + 3) 60) (t1 + 4) (t0 + 4) 60) t1 5)) (t1 + 5) (t0 + 5) 14) t0 7 ((cpD (pD (cpD (cpD (cpD (cpD (pD D t0 0 (D t1 0)) (t1 + 1) (t0 + 1) 12) (t1 + 2) (t0 + 2) 12) (t1 + 3) (t0 + 3) 60) (t1 + 4) (t0 + 4) 60) t0 5 ((cpD (cpD (cpD (cpD (pD D t0 0 (D t1 0)) (t1 + 1) (t0 + 1) 12) (t1 + 2) (t0 + 2) 12) (t1 + 3) (t0 + 3) 60) (t1 + 4) (t0 + 4) 60) t1 5)) (t1 + 5) (t0 + 5) 14) t1 7)) t1 8)) t0 9 ((pD (pD (cpD (pD (cpD (cpD (cpD (cpD (pD D t0 0 (D t1 0)) (t1 + 1) (t0 + 1) 12) (t1 + 2) (t0 + 2) 12) (t1 + 3) (t0 + 3) 60) (t1 + 4) (t0 + 4) 60) t0 5 ((cpD (cpD (cpD (cpD (pD D t0 0 (D t1 0)) (t1 + 1) (t0 + 1) 12) (t1 + 2) (t0 + 2) 12) (t1 + 3) (t0 + 3) 60) (t1 + 4) (t0 + 4) 60) t1 5)) (t1 + 5) (t0 + 5) 14) t0 7 ((cpD (pD (cpD (cpD (cpD (cpD (pD D t0 0 (D t1 0)) (t1 + 1) (t0 + 1) 12) (t1 + 2) (t0 + 2) 12) (t1 + 3) (t0 + 3) 60) (t1 + 4) (t0 + 4) 60) t0 5 ((cpD (cpD (cpD (cpD (pD D t0 0 (D t1 0)) (t1 + 1) (t0 + 1) 12) (t1 + 2) (t0 + 2) 12) (t1 + 3) (t0 + 3) 60) (t1 + 4) (t0 + 4) 60) t1 5)) (t1 + 5) (t0 + 5) 14) t1 7)) t0 8 ((pD (cpD (pD (cpD (cpD (cpD (cpD (pD D t0 0 (D t1 0)) (t1 + 1) (t0 + 1) 12) (t1 + 2) (t0 + 2) 12) (t1 + 3) (t0 + 3) 60) (t1 + 4) (t0 + 4) 60) t0 5 ((cpD (cpD (cpD (cpD (pD D t0 0 (D t1 0)) (t1 + 1) (t0 + 1) 12) (t1 + 2) (t0 + 2) 12) (t1 + 3) (t0 + 3) 60) (t1 + 4) (t0 + 4) 60) t1 5)) (t1 + 5) (t0 + 5) 14) t0 7 ((cpD (pD (cpD (cpD (cpD (cpD (pD D t0 0 (D t1 0)) (t1 + 1) (t0 + 1) 12) (t1 + 2) (t0 + 2) 12) (t1 + 3) (t0 + 3) 60) (t1 + 4) (t0 + 4) 60) t0 5 ((cpD (cpD (cpD (cpD (pD D t0 0 (D t1 0)) (t1 + 1) (t0 + 1) 12) (t1 + 2) (t0 + 2) 12) (t1 + 3) (t0 + 3) 60) (t1 + 4) (t0 + 4) 60) t1 5)) (t1 + 5) (t0 + 5) 14) t1 7)) t1 8)) t1 9)) t0 10 ((pD (pD (pD (cpD (pD (cpD (cpD (cpD (cpD (pD D t0 0 (D t1 0)) (t1 + 1) (t0 + 1) 12) (t1 + 2) (t0 + 2) 12) (t1 + 3) (t0 + 3) 60) (t1 + 4) (t0 + 4) 60) t0 5 ((cpD (cpD (cpD (cpD (pD D t0 0 (D t1 0)) (t1 + 1) (t0 + 1) 12) (t1 + 2) (t0 + 2) 12) (t1 + 3) (t0 + 3) 60) (t1 + 4) (t0 + 4) 60) t1 5)) (t1 + 5) (t0 + 5) 14) t0 7 ((cpD (pD (cpD (cpD (cpD (cpD (pD D t0 0 (D t1 0)) (t1 + 1) (t0 + 1) 12) (t1 + 2) (t0 + 2) 12) (t1 + 3) (t0 + 3) 60) (t1 + 4) (t0 + 4) 60) t0 5 ((cpD (cpD (cpD (cpD (pD D t0 0 (D t1 0)) (t1 + 1) (t0 + 1) 12) (t1 + 2) (t0 + 2) 12) (t1 + 3) (t0 + 3) 60) (t1 + 4) (t0 + 4) 60) t1 5)) (t1 + 5) (t0 + 5) 14) t1 7)) t0 8 ((pD (cpD (pD (cpD (cpD (cpD (cpD (pD D t0 0 (D t1 0)) (t1 + 1) (t0 + 1) 12) (t1 + 2) (t0 + 2) 12) (t1 + 3) (t0 + 3) 60) (t1 + 4) (t0 + 4) 60) t0 5 ((cpD (cpD (cpD (cpD (pD D t0 0 (D t1 0)) (t1 + 1) (t0 + 1) 12) (t1 + 2) (t0 + 2) 12) (t1 + 3) (t0 + 3) 60) (t1 + 4) (t0 + 4) 60) t1 5)) (t1 + 5) (t0 + 5) 14) t0 7 ((cpD (pD (cpD (cpD (cpD (cpD (pD D t0 0 (D t1 0)) (t1 + 1) (t0 + 1) 12) (t1 + 2) (t0 + 2) 12) (t1 + 3) (t0 + 3) 60) (t1 + 4) (t0 + 4) 60) t0 5 ((cpD (cpD (cpD (cpD (pD D t0 0 (D t1 0)) (t1 + 1) (t0 + 1) 12) (t1 + 2) (t0 + 2) 12) (t1 + 3) (t0 + 3) 60) (t1 + 4) (t0 + 4) 60) t1 5)) (t1 + 5) (t0 + 5) 14) t1 7)) t1 8)) t0 9 ((pD (pD (cpD (pD (cpD (cpD (cpD (cpD (pD D t0 0 (D t1 0)) (t1 + 1) (t0 + 1) 12) (t1 + 2) (t0 + 2) 12) (t1 + 3) (t0 + 3) 60) (t1 + 4) (t0 + 4) 60) t0 5 ((cpD (cpD (cpD (cpD (pD D t0 0 (D t1 0)) (t1 + 1) (t0 + 1) 12) (t1 + 2) (t0 + 2) 12) (t1 + 3) (t0 + 3) 60) (t1 + 4) (t0 + 4) 60) t1 5)) (t1 + 5) (t0 + 5) 14) t0 7 ((cpD (pD (cpD (cpD (cpD (cpD (pD D t0 0 (D t1 0)) (t1 + 1) (t0 + 1) 12) (t1 + 2) (t0 + 2) 12) (t1 + 3) (t0 + 3) 60) (t1 + 4) (t0 + 4) 60) t0 5 ((cpD (cpD (cpD (cpD (pD D t0 0 (D t1 0)) (t1 + 1) (t0 + 1) 12) (t1 + 2) (t0 + 2) 12) (t1 + 3) (t0 + 3) 60) (t1 + 4) (t0 + 4) 60) t1 5)) (t1 + 5) (t0 + 5) 14) t1 7)) t0 8 ((pD (cpD (pD (cpD (cpD (cpD (cpD (pD D t0 0 (D t1 0)) (t1 + 1) (t0 + 1) 12) (t1 + 2) (t0 + 2) 12) (t1 + 3) (t0 + 3) 60) (t1 + 4) (t0 + 4) 60) t0 5 ((cpD (cpD (cpD (cpD (pD D t0 0 (D t1 0)) (t1 + 1) (t0 + 1) 12) (t1 + 2) (t0 + 2) 12) (t1 + 3) (t0 + 3) 60) (t1 + 4) (t0 + 4) 60) t1 5)) (t1 + 5) (t0 + 5) 14) t0 7 ((cpD (pD (cpD (cpD (cpD (cpD (pD D t0 0 (D t1 0)) (t1 + 1) (t0 + 1) 12) (t1 + 2) (t0 + 2) 12) (t1 + 3) (t0 + 3) 60) (t1 + 4) (t0 + 4) 60) t0 5 ((cpD (cpD (cpD (cpD (pD D t0 0 (D t1 0)) (t1 + 1) (t0 + 1) 12) (t1 + 2) (t0 + 2) 12) (t1 + 3) (t0 + 3) 60) (t1 + 4) (t0 + 4) 60) t1 5)) (t1 + 5) (t0 + 5) 14) t1 7)) t1 8)) t1 9)) t1 10)) t0 11 ((pD (pD (pD (pD (cpD (pD (cpD (cpD (cpD (cpD (pD D t0 0 (D t1 0)) (t1 + 1) (t0 + 1) 12) (t1 + 2) (t0 + 2) 12) (t1 + 3) (t0 + 3) 60) (t1 + 4) (t0 + 4) 60) t0 5 ((cpD (cpD (cpD (cpD (pD D t0 0 (D t1 0)) (t1 + 1) (t0 + 1) 12) (t1 + 2) (t0 + 2) 12) (t1 + 3) (t0 + 3) 60) (t1 + 4) (t0 + 4) 60) t1 5)) (t1 + 5) (t0 + 5) 14) t0 7 ((cpD (pD (cpD (cpD (cpD (cpD (pD D t0 0 (D t1 0)) (t1 + 1) (t0 + 1) 12) (t1 + 2) (t0 + 2) 12) (t1 + 3) (t0 + 3) 60) (t1 + 4) (t0 + 4) 60) t0 5 ((cpD (cpD (cpD (cpD (pD D t0 0 (D t1 0)) (t1 + 1) (t0 + 1) 12) (t1 + 2) (t0 + 2) 12) (t1 + 3) (t0 + 3) 60) (t1 + 4) (t0 + 4) 60) t1 5)) (t1 + 5) (t0 + 5) 14) t1 7)) t0 8 ((pD (cpD (pD (cpD (cpD (cpD (cpD (pD D t0 0 (D t1 0)) (t1 + 1) (t0 + 1) 12) (t1 + 2) (t0 + 2) 12) (t1 + 3) (t0 + 3) 60) (t1 + 4) (t0 + 4) 60) t0 5 ((cpD (cpD (cpD (cpD (pD D t0 0 (D t1 0)) (t1 + 1) (t0 + 1) 12) (t1 + 2) (t0 + 2) 12) (t1 + 3) (t0 + 3) 60) (t1 + 4) (t0 + 4) 60) t1 5)) (t1 + 5) (t0 + 5) 14) t0 7 ((cpD (pD (cpD (cpD (cpD (cpD (pD D t0 0 (D t1 0)) (t1 + 1) (t0 + 1) 12) (t1 + 2) (t0 + 2) 12) (t1 + 3) (t0 + 3) 60) (t1 + 4) (t0 + 4) 60) t0 5 ((cpD (cpD (cpD (cpD (pD D t0 0 (D t1 0)) (t1 + 1) (t0 + 1) 12) (t1 + 2) (t0 + 2) 12) (t1 + 3) (t0 + 3) 60) (t1 + 4) (t0 + 4) 60) t1 5)) (t1 + 5) (t0 + 5) 14) t1 7)) t1 8)) t0 9 ((pD (pD (cpD (pD (cpD (cpD (cpD (cpD (pD D t0 0 (D t1 0)) (t1 + 1) (t0 + 1) 12) (t1 + 2) (t0 + 2) 12) (t1 + 3) (t0 + 3) 60) (t1 + 4) (t0 + 4) 60) t0 5 ((cpD (cpD (cpD (cpD (pD D t0 0 (D t1 0)) (t1 + 1) (t0 + 1) 12) (t1 + 2) (t0 + 2) 12) (t1 + 3) (t0 + 3) 60) (t1 + 4) (t0 + 4) 60) t1 5)) (t1 + 5) (t0 + 5) 14) t0 7 ((cpD (pD (cpD (cpD (cpD (cpD (pD D t0 0 (D t1 0)) (t1 + 1) (t0 + 1) 12) (t1 + 2) (t0 + 2) 12) (t1 + 3) (t0 + 3) 60) (t1 + 4) (t0 + 4) 60) t0 5 ((cpD (cpD (cpD (cpD (pD D t0 0 (D t1 0)) (t1 + 1) (t0 + 1) 12) (t1 + 2) (t0 + 2) 12) (t1 + 3) (t0 + 3) 60) (t1 + 4) (t0 + 4) 60) t1 5)) (t1 + 5) (t0 + 5) 14) t1 7)) t0 8 ((pD (cpD (pD (cpD (cpD (cpD (cpD (pD D t0 0 (D t1 0)) (t1 + 1) (t0 + 1) 12) (t1 + 2) (t0 + 2) 12) (t1 + 3) (t0 + 3) 60) (t1 + 4) (t0 + 4) 60) t0 5 ((cpD (cpD (cpD (cpD (pD D t0 0 (D t1 0)) (t1 + 1) (t0 + 1) 12) (t1 + 2) (t0 + 2) 12) (t1 + 3) (t0 + 3) 60) (t1 + 4) (t0 + 4) 60) t1 5)) (t1 + 5) (t0 + 5) 14) t0 7 ((cpD (pD (cpD (cpD (cpD (cpD (pD D t0 0 (D t1 0)) (t1 + 1) (t0 + 1) 12) (t1 + 2) (t0 + 2) 12) (t1 + 3) (t0 + 3) 60) (t1 + 4) (t0 + 4) 60) t0 5 ((cpD (cpD (cpD (cpD (pD D t0 0 (D t1 0)) (t1 + 1) (t0 + 1) 12) (t1 + 2) (t0 + 2) 12) (t1 + 3) (t0 + 3) 60) (t1 + 4) (t0 + 4) 60) t1 5)) (t1 + 5) (t0 + 5) 14) t1 7)) t1 8)) t1 9)) t0 10 ((pD (pD (pD (cpD (pD (cpD (cpD (cpD (cpD (pD D t0 0 (D t1 0)) (t1 + 1) (t0 + 1) 12) (t1 + 2) (t0 + 2) 12) (t1 + 3) (t0 + 3) 60) (t1 + 4) (t0 + 4) 60) t0 5 ((cpD (cpD (cpD (cpD (pD D t0 0 (D t1 0)) (t1 + 1) (t0 + 1) 12) (t1 + 2) (t0 + 2) 12) (t1 + 3) (t0 + 3) 60) (t1 + 4) (t0 + 4) 60) t1 5)) (t1 + 5) (t0 + 5) 14) t0 7 ((cpD (pD (cpD (cpD (cpD (cpD (pD D t0 0 (D t1 0)) (t1 + 1) (t0 + 1) 12) (t1 + 2) (t0 + 2) 12) (t1 + 3) (t0 + 3) 60) (t1 + 4) (t0 + 4) 60) t0 5 ((cpD (cpD (cpD (cpD (pD D t0 0 (D t1 0)) (t1 + 1) (t0 + 1) 12) (t1 + 2) (t0 + 2) 12) (t1 + 3) (t0 + 3) 60) (t1 + 4) (t0 + 4) 60) t1 5)) (t1 + 5) (t0 + 5) 14) t1 7)) t0 8 ((pD (cpD (pD (cpD (cpD (cpD (cpD (pD D t0 0 (D t1 0)) (t1 + 1) (t0 + 1) 12) (t1 + 2) (t0 + 2) 12) (t1 + 3) (t0 + 3) 60) (t1 + 4) (t0 + 4) 60) t0 5 ((cpD (cpD (cpD (cpD (pD D t0 0 (D t1 0)) (t1 + 1) (t0 + 1) 12) (t1 + 2) (t0 + 2) 12) (t1 + 3) (t0 + 3) 60) (t1 + 4) (t0 + 4) 60) t1 5)) (t1 + 5) (t0 + 5) 14) t0 7 ((cpD (pD (cpD (cpD (cpD (cpD (pD D t0 0 (D t1 0)) (t1 + 1) (t0 + 1) 12) (t1 + 2) (t0 + 2) 12) (t1 + 3) (t0 + 3) 60) (t1 + 4) (t0 + 4) 60) t0 5 ((cpD (cpD (cpD (cpD (pD D t0 0 (D t1 0)) (t1 + 1) (t0 + 1) 12) (t1 + 2) (t0 + 2) 12) (t1 + 3) (t0 + 3) 60) (t1 + 4) (t0 + 4) 60) t1 5)) (t1 + 5) (t0 + 5) 14) t1 7)) t1 8)) t0 9 ((pD (pD (cpD (pD (cpD (cpD (cpD (cpD (pD D t0 0 (D t1 0)) (t1 + 1) (t0 + 1) 12) (t1 + 2) (t0 + 2) 12) (t1 + 3) (t0 + 3) 60) (t1 + 4) (t0 + 4) 60) t0 5 ((cpD (cpD (cpD (cpD (pD D t0 0 (D t1 0)) (t1 + 1) (t0 + 1) 12) (t1 + 2) (t0 + 2) 12) (t1 + 3) (t0 + 3) 60) (t1 + 4) (t0 + 4) 60) t1 5)) (t1 + 5) (t0 + 5) 14) t0 7 ((cpD (pD (cpD (cpD (cpD (cpD (pD D t0 0 (D t1 0)) (t1 + 1) (t0 + 1) 12) (t1 + 2) (t0 + 2) 12) (t1 + 3) (t0 + 3) 60) (t1 + 4) (t0 + 4) 60) t0 5 ((cpD (cpD (cpD (cpD (pD D t0 0 (D t1 0)) (t1 + 1) (t0 + 1) 12) (t1 + 2) (t0 + 2) 12) (t1 + 3) (t0 + 3) 60) (t1 + 4) (t0 + 4) 60) t1 5)) (t1 + 5) (t0 + 5) 14) t1 7)) t0 8 ((pD (cpD (pD (cpD (cpD (cpD (cpD (pD D t0 0 (D t1 0)) (t1 + 1) (t0 + 1) 12) (t1 + 2) (t0 + 2) 12) (t1 + 3) (t0 + 3) 60) (t1 + 4) (t0 + 4) 60) t0 5 ((cpD (cpD (cpD (cpD (pD D t0 0 (D t1 0)) (t1 + 1) (t0 + 1) 12) (t1 + 2) (t0 + 2) 12) (t1 + 3) (t0 + 3) 60) (t1 + 4) (t0 + 4) 60) t1 5)) (t1 + 5) (t0 + 5) 14) t0 7 ((cpD (pD (cpD (cpD (cpD (cpD (pD D t0 0 (D t1 0)) (t1 + 1) (t0 + 1) 12) (t1 + 2) (t0 + 2) 12) (t1 + 3) (t0 + 3) 60) (t1 + 4) (t0 + 4) 60) t0 5 ((cpD (cpD (cpD (cpD (pD D t0 0 (D t1 0)) (t1 + 1) (t0 + 1) 12) (t1 + 2) (t0 + 2) 12) (t1 + 3) (t0 + 3) 60) (t1 + 4) (t0 + 4) 60) t1 5)) (t1 + 5) (t0 + 5) 14) t1 7)) t1 8)) t1 9)) t1 10)) t1 11)) (t1 + 6) (t0 + 6) 6) (t1 + 7) (t0 + 7) 6) t1 14) kc_6 w_122 (by decide) dX6_copyFrom_163 rfl (shop_lt hT1) (shopA_0 hT1) (by decide) rfl rfl ?_
  refine k_putI (pc' := 169) (sl := 14) (i' := 14) kc_6 w_122 (by decide) (Or.inl rfl) dX6_copyFrom_166 rfl (shop_lt hT0) (shopA_0 hT0) (by decide) ⟨rfl, rfl⟩ rfl ?_
  refine j_aload_n (pc' := 170) dX6_copyFrom_169 rfl rfl ?_
  refine k_getR (pc' := 173) (sl := 15) (r := (t1 + 8)) kc_6 w_125 (Or.inl rfl) (by decide) dX6_copyFrom_170 rfl (shop_lt hT1) (shopA_0 hT1) (by decide) rfl (shopL_8 hT1) ?_
  refine j_iconst (pc' := 174) dX6_copyFrom_173 rfl ?_
  refine j_aload_n (pc' := 175) dX6_copyFrom_174 rfl rfl ?_
  refine k_getR (pc' := 178) (sl := 15) (r := (t0 + 8)) kc_6 w_125 (Or.inl rfl) (by decide) dX6_copyFrom_175 rfl (shop_lt hT0) (shopA_0 hT0) (by decide) rfl (shopL_8 hT0) ?_
  refine j_iconst (pc' := 179) dX6_copyFrom_178 rfl ?_
  refine j_bipush (pc' := 181) dX6_copyFrom_179 rfl rfl ?_
  refine k_copy (pc' := 184) w_509 w_496 w_495 w_15 dX6_copyFrom_181 rfl (by omega) (shopL_8 hT1) (shopL_8 hT0) (shopA_8 hT1) (shopA_8 hT0) (by decide) (by decide) (by decide) (by decide) (by decide) rfl ?_
  refine j_aload_n (pc' := 185) dX6_copyFrom_184 rfl rfl ?_
  refine j_aload_n (pc' := 186) dX6_copyFrom_185 rfl rfl ?_
  refine k_getI (pc' := 189) (sl := 16) (z := (cpD (pD (cpD (cpD (pD (pD (pD (pD (pD (cpD (pD (cpD (cpD (cpD (cpD (pD D t0 0 (D t1 0)) (t1 + 1) (t0 + 1) 12) (t1 + 2) (t0 + 2) 12) (t1 + 3) (t0 + 3) 60) (t1 + 4) (t0 + 4) 60) t0 5 ((cpD (cpD (cpD (cpD (pD D t0 0 (D t1 0)) (t1 + 1) (t0 + 1) 12) (t1 + 2) (t0 + 2) 12) (t1 + 3) (t0 + 3) 60) (t1 + 4) (t0 + 4) 60) t1 5)) (t1 + 5) (t0 + 5) 14) t0 7 ((cpD (pD (cpD (cpD (cpD (cpD (pD D t0 0 (D t1 0)) (t1 + 1) (t0 + 1) 12) (t1 + 2) (t0 + 2) 12) (t1 + 3) (t0 + 3) 60) (t1 + 4) (t0 + 4) 60) t0 5 ((cpD (cpD (cpD (cpD (pD D t0 0 (D t1 0)) (t1 + 1) (t0 + 1) 12) (t1 + 2) (t0 + 2) 12) (t1 + 3) (t0 + 3) 60) (t1 + 4) (t0 + 4) 60) t1 5)) (t1 + 5) (t0 + 5) 14) t1 7)) t0 8 ((pD (cpD (pD (cpD (cpD (cpD (cpD (pD D t0 0 (D t1 0)) (t1 + 1) (t0 + 1) 12) (t1 + 2) (t0 + 2) 12) (t1 + 3) (t0 + 3) 60) (t1 + 4) (t0 + 4) 60) t0 5 ((cpD (cpD (cpD (cpD (pD D t0 0 (D t1 0)) (t1 + 1) (t0 + 1) 12) (t1 + 2) (t0 + 2) 12) (t1 + 3) (t0 + 3) 60) (t1 + 4) (t0 + 4) 60) t1 5)) (t1 + 5) (t0 + 5) 14) t0 7 ((cpD (pD (cpD (cpD (cpD (cpD (pD D t0 0 (D t1 0)) (t1 + 1) (t0 + 1) 12) (t1 + 2) (t0 + 2) 12) (t1 + 3) (t0 + 3) 60) (t1 + 4) (t0 + 4) 60) t0 5 ((cpD (cpD (cpD (cpD (pD D t0 0 (D t1 0)) (t1 + 1) (t0 + 1) 12) (t1 + 2) (t0 + 2) 12) (t1 + 3) (t0 + 3) 60) (t1 + 4) (t0 + 4) 60) t1 5)) (t1 + 5) (t0 + 5) 14) t1 7)) t1 8)) t0 9 ((pD (pD (cpD (pD (cpD (cpD (cpD (cpD (pD D t0 0 (D t1 0)) (t1 + 1) (t0 + 1) 12) (t1 + 2) (t0 + 2) 12) (t1 + 3) (t0 + 3) 60) (t1 + 4) (t0 + 4) 60) t0 5 ((cpD (cpD (cpD (cpD (pD D t0 0 (D t1 0)) (t1 + 1) (t0 + 1) 12) (t1 + 2) (t0 + 2) 12) (t1 + 3) (t0 + 3) 60) (t1 + 4) (t0 + 4) 60) t1 5)) (t1 + 5) (t0 + 5) 14) t0 7 ((cpD (pD (cpD (cpD (cpD (cpD (pD D t0 0 (D t1 0)) (t1 + 1) (t0 + 1) 12) (t1 + 2) (t0 + 2) 12) (t1 + 3) (t0 + 3) 60) (t1 + 4) (t0 + 4) 60) t0 5 ((cpD (cpD (cpD (cpD (pD D t0 0 (D t1 0)) (t1 + 1) (t0 + 1) 12) (t1 + 2) (t0 + 2) 12) (t1 + 3) (t0 + 3) 60) (t1 + 4) (t0 + 4) 60) t1 5)) (t1 + 5) (t0 + 5) 14) t1 7)) t0 8 ((pD (cpD (pD (cpD (cpD (cpD (cpD (pD D t0 0 (D t1 0)) (t1 + 1) (t0 + 1) 12) (t1 + 2) (t0 + 2) 12) (t1 + 3) (t0 + 3) 60) (t1 + 4) (t0 + 4) 60) t0 5 ((cpD (cpD (cpD (cpD (pD D t0 0 (D t1 0)) (t1 + 1) (t0 + 1) 12) (t1 + 2) (t0 + 2) 12) (t1 + 3) (t0 + 3) 60) (t1 + 4) (t0 + 4) 60) t1 5)) (t1 + 5) (t0 + 5) 14) t0 7 ((cpD (pD (cpD (cpD (cpD (cpD (pD D t0 0 (D t1 0)) (t1 + 1) (t0 + 1) 12) (t1 + 2) (t0 + 2) 12) (t1 + 3) (t0 + 3) 60) (t1 + 4) (t0 + 4) 60) t0 5 ((cpD (cpD (cpD (cpD (pD D t0 0 (D t1 0)) (t1 + 1) (t0 + 1) 12) (t1 + 2) (t0 + 2) 12) (t1 + 3) (t0 + 3) 60) (t1 + 4) (t0 + 4) 60) t1 5)) (t1 + 5) (t0 + 5) 14) t1 7)) t1 8)) t1 9)) t0 10 ((pD (pD (pD (cpD (pD (cpD (cpD (cpD (cpD (pD D t0 0 (D t1 0)) (t1 + 1) (t0 + 1) 12) (t1 + 2) (t0 + 2) 12) (t1 + 3) (t0 + 3) 60) (t1 + 4) (t0 + 4) 60) t0 5 ((cpD (cpD (cpD (cpD (pD D t0 0 (D t1 0)) (t1 + 1) (t0 + 1) 12) (t1 + 2) (t0 + 2) 12) (t1 + 3) (t0 + 3) 60) (t1 + 4) (t0 + 4) 60) t1 5)) (t1 + 5) (t0 + 5) 14) t0 7 ((cpD (pD (cpD (cpD (cpD (cpD (pD D t0 0 (D t1 0)) (t1 + 1) (t0 + 1) 12) (t1 + 2) (t0 + 2) 12) (t1 + 3) (t0 + 3) 60) (t1 + 4) (t0 + 4) 60) t0 5 ((cpD (cpD (cpD (cpD (pD D t0 0 (D t1 0)) (t1 + 1) (t0 + 1) 12) (t1 + 2) (t0 + 2) 12) (t1 + 3) (t0 + 3) 60) (t1 + 4) (t0 + 4) 60) t1 5)) (t1 + 5) (t0 + 5) 14) t1 7)) t0 8 ((pD (cpD (pD (cpD (cpD (cpD (cpD (pD D t0 0 (D t1 0)) (t1 + 1) (t0 + 1) 12) (t1 + 2) (t0 + 2) 12) (t1 + 3) (t0 + 3) 60) (t1 + 4) (t0 + 4) 60) t0 5 ((cpD (cpD (cpD (cpD (pD D t0 0 (D t1 0)) (t1 + 1) (t0 + 1) 12) (t1 + 2) (t0 + 2) 12) (t1 + 3) (t0 + 3) 60) (t1 + 4) (t0 + 4) 60) t1 5)) (t1 + 5) (t0 + 5) 14) t0 7 ((cpD (pD (cpD (cpD (cpD (cpD (pD D t0 0 (D t1 0)) (t1 + 1) (t0 + 1) 12) (t1 + 2) (t0 + 2) 12) (t1 + 3) (t0 + 3) 60) (t1 + 4) (t0 + 4) 60) t0 5 ((cpD (cpD (cpD (cpD (pD D t0 0 (D t1 0)) (t1 + 1) (t0 + 1) 12) (t1 + 2) (t0 + 2) 12) (t1 + 3) (t0 + 3) 60) (t1 + 4) (t0 + 4) 60) t1 5)) (t1 + 5) (t0 + 5) 14) t1 7)) t1 8)) t0 9 ((pD (pD (cpD (pD (cpD (cpD (cpD (cpD (pD D t0 0 (D t1 0)) (t1 + 1) (t0 + 1) 12) (t1 + 2) (t0 + 2) 12) (t1 + 3) (t0 + 3) 60) (t1 + 4) (t0 + 4) 60) t0 5 ((cpD (cpD (cpD (cpD (pD D t0 0 (D t1 0)) (t1 + 1) (t0 + 1) 12) (t1 + 2) (t0 + 2) 12) (t1 + 3) (t0 + 3) 60) (t1 + 4) (t0 + 4) 60) t1 5)) (t1 + 5) (t0 + 5) 14) t0 7 ((cpD (pD (cpD (cpD (cpD (cpD (pD D t0 0 (D t1 0)) (t1 + 1) (t0 + 1) 12) (t1 + 2) (t0 + 2) 12) (t1 + 3) (t0 + 3) 60) (t1 + 4) (t0 + 4) 60) t0 5 ((cpD (cpD (cpD (cpD (pD D t0 0 (D t1 0)) (t1 + 1) (t0 + 1) 12) (t1 + 2) (t0 + 2) 12) (t1 + 3) (t0 + 3) 60) (t1 + 4) (t0 + 4) 60) t1 5)) (t1 + 5) (t0 + 5) 14) t1 7)) t0 8 ((pD (cpD (pD (cpD (cpD (cpD (cpD (pD D t0 0 (D t1 0)) (t1 + 1) (t0 + 1) 12) (t1 + 2) (t0 + 2) 12) (t1 + 3) (t0 + 3) 60) (t1 + 4) (t0 + 4) 60) t0 5 ((cpD (cpD (cpD (cpD (pD D t0 0 (D t1 0)) (t1 + 1) (t0 + 1) 12) (t1 + 2) (t0 + 2) 12) (t1 + 3) (t0 + 3) 60) (t1 + 4) (t0 + 4) 60) t1 5)) (t1 + 5) (t0 + 5) 14) t0 7 ((cpD (pD (cpD (cpD (cpD (cpD (pD D t0 0 (D t1 0)) (t1 + 1) (t0 + 1) 12) (t1 + 2) (t0 + 2) 12) (t1 + 3) (t0 + 3) 60) (t1 + 4) (t0 + 4) 60) t0 5 ((cpD (cpD (cpD (cpD (pD D t0 0 (D t1 0)) (t1 + 1) (t0 + 1) 12) (t1 + 2) (t0 + 2) 12) (t1 + 3) (t0 + 3) 60) (t1 + 4) (t0 + 4) 60) t1 5)) (t1 + 5) (t0 + 5) 14) t1 7)) t1 8)) t1 9)) t1 10)) t0 11 ((pD (pD (pD (pD (cpD (pD (cpD (cpD (cpD (cpD (pD D t0 0 (D t1 0)) (t1 + 1) (t0 + 1) 12) (t1 + 2) (t0 + 2) 12) (t1 + 3) (t0 + 3) 60) (t1 + 4) (t0 + 4) 60) t0 5 ((cpD (cpD (cpD (cpD (pD D t0 0 (D t1 0)) (t1 + 1) (t0 + 1) 12) (t1 + 2) (t0 + 2) 12) (t1 + 3) (t0 + 3) 60) (t1 + 4) (t0 + 4) 60) t1 5)) (t1 + 5) (t0 + 5) 14) t0 7 ((cpD (pD (cpD (cpD (cpD (cpD (pD D t0 0 (D t1 0)) (t1 + 1) (t0 + 1) 12) (t1 + 2) (t0 + 2) 12) (t1 + 3) (t0 + 3) 60) (t1 + 4) (t0 + 4) 60) t0 5 ((cpD (cpD (cpD (cpD (pD D t0 0 (D t1 0)) (t1 + 1) (t0 + 1) 12) (t1 + 2) (t0 + 2) 12) (t1 + 3) (t0 + 3) 60) (t1 + 4) (t0 + 4) 60) t1 5)) (t1 + 5) (t0 + 5) 14) t1 7)) t0 8 ((pD (cpD (pD (cpD (cpD (cpD (cpD (pD D t0 0 (D t1 0)) (t1 + 1) (t0 + 1) 12) (t1 + 2) (t0 + 2) 12) (t1 + 3) (t0 + 3) 60) (t1 + 4) (t0 + 4) 60) t0 5 ((cpD (cpD (cpD (cpD (pD D t0 0 (D t1 0)) (t1 + 1) (t0 + 1) 12) (t1 + 2) (t0 + 2) 12) (t1 + 3) (t0 + 3) 60) (t1 + 4) (t0 + 4) 60) t1 5)) (t1 + 5) (t0 + 5) 14) t0 7 ((cpD (pD (cpD (cpD (cpD (cpD (pD D t0 0 (D t1 0)) (t1 + 1) (t0 + 1) 12) (t1 + 2) (t0 + 2) 12) (t1 + 3) (t0 + 3) 60) (t1 + 4) (t0 + 4) 60) t0 5 ((cpD (cpD (cpD (cpD (pD D t0 0 (D t1 0)) (t1 + 1) (t0 + 1) 12) (t1 + 2) (t0 + 2) 12) (t1 + 3) (t0 + 3) 60) (t1 + 4) (t0 + 4) 60) t1 5)) (t1 + 5) (t0 + 5) 14) t1 7)) t1 8)) t0 9 ((pD (pD (cpD (pD (cpD (cpD (cpD (cpD (pD D t0 0 (D t1 0)) (t1 + 1) (t0 + 1) 12) (t1 + 2) (t0 + 2) 12) (t1 + 3) (t0 + 3) 60) (t1 + 4) (t0 + 4) 60) t0 5 ((cpD (cpD (cpD (cpD (pD D t0 0 (D t1 0)) (t1 + 1) (t0 + 1) 12) (t1 + 2) (t0 + 2) 12) (t1 + 3) (t0 + 3) 60) (t1 + 4) (t0 + 4) 60) t1 5)) (t1 + 5) (t0 + 5) 14) t0 7 ((cpD (pD (cpD (cpD (cpD (cpD (pD D t0 0 (D t1 0)) (t1 + 1) (t0 + 1) 12) (t1 + 2) (t0 + 2) 12) (t1 + 3) (t0 + 3) 60) (t1 + 4) (t0 + 4) 60) t0 5 ((cpD (cpD (cpD (cpD (pD D t0 0 (D t1 0)) (t1 + 1) (t0 + 1) 12) (t1 + 2) (t0 + 2) 12) (t1 + 3) (t0 + 3) 60) (t1 + 4) (t0 + 4) 60) t1 5)) (t1 + 5) (t0 + 5) 14) t1 7)) t0 8 ((pD (cpD (pD (cpD (cpD (cpD (cpD (pD D t0 0 (D t1 0)) (t1 + 1) (t0 + 1) 12) (t1 + 2) (t0 + 2) 12) (t1 + 3) (t0 + 3) 60) (t1 + 4) (t0 + 4) 60) t0 5 ((cpD (cpD (cpD (cpD (pD D t0 0 (D t1 0)) (t1 + 1) (t0 + 1) 12) (t1 + 2) (t0 + 2) 12) (t1 + 3) (t0 + 3) 60) (t1 + 4) (t0 + 4) 60) t1 5)) (t1 + 5) (t0 + 5) 14) t0 7 ((cpD (pD (cpD (cpD (cpD (cpD (pD D t0 0 (D t1 0)) (t1 + 1) (t0 + 1) 12) (t1 + 2) (t0 + 2) 12) (t1 + 3) (t0 + 3) 60) (t1 + 4) (t0 + 4) 60) t0 5 ((cpD (cpD (cpD (cpD (pD D t0 0 (D t1 0)) (t1 + 1) (t0 + 1) 12) (t1 + 2) (t0 + 2) 12) (t1 + 3) (t0 + 3) 60) (t1 + 4) (t0 + 4) 60) t1 5)) (t1 + 5) (t0 + 5) 14) t1 7)) t1 8)) t1 9)) t0 10 ((pD (pD (pD (cpD (pD (cpD (cpD (cpD (cpD (pD D t0 0 (D t1 0)) (t1 + 1) (t0 + 1) 12) (t1 + 2) (t0 + 2) 12) (t1 + 3) (t0 + 3) 60) (t1 + 4) (t0 + 4) 60) t0 5 ((cpD (cpD (cpD (cpD (pD D t0 0 (D t1 0)) (t1 + 1) (t0 + 1) 12) (t1 + 2) (t0 + 2) 12) (t1 + 3) (t0 + 3) 60) (t1 + 4) (t0 + 4) 60) t1 5)) (t1 + 5) (t0 + 5) 14) t0 7 ((cpD (pD (cpD (cpD (cpD (cpD (pD D t0 0 (D t1 0)) (t1 + 1) (t0 + 1) 12) (t1 + 2) (t0 + 2) 12) (t1 + 3) (t0 + 3) 60) (t1 + 4) (t0 + 4) 60) t0 5 ((cpD (cpD (cpD (cpD (pD D t0 0 (D t1 0)) (t1 + 1) (t0 + 1) 12) (t1 + 2) (t0 + 2) 12) (t1 + 3) (t0 + 3) 60) (t1 + 4) (t0 + 4) 60) t1 5)) (t1 + 5) (t0 + 5) 14) t1 7)) t0 8 ((pD (cpD (pD (cpD (cpD (cpD (cpD (pD D t0 0 (D t1 0)) (t1 + 1) (t0 + 1) 12) (t1 + 2) (t0 + 2) 12) (t1 + 3) (t0 + 3) 60) (t1 + 4) (t0 + 4) 60) t0 5 ((cpD (cpD (cpD (cpD (pD D t0 0 (D t1 0)) (t1 + 1) (t0 + 1) 12) (t1 + 2) (t0 + 2) 12) (t1 + 3) (t0 + 3) 60) (t1 + 4) (t0 + 4) 60) t1 5)) (t1 + 5) (t0 + 5) 14) t0 7 ((cpD (pD (cpD (cpD (cpD (cpD (pD D t0 0 (D t1 0)) (t1 + 1) (t0 + 1) 12) (t1 + 2) (t0 + 2) 12) (t1 + 3) (t0 + 3) 60) (t1 + 4) (t0 + 4) 60) t0 5 ((cpD (cpD (cpD (cpD (pD D t0 0 (D t1 0)) (t1 + 1) (t0 + 1) 12) (t1 + 2) (t0 + 2) 12) (t1 + 3) (t0 + 3) 60) (t1 + 4) (t0 + 4) 60) t1 5)) (t1 + 5) (t0 + 5) 14) t1 7)) t1 8)) t0 9 ((pD (pD (cpD (pD (cpD (cpD (cpD (cpD (pD D t0 0 (D t1 0)) (t1 + 1) (t0 + 1) 12) (t1 + 2) (t0 + 2) 12) (t1 + 3) (t0 + 3) 60) (t1 + 4) (t0 + 4) 60) t0 5 ((cpD (cpD (cpD (cpD (pD D t0 0 (D t1 0)) (t1 + 1) (t0 + 1) 12) (t1 + 2) (t0 + 2) 12) (t1 + 3) (t0 + 3) 60) (t1 + 4) (t0 + 4) 60) t1 5)) (t1 + 5) (t0 + 5) 14) t0 7 ((cpD (pD (cpD (cpD (cpD (cpD (pD D t0 0 (D t1 0)) (t1 + 1) (t0 + 1) 12) (t1 + 2) (t0 + 2) 12) (t1 + 3) (t0 + 3) 60) (t1 + 4) (t0 + 4) 60) t0 5 ((cpD (cpD (cpD (cpD (pD D t0 0 (D t1 0)) (t1 + 1) (t0 + 1) 12) (t1 + 2) (t0 + 2) 12) (t1 + 3) (t0 + 3) 60) (t1 + 4) (t0 + 4) 60) t1 5)) (t1 + 5) (t0 + 5) 14) t1 7)) t0 8 ((pD (cpD (pD (cpD (cpD (cpD (cpD (pD D t0 0 (D t1 0)) (t1 + 1) (t0 + 1) 12) (t1 + 2) (t0 + 2) 12) (t1 + 3) (t0 + 3) 60) (t1 + 4) (t0 + 4) 60) t0 5 ((cpD (cpD (cpD (cpD (pD D t0 0 (D t1 0)) (t1 + 1) (t0 + 1) 12) (t1 + 2) (t0 + 2) 12) (t1 + 3) (t0 + 3) 60) (t1 + 4) (t0 + 4) 60) t1 5)) (t1 + 5) (t0 + 5) 14) t0 7 ((cpD (pD (cpD (cpD (cpD (cpD (pD D t0 0 (D t1 0)) (t1 + 1) (t0 + 1) 12) (t1 + 2) (t0 + 2) 12) (t1 + 3) (t0 + 3) 60) (t1 + 4) (t0 + 4) 60) t0 5 ((cpD (cpD (cpD (cpD (pD D t0 0 (D t1 0)) (t1 + 1) (t0 + 1) 12) (t1 + 2) (t0 + 2) 12) (t1 + 3) (t0 + 3) 60) (t1 + 4) (t0 + 4) 60) t1 5)) (t1 + 5) (t0 + 5) 14) t1 7)) t1 8)) t1 9)) t1 10)) t1 11)) (t1 + 6) (t0 + 6) 6) (t1 + 7) (t0 + 7) 6) t0 14 ((cpD (cpD (pD (pD (pD (pD (pD (cpD (pD (cpD (cpD (cpD (cpD (pD D t0 0 (D t1 0)) (t1 + 1) (t0 + 1) 12) (t1 + 2) (t0 + 2) 12) (t1 + 3) (t0 + 3) 60) (t1 + 4) (t0 + 4) 60) t0 5 ((cpD (cpD (cpD (cpD (pD D t0 0 (D t1 0)) (t1 + 1) (t0 + 1) 12) (t1 + 2) (t0 + 2) 12) (t1 + 3) (t0 + 3) 60) (t1 + 4) (t0 + 4) 60) t1 5)) (t1 + 5) (t0 + 5) 14) t0 7 ((cpD (pD (cpD (cpD (cpD (cpD (pD D t0 0 (D t1 0)) (t1 + 1) (t0 + 1) 12) (t1 + 2) (t0 + 2) 12) (t1 + 3) (t0 + 3) 60) (t1 + 4) (t0 + 4) 60) t0 5 ((cpD (cpD (cpD (cpD (pD D t0 0 (D t1 0)) (t1 + 1) (t0 + 1) 12) (t1 + 2) (t0 + 2) 12) (t1 + 3) (t0 + 3) 60) (t1 + 4) (t0 + 4) 60) t1 5)) (t1 + 5) (t0 + 5) 14) t1 7)) t0 8 ((pD (cpD (pD (cpD (cpD (cpD (cpD (pD D t0 0 (D t1 0)) (t1 + 1) (t0 + 1) 12) (t1 + 2) (t0 + 2) 12) (t1 + 3) (t0 + 3) 60) (t1 + 4) (t0 + 4) 60) t0 5 ((cpD (cpD (cpD (cpD (pD D t0 0 (D t1 0)) (t1 + 1) (t0 + 1) 12) (t1 + 2) (t0 + 2) 12) (t1 + 3) (t0 + 3) 60) (t1 + 4) (t0 + 4) 60) t1 5)) (t1 + 5) (t0 + 5) 14) t0 7 ((cpD (pD (cpD (cpD (cpD (cpD (pD D t0 0 (D t1 0)) (t1 + 1) (t0 + 1) 12) (t1 + 2) (t0 + 2) 12) (t1 + 3) (t0 + 3) 60) (t1 + 4) (t0 + 4) 60) t0 5 ((cpD (cpD (cpD (cpD (pD D t0 0 (D t1 0)) (t1 + 1) (t0 + 1) 12) (t1 + 2) (t0 + 2) 12) (t1 + 3) (t0 + 3) 60) (t1 + 4) (t0 + 4) 60) t1 5)) (t1 + 5) (t0 + 5) 14) t1 7)) t1 8)) t0 9 ((pD (pD (cpD (pD (cpD (cpD (cpD (cpD (pD D t0 0 (D t1 0)) (t1 + 1) (t0 + 1) 12) (t1 + 2) (t0 + 2) 12) (t1 + 3) (t0 + 3) 60) (t1 + 4) (t0 + 4) 60) t0 5 ((cpD (cpD (cpD (cpD (pD D t0 0 (D t1 0)) (t1 + 1) (t0 + 1) 12) (t1 + 2) (t0 + 2) 12) (t1 + 3) (t0 + 3) 60) (t1 + 4) (t0 + 4) 60) t1 5)) (t1 + 5) (t0 + 5) 14) t0 7 ((cpD (pD (cpD (cpD (cpD (cpD (pD D t0 0 (D t1 0)) (t1 + 1) (t0 + 1) 12) (t1 + 2) (t0 + 2) 12) (t1 + 3) (t0 + 3) 60) (t1 + 4) (t0 + 4) 60) t0 5 ((cpD (cpD (cpD (cpD (pD D t0 0 (D t1 0)) (t1 + 1) (t0 + 1) 12) (t1 + 2) (t0 + 2) 12) (t1 + 3) (t0 + 3) 60) (t1 + 4) (t0 + 4) 60) t1 5)) (t1 + 5) (t0 + 5) 14) t1 7)) t0 8 ((pD (cpD (pD (cpD (cpD (cpD (cpD (pD D t0 0 (D t1 0)) (t1 + 1) (t0 + 1) 12) (t1 + 2) (t0 + 2) 12) (t1 + 3) (t0 + 3) 60) (t1 + 4) (t0 + 4) 60) t0 5 ((cpD (cpD (cpD (cpD (pD D t0 0 (D t1 0)) (t1 + 1) (t0 + 1) 12) (t1 + 2) (t0 + 2) 12) (t1 + 3) (t0 + 3) 60) (t1 + 4) (t0 + 4) 60) t1 5)) (t1 + 5) (t0 + 5) 14) t0 7 ((cpD (pD (cpD (cpD (cpD (cpD (pD D t0 0 (D t1 0)) (t1 + 1) (t0 + 1) 12) (t1 + 2) (t0 + 2) 12) (t1 + 3) (t0 + 3) 60) (t1 + 4) (t0 + 4) 60) t0 5 ((cpD (cpD (cpD (cpD (pD D t0 0 (D t1 0)) (t1 + 1) (t0 + 1) 12) (t1 + 2) (t0 + 2) 12) (t1 + 3) (t0 + 3) 60) (t1 + 4) (t0 + 4) 60) t1 5)) (t1 + 5) (t0 + 5) 14) t1 7)) t1 8)) t1 9)) t0 10 ((pD (pD (pD (cpD (pD (cpD (cpD (cpD (cpD (pD D t0 0 (D t1 0)) (t1 + 1) (t0 + 1) 12) (t1 + 2) (t0 + 2) 12) (t1 + 3) (t0 + 3) 60) (t1 + 4) (t0 + 4) 60) t0 5 ((cpD (cpD (cpD (cpD (pD D t0 0 (D t1 0)) (t1 + 1) (t0 + 1) 12) (t1 + 2) (t0 + 2) 12) (t1 + 3) (t0 + 3) 60) (t1 + 4) (t0 + 4) 60) t1 5)) (t1 + 5) (t0 + 5) 14) t0 7 ((cpD (pD (cpD (cpD (cpD (cpD (pD D t0 0 (D t1 0)) (t1 + 1) (t0 + 1) 12) (t1 + 2) (t0 + 2) 12) (t1 + 3) (t0 + 3) 60) (t1 + 4) (t0 + 4) 60) t0 5 ((cpD (cpD (cpD (cpD (pD D t0 0 (D t1 0)) (t1 + 1) (t0 + 1) 12) (t1 + 2) (t0 + 2) 12) (t1 + 3) (t0 + 3) 60) (t1 + 4) (t0 + 4) 60) t1 5)) (t1 + 5) (t0 + 5) 14) t1 7)) t0 8 ((pD (cpD (pD (cpD (cpD (cpD (cpD (pD D t0 0 (D t1 0)) (t1 + 1) (t0 + 1) 12) (t1 + 2) (t0 + 2) 12) (t1 + 3) (t0 + 3) 60) (t1 + 4) (t0 + 4) 60) t0 5 ((cpD (cpD (cpD (cpD (pD D t0 0 (D t1 0)) (t1 + 1) (t0 + 1) 12) (t1 + 2) (t0 + 2) 12) (t1 + 3) (t0 + 3) 60) (t1 + 4) (t0 + 4) 60) t1 5)) (t1 + 5) (t0 + 5) 14) t0 7 ((cpD (pD (cpD (cpD (cpD (cpD (pD D t0 0 (D t1 0)) (t1 + 1) (t0 + 1) 12) (t1 + 2) (t0 + 2) 12) (t1 + 3) (t0 + 3) 60) (t1 + 4) (t0 + 4) 60) t0 5 ((cpD (cpD (cpD (cpD (pD D t0 0 (D t1 0)) (t1 + 1) (t0 + 1) 12) (t1 + 2) (t0 + 2) 12) (t1 + 3) (t0 + 3) 60) (t1 + 4) (t0 + 4) 60) t1 5)) (t1 + 5) (t0 + 5) 14) t1 7)) t1 8)) t0 9 ((pD (pD (cpD (pD (cpD (cpD (cpD (cpD (pD D t0 0 (D t1 0)) (t1 + 1) (t0 + 1) 12) (t1 + 2) (t0 + 2) 12) (t1 + 3) (t0 + 3) 60) (t1 + 4) (t0 + 4) 60) t0 5 ((cpD (cpD (cpD (cpD (pD D t0 0 (D t1 0)) (t1 + 1) (t0 + 1) 12) (t1 + 2) (t0 + 2) 12) (t1 + 3) (t0 + 3) 60) (t1 + 4) (t0 + 4) 60) t1 5)) (t1 + 5) (t0 + 5) 14) t0 7 ((cpD (pD (cpD (cpD (cpD (cpD (pD D t0 0 (D t1 0)) (t1 + 1) (t0 + 1) 12) (t1 + 2) (t0 + 2) 12) (t1 + 3) (t0 + 3) 60) (t1 + 4) (t0 + 4) 60) t0 5 ((cpD (cpD (cpD (cpD (pD D t0 0 (D t1 0)) (t1 + 1) (t0 + 1) 12) (t1 + 2) (t0 + 2) 12) (t1 + 3) (t0 + 3) 60) (t1 + 4) (t0 + 4) 60) t1 5)) (t1 + 5) (t0 + 5) 14) t1 7)) t0 8 ((pD (cpD (pD (cpD (cpD (cpD (cpD (pD D t0 0 (D t1 0)) (t1 + 1) (t0 + 1) 12) (t1 + 2) (t0 + 2) 12) (t1 + 3) (t0 + 3) 60) (t1 + 4) (t0 + 4) 60) t0 5 ((cpD (cpD (cpD (cpD (pD D t0 0 (D t1 0)) (t1 + 1) (t0 + 1) 12) (t1 + 2) (t0 + 2) 12) (t1 + 3) (t0 + 3) 60) (t1 + 4) (t0 + 4) 60) t1 5)) (t1 + 5) (t0 + 5) 14) t0 7 ((cpD (pD (cpD (cpD (cpD (cpD (pD D t0 0 (D t1 0)) (t1 + 1) (t0 + 1) 12) (t1 + 2) (t0 + 2) 12) (t1 + 3) (t0 + 3) 60) (t1 + 4) (t0 + 4) 60) t0 5 ((cpD (cpD (cpD (cpD (pD D t0 0 (D t1 0)) (t1 + 1) (t0 + 1) 12) (t1 + 2) (t0 + 2) 12) (t1 + 3) (t0 + 3) 60) (t1 + 4) (t0 + 4) 60) t1 5)) (t1 + 5) (t0 + 5) 14) t1 7)) t1 8)) t1 9)) t1 10)) t0 11 ((pD (pD (pD (pD (cpD (pD (cpD (cpD (cpD (cpD (pD D t0 0 (D t1 0)) (t1 + 1) (t0 + 1) 12) (t1 + 2) (t0 + 2) 12) (t1 + 3) (t0 + 3) 60) (t1 + 4) (t0 + 4) 60) t0 5 ((cpD (cpD (cpD (cpD (pD D t0 0 (D t1 0)) (t1 + 1) (t0 + 1) 12) (t1 + 2) (t0 + 2) 12) (t1 + 3) (t0 + 3) 60) (t1 + 4) (t0 + 4) 60) t1 5)) (t1 + 5) (t0 + 5) 14) t0 7 ((cpD (pD (cpD (cpD (cpD (cpD (pD D t0 0 (D t1 0)) (t1 + 1) (t0 + 1) 12) (t1 + 2) (t0 + 2) 12) (t1 + 3) (t0 + 3) 60) (t1 + 4) (t0 + 4) 60) t0 5 ((cpD (cpD (cpD (cpD (pD D t0 0 (D t1 0)) (t1 + 1) (t0 + 1) 12) (t1 + 2) (t0 + 2) 12) (t1 + 3) (t0 + 3) 60) (t1 + 4) (t0 + 4) 60) t1 5)) (t1 + 5) (t0 + 5) 14) t1 7)) t0 8 ((pD (cpD (pD (cpD (cpD (cpD (cpD (pD D t0 0 (D t1 0)) (t1 + 1) (t0 + 1) 12) (t1 + 2) (t0 + 2) 12) (t1 + 3) (t0 + 3) 60) (t1 + 4) (t0 + 4) 60) t0 5 ((cpD (cpD (cpD (cpD (pD D t0 0 (D t1 0)) (t1 + 1) (t0 + 1) 12) (t1 + 2) (t0 + 2) 12) (t1 + 3) (t0 + 3) 60) (t1 + 4) (t0 + 4) 60) t1 5)) (t1 + 5) (t0 + 5) 14) t0 7 ((cpD (pD (cpD (cpD (cpD (cpD (pD D t0 0 (D t1 0)) (t1 + 1) (t0 + 1) 12) (t1 + 2) (t0 + 2) 12) (t1 + 3) (t0 + 3) 60) (t1 + 4) (t0 + 4) 60) t0 5 ((cpD (cpD (cpD (cpD (pD D t0 0 (D t1 0)) (t1 + 1) (t0 + 1) 12) (t1 + 2) (t0 + 2) 12) (t1 + 3) (t0 + 3) 60) (t1 + 4) (t0 + 4) 60) t1 5)) (t1 + 5) (t0 + 5) 14) t1 7)) t1 8)) t0 9 ((pD (pD (cpD (pD (cpD (cpD (cpD (cpD (pD D t0 0 (D t1 0)) (t1 + 1) (t0 + 1) 12) (t1 + 2) (t0 + 2) 12) (t1 + 3) (t0 + 3) 60) (t1 + 4) (t0 + 4) 60) t0 5 ((cpD (cpD (cpD (cpD (pD D t0 0 (D t1 0)) (t1 + 1) (t0 + 1) 12) (t1 + 2) (t0 + 2) 12) (t1 + 3) (t0 + 3) 60) (t1 + 4) (t0 + 4) 60) t1 5)) (t1 + 5) (t0 + 5) 14) t0 7 ((cpD (pD (cpD (cpD (cpD (cpD (pD D t0 0 (D t1 0)) (t1 + 1) (t0 + 1) 12) (t1 + 2) (t0 + 2) 12) (t1 + 3) (t0 + 3) 60) (t1 + 4) (t0 + 4) 60) t0 5 ((cpD (cpD (cpD (cpD (pD D t0 0 (D t1 0)) (t1 + 1) (t0 + 1) 12) (t1 + 2) (t0 + 2) 12) (t1 + 3) (t0 + 3) 60) (t1 + 4) (t0 + 4) 60) t1 5)) (t1 + 5) (t0 + 5) 14) t1 7)) t0 8 ((pD (cpD (pD (cpD (cpD (cpD (cpD (pD D t0 0 (D t1 0)) (t1 + 1) (t0 + 1) 12) (t1 + 2) (t0 + 2) 12) (t1 + 3) (t0 + 3) 60) (t1 + 4) (t0 + 4) 60) t0 5 ((cpD (cpD (cpD (cpD (pD D t0 0 (D t1 0)) (t1 + 1) (t0 + 1) 12) (t1 + 2) (t0 + 2) 12) (t1 + 3) (t0 + 3) 60) (t1 + 4) (t0 + 4) 60) t1 5)) (t1 + 5) (t0 + 5) 14) t0 7 ((cpD (pD (cpD (cpD (cpD (cpD (pD D t0 0 (D t1 0)) (t1 + 1) (t0 + 1) 12) (t1 + 2) (t0 + 2) 12) (t1 + 3) (t0 + 3) 60) (t1 + 4) (t0 + 4) 60) t0 5 ((cpD (cpD (cpD (cpD (pD D t0 0 (D t1 0)) (t1 + 1) (t0 + 1) 12) (t1 + 2) (t0 + 2) 12) (t1 + 3) (t0 + 3) 60) (t1 + 4) (t0 + 4) 60) t1 5)) (t1 + 5) (t0 + 5) 14) t1 7)) t1 8)) t1 9)) t0 10 ((pD (pD (pD (cpD (pD (cpD (cpD (cpD (cpD (pD D t0 0 (D t1 0)) (t1 + 1) (t0 + 1) 12) (t1 + 2) (t0 + 2) 12) (t1 + 3) (t0 + 3) 60) (t1 + 4) (t0 + 4) 60) t0 5 ((cpD (cpD (cpD (cpD (pD D t0 0 (D t1 0)) (t1 + 1) (t0 + 1) 12) (t1 + 2) (t0 + 2) 12) (t1 + 3) (t0 + 3) 60) (t1 + 4) (t0 + 4) 60) t1 5)) (t1 + 5) (t0 + 5) 14) t0 7 ((cpD (pD (cpD (cpD (cpD (cpD (pD D t0 0 (D t1 0)) (t1 + 1) (t0 + 1) 12) (t1 + 2) (t0 + 2) 12) (t1 + 3) (t0 + 3) 60) (t1 + 4) (t0 + 4) 60) t0 5 ((cpD (cpD (cpD (cpD (pD D t0 0 (D t1 0)) (t1 + 1) (t0 + 1) 12) (t1 + 2) (t0 + 2) 12) (t1 + 3) (t0 + 3) 60) (t1 + 4) (t0 + 4) 60) t1 5)) (t1 + 5) (t0 + 5) 14) t1 7)) t0 8 ((pD (cpD (pD (cpD (cpD (cpD (cpD (pD D t0 0 (D t1 0)) (t1 + 1) (t0 + 1) 12) (t1 + 2) (t0 + 2) 12) (t1 + 3) (t0 + 3) 60) (t1 + 4) (t0 + 4) 60) t0 5 ((cpD (cpD (cpD (cpD (pD D t0 0 (D t1 0)) (t1 + 1) (t0 + 1) 12) (t1 + 2) (t0 + 2) 12) (t1 + 3) (t0 + 3) 60) (t1 + 4) (t0 + 4) 60) t1 5)) (t1 + 5) (t0 + 5) 14) t0 7 ((cpD (pD (cpD (cpD (cpD (cpD (pD D t0 0 (D t1 0)) (t1 + 1) (t0 + 1) 12) (t1 + 2) (t0 + 2) 12) (t1 + 3) (t0 + 3) 60) (t1 + 4) (t0 + 4) 60) t0 5 ((cpD (cpD (cpD (cpD (pD D t0 0 (D t1 0)) (t1 + 1) (t0 + 1) 12) (t1 + 2) (t0 + 2) 12) (t1 + 3) (t0 + 3) 60) (t1 + 4) (t0 + 4) 60) t1 5)) (t1 + 5) (t0 + 5) 14) t1 7)) t1 8)) t0 9 ((pD (pD (cpD (pD (cpD (cpD (cpD (cpD (pD D t0 0 (D t1 0)) (t1 + 1) (t0 + 1) 12) (t1 + 2) (t0 + 2) 12) (t1 + 3) (t0 + 3) 60) (t1 + 4) (t0 + 4) 60) t0 5 ((cpD (cpD (cpD (cpD (pD D t0 0 (D t1 0)) (t1 + 1) (t0 + 1) 12) (t1 + 2) (t0 + 2) 12) (t1 + 3) (t0 + 3) 60) (t1 + 4) (t0 + 4) 60) t1 5)) (t1 + 5) (t0 + 5) 14) t0 7 ((cpD (pD (cpD (cpD (cpD (cpD (pD D t0 0 (D t1 0)) (t1 + 1) (t0 + 1) 12) (t1 + 2) (t0 + 2) 12) (t1 + 3) (t0 + 3) 60) (t1 + 4) (t0 + 4) 60) t0 5 ((cpD (cpD (cpD (cpD (pD D t0 0 (D t1 0)) (t1 + 1) (t0 + 1) 12) (t1 + 2) (t0 + 2) 12) (t1 + 3) (t0 + 3) 60) (t1 + 4) (t0 + 4) 60) t1 5)) (t1 + 5) (t0 + 5) 14) t1 7)) t0 8 ((pD (cpD (pD (cpD (cpD (cpD (cpD (pD D t0 0 (D t1 0)) (t1 + 1) (t0 + 1) 12) (t1 + 2) (t0 + 2) 12) (t1 + 3) (t0 + 3) 60) (t1 + 4) (t0 + 4) 60) t0 5 ((cpD (cpD (cpD (cpD (pD D t0 0 (D t1 0)) (t1 + 1) (t0 + 1) 12) (t1 + 2) (t0 + 2) 12) (t1 + 3) (t0 + 3) 60) (t1 + 4) (t0 + 4) 60) t1 5)) (t1 + 5) (t0 + 5) 14) t0 7 ((cpD (pD (cpD (cpD (cpD (cpD (pD D t0 0 (D t1 0)) (t1 + 1) (t0 + 1) 12) (t1 + 2) (t0 + 2) 12) (t1 + 3) (t0 + 3) 60) (t1 + 4) (t0 + 4) 60) t0 5 ((cpD (cpD (cpD (cpD (pD D t0 0 (D t1 0)) (t1 + 1) (t0 + 1) 12) (t1 + 2) (t0 + 2) 12) (t1 + 3) (t0 + 3) 60) (t1 + 4) (t0 + 4) 60) t1 5)) (t1 + 5) (t0 + 5) 14) t1 7)) t1 8)) t1 9)) t1 10)) t1 11)) (t1 + 6) (t0 + 6) 6) (t1 + 7) (t0 + 7) 6) t1 14)) (t1 + 8) (t0 + 8) 8) t1 16) kc_6 w_128 (by decide) dX6_copyFrom_186 rfl (shop_lt hT1) (shopA_0 hT1) (by decide) rfl rfl ?_
  refine k_putI (pc' := 192) (sl := 16) (i' := 16) kc_6 w_128 (by decide) (Or.inl rfl) dX6_copyFrom_189 rfl (shop_lt hT0) (shopA_0 hT0) (by decide) ⟨rfl, rfl⟩ rfl ?_
  exact j_vret dX6_copyFrom_192 rfl (by decide) (by decide) (rV_of h)
theorem c_X6_copyFrom {d : Nat} (hd : 1 ≤ d) {t0 : Nat} (hT0 : IsShop t0) {t1 : Nat} (hT1 : IsShop t1) {D D' : mD} {v : Int} (h : F_X6_copyFrom t0 t1 D = some (v, D')) : CM d 0 0 M_X6_copyFrom [mR t0, mR t1] (SK, D, false) (rV D') := CM.intro pn_X6 rfl rfl (Nat.le_of_ble_eq_true rfl) (fun _ => c_X6_copyFrom_e hd hT0 hT1 h)
theorem c_X7_beginFrom_e {Ω : mO} {d : Nat} (hd : 2 ≤ d) {t1 : Nat} (hT1 : IsShop t1) {r : Int × mD} {D : mD} (h : F_X7_beginFrom t1 D = some r) : J Ω M_X7_beginFrom d 0 0 (rV r.2) 0 [some (mR 93), some (mR t1)] [] (SK, D, false) 0 0 := by
  rw [F_X7_beginFrom] at h
  refine j_aload_n (pc' := 1) dX7_beginFrom_0 rfl rfl ?_
  refine k_getR (pc' := 4) (sl := 2) (r := 94) kc_7 w_359 (Or.inl rfl) (by decide) dX7_beginFrom_1 rfl (by decide) sk_93 (by decide) rfl (by decide) ?_
  refine j_aload_n (pc' := 5) dX7_beginFrom_4 rfl rfl ?_
  obtain ⟨v1, D1, e1, h⟩ := bI_o h
  refine k_cVv (d' := 1) (pc' := 8) [mR t1] [] (c_X6_copyFrom (d := 1) (Nat.le_refl _) shop_94 hT1 e1) cw_X7_20 kc_6 w_506 w_507 dX7_beginFrom_5 rfl (by omega) rfl rfl (by decide) sk_94 rfl rfl (by decide) (by decide) ?_
  refine j_aload_n (pc' := 9) dX7_beginFrom_8 rfl rfl ?_
  refine j_iconst (pc' := 10) dX7_beginFrom_9 rfl ?_
  refine k_putI (pc' := 13) (sl := 3) (i' := 3) kc_7 w_361 (by decide) (Or.inr ⟨rfl, Or.inl rfl⟩) dX7_beginFrom_10 rfl (by decide) sk_93 (by decide) ⟨rfl, rfl⟩ rfl ?_
  exact j_vret dX7_beginFrom_13 rfl (by decide) (by decide) (rV_of h)
theorem c_X7_beginFrom {d : Nat} (hd : 2 ≤ d) {t1 : Nat} (hT1 : IsShop t1) {D D' : mD} {v : Int} (h : F_X7_beginFrom t1 D = some (v, D')) : CM d 0 0 M_X7_beginFrom [mR 93, mR t1] (SK, D, false) (rV D') := CM.intro pn_X7 rfl rfl (Nat.le_of_ble_eq_true rfl) (fun _ => c_X7_beginFrom_e hd hT1 h)
theorem c_X9_readNumber_S_e {Ω : mO} {d : Nat} (hd : 3 ≤ d) {r : Int × mD} {x1 x2 : Int} {D : mD} (h : F_X9_readNumber_S x1 x2 D = some r) : J Ω M_X9_readNumber d 0 0 (rI r.1 r.2) 0 [some (mR 93), some (mI x1), some (mI x2), none] [] (SK, D, false) 0 0 := by
  rw [F_X9_readNumber_S] at h
  refine j_aload_n (pc' := 1) dX9_readNumber_0 rfl rfl ?_
  refine k_getR (pc' := 4) (sl := 0) (r := 1) kc_7 w_363 (Or.inl rfl) (by decide) dX9_readNumber_1 rfl (by decide) sk_93 (by decide) rfl (by decide) ?_
  refine j_iload_n (pc' := 5) dX9_readNumber_4 rfl rfl ?_
  refine j_iload_n (pc' := 6) dX9_readNumber_5 rfl rfl ?_
  obtain ⟨v1, D1, e1, h⟩ := bI_o h
  refine k_cV (d' := 1) (pc' := 9) [mI x1, mI x2] [] (c_X8_numberWithin (d := 1) (Nat.le_refl _) e1) cw_X9_35 kc_8 w_800 w_801 dX9_readNumber_6 rfl (by omega) rfl rfl (by decide) sk_1 rfl rfl (by decide) (by decide) ?_
  refine j_istore_n (pc' := 10) (ls' := [some (mR 93), some (mI x1), some (mI x2), some (mI v1)]) dX9_readNumber_9 rfl (by decide) rfl ?_
  refine j_iload_n (pc' := 11) dX9_readNumber_10 rfl rfl ?_
  refine j_iconst (pc' := 12) dX9_readNumber_11 rfl ?_
  obtain ⟨q1, h⟩ := ck_o h
  refine j_icmp_eq (tgt := 22) (pc' := 15) dX9_readNumber_12 rfl rfl q1 (by decide) (fun b1 => ?_) (fun b1 => ?_)
  · replace h := ite_t b1 h
    refine j_iload_n (pc' := 23) dX9_readNumber_22 rfl rfl ?_
    exact j_iret dX9_readNumber_23 rfl (by decide) (by decide) (rI_of h)
  · replace h := ite_f b1 h
    refine j_aload_n (pc' := 16) dX9_readNumber_15 rfl rfl ?_
    refine k_getR (pc' := 19) (sl := 0) (r := 1) kc_7 w_363 (Or.inl rfl) (by decide) dX9_readNumber_16 rfl (by decide) sk_93 (by decide) rfl (by decide) ?_
    obtain ⟨v2, D2, e2, h⟩ := bI_o h
    refine k_cVv (d' := 2) (pc' := 22) [] [] (c_X8_step (d := 2) (Nat.le_refl _) e2) cw_X9_39 kc_8 w_726 w_727 dX9_readNumber_19 rfl (by omega) rfl rfl (by decide) sk_1 rfl rfl (by decide) (by decide) ?_
    refine j_iload_n (pc' := 23) dX9_readNumber_22 rfl rfl ?_
    exact j_iret dX9_readNumber_23 rfl (by decide) (by decide) (rI_of h)
theorem c_X9_readNumber_S {d : Nat} (hd : 3 ≤ d) {x1 x2 : Int} {D D' : mD} {v : Int} (h : F_X9_readNumber_S x1 x2 D = some (v, D')) : CM d 0 0 M_X9_readNumber [mR 93, mI x1, mI x2] (SK, D, false) (rI v D') := CM.intro pn_X9 rfl rfl (Nat.le_of_ble_eq_true rfl) (fun _ => c_X9_readNumber_S_e hd h)
theorem c_X7_readsBoard_e {Ω : mO} {d : Nat} (hd : 8 ≤ d) {r : Int × mD} {D : mD} (h : F_X7_readsBoard D = some r) : J Ω M_X7_readsBoard d 0 0 (rI r.1 r.2) 0 [some (mR 93)] [] (SK, D, false) 0 0 := by
  rw [F_X7_readsBoard] at h
  refine j_aload_n (pc' := 1) dX7_readsBoard_0 rfl rfl ?_
  refine k_getR (pc' := 4) (sl := 2) (r := 94) kc_7 w_359 (Or.inl rfl) (by decide) dX7_readsBoard_1 rfl (by decide) sk_93 (by decide) rfl (by decide) ?_
  refine j_aload_n (pc' := 5) dX7_readsBoard_4 rfl rfl ?_
  refine j_bipush (pc' := 7) dX7_readsBoard_5 rfl rfl ?_
  refine j_bipush (pc' := 9) dX7_readsBoard_7 rfl rfl ?_
  obtain ⟨v1, D1, e1, h⟩ := bI_o h
  refine k_cU (d' := 3) (pc' := 12) [mI 10, mI 120] [mR 94] (c_X9_readNumber_S (d := 3) (Nat.le_refl _) e1) cu_X7_64_S kc_7 dX7_readsBoard_9 rfl (by omega) rfl rfl (by decide) sk_93 rfl rfl (by decide) (by decide) ?_
  refine k_putI (pc' := 15) (sl := 7) (i' := 7) kc_6 w_99 (by decide) (Or.inl rfl) dX7_readsBoard_12 rfl (by decide) sk_94 (by decide) ⟨rfl, rfl⟩ rfl ?_
  refine j_aload_n (pc' := 16) dX7_readsBoard_15 rfl rfl ?_
  refine k_getR (pc' := 19) (sl := 2) (r := 94) kc_7 w_359 (Or.inl rfl) (by decide) dX7_readsBoard_16 rfl (by decide) sk_93 (by decide) rfl (by decide) ?_
  refine k_getI (pc' := 22) (sl := 7) (z := (pD D1 94 7 v1) 94 7) kc_6 w_99 (by decide) dX7_readsBoard_19 rfl (by decide) sk_94 (by decide) rfl rfl ?_
  refine j_iconst (pc' := 23) dX7_readsBoard_22 rfl ?_
  obtain ⟨q1, h⟩ := ck_o h
  refine j_icmp_eq (tgt := 38) (pc' := 26) dX7_readsBoard_23 rfl rfl q1 (by decide) (fun b1 => ?_) (fun b1 => ?_)
  · replace h := ite_t b1 h
    refine j_iconst (pc' := 39) dX7_readsBoard_38 rfl ?_
    exact j_zret dX7_readsBoard_39 rfl (Or.inl rfl) (by decide) (by decide) (rI_of h)
  · replace h := ite_f b1 h
    refine j_aload_n (pc' := 27) dX7_readsBoard_26 rfl rfl ?_
    refine k_getR (pc' := 30) (sl := 0) (r := 1) kc_7 w_366 (Or.inr w_367) (by decide) dX7_readsBoard_27 rfl (by decide) sk_93 (by decide) rfl (by decide) ?_
    refine j_ldcS (pc' := 32) (si := 28) rfl dX7_readsBoard_30 rfl ?_
    obtain ⟨v2, D2, e2, h⟩ := bI_o h
    refine k_cV (d' := 7) (pc' := 35) [mR (1000000 + 28)] [] (c_X8_takesWord (d := 7) (Nat.le_refl _) ((by decide)) e2) cw_X7_56 kc_8 w_806 w_807 dX7_readsBoard_32 rfl (by omega) rfl rfl (by decide) sk_1 rfl rfl (by decide) (by decide) ?_
    obtain ⟨q2, h⟩ := ck_o h
    refine j_if_ne (tgt := 40) (pc' := 38) dX7_readsBoard_35 rfl rfl q2 (fun b2 => ?_) (fun b2 => ?_)
    · replace h := ite_f b2 h
      refine j_aload_n (pc' := 41) dX7_readsBoard_40 rfl rfl ?_
      refine k_getR (pc' := 44) (sl := 2) (r := 94) kc_7 w_359 (Or.inl rfl) (by decide) dX7_readsBoard_41 rfl (by decide) sk_93 (by decide) rfl (by decide) ?_
      refine j_aload_n (pc' := 45) dX7_readsBoard_44 rfl rfl ?_
      refine j_iconst (pc' := 46) dX7_readsBoard_45 rfl ?_
      refine j_bipush (pc' := 48) dX7_readsBoard_46 rfl rfl ?_
      obtain ⟨v3, D3, e3, h⟩ := bI_o h
      refine k_cU (d' := 3) (pc' := 51) [mI 0, mI 9] [mR 94] (c_X9_readNumber_S (d := 3) (Nat.le_refl _) e3) cu_X7_64_S kc_7 dX7_readsBoard_48 rfl (by omega) rfl rfl (by decide) sk_93 rfl rfl (by decide) (by decide) ?_
      refine k_putI (pc' := 54) (sl := 8) (i' := 8) kc_6 w_103 (by decide) (Or.inl rfl) dX7_readsBoard_51 rfl (by decide) sk_94 (by decide) ⟨rfl, rfl⟩ rfl ?_
      refine j_aload_n (pc' := 55) dX7_readsBoard_54 rfl rfl ?_
      refine k_getR (pc' := 58) (sl := 2) (r := 94) kc_7 w_359 (Or.inl rfl) (by decide) dX7_readsBoard_55 rfl (by decide) sk_93 (by decide) rfl (by decide) ?_
      refine k_getI (pc' := 61) (sl := 8) (z := (pD D3 94 8 v3) 94 8) kc_6 w_103 (by decide) dX7_readsBoard_58 rfl (by decide) sk_94 (by decide) rfl rfl ?_
      refine j_iconst (pc' := 62) dX7_readsBoard_61 rfl ?_
      obtain ⟨q3, h⟩ := ck_o h
      have hj : J Ω M_X7_readsBoard d 0 0 (rI r.1 r.2) 70 [none] [mI (if ((pD D3 94 8 v3) 94 8) = (-1) then (0 : Int) else (1 : Int))] (SK, (pD D3 94 8 v3), false) 0 0 := by
        obtain ⟨q4, h⟩ := ck_o h
        exact j_zret dX7_readsBoard_70 rfl q4 (by decide) (by decide) (rI_of h)
      refine j_icmp_eq (tgt := 69) (pc' := 65) dX7_readsBoard_62 rfl rfl q3 (by decide) (fun b3 => ?_) (fun b3 => ?_)
      · refine j_iconst (pc' := 70) dX7_readsBoard_69 rfl ?_
        have hj := hj
        try simp only [if_pos b3] at hj
        exact j_wk hj (trivial)
      · refine j_iconst (pc' := 66) dX7_readsBoard_65 rfl ?_
        refine j_goto (tgt := 70) dX7_readsBoard_66 rfl ?_
        have hj := hj
        try simp only [if_neg b3] at hj
        exact j_wk hj (trivial)
    · replace h := ite_t b2 h
      refine j_iconst (pc' := 39) dX7_readsBoard_38 rfl ?_
      exact j_zret dX7_readsBoard_39 rfl (Or.inl rfl) (by decide) (by decide) (rI_of h)
theorem c_X7_readsBoard {d : Nat} (hd : 8 ≤ d) {D D' : mD} {v : Int} (h : F_X7_readsBoard D = some (v, D')) : CM d 0 0 M_X7_readsBoard [mR 93] (SK, D, false) (rI v D') := CM.intro pn_X7 rfl rfl (Nat.le_of_ble_eq_true rfl) (fun _ => c_X7_readsBoard_e hd h)
theorem c_X7_readsLooker_e {Ω : mO} {d : Nat} (hd : 4 ≤ d) {r : Int × mD} {D : mD} (h : F_X7_readsLooker D = some r) : J Ω M_X7_readsLooker d 0 0 (rI r.1 r.2) 0 [some (mR 93), none] [] (SK, D, false) 0 0 := by
  rw [F_X7_readsLooker] at h
  refine j_aload_n (pc' := 1) dX7_readsLooker_0 rfl rfl ?_
  refine k_getR (pc' := 4) (sl := 2) (r := 94) kc_7 w_359 (Or.inl rfl) (by decide) dX7_readsLooker_1 rfl (by decide) sk_93 (by decide) rfl (by decide) ?_
  refine k_getI (pc' := 7) (sl := 14) (z := D 94 14) kc_6 w_123 (by decide) dX7_readsLooker_4 rfl (by decide) sk_94 (by decide) rfl rfl ?_
  refine j_istore_n (pc' := 8) (ls' := [some (mR 93), some (mI (D 94 14))]) dX7_readsLooker_7 rfl (by decide) rfl ?_
  refine j_iload_n (pc' := 9) dX7_readsLooker_8 rfl rfl ?_
  refine j_bipush (pc' := 11) dX7_readsLooker_9 rfl rfl ?_
  obtain ⟨q1, h⟩ := ck_o h
  refine j_icmp_lt (tgt := 16) (pc' := 14) dX7_readsLooker_11 rfl rfl q1 (by decide) (fun b1 => ?_) (fun b1 => ?_)
  · replace h := ite_t b1 h
    refine j_aload_n (pc' := 17) dX7_readsLooker_16 rfl rfl ?_
    refine k_getR (pc' := 20) (sl := 0) (r := 1) kc_7 w_366 (Or.inr w_367) (by decide) dX7_readsLooker_17 rfl (by decide) sk_93 (by decide) rfl (by decide) ?_
    obtain ⟨v1, D1, e1, h⟩ := bI_o h
    refine k_cVv (d' := 2) (pc' := 23) [] [] (c_X8_step (d := 2) (Nat.le_refl _) e1) cw_X7_84 kc_8 w_726 w_727 dX7_readsLooker_20 rfl (by omega) rfl rfl (by decide) sk_1 rfl rfl (by decide) (by decide) ?_
    refine j_aload_n (pc' := 24) dX7_readsLooker_23 rfl rfl ?_
    refine k_getR (pc' := 27) (sl := 2) (r := 94) kc_7 w_359 (Or.inl rfl) (by decide) dX7_readsLooker_24 rfl (by decide) sk_93 (by decide) rfl (by decide) ?_
    refine k_getR (pc' := 30) (sl := 15) (r := 102) kc_6 w_126 (Or.inl rfl) (by decide) dX7_readsLooker_27 rfl (by decide) sk_94 (by decide) rfl (by decide) ?_
    refine j_iload_n (pc' := 31) dX7_readsLooker_30 rfl rfl ?_
    refine j_aload_n (pc' := 32) dX7_readsLooker_31 rfl rfl ?_
    refine j_iconst (pc' := 33) dX7_readsLooker_32 rfl ?_
    refine j_sipush (pc' := 36) dX7_readsLooker_33 rfl rfl ?_
    obtain ⟨v2, D2, e2, h⟩ := bI_o h
    refine k_cU (d' := 3) (pc' := 39) [mI 0, mI 200] [mI (D 94 14), mR 102] (c_X9_readNumber_S (d := 3) (Nat.le_refl _) e2) cu_X7_64_S kc_7 dX7_readsLooker_36 rfl (by omega) rfl rfl (by decide) sk_93 rfl rfl (by decide) (by decide) ?_
    obtain ⟨q2, h⟩ := ck_o h
    refine k_iast (pc' := 40) dX7_readsLooker_39 rfl (by decide) sk_102 (by decide) q2.1 q2.2 ?_
    refine j_aload_n (pc' := 41) dX7_readsLooker_40 rfl rfl ?_
    refine k_getR (pc' := 44) (sl := 2) (r := 94) kc_7 w_359 (Or.inl rfl) (by decide) dX7_readsLooker_41 rfl (by decide) sk_93 (by decide) rfl (by decide) ?_
    refine j_dup (pc' := 45) dX7_readsLooker_44 rfl rfl ?_
    refine k_getI (pc' := 48) (sl := 14) (z := (pD D2 102 (D 94 14) v2) 94 14) kc_6 w_123 (by decide) dX7_readsLooker_45 rfl (by decide) sk_94 (by decide) rfl rfl ?_
    refine j_iconst (pc' := 49) dX7_readsLooker_48 rfl ?_
    refine j_iadd (pc' := 50) dX7_readsLooker_49 rfl ?_
    refine k_putI (pc' := 53) (sl := 14) (i' := 14) kc_6 w_123 (by decide) (Or.inl rfl) dX7_readsLooker_50 rfl (by decide) sk_94 (by decide) ⟨rfl, rfl⟩ rfl ?_
    refine j_aload_n (pc' := 54) dX7_readsLooker_53 rfl rfl ?_
    refine k_getR (pc' := 57) (sl := 2) (r := 94) kc_7 w_359 (Or.inl rfl) (by decide) dX7_readsLooker_54 rfl (by decide) sk_93 (by decide) rfl (by decide) ?_
    refine k_getR (pc' := 60) (sl := 15) (r := 102) kc_6 w_126 (Or.inl rfl) (by decide) dX7_readsLooker_57 rfl (by decide) sk_94 (by decide) rfl (by decide) ?_
    refine j_iload_n (pc' := 61) dX7_readsLooker_60 rfl rfl ?_
    refine k_iald (pc' := 62) (z := (pD (pD D2 102 (D 94 14) v2) 94 14 (((pD D2 102 (D 94 14) v2) 94 14) + 1)) 102 (D 94 14)) dX7_readsLooker_61 rfl (by decide) sk_102 (by decide) q2.1 q2.2 rfl ?_
    refine j_iconst (pc' := 63) dX7_readsLooker_62 rfl ?_
    obtain ⟨q3, h⟩ := ck_o h
    have hj : J Ω M_X7_readsLooker d 0 0 (rI r.1 r.2) 71 [none, none] [mI (if ((pD (pD D2 102 (D 94 14) v2) 94 14 (((pD D2 102 (D 94 14) v2) 94 14) + 1)) 102 (D 94 14)) = (-1) then (0 : Int) else (1 : Int))] (SK, (pD (pD D2 102 (D 94 14) v2) 94 14 (((pD D2 102 (D 94 14) v2) 94 14) + 1)), false) 0 0 := by
      obtain ⟨q4, h⟩ := ck_o h
      exact j_zret dX7_readsLooker_71 rfl q4 (by decide) (by decide) (rI_of h)
    refine j_icmp_eq (tgt := 70) (pc' := 66) dX7_readsLooker_63 rfl rfl q3 (by decide) (fun b2 => ?_) (fun b2 => ?_)
    · refine j_iconst (pc' := 71) dX7_readsLooker_70 rfl ?_
      have hj := hj
      try simp only [if_pos b2] at hj
      exact j_wk hj (trivial)
    · refine j_iconst (pc' := 67) dX7_readsLooker_66 rfl ?_
      refine j_goto (tgt := 71) dX7_readsLooker_67 rfl ?_
      have hj := hj
      try simp only [if_neg b2] at hj
      exact j_wk hj (trivial)
  · replace h := ite_f b1 h
    refine j_iconst (pc' := 15) dX7_readsLooker_14 rfl ?_
    exact j_zret dX7_readsLooker_15 rfl (Or.inl rfl) (by decide) (by decide) (rI_of h)
theorem c_X7_readsLooker {d : Nat} (hd : 4 ≤ d) {D D' : mD} {v : Int} (h : F_X7_readsLooker D = some (v, D')) : CM d 0 0 M_X7_readsLooker [mR 93] (SK, D, false) (rI v D') := CM.intro pn_X7 rfl rfl (Nat.le_of_ble_eq_true rfl) (fun _ => c_X7_readsLooker_e hd h)
theorem c_X8_figureOf_e {Ω : mO} {d : Nat} (hd : 1 ≤ d) {r : Int × mD} {x1 : Int} {D : mD} (h : F_X8_figureOf x1 D = some r) : J Ω M_X8_figureOf d 0 0 (rI r.1 r.2) 0 [some (mR 1), some (mI x1)] [] (SK, D, false) 0 0 := by
  rw [F_X8_figureOf] at h
  refine j_aload_n (pc' := 1) dX8_figureOf_0 rfl rfl ?_
  refine k_getR (pc' := 4) (sl := 0) (r := 2) kc_8 w_44 (Or.inl rfl) (by decide) dX8_figureOf_1 rfl (by decide) sk_1 (by decide) rfl (by decide) ?_
  refine j_aload_n (pc' := 5) dX8_figureOf_4 rfl rfl ?_
  refine k_getI (pc' := 8) (sl := 3) (z := D 1 3) kc_8 w_50 (by decide) dX8_figureOf_5 rfl (by decide) sk_1 (by decide) rfl rfl ?_
  refine j_iload_n (pc' := 9) dX8_figureOf_8 rfl rfl ?_
  refine j_iadd (pc' := 10) dX8_figureOf_9 rfl ?_
  obtain ⟨q1, h⟩ := ck_o h
  refine k_iald (pc' := 11) (z := D 2 ((D 1 3) + x1)) dX8_figureOf_10 rfl (by decide) sk_2 (by decide) q1.1 q1.2 rfl ?_
  refine j_bipush (pc' := 13) dX8_figureOf_11 rfl rfl ?_
  refine j_isub (pc' := 14) dX8_figureOf_13 rfl ?_
  exact j_iret dX8_figureOf_14 rfl (by decide) (by decide) (rI_of h)
theorem c_X8_figureOf {d : Nat} (hd : 1 ≤ d) {x1 : Int} {D D' : mD} {v : Int} (h : F_X8_figureOf x1 D = some (v, D')) : CM d 0 0 M_X8_figureOf [mR 1, mI x1] (SK, D, false) (rI v D') := CM.intro pn_X8 rfl rfl (Nat.le_of_ble_eq_true rfl) (fun _ => c_X8_figureOf_e hd h)
theorem c_X8_isFigures_e {Ω : mO} {d : Nat} (hd : 1 ≤ d) {r : Int × mD} {D : mD} (h : F_X8_isFigures D = some r) : J Ω M_X8_isFigures d 0 0 (rI r.1 r.2) 0 [some (mR 1)] [] (SK, D, false) 0 0 := by
  rw [F_X8_isFigures] at h
  refine j_aload_n (pc' := 1) dX8_isFigures_0 rfl rfl ?_
  refine k_getI (pc' := 4) (sl := 2) (z := D 1 2) kc_8 w_48 (by decide) dX8_isFigures_1 rfl (by decide) sk_1 (by decide) rfl rfl ?_
  refine j_iconst (pc' := 5) dX8_isFigures_4 rfl ?_
  obtain ⟨q1, h⟩ := ck_o h
  obtain ⟨q2, h⟩ := ck_o h
  have hj : J Ω M_X8_isFigures d 0 0 (rI r.1 r.2) 26 [none] [mI (if (D 1 2) = 2 then (if ((D 1 4) - (D 1 3)) = 5 then (1 : Int) else (0 : Int)) else (0 : Int))] (SK, D, false) 0 0 := by
    obtain ⟨q3, h⟩ := ck_o h
    exact j_zret dX8_isFigures_26 rfl q3 (by decide) (by decide) (rI_of h)
  refine j_icmp_ne (tgt := 25) (pc' := 8) dX8_isFigures_5 rfl rfl q1 (by decide) (fun b1 => ?_) (fun b1 => ?_)
  · refine j_iconst (pc' := 26) dX8_isFigures_25 rfl ?_
    have hj := hj
    try simp only [if_neg b1] at hj
    exact j_wk hj (trivial)
  · refine j_aload_n (pc' := 9) dX8_isFigures_8 rfl rfl ?_
    refine k_getI (pc' := 12) (sl := 4) (z := D 1 4) kc_8 w_52 (by decide) dX8_isFigures_9 rfl (by decide) sk_1 (by decide) rfl rfl ?_
    refine j_aload_n (pc' := 13) dX8_isFigures_12 rfl rfl ?_
    refine k_getI (pc' := 16) (sl := 3) (z := D 1 3) kc_8 w_50 (by decide) dX8_isFigures_13 rfl (by decide) sk_1 (by decide) rfl rfl ?_
    refine j_isub (pc' := 17) dX8_isFigures_16 rfl ?_
    refine j_iconst (pc' := 18) dX8_isFigures_17 rfl ?_
    refine j_icmp_ne (tgt := 25) (pc' := 21) dX8_isFigures_18 rfl rfl (q2 b1) (by decide) (fun b2 => ?_) (fun b2 => ?_)
    · refine j_iconst (pc' := 26) dX8_isFigures_25 rfl ?_
      have hj := hj
      try simp only [if_pos b1, if_neg b2] at hj
      exact j_wk hj (trivial)
    · refine j_iconst (pc' := 22) dX8_isFigures_21 rfl ?_
      refine j_goto (tgt := 26) dX8_isFigures_22 rfl ?_
      have hj := hj
      try simp only [if_pos b1, if_pos b2] at hj
      exact j_wk hj (trivial)
theorem c_X8_isFigures {d : Nat} (hd : 1 ≤ d) {D D' : mD} {v : Int} (h : F_X8_isFigures D = some (v, D')) : CM d 0 0 M_X8_isFigures [mR 1] (SK, D, false) (rI v D') := CM.intro pn_X8 rfl rfl (Nat.le_of_ble_eq_true rfl) (fun _ => c_X8_isFigures_e hd h)
theorem c_X7_readsSides_L91 {Ω : mO} {d : Nat} (hd : 8 ≤ d) {r : Int × mD} {x1 : Int} : ∀ (n : Nat) {x2 : Int} {D : mD}, F_X7_readsSides_L91 x1 n x2 D = some r → J Ω M_X7_readsSides d 0 0 (rI r.1 r.2) 91 [some (mR 93), some (mI x1), some (mI x2), none] [] (SK, D, false) 0 0 := by
  intro n
  induction n with
  | zero => intro x2 D h; exact absurd (show (none : Option (Int × mD)) = some r from h) nofun
  | succ n ih =>
    intro x2 D h
    rw [F_X7_readsSides_L91] at h
    refine j_iload_n (pc' := 92) dX7_readsSides_91 rfl rfl ?_
    refine j_iconst (pc' := 93) dX7_readsSides_92 rfl ?_
    obtain ⟨q1, h⟩ := ck_o h
    refine j_icmp_ge (tgt := 150) (pc' := 96) dX7_readsSides_93 rfl rfl q1 (by decide) (fun b1 => ?_) (fun b1 => ?_)
    · replace h := ite_t b1 h
      refine j_aload_n (pc' := 151) dX7_readsSides_150 rfl rfl ?_
      refine k_getR (pc' := 154) (sl := 0) (r := 1) kc_7 w_366 (Or.inr w_367) (by decide) dX7_readsSides_151 rfl (by decide) sk_93 (by decide) rfl (by decide) ?_
      obtain ⟨v1, D1, e1, h⟩ := bI_o h
      refine k_cVv (d' := 2) (pc' := 157) [] [] (c_X8_step (d := 2) (Nat.le_refl _) e1) cw_X7_84 kc_8 w_726 w_727 dX7_readsSides_154 rfl (by omega) rfl rfl (by decide) sk_1 rfl rfl (by decide) (by decide) ?_
      refine j_iconst (pc' := 158) dX7_readsSides_157 rfl ?_
      exact j_zret dX7_readsSides_158 rfl (Or.inr rfl) (by decide) (by decide) (rI_of h)
    · replace h := ite_f b1 h
      refine j_aload_n (pc' := 97) dX7_readsSides_96 rfl rfl ?_
      refine k_getR (pc' := 100) (sl := 0) (r := 1) kc_7 w_366 (Or.inr w_367) (by decide) dX7_readsSides_97 rfl (by decide) sk_93 (by decide) rfl (by decide) ?_
      refine j_iload_n (pc' := 101) dX7_readsSides_100 rfl rfl ?_
      obtain ⟨v2, D2, e2, h⟩ := bI_o h
      refine k_cV (d' := 1) (pc' := 104) [mI x2] [] (c_X8_figureOf (d := 1) (Nat.le_refl _) e2) cw_X7_120 kc_8 w_892 w_893 dX7_readsSides_101 rfl (by omega) rfl rfl (by decide) sk_1 rfl rfl (by decide) (by decide) ?_
      refine j_istore_n (pc' := 105) (ls' := [some (mR 93), some (mI x1), some (mI x2), some (mI v2)]) dX7_readsSides_104 rfl (by decide) rfl ?_
      refine j_aload_n (pc' := 106) dX7_readsSides_105 rfl rfl ?_
      refine k_getR (pc' := 109) (sl := 2) (r := 94) kc_7 w_359 (Or.inl rfl) (by decide) dX7_readsSides_106 rfl (by decide) sk_93 (by decide) rfl (by decide) ?_
      refine j_iload_n (pc' := 110) dX7_readsSides_109 rfl rfl ?_
      refine j_iload_n (pc' := 111) dX7_readsSides_110 rfl rfl ?_
      obtain ⟨v3, D3, e3, h⟩ := bI_o h
      refine k_cV (d' := 1) (pc' := 114) [mI x1, mI x2] [] (c_X6_leftOf (d := 1) (Nat.le_refl _) shop_94 e3) cw_X7_126 kc_6 w_556 w_557 dX7_readsSides_111 rfl (by omega) rfl rfl (by decide) sk_94 rfl rfl (by decide) (by decide) ?_
      refine j_iload_n (pc' := 115) dX7_readsSides_114 rfl rfl ?_
      refine j_iadd (pc' := 116) dX7_readsSides_115 rfl ?_
      refine j_aload_n (pc' := 117) dX7_readsSides_116 rfl rfl ?_
      refine k_getR (pc' := 120) (sl := 2) (r := 94) kc_7 w_359 (Or.inl rfl) (by decide) dX7_readsSides_117 rfl (by decide) sk_93 (by decide) rfl (by decide) ?_
      refine k_getR (pc' := 123) (sl := 2) (r := 96) kc_6 w_80 (Or.inl rfl) (by decide) dX7_readsSides_120 rfl (by decide) sk_94 (by decide) rfl (by decide) ?_
      refine j_iload_n (pc' := 124) dX7_readsSides_123 rfl rfl ?_
      obtain ⟨q2, h⟩ := ck_o h
      refine k_iald (pc' := 125) (z := D3 96 x1) dX7_readsSides_124 rfl (by decide) sk_96 (by decide) q2.1 q2.2 rfl ?_
      obtain ⟨q3, h⟩ := ck_o h
      obtain ⟨q4, h⟩ := ck_o h
      refine j_icmp_lt (tgt := 130) (pc' := 128) dX7_readsSides_125 rfl rfl q3 q4 (fun b2 => ?_) (fun b2 => ?_)
      · replace h := ite_t b2 h
        refine j_aload_n (pc' := 131) dX7_readsSides_130 rfl rfl ?_
        refine k_getR (pc' := 134) (sl := 2) (r := 94) kc_7 w_359 (Or.inl rfl) (by decide) dX7_readsSides_131 rfl (by decide) sk_93 (by decide) rfl (by decide) ?_
        refine k_getR (pc' := 137) (sl := 4) (r := 98) kc_6 w_85 (Or.inl rfl) (by decide) dX7_readsSides_134 rfl (by decide) sk_94 (by decide) rfl (by decide) ?_
        refine j_iload_n (pc' := 138) dX7_readsSides_137 rfl rfl ?_
        refine j_iconst (pc' := 139) dX7_readsSides_138 rfl ?_
        refine j_imul (pc' := 140) dX7_readsSides_139 rfl ?_
        refine j_iload_n (pc' := 141) dX7_readsSides_140 rfl rfl ?_
        refine j_iadd (pc' := 142) dX7_readsSides_141 rfl ?_
        refine j_iload_n (pc' := 143) dX7_readsSides_142 rfl rfl ?_
        obtain ⟨q5, h⟩ := ck_o h
        refine k_iast (pc' := 144) dX7_readsSides_143 rfl (by decide) sk_98 (by decide) q5.1 q5.2 ?_
        refine j_iinc (pc' := 147) (z' := (x2 + 1)) (ls' := [some (mR 93), some (mI x1), some (mI (x2 + 1)), some (mI v2)]) dX7_readsSides_144 rfl rfl rfl (by decide) rfl ?_
        refine j_goto (tgt := 91) dX7_readsSides_147 rfl ?_
        exact j_wk (j_widen (ce := 0) (ke := 0) (by decide) (by decide) (ih h)) (And.intro rfl (And.intro rfl (And.intro rfl trivial)))
      · replace h := ite_f b2 h
        refine j_iconst (pc' := 129) dX7_readsSides_128 rfl ?_
        exact j_zret dX7_readsSides_129 rfl (Or.inl rfl) (by decide) (by decide) (rI_of h)
theorem c_X7_readsSides_L26 {Ω : mO} {d : Nat} (hd : 8 ≤ d) {r : Int × mD} {x1 : Int} : ∀ (n : Nat) {x2 : Int} {D : mD}, F_X7_readsSides_L26 x1 n x2 D = some r → J Ω M_X7_readsSides d 0 0 (rI r.1 r.2) 26 [some (mR 93), some (mI x1), some (mI x2), none] [] (SK, D, false) 0 0 := by
  intro n
  induction n with
  | zero => intro x2 D h; exact absurd (show (none : Option (Int × mD)) = some r from h) nofun
  | succ n ih =>
    intro x2 D h
    rw [F_X7_readsSides_L26] at h
    refine j_iload_n (pc' := 27) dX7_readsSides_26 rfl rfl ?_
    refine j_iconst (pc' := 28) dX7_readsSides_27 rfl ?_
    obtain ⟨q1, h⟩ := ck_o h
    refine j_icmp_ge (tgt := 58) (pc' := 31) dX7_readsSides_28 rfl rfl q1 (by decide) (fun b1 => ?_) (fun b1 => ?_)
    · replace h := ite_t b1 h
      refine j_aload_n (pc' := 59) dX7_readsSides_58 rfl rfl ?_
      refine k_getR (pc' := 62) (sl := 0) (r := 1) kc_7 w_366 (Or.inr w_367) (by decide) dX7_readsSides_59 rfl (by decide) sk_93 (by decide) rfl (by decide) ?_
      obtain ⟨v1, D1, e1, h⟩ := bI_o h
      refine k_cVv (d' := 2) (pc' := 65) [] [] (c_X8_step (d := 2) (Nat.le_refl _) e1) cw_X7_84 kc_8 w_726 w_727 dX7_readsSides_62 rfl (by omega) rfl rfl (by decide) sk_1 rfl rfl (by decide) (by decide) ?_
      refine j_aload_n (pc' := 66) dX7_readsSides_65 rfl rfl ?_
      refine k_getR (pc' := 69) (sl := 0) (r := 1) kc_7 w_366 (Or.inr w_367) (by decide) dX7_readsSides_66 rfl (by decide) sk_93 (by decide) rfl (by decide) ?_
      refine j_ldcS (pc' := 71) (si := 22) rfl dX7_readsSides_69 rfl ?_
      obtain ⟨v2, D2, e2, h⟩ := bI_o h
      refine k_cV (d' := 7) (pc' := 74) [mR (1000000 + 22)] [] (c_X8_takesWord (d := 7) (Nat.le_refl _) ((by decide)) e2) cw_X7_56 kc_8 w_806 w_807 dX7_readsSides_71 rfl (by omega) rfl rfl (by decide) sk_1 rfl rfl (by decide) (by decide) ?_
      obtain ⟨q2, h⟩ := ck_o h
      refine j_if_eq (tgt := 87) (pc' := 77) dX7_readsSides_74 rfl rfl q2 (fun b2 => ?_) (fun b2 => ?_)
      · replace h := ite_t b2 h
        refine j_iconst (pc' := 88) dX7_readsSides_87 rfl ?_
        exact j_zret dX7_readsSides_88 rfl (Or.inl rfl) (by decide) (by decide) (rI_of h)
      · replace h := ite_f b2 h
        refine j_aload_n (pc' := 78) dX7_readsSides_77 rfl rfl ?_
        refine k_getR (pc' := 81) (sl := 0) (r := 1) kc_7 w_366 (Or.inr w_367) (by decide) dX7_readsSides_78 rfl (by decide) sk_93 (by decide) rfl (by decide) ?_
        obtain ⟨v3, D3, e3, h⟩ := bI_o h
        refine k_cV (d' := 1) (pc' := 84) [] [] (c_X8_isFigures (d := 1) (Nat.le_refl _) e3) cw_X7_114 kc_8 w_888 w_889 dX7_readsSides_81 rfl (by omega) rfl rfl (by decide) sk_1 rfl rfl (by decide) (by decide) ?_
        obtain ⟨q3, h⟩ := ck_o h
        refine j_if_ne (tgt := 89) (pc' := 87) dX7_readsSides_84 rfl rfl q3 (fun b3 => ?_) (fun b3 => ?_)
        · replace h := ite_f b3 h
          refine j_iconst (pc' := 90) dX7_readsSides_89 rfl ?_
          refine j_istore_n (pc' := 91) (ls' := [some (mR 93), some (mI x1), some (mI 0), none]) dX7_readsSides_90 rfl (by decide) rfl ?_
          exact j_wk (j_widen (ce := 0) (ke := 0) (by decide) (by decide) (c_X7_readsSides_L91 hd _ h)) (And.intro rfl (And.intro rfl (And.intro rfl trivial)))
        · replace h := ite_t b3 h
          refine j_iconst (pc' := 88) dX7_readsSides_87 rfl ?_
          exact j_zret dX7_readsSides_88 rfl (Or.inl rfl) (by decide) (by decide) (rI_of h)
    · replace h := ite_f b1 h
      refine j_aload_n (pc' := 32) dX7_readsSides_31 rfl rfl ?_
      refine k_getR (pc' := 35) (sl := 2) (r := 94) kc_7 w_359 (Or.inl rfl) (by decide) dX7_readsSides_32 rfl (by decide) sk_93 (by decide) rfl (by decide) ?_
      refine k_getR (pc' := 38) (sl := 3) (r := 97) kc_6 w_83 (Or.inl rfl) (by decide) dX7_readsSides_35 rfl (by decide) sk_94 (by decide) rfl (by decide) ?_
      refine j_iload_n (pc' := 39) dX7_readsSides_38 rfl rfl ?_
      refine j_iconst (pc' := 40) dX7_readsSides_39 rfl ?_
      refine j_imul (pc' := 41) dX7_readsSides_40 rfl ?_
      refine j_iload_n (pc' := 42) dX7_readsSides_41 rfl rfl ?_
      refine j_iadd (pc' := 43) dX7_readsSides_42 rfl ?_
      refine j_aload_n (pc' := 44) dX7_readsSides_43 rfl rfl ?_
      refine k_getR (pc' := 47) (sl := 0) (r := 1) kc_7 w_366 (Or.inr w_367) (by decide) dX7_readsSides_44 rfl (by decide) sk_93 (by decide) rfl (by decide) ?_
      refine j_iload_n (pc' := 48) dX7_readsSides_47 rfl rfl ?_
      obtain ⟨v4, D4, e4, h⟩ := bI_o h
      refine k_cV (d' := 1) (pc' := 51) [mI x2] [mI ((x1 * 5) + x2), mR 97] (c_X8_figureOf (d := 1) (Nat.le_refl _) e4) cw_X7_120 kc_8 w_892 w_893 dX7_readsSides_48 rfl (by omega) rfl rfl (by decide) sk_1 rfl rfl (by decide) (by decide) ?_
      obtain ⟨q4, h⟩ := ck_o h
      refine k_iast (pc' := 52) dX7_readsSides_51 rfl (by decide) sk_97 (by decide) q4.1 q4.2 ?_
      refine j_iinc (pc' := 55) (z' := (x2 + 1)) (ls' := [some (mR 93), some (mI x1), some (mI (x2 + 1)), none]) dX7_readsSides_52 rfl rfl rfl (by decide) rfl ?_
      refine j_goto (tgt := 26) dX7_readsSides_55 rfl ?_
      exact j_wk (j_widen (ce := 0) (ke := 0) (by decide) (by decide) (ih h)) (And.intro rfl (And.intro rfl (And.intro rfl trivial)))
theorem c_X7_readsSides_e {Ω : mO} {d : Nat} (hd : 8 ≤ d) {r : Int × mD} {x1 : Int} {D : mD} (h : F_X7_readsSides x1 D = some r) : J Ω M_X7_readsSides d 0 0 (rI r.1 r.2) 0 [some (mR 93), some (mI x1), none, none] [] (SK, D, false) 0 0 := by
  rw [F_X7_readsSides] at h
  refine j_aload_n (pc' := 1) dX7_readsSides_0 rfl rfl ?_
  refine k_getR (pc' := 4) (sl := 0) (r := 1) kc_7 w_366 (Or.inr w_367) (by decide) dX7_readsSides_1 rfl (by decide) sk_93 (by decide) rfl (by decide) ?_
  refine j_ldcS (pc' := 6) (si := 21) rfl dX7_readsSides_4 rfl ?_
  obtain ⟨v1, D1, e1, h⟩ := bI_o h
  refine k_cV (d' := 7) (pc' := 9) [mR (1000000 + 21)] [] (c_X8_takesWord (d := 7) (Nat.le_refl _) ((by decide)) e1) cw_X7_56 kc_8 w_806 w_807 dX7_readsSides_6 rfl (by omega) rfl rfl (by decide) sk_1 rfl rfl (by decide) (by decide) ?_
  obtain ⟨q1, h⟩ := ck_o h
  refine j_if_eq (tgt := 22) (pc' := 12) dX7_readsSides_9 rfl rfl q1 (fun b1 => ?_) (fun b1 => ?_)
  · replace h := ite_t b1 h
    refine j_iconst (pc' := 23) dX7_readsSides_22 rfl ?_
    exact j_zret dX7_readsSides_23 rfl (Or.inl rfl) (by decide) (by decide) (rI_of h)
  · replace h := ite_f b1 h
    refine j_aload_n (pc' := 13) dX7_readsSides_12 rfl rfl ?_
    refine k_getR (pc' := 16) (sl := 0) (r := 1) kc_7 w_366 (Or.inr w_367) (by decide) dX7_readsSides_13 rfl (by decide) sk_93 (by decide) rfl (by decide) ?_
    obtain ⟨v2, D2, e2, h⟩ := bI_o h
    refine k_cV (d' := 1) (pc' := 19) [] [] (c_X8_isFigures (d := 1) (Nat.le_refl _) e2) cw_X7_114 kc_8 w_888 w_889 dX7_readsSides_16 rfl (by omega) rfl rfl (by decide) sk_1 rfl rfl (by decide) (by decide) ?_
    obtain ⟨q2, h⟩ := ck_o h
    refine j_if_ne (tgt := 24) (pc' := 22) dX7_readsSides_19 rfl rfl q2 (fun b2 => ?_) (fun b2 => ?_)
    · replace h := ite_f b2 h
      refine j_iconst (pc' := 25) dX7_readsSides_24 rfl ?_
      refine j_istore_n (pc' := 26) (ls' := [some (mR 93), some (mI x1), some (mI 0), none]) dX7_readsSides_25 rfl (by decide) rfl ?_
      exact j_wk (j_widen (ce := 0) (ke := 0) (by decide) (by decide) (c_X7_readsSides_L26 hd _ h)) (And.intro rfl (And.intro rfl (And.intro rfl trivial)))
    · replace h := ite_t b2 h
      refine j_iconst (pc' := 23) dX7_readsSides_22 rfl ?_
      exact j_zret dX7_readsSides_23 rfl (Or.inl rfl) (by decide) (by decide) (rI_of h)
theorem c_X7_readsSides {d : Nat} (hd : 8 ≤ d) {x1 : Int} {D D' : mD} {v : Int} (h : F_X7_readsSides x1 D = some (v, D')) : CM d 0 0 M_X7_readsSides [mR 93, mI x1] (SK, D, false) (rI v D') := CM.intro pn_X7 rfl rfl (Nat.le_of_ble_eq_true rfl) (fun _ => c_X7_readsSides_e hd h)
theorem c_X7_sortHere_e {Ω : mO} {d : Nat} (hd : 7 ≤ d) {r : Int × mD} {D : mD} (h : F_X7_sortHere D = some r) : J Ω M_X7_sortHere d 0 0 (rI r.1 r.2) 0 [some (mR 93)] [] (SK, D, false) 0 0 := by
  rw [F_X7_sortHere] at h
  refine j_aload_n (pc' := 1) dX7_sortHere_0 rfl rfl ?_
  refine k_getR (pc' := 4) (sl := 0) (r := 1) kc_7 w_366 (Or.inr w_367) (by decide) dX7_sortHere_1 rfl (by decide) sk_93 (by decide) rfl (by decide) ?_
  refine j_ldcS (pc' := 6) (si := 16) rfl dX7_sortHere_4 rfl ?_
  obtain ⟨v1, D1, e1, h⟩ := bI_o h
  refine k_cV (d' := 6) (pc' := 9) [mR (1000000 + 16)] [] (c_X8_isWord (d := 6) (Nat.le_refl _) ((by decide)) e1) cw_X7_34 kc_8 w_740 w_741 dX7_sortHere_6 rfl (by omega) rfl rfl (by decide) sk_1 rfl rfl (by decide) (by decide) ?_
  obtain ⟨q1, h⟩ := ck_o h
  refine j_if_eq (tgt := 14) (pc' := 12) dX7_sortHere_9 rfl rfl q1 (fun b1 => ?_) (fun b1 => ?_)
  · replace h := ite_t b1 h
    refine j_aload_n (pc' := 15) dX7_sortHere_14 rfl rfl ?_
    refine k_getR (pc' := 18) (sl := 0) (r := 1) kc_7 w_366 (Or.inr w_367) (by decide) dX7_sortHere_15 rfl (by decide) sk_93 (by decide) rfl (by decide) ?_
    refine j_ldcS (pc' := 20) (si := 17) rfl dX7_sortHere_18 rfl ?_
    obtain ⟨v2, D2, e2, h⟩ := bI_o h
    refine k_cV (d' := 6) (pc' := 23) [mR (1000000 + 17)] [] (c_X8_isWord (d := 6) (Nat.le_refl _) ((by decide)) e2) cw_X7_34 kc_8 w_740 w_741 dX7_sortHere_20 rfl (by omega) rfl rfl (by decide) sk_1 rfl rfl (by decide) (by decide) ?_
    obtain ⟨q2, h⟩ := ck_o h
    refine j_if_eq (tgt := 28) (pc' := 26) dX7_sortHere_23 rfl rfl q2 (fun b2 => ?_) (fun b2 => ?_)
    · replace h := ite_t b2 h
      refine j_aload_n (pc' := 29) dX7_sortHere_28 rfl rfl ?_
      refine k_getR (pc' := 32) (sl := 0) (r := 1) kc_7 w_366 (Or.inr w_367) (by decide) dX7_sortHere_29 rfl (by decide) sk_93 (by decide) rfl (by decide) ?_
      refine j_ldcS (pc' := 34) (si := 18) rfl dX7_sortHere_32 rfl ?_
      obtain ⟨v3, D3, e3, h⟩ := bI_o h
      refine k_cV (d' := 6) (pc' := 37) [mR (1000000 + 18)] [] (c_X8_isWord (d := 6) (Nat.le_refl _) ((by decide)) e3) cw_X7_34 kc_8 w_740 w_741 dX7_sortHere_34 rfl (by omega) rfl rfl (by decide) sk_1 rfl rfl (by decide) (by decide) ?_
      obtain ⟨q3, h⟩ := ck_o h
      refine j_if_eq (tgt := 42) (pc' := 40) dX7_sortHere_37 rfl rfl q3 (fun b3 => ?_) (fun b3 => ?_)
      · replace h := ite_t b3 h
        refine j_aload_n (pc' := 43) dX7_sortHere_42 rfl rfl ?_
        refine k_getR (pc' := 46) (sl := 0) (r := 1) kc_7 w_366 (Or.inr w_367) (by decide) dX7_sortHere_43 rfl (by decide) sk_93 (by decide) rfl (by decide) ?_
        refine j_ldcS (pc' := 48) (si := 19) rfl dX7_sortHere_46 rfl ?_
        obtain ⟨v4, D4, e4, h⟩ := bI_o h
        refine k_cV (d' := 6) (pc' := 51) [mR (1000000 + 19)] [] (c_X8_isWord (d := 6) (Nat.le_refl _) ((by decide)) e4) cw_X7_34 kc_8 w_740 w_741 dX7_sortHere_48 rfl (by omega) rfl rfl (by decide) sk_1 rfl rfl (by decide) (by decide) ?_
        obtain ⟨q4, h⟩ := ck_o h
        have hj : J Ω M_X7_sortHere d 0 0 (rI r.1 r.2) 59 [none] [mI (if v4 = 0 then (-1 : Int) else (3 : Int))] (SK, D4, false) 0 0 := by
          exact j_iret dX7_sortHere_59 rfl (by decide) (by decide) (rI_of h)
        refine j_if_eq (tgt := 58) (pc' := 54) dX7_sortHere_51 rfl rfl q4 (fun b4 => ?_) (fun b4 => ?_)
        · refine j_iconst (pc' := 59) dX7_sortHere_58 rfl ?_
          have hj := hj
          try simp only [if_pos b4] at hj
          exact j_wk hj (trivial)
        · refine j_iconst (pc' := 55) dX7_sortHere_54 rfl ?_
          refine j_goto (tgt := 59) dX7_sortHere_55 rfl ?_
          have hj := hj
          try simp only [if_neg b4] at hj
          exact j_wk hj (trivial)
      · replace h := ite_f b3 h
        refine j_iconst (pc' := 41) dX7_sortHere_40 rfl ?_
        exact j_iret dX7_sortHere_41 rfl (by decide) (by decide) (rI_of h)
    · replace h := ite_f b2 h
      refine j_iconst (pc' := 27) dX7_sortHere_26 rfl ?_
      exact j_iret dX7_sortHere_27 rfl (by decide) (by decide) (rI_of h)
  · replace h := ite_f b1 h
    refine j_iconst (pc' := 13) dX7_sortHere_12 rfl ?_
    exact j_iret dX7_sortHere_13 rfl (by decide) (by decide) (rI_of h)
theorem c_X7_sortHere {d : Nat} (hd : 7 ≤ d) {D D' : mD} {v : Int} (h : F_X7_sortHere D = some (v, D')) : CM d 0 0 M_X7_sortHere [mR 93] (SK, D, false) (rI v D') := CM.intro pn_X7 rfl rfl (Nat.le_of_ble_eq_true rfl) (fun _ => c_X7_sortHere_e hd h)
theorem c_X7_readsSign_e {Ω : mO} {d : Nat} (hd : 9 ≤ d) {r : Int × mD} {D : mD} (h : F_X7_readsSign D = some r) : J Ω M_X7_readsSign d 0 0 (rI r.1 r.2) 0 [some (mR 93), none, none, none] [] (SK, D, false) 0 0 := by
  rw [F_X7_readsSign] at h
  refine j_aload_n (pc' := 1) dX7_readsSign_0 rfl rfl ?_
  refine k_getR (pc' := 4) (sl := 2) (r := 94) kc_7 w_359 (Or.inl rfl) (by decide) dX7_readsSign_1 rfl (by decide) sk_93 (by decide) rfl (by decide) ?_
  refine k_getI (pc' := 7) (sl := 0) (z := D 94 0) kc_6 w_72 (by decide) dX7_readsSign_4 rfl (by decide) sk_94 (by decide) rfl rfl ?_
  refine j_istore_n (pc' := 8) (ls' := [some (mR 93), some (mI (D 94 0)), none, none]) dX7_readsSign_7 rfl (by decide) rfl ?_
  refine j_iload_n (pc' := 9) dX7_readsSign_8 rfl rfl ?_
  refine j_bipush (pc' := 11) dX7_readsSign_9 rfl rfl ?_
  obtain ⟨q1, h⟩ := ck_o h
  refine j_icmp_lt (tgt := 16) (pc' := 14) dX7_readsSign_11 rfl rfl q1 (by decide) (fun b1 => ?_) (fun b1 => ?_)
  · replace h := ite_t b1 h
    refine j_aload_n (pc' := 17) dX7_readsSign_16 rfl rfl ?_
    refine k_getR (pc' := 20) (sl := 0) (r := 1) kc_7 w_366 (Or.inr w_367) (by decide) dX7_readsSign_17 rfl (by decide) sk_93 (by decide) rfl (by decide) ?_
    obtain ⟨v1, D1, e1, h⟩ := bI_o h
    refine k_cVv (d' := 2) (pc' := 23) [] [] (c_X8_step (d := 2) (Nat.le_refl _) e1) cw_X7_84 kc_8 w_726 w_727 dX7_readsSign_20 rfl (by omega) rfl rfl (by decide) sk_1 rfl rfl (by decide) (by decide) ?_
    refine j_aload_n (pc' := 24) dX7_readsSign_23 rfl rfl ?_
    obtain ⟨v2, D2, e2, h⟩ := bI_o h
    refine k_cV (d' := 7) (pc' := 27) [] [] (c_X7_sortHere (d := 7) (Nat.le_refl _) e2) cw_X7_87 kc_7 w_871 ws_15 dX7_readsSign_24 rfl (by omega) rfl rfl (by decide) sk_93 rfl rfl (by decide) (by decide) ?_
    refine j_istore_n (pc' := 28) (ls' := [some (mR 93), some (mI (D 94 0)), some (mI v2), none]) dX7_readsSign_27 rfl (by decide) rfl ?_
    refine j_iload_n (pc' := 29) dX7_readsSign_28 rfl rfl ?_
    refine j_iconst (pc' := 30) dX7_readsSign_29 rfl ?_
    obtain ⟨q2, h⟩ := ck_o h
    refine j_icmp_ne (tgt := 35) (pc' := 33) dX7_readsSign_30 rfl rfl q2 (by decide) (fun b2 => ?_) (fun b2 => ?_)
    · replace h := ite_f b2 h
      refine j_aload_n (pc' := 36) dX7_readsSign_35 rfl rfl ?_
      refine k_getR (pc' := 39) (sl := 0) (r := 1) kc_7 w_366 (Or.inr w_367) (by decide) dX7_readsSign_36 rfl (by decide) sk_93 (by decide) rfl (by decide) ?_
      obtain ⟨v3, D3, e3, h⟩ := bI_o h
      refine k_cVv (d' := 2) (pc' := 42) [] [] (c_X8_step (d := 2) (Nat.le_refl _) e3) cw_X7_84 kc_8 w_726 w_727 dX7_readsSign_39 rfl (by omega) rfl rfl (by decide) sk_1 rfl rfl (by decide) (by decide) ?_
      refine j_aload_n (pc' := 43) dX7_readsSign_42 rfl rfl ?_
      refine k_getR (pc' := 46) (sl := 0) (r := 1) kc_7 w_366 (Or.inr w_367) (by decide) dX7_readsSign_43 rfl (by decide) sk_93 (by decide) rfl (by decide) ?_
      refine j_ldcS (pc' := 48) (si := 20) rfl dX7_readsSign_46 rfl ?_
      obtain ⟨v4, D4, e4, h⟩ := bI_o h
      refine k_cV (d' := 7) (pc' := 51) [mR (1000000 + 20)] [] (c_X8_takesWord (d := 7) (Nat.le_refl _) ((by decide)) e4) cw_X7_56 kc_8 w_806 w_807 dX7_readsSign_48 rfl (by omega) rfl rfl (by decide) sk_1 rfl rfl (by decide) (by decide) ?_
      obtain ⟨q3, h⟩ := ck_o h
      refine j_if_ne (tgt := 56) (pc' := 54) dX7_readsSign_51 rfl rfl q3 (fun b3 => ?_) (fun b3 => ?_)
      · replace h := ite_f b3 h
        refine j_aload_n (pc' := 57) dX7_readsSign_56 rfl rfl ?_
        refine j_iconst (pc' := 58) dX7_readsSign_57 rfl ?_
        refine j_bipush (pc' := 60) dX7_readsSign_58 rfl rfl ?_
        obtain ⟨v5, D5, e5, h⟩ := bI_o h
        refine k_cU (d' := 3) (pc' := 63) [mI 2, mI 12] [] (c_X9_readNumber_S (d := 3) (Nat.le_refl _) e5) cu_X7_64_S kc_7 dX7_readsSign_60 rfl (by omega) rfl rfl (by decide) sk_93 rfl rfl (by decide) (by decide) ?_
        refine j_istore_n (pc' := 64) (ls' := [some (mR 93), some (mI (D 94 0)), some (mI v2), some (mI v5)]) dX7_readsSign_63 rfl (by decide) rfl ?_
        refine j_iload_n (pc' := 65) dX7_readsSign_64 rfl rfl ?_
        refine j_iconst (pc' := 66) dX7_readsSign_65 rfl ?_
        obtain ⟨q4, h⟩ := ck_o h
        refine j_icmp_ne (tgt := 71) (pc' := 69) dX7_readsSign_66 rfl rfl q4 (by decide) (fun b4 => ?_) (fun b4 => ?_)
        · replace h := ite_f b4 h
          refine j_aload_n (pc' := 72) dX7_readsSign_71 rfl rfl ?_
          refine k_getR (pc' := 75) (sl := 2) (r := 94) kc_7 w_359 (Or.inl rfl) (by decide) dX7_readsSign_72 rfl (by decide) sk_93 (by decide) rfl (by decide) ?_
          refine k_getR (pc' := 78) (sl := 1) (r := 95) kc_6 w_75 (Or.inl rfl) (by decide) dX7_readsSign_75 rfl (by decide) sk_94 (by decide) rfl (by decide) ?_
          refine j_iload_n (pc' := 79) dX7_readsSign_78 rfl rfl ?_
          refine j_iload_n (pc' := 80) dX7_readsSign_79 rfl rfl ?_
          obtain ⟨q5, h⟩ := ck_o h
          refine k_iast (pc' := 81) dX7_readsSign_80 rfl (by decide) sk_95 (by decide) q5.1 q5.2 ?_
          refine j_aload_n (pc' := 82) dX7_readsSign_81 rfl rfl ?_
          refine k_getR (pc' := 85) (sl := 2) (r := 94) kc_7 w_359 (Or.inl rfl) (by decide) dX7_readsSign_82 rfl (by decide) sk_93 (by decide) rfl (by decide) ?_
          refine k_getR (pc' := 88) (sl := 2) (r := 96) kc_6 w_80 (Or.inl rfl) (by decide) dX7_readsSign_85 rfl (by decide) sk_94 (by decide) rfl (by decide) ?_
          refine j_iload_n (pc' := 89) dX7_readsSign_88 rfl rfl ?_
          refine j_iload_n (pc' := 90) dX7_readsSign_89 rfl rfl ?_
          refine k_iast (pc' := 91) dX7_readsSign_90 rfl (by decide) sk_96 (by decide) q5.1 q5.2 ?_
          refine j_aload_n (pc' := 92) dX7_readsSign_91 rfl rfl ?_
          refine j_iload_n (pc' := 93) dX7_readsSign_92 rfl rfl ?_
          obtain ⟨v6, D6, e6, h⟩ := bI_o h
          refine k_cV (d' := 8) (pc' := 96) [mI (D 94 0)] [] (c_X7_readsSides (d := 8) (Nat.le_refl _) e6) cw_X7_100 kc_7 w_884 ws_16 dX7_readsSign_93 rfl (by omega) rfl rfl (by decide) sk_93 rfl rfl (by decide) (by decide) ?_
          obtain ⟨q6, h⟩ := ck_o h
          refine j_if_ne (tgt := 101) (pc' := 99) dX7_readsSign_96 rfl rfl q6 (fun b5 => ?_) (fun b5 => ?_)
          · replace h := ite_f b5 h
            refine j_aload_n (pc' := 102) dX7_readsSign_101 rfl rfl ?_
            refine k_getR (pc' := 105) (sl := 2) (r := 94) kc_7 w_359 (Or.inl rfl) (by decide) dX7_readsSign_102 rfl (by decide) sk_93 (by decide) rfl (by decide) ?_
            refine j_dup (pc' := 106) dX7_readsSign_105 rfl rfl ?_
            refine k_getI (pc' := 109) (sl := 0) (z := D6 94 0) kc_6 w_72 (by decide) dX7_readsSign_106 rfl (by decide) sk_94 (by decide) rfl rfl ?_
            refine j_iconst (pc' := 110) dX7_readsSign_109 rfl ?_
            refine j_iadd (pc' := 111) dX7_readsSign_110 rfl ?_
            refine k_putI (pc' := 114) (sl := 0) (i' := 0) kc_6 w_72 (by decide) (Or.inl rfl) dX7_readsSign_111 rfl (by decide) sk_94 (by decide) ⟨rfl, rfl⟩ rfl ?_
            refine j_iconst (pc' := 115) dX7_readsSign_114 rfl ?_
            exact j_zret dX7_readsSign_115 rfl (Or.inr rfl) (by decide) (by decide) (rI_of h)
          · replace h := ite_t b5 h
            refine j_iconst (pc' := 100) dX7_readsSign_99 rfl ?_
            exact j_zret dX7_readsSign_100 rfl (Or.inl rfl) (by decide) (by decide) (rI_of h)
        · replace h := ite_t b4 h
          refine j_iconst (pc' := 70) dX7_readsSign_69 rfl ?_
          exact j_zret dX7_readsSign_70 rfl (Or.inl rfl) (by decide) (by decide) (rI_of h)
      · replace h := ite_t b3 h
        refine j_iconst (pc' := 55) dX7_readsSign_54 rfl ?_
        exact j_zret dX7_readsSign_55 rfl (Or.inl rfl) (by decide) (by decide) (rI_of h)
    · replace h := ite_t b2 h
      refine j_iconst (pc' := 34) dX7_readsSign_33 rfl ?_
      exact j_zret dX7_readsSign_34 rfl (Or.inl rfl) (by decide) (by decide) (rI_of h)
  · replace h := ite_f b1 h
    refine j_iconst (pc' := 15) dX7_readsSign_14 rfl ?_
    exact j_zret dX7_readsSign_15 rfl (Or.inl rfl) (by decide) (by decide) (rI_of h)
theorem c_X7_readsSign {d : Nat} (hd : 9 ≤ d) {D D' : mD} {v : Int} (h : F_X7_readsSign D = some (v, D')) : CM d 0 0 M_X7_readsSign [mR 93] (SK, D, false) (rI v D') := CM.intro pn_X7 rfl rfl (Nat.le_of_ble_eq_true rfl) (fun _ => c_X7_readsSign_e hd h)
theorem c_X7_readsWord_L15 {Ω : mO} {d : Nat} (hd : 4 ≤ d) {r : Int × mD} : ∀ (n : Nat) {x1 : Int} {D : mD}, F_X7_readsWord_L15 n x1 D = some r → J Ω M_X7_readsWord d 0 0 (rI r.1 r.2) 15 [some (mR 93), some (mI x1), none] [] (SK, D, false) 0 0 := by
  intro n
  induction n with
  | zero => intro x1 D h; exact absurd (show (none : Option (Int × mD)) = some r from h) nofun
  | succ n ih =>
    intro x1 D h
    rw [F_X7_readsWord_L15] at h
    refine j_iload_n (pc' := 16) dX7_readsWord_15 rfl rfl ?_
    refine j_bipush (pc' := 18) dX7_readsWord_16 rfl rfl ?_
    obtain ⟨q1, h⟩ := ck_o h
    refine j_icmp_ge (tgt := 85) (pc' := 21) dX7_readsWord_18 rfl rfl q1 (by decide) (fun b1 => ?_) (fun b1 => ?_)
    · replace h := ite_t b1 h
      refine j_iconst (pc' := 86) dX7_readsWord_85 rfl ?_
      exact j_zret dX7_readsWord_86 rfl (Or.inl rfl) (by decide) (by decide) (rI_of h)
    · replace h := ite_f b1 h
      refine j_aload_n (pc' := 22) dX7_readsWord_21 rfl rfl ?_
      refine j_iconst (pc' := 23) dX7_readsWord_22 rfl ?_
      refine j_aload_n (pc' := 24) dX7_readsWord_23 rfl rfl ?_
      refine k_getR (pc' := 27) (sl := 2) (r := 94) kc_7 w_359 (Or.inl rfl) (by decide) dX7_readsWord_24 rfl (by decide) sk_93 (by decide) rfl (by decide) ?_
      refine k_getI (pc' := 30) (sl := 0) (z := D 94 0) kc_6 w_72 (by decide) dX7_readsWord_27 rfl (by decide) sk_94 (by decide) rfl rfl ?_
      refine j_iconst (pc' := 31) dX7_readsWord_30 rfl ?_
      refine j_isub (pc' := 32) dX7_readsWord_31 rfl ?_
      obtain ⟨v1, D1, e1, h⟩ := bI_o h
      refine k_cU (d' := 3) (pc' := 35) [mI 0, mI ((D 94 0) - 1)] [] (c_X9_readNumber_S (d := 3) (Nat.le_refl _) e1) cu_X7_64_S kc_7 dX7_readsWord_32 rfl (by omega) rfl rfl (by decide) sk_93 rfl rfl (by decide) (by decide) ?_
      refine j_istore_n (pc' := 36) (ls' := [some (mR 93), some (mI x1), some (mI v1)]) dX7_readsWord_35 rfl (by decide) rfl ?_
      refine j_iload_n (pc' := 37) dX7_readsWord_36 rfl rfl ?_
      refine j_iconst (pc' := 38) dX7_readsWord_37 rfl ?_
      obtain ⟨q2, h⟩ := ck_o h
      refine j_icmp_ne (tgt := 43) (pc' := 41) dX7_readsWord_38 rfl rfl q2 (by decide) (fun b2 => ?_) (fun b2 => ?_)
      · replace h := ite_f b2 h
        refine j_aload_n (pc' := 44) dX7_readsWord_43 rfl rfl ?_
        refine k_getR (pc' := 47) (sl := 2) (r := 94) kc_7 w_359 (Or.inl rfl) (by decide) dX7_readsWord_44 rfl (by decide) sk_93 (by decide) rfl (by decide) ?_
        refine k_getR (pc' := 50) (sl := 6) (r := 99) kc_6 w_95 (Or.inl rfl) (by decide) dX7_readsWord_47 rfl (by decide) sk_94 (by decide) rfl (by decide) ?_
        refine j_iload_n (pc' := 51) dX7_readsWord_50 rfl rfl ?_
        refine j_iload_n (pc' := 52) dX7_readsWord_51 rfl rfl ?_
        obtain ⟨q3, h⟩ := ck_o h
        refine k_iast (pc' := 53) dX7_readsWord_52 rfl (by decide) sk_99 (by decide) q3.1 q3.2 ?_
        refine j_aload_n (pc' := 54) dX7_readsWord_53 rfl rfl ?_
        refine k_getR (pc' := 57) (sl := 2) (r := 94) kc_7 w_359 (Or.inl rfl) (by decide) dX7_readsWord_54 rfl (by decide) sk_93 (by decide) rfl (by decide) ?_
        refine j_dup (pc' := 58) dX7_readsWord_57 rfl rfl ?_
        refine k_getI (pc' := 61) (sl := 5) (z := (pD D1 99 x1 v1) 94 5) kc_6 w_90 (by decide) dX7_readsWord_58 rfl (by decide) sk_94 (by decide) rfl rfl ?_
        refine j_iconst (pc' := 62) dX7_readsWord_61 rfl ?_
        refine j_iadd (pc' := 63) dX7_readsWord_62 rfl ?_
        refine k_putI (pc' := 66) (sl := 5) (i' := 5) kc_6 w_90 (by decide) (Or.inl rfl) dX7_readsWord_63 rfl (by decide) sk_94 (by decide) ⟨rfl, rfl⟩ rfl ?_
        refine j_aload_n (pc' := 67) dX7_readsWord_66 rfl rfl ?_
        refine k_getR (pc' := 70) (sl := 0) (r := 1) kc_7 w_366 (Or.inr w_367) (by decide) dX7_readsWord_67 rfl (by decide) sk_93 (by decide) rfl (by decide) ?_
        refine k_getI (pc' := 73) (sl := 2) (z := (pD (pD D1 99 x1 v1) 94 5 (((pD D1 99 x1 v1) 94 5) + 1)) 1 2) kc_8 w_49 (by decide) dX7_readsWord_70 rfl (by decide) sk_1 (by decide) rfl rfl ?_
        refine j_iconst (pc' := 74) dX7_readsWord_73 rfl ?_
        obtain ⟨q4, h⟩ := ck_o h
        refine j_icmp_eq (tgt := 79) (pc' := 77) dX7_readsWord_74 rfl rfl q4 (by decide) (fun b3 => ?_) (fun b3 => ?_)
        · replace h := ite_t b3 h
          refine j_iinc (pc' := 82) (z' := (x1 + 1)) (ls' := [some (mR 93), some (mI (x1 + 1)), some (mI v1)]) dX7_readsWord_79 rfl rfl rfl (by decide) rfl ?_
          refine j_goto (tgt := 15) dX7_readsWord_82 rfl ?_
          exact j_wk (j_widen (ce := 0) (ke := 0) (by decide) (by decide) (ih h)) (And.intro rfl (And.intro rfl trivial))
        · replace h := ite_f b3 h
          refine j_iconst (pc' := 78) dX7_readsWord_77 rfl ?_
          exact j_zret dX7_readsWord_78 rfl (Or.inr rfl) (by decide) (by decide) (rI_of h)
      · replace h := ite_t b2 h
        refine j_iconst (pc' := 42) dX7_readsWord_41 rfl ?_
        exact j_zret dX7_readsWord_42 rfl (Or.inl rfl) (by decide) (by decide) (rI_of h)
theorem c_X7_readsWord_e {Ω : mO} {d : Nat} (hd : 4 ≤ d) {r : Int × mD} {D : mD} (h : F_X7_readsWord D = some r) : J Ω M_X7_readsWord d 0 0 (rI r.1 r.2) 0 [some (mR 93), none, none] [] (SK, D, false) 0 0 := by
  rw [F_X7_readsWord] at h
  refine j_aload_n (pc' := 1) dX7_readsWord_0 rfl rfl ?_
  refine j_iconst (pc' := 2) dX7_readsWord_1 rfl ?_
  refine k_putI (pc' := 5) (sl := 3) (i' := 3) kc_7 w_361 (by decide) (Or.inr ⟨rfl, Or.inr rfl⟩) dX7_readsWord_2 rfl (by decide) sk_93 (by decide) ⟨rfl, rfl⟩ rfl ?_
  refine j_aload_n (pc' := 6) dX7_readsWord_5 rfl rfl ?_
  refine k_getR (pc' := 9) (sl := 2) (r := 94) kc_7 w_359 (Or.inl rfl) (by decide) dX7_readsWord_6 rfl (by decide) sk_93 (by decide) rfl (by decide) ?_
  refine j_iconst (pc' := 10) dX7_readsWord_9 rfl ?_
  refine k_putI (pc' := 13) (sl := 5) (i' := 5) kc_6 w_90 (by decide) (Or.inl rfl) dX7_readsWord_10 rfl (by decide) sk_94 (by decide) ⟨rfl, rfl⟩ rfl ?_
  refine j_iconst (pc' := 14) dX7_readsWord_13 rfl ?_
  refine j_istore_n (pc' := 15) (ls' := [some (mR 93), some (mI 0), none]) dX7_readsWord_14 rfl (by decide) rfl ?_
  exact j_wk (j_widen (ce := 0) (ke := 0) (by decide) (by decide) (c_X7_readsWord_L15 hd _ h)) (And.intro rfl (And.intro rfl trivial))
theorem c_X7_readsWord {d : Nat} (hd : 4 ≤ d) {D D' : mD} {v : Int} (h : F_X7_readsWord D = some (v, D')) : CM d 0 0 M_X7_readsWord [mR 93] (SK, D, false) (rI v D') := CM.intro pn_X7 rfl rfl (Nat.le_of_ble_eq_true rfl) (fun _ => c_X7_readsWord_e hd h)
theorem c_X7_readsWriter_e {Ω : mO} {d : Nat} (hd : 8 ≤ d) {r : Int × mD} {D : mD} (h : F_X7_readsWriter D = some r) : J Ω M_X7_readsWriter d 0 0 (rI r.1 r.2) 0 [some (mR 93), none] [] (SK, D, false) 0 0 := by
  rw [F_X7_readsWriter] at h
  refine j_aload_n (pc' := 1) dX7_readsWriter_0 rfl rfl ?_
  refine k_getR (pc' := 4) (sl := 2) (r := 94) kc_7 w_359 (Or.inl rfl) (by decide) dX7_readsWriter_1 rfl (by decide) sk_93 (by decide) rfl (by decide) ?_
  refine k_getI (pc' := 7) (sl := 11) (z := D 94 11) kc_6 w_114 (by decide) dX7_readsWriter_4 rfl (by decide) sk_94 (by decide) rfl rfl ?_
  refine j_istore_n (pc' := 8) (ls' := [some (mR 93), some (mI (D 94 11))]) dX7_readsWriter_7 rfl (by decide) rfl ?_
  refine j_iload_n (pc' := 9) dX7_readsWriter_8 rfl rfl ?_
  refine j_bipush (pc' := 11) dX7_readsWriter_9 rfl rfl ?_
  obtain ⟨q1, h⟩ := ck_o h
  refine j_icmp_lt (tgt := 16) (pc' := 14) dX7_readsWriter_11 rfl rfl q1 (by decide) (fun b1 => ?_) (fun b1 => ?_)
  · replace h := ite_t b1 h
    refine j_aload_n (pc' := 17) dX7_readsWriter_16 rfl rfl ?_
    refine k_getR (pc' := 20) (sl := 0) (r := 1) kc_7 w_366 (Or.inr w_367) (by decide) dX7_readsWriter_17 rfl (by decide) sk_93 (by decide) rfl (by decide) ?_
    obtain ⟨v1, D1, e1, h⟩ := bI_o h
    refine k_cVv (d' := 2) (pc' := 23) [] [] (c_X8_step (d := 2) (Nat.le_refl _) e1) cw_X7_84 kc_8 w_726 w_727 dX7_readsWriter_20 rfl (by omega) rfl rfl (by decide) sk_1 rfl rfl (by decide) (by decide) ?_
    refine j_aload_n (pc' := 24) dX7_readsWriter_23 rfl rfl ?_
    refine k_getR (pc' := 27) (sl := 0) (r := 1) kc_7 w_366 (Or.inr w_367) (by decide) dX7_readsWriter_24 rfl (by decide) sk_93 (by decide) rfl (by decide) ?_
    refine j_ldcS (pc' := 29) (si := 24) rfl dX7_readsWriter_27 rfl ?_
    obtain ⟨v2, D2, e2, h⟩ := bI_o h
    refine k_cV (d' := 7) (pc' := 32) [mR (1000000 + 24)] [] (c_X8_takesWord (d := 7) (Nat.le_refl _) ((by decide)) e2) cw_X7_56 kc_8 w_806 w_807 dX7_readsWriter_29 rfl (by omega) rfl rfl (by decide) sk_1 rfl rfl (by decide) (by decide) ?_
    obtain ⟨q2, h⟩ := ck_o h
    refine j_if_ne (tgt := 37) (pc' := 35) dX7_readsWriter_32 rfl rfl q2 (fun b2 => ?_) (fun b2 => ?_)
    · replace h := ite_f b2 h
      refine j_aload_n (pc' := 38) dX7_readsWriter_37 rfl rfl ?_
      refine k_getR (pc' := 41) (sl := 2) (r := 94) kc_7 w_359 (Or.inl rfl) (by decide) dX7_readsWriter_38 rfl (by decide) sk_93 (by decide) rfl (by decide) ?_
      refine k_getR (pc' := 44) (sl := 12) (r := 100) kc_6 w_117 (Or.inl rfl) (by decide) dX7_readsWriter_41 rfl (by decide) sk_94 (by decide) rfl (by decide) ?_
      refine j_iload_n (pc' := 45) dX7_readsWriter_44 rfl rfl ?_
      refine j_aload_n (pc' := 46) dX7_readsWriter_45 rfl rfl ?_
      refine j_iconst (pc' := 47) dX7_readsWriter_46 rfl ?_
      refine j_sipush (pc' := 50) dX7_readsWriter_47 rfl rfl ?_
      obtain ⟨v3, D3, e3, h⟩ := bI_o h
      refine k_cU (d' := 3) (pc' := 53) [mI 0, mI 999] [mI (D 94 11), mR 100] (c_X9_readNumber_S (d := 3) (Nat.le_refl _) e3) cu_X7_64_S kc_7 dX7_readsWriter_50 rfl (by omega) rfl rfl (by decide) sk_93 rfl rfl (by decide) (by decide) ?_
      obtain ⟨q3, h⟩ := ck_o h
      refine k_iast (pc' := 54) dX7_readsWriter_53 rfl (by decide) sk_100 (by decide) q3.1 q3.2 ?_
      refine j_aload_n (pc' := 55) dX7_readsWriter_54 rfl rfl ?_
      refine k_getR (pc' := 58) (sl := 2) (r := 94) kc_7 w_359 (Or.inl rfl) (by decide) dX7_readsWriter_55 rfl (by decide) sk_93 (by decide) rfl (by decide) ?_
      refine k_getR (pc' := 61) (sl := 12) (r := 100) kc_6 w_117 (Or.inl rfl) (by decide) dX7_readsWriter_58 rfl (by decide) sk_94 (by decide) rfl (by decide) ?_
      refine j_iload_n (pc' := 62) dX7_readsWriter_61 rfl rfl ?_
      refine k_iald (pc' := 63) (z := (pD D3 100 (D 94 11) v3) 100 (D 94 11)) dX7_readsWriter_62 rfl (by decide) sk_100 (by decide) q3.1 q3.2 rfl ?_
      refine j_iconst (pc' := 64) dX7_readsWriter_63 rfl ?_
      obtain ⟨q4, h⟩ := ck_o h
      refine j_icmp_eq (tgt := 79) (pc' := 67) dX7_readsWriter_64 rfl rfl q4 (by decide) (fun b3 => ?_) (fun b3 => ?_)
      · replace h := ite_t b3 h
        refine j_iconst (pc' := 80) dX7_readsWriter_79 rfl ?_
        exact j_zret dX7_readsWriter_80 rfl (Or.inl rfl) (by decide) (by decide) (rI_of h)
      · replace h := ite_f b3 h
        refine j_aload_n (pc' := 68) dX7_readsWriter_67 rfl rfl ?_
        refine k_getR (pc' := 71) (sl := 0) (r := 1) kc_7 w_366 (Or.inr w_367) (by decide) dX7_readsWriter_68 rfl (by decide) sk_93 (by decide) rfl (by decide) ?_
        refine j_ldcS (pc' := 73) (si := 25) rfl dX7_readsWriter_71 rfl ?_
        obtain ⟨v4, D4, e4, h⟩ := bI_o h
        refine k_cV (d' := 7) (pc' := 76) [mR (1000000 + 25)] [] (c_X8_takesWord (d := 7) (Nat.le_refl _) ((by decide)) e4) cw_X7_56 kc_8 w_806 w_807 dX7_readsWriter_73 rfl (by omega) rfl rfl (by decide) sk_1 rfl rfl (by decide) (by decide) ?_
        obtain ⟨q5, h⟩ := ck_o h
        refine j_if_ne (tgt := 81) (pc' := 79) dX7_readsWriter_76 rfl rfl q5 (fun b4 => ?_) (fun b4 => ?_)
        · replace h := ite_f b4 h
          refine j_aload_n (pc' := 82) dX7_readsWriter_81 rfl rfl ?_
          refine k_getR (pc' := 85) (sl := 2) (r := 94) kc_7 w_359 (Or.inl rfl) (by decide) dX7_readsWriter_82 rfl (by decide) sk_93 (by decide) rfl (by decide) ?_
          refine k_getR (pc' := 88) (sl := 13) (r := 101) kc_6 w_120 (Or.inl rfl) (by decide) dX7_readsWriter_85 rfl (by decide) sk_94 (by decide) rfl (by decide) ?_
          refine j_iload_n (pc' := 89) dX7_readsWriter_88 rfl rfl ?_
          refine j_aload_n (pc' := 90) dX7_readsWriter_89 rfl rfl ?_
          refine j_iconst (pc' := 91) dX7_readsWriter_90 rfl ?_
          refine j_bipush (pc' := 93) dX7_readsWriter_91 rfl rfl ?_
          obtain ⟨v5, D5, e5, h⟩ := bI_o h
          refine k_cU (d' := 3) (pc' := 96) [mI 0, mI 100] [mI (D 94 11), mR 101] (c_X9_readNumber_S (d := 3) (Nat.le_refl _) e5) cu_X7_64_S kc_7 dX7_readsWriter_93 rfl (by omega) rfl rfl (by decide) sk_93 rfl rfl (by decide) (by decide) ?_
          refine k_iast (pc' := 97) dX7_readsWriter_96 rfl (by decide) sk_101 (by decide) q3.1 q3.2 ?_
          refine j_aload_n (pc' := 98) dX7_readsWriter_97 rfl rfl ?_
          refine k_getR (pc' := 101) (sl := 2) (r := 94) kc_7 w_359 (Or.inl rfl) (by decide) dX7_readsWriter_98 rfl (by decide) sk_93 (by decide) rfl (by decide) ?_
          refine j_dup (pc' := 102) dX7_readsWriter_101 rfl rfl ?_
          refine k_getI (pc' := 105) (sl := 11) (z := (pD D5 101 (D 94 11) v5) 94 11) kc_6 w_114 (by decide) dX7_readsWriter_102 rfl (by decide) sk_94 (by decide) rfl rfl ?_
          refine j_iconst (pc' := 106) dX7_readsWriter_105 rfl ?_
          refine j_iadd (pc' := 107) dX7_readsWriter_106 rfl ?_
          refine k_putI (pc' := 110) (sl := 11) (i' := 11) kc_6 w_114 (by decide) (Or.inl rfl) dX7_readsWriter_107 rfl (by decide) sk_94 (by decide) ⟨rfl, rfl⟩ rfl ?_
          refine j_aload_n (pc' := 111) dX7_readsWriter_110 rfl rfl ?_
          refine k_getR (pc' := 114) (sl := 2) (r := 94) kc_7 w_359 (Or.inl rfl) (by decide) dX7_readsWriter_111 rfl (by decide) sk_93 (by decide) rfl (by decide) ?_
          refine k_getR (pc' := 117) (sl := 13) (r := 101) kc_6 w_120 (Or.inl rfl) (by decide) dX7_readsWriter_114 rfl (by decide) sk_94 (by decide) rfl (by decide) ?_
          refine j_iload_n (pc' := 118) dX7_readsWriter_117 rfl rfl ?_
          refine k_iald (pc' := 119) (z := (pD (pD D5 101 (D 94 11) v5) 94 11 (((pD D5 101 (D 94 11) v5) 94 11) + 1)) 101 (D 94 11)) dX7_readsWriter_118 rfl (by decide) sk_101 (by decide) q3.1 q3.2 rfl ?_
          refine j_iconst (pc' := 120) dX7_readsWriter_119 rfl ?_
          obtain ⟨q6, h⟩ := ck_o h
          have hj : J Ω M_X7_readsWriter d 0 0 (rI r.1 r.2) 128 [none, none] [mI (if ((pD (pD D5 101 (D 94 11) v5) 94 11 (((pD D5 101 (D 94 11) v5) 94 11) + 1)) 101 (D 94 11)) = (-1) then (0 : Int) else (1 : Int))] (SK, (pD (pD D5 101 (D 94 11) v5) 94 11 (((pD D5 101 (D 94 11) v5) 94 11) + 1)), false) 0 0 := by
            obtain ⟨q7, h⟩ := ck_o h
            exact j_zret dX7_readsWriter_128 rfl q7 (by decide) (by decide) (rI_of h)
          refine j_icmp_eq (tgt := 127) (pc' := 123) dX7_readsWriter_120 rfl rfl q6 (by decide) (fun b5 => ?_) (fun b5 => ?_)
          · refine j_iconst (pc' := 128) dX7_readsWriter_127 rfl ?_
            have hj := hj
            try simp only [if_pos b5] at hj
            exact j_wk hj (trivial)
          · refine j_iconst (pc' := 124) dX7_readsWriter_123 rfl ?_
            refine j_goto (tgt := 128) dX7_readsWriter_124 rfl ?_
            have hj := hj
            try simp only [if_neg b5] at hj
            exact j_wk hj (trivial)
        · replace h := ite_t b4 h
          refine j_iconst (pc' := 80) dX7_readsWriter_79 rfl ?_
          exact j_zret dX7_readsWriter_80 rfl (Or.inl rfl) (by decide) (by decide) (rI_of h)
    · replace h := ite_t b2 h
      refine j_iconst (pc' := 36) dX7_readsWriter_35 rfl ?_
      exact j_zret dX7_readsWriter_36 rfl (Or.inl rfl) (by decide) (by decide) (rI_of h)
  · replace h := ite_f b1 h
    refine j_iconst (pc' := 15) dX7_readsWriter_14 rfl ?_
    exact j_zret dX7_readsWriter_15 rfl (Or.inl rfl) (by decide) (by decide) (rI_of h)
theorem c_X7_readsWriter {d : Nat} (hd : 8 ≤ d) {D D' : mD} {v : Int} (h : F_X7_readsWriter D = some (v, D')) : CM d 0 0 M_X7_readsWriter [mR 93] (SK, D, false) (rI v D') := CM.intro pn_X7 rfl rfl (Nat.le_of_ble_eq_true rfl) (fun _ => c_X7_readsWriter_e hd h)
theorem c_X7_readsLine_e {Ω : mO} {d : Nat} (hd : 10 ≤ d) {r : Int × mD} {D : mD} (h : F_X7_readsLine D = some r) : J Ω M_X7_readsLine d 0 0 (rI r.1 r.2) 0 [some (mR 93)] [] (SK, D, false) 0 0 := by
  rw [F_X7_readsLine] at h
  refine j_aload_n (pc' := 1) dX7_readsLine_0 rfl rfl ?_
  refine k_getR (pc' := 4) (sl := 0) (r := 1) kc_7 w_366 (Or.inr w_367) (by decide) dX7_readsLine_1 rfl (by decide) sk_93 (by decide) rfl (by decide) ?_
  refine j_ldcS (pc' := 6) (si := 15) rfl dX7_readsLine_4 rfl ?_
  obtain ⟨v1, D1, e1, h⟩ := bI_o h
  refine k_cV (d' := 6) (pc' := 9) [mR (1000000 + 15)] [] (c_X8_isWord (d := 6) (Nat.le_refl _) ((by decide)) e1) cw_X7_34 kc_8 w_740 w_741 dX7_readsLine_6 rfl (by omega) rfl rfl (by decide) sk_1 rfl rfl (by decide) (by decide) ?_
  obtain ⟨q1, h⟩ := ck_o h
  refine j_if_eq (tgt := 17) (pc' := 12) dX7_readsLine_9 rfl rfl q1 (fun b1 => ?_) (fun b1 => ?_)
  · replace h := ite_t b1 h
    refine j_aload_n (pc' := 18) dX7_readsLine_17 rfl rfl ?_
    refine k_getR (pc' := 21) (sl := 0) (r := 1) kc_7 w_366 (Or.inr w_367) (by decide) dX7_readsLine_18 rfl (by decide) sk_93 (by decide) rfl (by decide) ?_
    refine j_ldcS (pc' := 23) (si := 23) rfl dX7_readsLine_21 rfl ?_
    obtain ⟨v2, D2, e2, h⟩ := bI_o h
    refine k_cV (d' := 6) (pc' := 26) [mR (1000000 + 23)] [] (c_X8_isWord (d := 6) (Nat.le_refl _) ((by decide)) e2) cw_X7_34 kc_8 w_740 w_741 dX7_readsLine_23 rfl (by omega) rfl rfl (by decide) sk_1 rfl rfl (by decide) (by decide) ?_
    obtain ⟨q2, h⟩ := ck_o h
    refine j_if_eq (tgt := 34) (pc' := 29) dX7_readsLine_26 rfl rfl q2 (fun b2 => ?_) (fun b2 => ?_)
    · replace h := ite_t b2 h
      refine j_aload_n (pc' := 35) dX7_readsLine_34 rfl rfl ?_
      refine k_getR (pc' := 38) (sl := 0) (r := 1) kc_7 w_366 (Or.inr w_367) (by decide) dX7_readsLine_35 rfl (by decide) sk_93 (by decide) rfl (by decide) ?_
      refine j_ldcS (pc' := 40) (si := 26) rfl dX7_readsLine_38 rfl ?_
      obtain ⟨v3, D3, e3, h⟩ := bI_o h
      refine k_cV (d' := 6) (pc' := 43) [mR (1000000 + 26)] [] (c_X8_isWord (d := 6) (Nat.le_refl _) ((by decide)) e3) cw_X7_34 kc_8 w_740 w_741 dX7_readsLine_40 rfl (by omega) rfl rfl (by decide) sk_1 rfl rfl (by decide) (by decide) ?_
      obtain ⟨q3, h⟩ := ck_o h
      refine j_if_eq (tgt := 51) (pc' := 46) dX7_readsLine_43 rfl rfl q3 (fun b3 => ?_) (fun b3 => ?_)
      · replace h := ite_t b3 h
        refine j_aload_n (pc' := 52) dX7_readsLine_51 rfl rfl ?_
        refine k_getR (pc' := 55) (sl := 0) (r := 1) kc_7 w_366 (Or.inr w_367) (by decide) dX7_readsLine_52 rfl (by decide) sk_93 (by decide) rfl (by decide) ?_
        refine j_ldcS (pc' := 57) (si := 27) rfl dX7_readsLine_55 rfl ?_
        obtain ⟨v4, D4, e4, h⟩ := bI_o h
        refine k_cV (d' := 7) (pc' := 60) [mR (1000000 + 27)] [] (c_X8_takesWord (d := 7) (Nat.le_refl _) ((by decide)) e4) cw_X7_56 kc_8 w_806 w_807 dX7_readsLine_57 rfl (by omega) rfl rfl (by decide) sk_1 rfl rfl (by decide) (by decide) ?_
        obtain ⟨q4, h⟩ := ck_o h
        refine j_if_eq (tgt := 68) (pc' := 63) dX7_readsLine_60 rfl rfl q4 (fun b4 => ?_) (fun b4 => ?_)
        · replace h := ite_t b4 h
          refine j_aload_n (pc' := 69) dX7_readsLine_68 rfl rfl ?_
          refine k_getR (pc' := 72) (sl := 0) (r := 1) kc_7 w_366 (Or.inr w_367) (by decide) dX7_readsLine_69 rfl (by decide) sk_93 (by decide) rfl (by decide) ?_
          refine j_ldcS (pc' := 74) (si := 29) rfl dX7_readsLine_72 rfl ?_
          obtain ⟨v5, D5, e5, h⟩ := bI_o h
          refine k_cV (d' := 7) (pc' := 77) [mR (1000000 + 29)] [] (c_X8_takesWord (d := 7) (Nat.le_refl _) ((by decide)) e5) cw_X7_56 kc_8 w_806 w_807 dX7_readsLine_74 rfl (by omega) rfl rfl (by decide) sk_1 rfl rfl (by decide) (by decide) ?_
          obtain ⟨q5, h⟩ := ck_o h
          refine j_if_eq (tgt := 111) (pc' := 80) dX7_readsLine_77 rfl rfl q5 (fun b5 => ?_) (fun b5 => ?_)
          · replace h := ite_t b5 h
            refine j_aload_n (pc' := 112) dX7_readsLine_111 rfl rfl ?_
            refine k_getR (pc' := 115) (sl := 0) (r := 1) kc_7 w_366 (Or.inr w_367) (by decide) dX7_readsLine_112 rfl (by decide) sk_93 (by decide) rfl (by decide) ?_
            refine j_ldcS (pc' := 117) (si := 30) rfl dX7_readsLine_115 rfl ?_
            obtain ⟨v6, D6, e6, h⟩ := bI_o h
            refine k_cV (d' := 7) (pc' := 120) [mR (1000000 + 30)] [] (c_X8_takesWord (d := 7) (Nat.le_refl _) ((by decide)) e6) cw_X7_56 kc_8 w_806 w_807 dX7_readsLine_117 rfl (by omega) rfl rfl (by decide) sk_1 rfl rfl (by decide) (by decide) ?_
            obtain ⟨q6, h⟩ := ck_o h
            refine j_if_eq (tgt := 154) (pc' := 123) dX7_readsLine_120 rfl rfl q6 (fun b6 => ?_) (fun b6 => ?_)
            · replace h := ite_t b6 h
              refine j_aload_n (pc' := 155) dX7_readsLine_154 rfl rfl ?_
              refine k_getR (pc' := 158) (sl := 0) (r := 1) kc_7 w_366 (Or.inr w_367) (by decide) dX7_readsLine_155 rfl (by decide) sk_93 (by decide) rfl (by decide) ?_
              refine j_ldcS (pc' := 160) (si := 31) rfl dX7_readsLine_158 rfl ?_
              obtain ⟨v7, D7, e7, h⟩ := bI_o h
              refine k_cV (d' := 7) (pc' := 163) [mR (1000000 + 31)] [] (c_X8_takesWord (d := 7) (Nat.le_refl _) ((by decide)) e7) cw_X7_56 kc_8 w_806 w_807 dX7_readsLine_160 rfl (by omega) rfl rfl (by decide) sk_1 rfl rfl (by decide) (by decide) ?_
              obtain ⟨q7, h⟩ := ck_o h
              refine j_if_eq (tgt := 177) (pc' := 166) dX7_readsLine_163 rfl rfl q7 (fun b7 => ?_) (fun b7 => ?_)
              · replace h := ite_t b7 h
                refine j_iconst (pc' := 178) dX7_readsLine_177 rfl ?_
                exact j_zret dX7_readsLine_178 rfl (Or.inl rfl) (by decide) (by decide) (rI_of h)
              · replace h := ite_f b7 h
                refine j_aload_n (pc' := 167) dX7_readsLine_166 rfl rfl ?_
                obtain ⟨v8, D8, e8, h⟩ := bI_o h
                refine k_cV (d' := 4) (pc' := 170) [] [] (c_X7_readsWord (d := 4) (Nat.le_refl _) e8) cw_X7_78 kc_7 w_920 ws_20 dX7_readsLine_167 rfl (by omega) rfl rfl (by decide) sk_93 rfl rfl (by decide) (by decide) ?_
                obtain ⟨q8, h⟩ := ck_o h
                have hj : J Ω M_X7_readsLine d 0 0 (rI r.1 r.2) 178 [none] [mI (if v8 = 0 then (0 : Int) else (1 : Int))] (SK, D8, false) 0 0 := by
                  obtain ⟨q9, h⟩ := ck_o h
                  exact j_zret dX7_readsLine_178 rfl q9 (by decide) (by decide) (rI_of h)
                refine j_if_eq (tgt := 177) (pc' := 173) dX7_readsLine_170 rfl rfl q8 (fun b8 => ?_) (fun b8 => ?_)
                · refine j_iconst (pc' := 178) dX7_readsLine_177 rfl ?_
                  have hj := hj
                  try simp only [if_pos b8] at hj
                  exact j_wk hj (trivial)
                · refine j_iconst (pc' := 174) dX7_readsLine_173 rfl ?_
                  refine j_goto (tgt := 178) dX7_readsLine_174 rfl ?_
                  have hj := hj
                  try simp only [if_neg b8] at hj
                  exact j_wk hj (trivial)
            · replace h := ite_f b6 h
              refine j_aload_n (pc' := 124) dX7_readsLine_123 rfl rfl ?_
              refine k_getR (pc' := 127) (sl := 2) (r := 94) kc_7 w_359 (Or.inl rfl) (by decide) dX7_readsLine_124 rfl (by decide) sk_93 (by decide) rfl (by decide) ?_
              refine j_aload_n (pc' := 128) dX7_readsLine_127 rfl rfl ?_
              refine j_iconst (pc' := 129) dX7_readsLine_128 rfl ?_
              refine j_bipush (pc' := 131) dX7_readsLine_129 rfl rfl ?_
              obtain ⟨v9, D9, e9, h⟩ := bI_o h
              refine k_cU (d' := 3) (pc' := 134) [mI 1, mI 99] [mR 94] (c_X9_readNumber_S (d := 3) (Nat.le_refl _) e9) cu_X7_64_S kc_7 dX7_readsLine_131 rfl (by omega) rfl rfl (by decide) sk_93 rfl rfl (by decide) (by decide) ?_
              refine k_putI (pc' := 137) (sl := 10) (i' := 10) kc_6 w_110 (by decide) (Or.inl rfl) dX7_readsLine_134 rfl (by decide) sk_94 (by decide) ⟨rfl, rfl⟩ rfl ?_
              refine j_aload_n (pc' := 138) dX7_readsLine_137 rfl rfl ?_
              refine k_getR (pc' := 141) (sl := 2) (r := 94) kc_7 w_359 (Or.inl rfl) (by decide) dX7_readsLine_138 rfl (by decide) sk_93 (by decide) rfl (by decide) ?_
              refine k_getI (pc' := 144) (sl := 10) (z := (pD D9 94 10 v9) 94 10) kc_6 w_110 (by decide) dX7_readsLine_141 rfl (by decide) sk_94 (by decide) rfl rfl ?_
              refine j_iconst (pc' := 145) dX7_readsLine_144 rfl ?_
              obtain ⟨q10, h⟩ := ck_o h
              have hj : J Ω M_X7_readsLine d 0 0 (rI r.1 r.2) 153 [none] [mI (if ((pD D9 94 10 v9) 94 10) = (-1) then (0 : Int) else (1 : Int))] (SK, (pD D9 94 10 v9), false) 0 0 := by
                obtain ⟨q11, h⟩ := ck_o h
                exact j_zret dX7_readsLine_153 rfl q11 (by decide) (by decide) (rI_of h)
              refine j_icmp_eq (tgt := 152) (pc' := 148) dX7_readsLine_145 rfl rfl q10 (by decide) (fun b9 => ?_) (fun b9 => ?_)
              · refine j_iconst (pc' := 153) dX7_readsLine_152 rfl ?_
                have hj := hj
                try simp only [if_pos b9] at hj
                exact j_wk hj (trivial)
              · refine j_iconst (pc' := 149) dX7_readsLine_148 rfl ?_
                refine j_goto (tgt := 153) dX7_readsLine_149 rfl ?_
                have hj := hj
                try simp only [if_neg b9] at hj
                exact j_wk hj (trivial)
          · replace h := ite_f b5 h
            refine j_aload_n (pc' := 81) dX7_readsLine_80 rfl rfl ?_
            refine k_getR (pc' := 84) (sl := 2) (r := 94) kc_7 w_359 (Or.inl rfl) (by decide) dX7_readsLine_81 rfl (by decide) sk_93 (by decide) rfl (by decide) ?_
            refine j_aload_n (pc' := 85) dX7_readsLine_84 rfl rfl ?_
            refine j_iconst (pc' := 86) dX7_readsLine_85 rfl ?_
            refine j_bipush (pc' := 88) dX7_readsLine_86 rfl rfl ?_
            obtain ⟨v10, D10, e10, h⟩ := bI_o h
            refine k_cU (d' := 3) (pc' := 91) [mI 1, mI 99] [mR 94] (c_X9_readNumber_S (d := 3) (Nat.le_refl _) e10) cu_X7_64_S kc_7 dX7_readsLine_88 rfl (by omega) rfl rfl (by decide) sk_93 rfl rfl (by decide) (by decide) ?_
            refine k_putI (pc' := 94) (sl := 9) (i' := 9) kc_6 w_106 (by decide) (Or.inl rfl) dX7_readsLine_91 rfl (by decide) sk_94 (by decide) ⟨rfl, rfl⟩ rfl ?_
            refine j_aload_n (pc' := 95) dX7_readsLine_94 rfl rfl ?_
            refine k_getR (pc' := 98) (sl := 2) (r := 94) kc_7 w_359 (Or.inl rfl) (by decide) dX7_readsLine_95 rfl (by decide) sk_93 (by decide) rfl (by decide) ?_
            refine k_getI (pc' := 101) (sl := 9) (z := (pD D10 94 9 v10) 94 9) kc_6 w_106 (by decide) dX7_readsLine_98 rfl (by decide) sk_94 (by decide) rfl rfl ?_
            refine j_iconst (pc' := 102) dX7_readsLine_101 rfl ?_
            obtain ⟨q12, h⟩ := ck_o h
            have hj : J Ω M_X7_readsLine d 0 0 (rI r.1 r.2) 110 [none] [mI (if ((pD D10 94 9 v10) 94 9) = (-1) then (0 : Int) else (1 : Int))] (SK, (pD D10 94 9 v10), false) 0 0 := by
              obtain ⟨q13, h⟩ := ck_o h
              exact j_zret dX7_readsLine_110 rfl q13 (by decide) (by decide) (rI_of h)
            refine j_icmp_eq (tgt := 109) (pc' := 105) dX7_readsLine_102 rfl rfl q12 (by decide) (fun b10 => ?_) (fun b10 => ?_)
            · refine j_iconst (pc' := 110) dX7_readsLine_109 rfl ?_
              have hj := hj
              try simp only [if_pos b10] at hj
              exact j_wk hj (trivial)
            · refine j_iconst (pc' := 106) dX7_readsLine_105 rfl ?_
              refine j_goto (tgt := 110) dX7_readsLine_106 rfl ?_
              have hj := hj
              try simp only [if_neg b10] at hj
              exact j_wk hj (trivial)
        · replace h := ite_f b4 h
          refine j_aload_n (pc' := 64) dX7_readsLine_63 rfl rfl ?_
          obtain ⟨v11, D11, e11, h⟩ := bI_o h
          refine k_cV (d' := 8) (pc' := 67) [] [] (c_X7_readsBoard (d := 8) (Nat.le_refl _) e11) cw_X7_59 kc_7 w_912 ws_19 dX7_readsLine_64 rfl (by omega) rfl rfl (by decide) sk_93 rfl rfl (by decide) (by decide) ?_
          obtain ⟨q14, h⟩ := ck_o h
          exact j_zret dX7_readsLine_67 rfl q14 (by decide) (by decide) (rI_of h)
      · replace h := ite_f b3 h
        refine j_aload_n (pc' := 47) dX7_readsLine_46 rfl rfl ?_
        obtain ⟨v12, D12, e12, h⟩ := bI_o h
        refine k_cV (d' := 4) (pc' := 50) [] [] (c_X7_readsLooker (d := 4) (Nat.le_refl _) e12) cw_X7_51 kc_7 w_907 ws_18 dX7_readsLine_47 rfl (by omega) rfl rfl (by decide) sk_93 rfl rfl (by decide) (by decide) ?_
        obtain ⟨q15, h⟩ := ck_o h
        exact j_zret dX7_readsLine_50 rfl q15 (by decide) (by decide) (rI_of h)
    · replace h := ite_f b2 h
      refine j_aload_n (pc' := 30) dX7_readsLine_29 rfl rfl ?_
      obtain ⟨v13, D13, e13, h⟩ := bI_o h
      refine k_cV (d' := 8) (pc' := 33) [] [] (c_X7_readsWriter (d := 8) (Nat.le_refl _) e13) cw_X7_46 kc_7 w_900 ws_17 dX7_readsLine_30 rfl (by omega) rfl rfl (by decide) sk_93 rfl rfl (by decide) (by decide) ?_
      obtain ⟨q16, h⟩ := ck_o h
      exact j_zret dX7_readsLine_33 rfl q16 (by decide) (by decide) (rI_of h)
  · replace h := ite_f b1 h
    refine j_aload_n (pc' := 13) dX7_readsLine_12 rfl rfl ?_
    obtain ⟨v14, D14, e14, h⟩ := bI_o h
    refine k_cV (d' := 9) (pc' := 16) [] [] (c_X7_readsSign (d := 9) (Nat.le_refl _) e14) cw_X7_40 kc_7 w_866 ws_14 dX7_readsLine_13 rfl (by omega) rfl rfl (by decide) sk_93 rfl rfl (by decide) (by decide) ?_
    obtain ⟨q17, h⟩ := ck_o h
    exact j_zret dX7_readsLine_16 rfl q17 (by decide) (by decide) (rI_of h)
theorem c_X7_readsLine {d : Nat} (hd : 10 ≤ d) {D D' : mD} {v : Int} (h : F_X7_readsLine D = some (v, D')) : CM d 0 0 M_X7_readsLine [mR 93] (SK, D, false) (rI v D') := CM.intro pn_X7 rfl rfl (Nat.le_of_ble_eq_true rfl) (fun _ => c_X7_readsLine_e hd h)
theorem c_X8_hasRoomFor_e {Ω : mO} {d : Nat} (hd : 1 ≤ d) {r : Int × mD} {x1 : Int} {D : mD} (h : F_X8_hasRoomFor x1 D = some r) : J Ω M_X8_hasRoomFor d 0 0 (rI r.1 r.2) 0 [some (mR 1), some (mI x1)] [] (SK, D, false) 0 0 := by
  rw [F_X8_hasRoomFor] at h
  refine j_aload_n (pc' := 1) dX8_hasRoomFor_0 rfl rfl ?_
  refine k_getI (pc' := 4) (sl := 1) (z := D 1 1) kc_8 w_45 (by decide) dX8_hasRoomFor_1 rfl (by decide) sk_1 (by decide) rfl rfl ?_
  refine j_iload_n (pc' := 5) dX8_hasRoomFor_4 rfl rfl ?_
  refine j_iadd (pc' := 6) dX8_hasRoomFor_5 rfl ?_
  refine j_sipush (pc' := 9) dX8_hasRoomFor_6 rfl rfl ?_
  obtain ⟨q1, h⟩ := ck_o h
  have hj : J Ω M_X8_hasRoomFor d 0 0 (rI r.1 r.2) 17 [none, none] [mI (if 400 < ((D 1 1) + x1) then (0 : Int) else (1 : Int))] (SK, D, false) 0 0 := by
    obtain ⟨q2, h⟩ := ck_o h
    exact j_zret dX8_hasRoomFor_17 rfl q2 (by decide) (by decide) (rI_of h)
  refine j_icmp_gt (tgt := 16) (pc' := 12) dX8_hasRoomFor_9 rfl rfl q1 (by decide) (fun b1 => ?_) (fun b1 => ?_)
  · refine j_iconst (pc' := 17) dX8_hasRoomFor_16 rfl ?_
    have hj := hj
    try simp only [if_pos b1] at hj
    exact j_wk hj (trivial)
  · refine j_iconst (pc' := 13) dX8_hasRoomFor_12 rfl ?_
    refine j_goto (tgt := 17) dX8_hasRoomFor_13 rfl ?_
    have hj := hj
    try simp only [if_neg b1] at hj
    exact j_wk hj (trivial)
theorem c_X8_hasRoomFor {d : Nat} (hd : 1 ≤ d) {x1 : Int} {D D' : mD} {v : Int} (h : F_X8_hasRoomFor x1 D = some (v, D')) : CM d 0 0 M_X8_hasRoomFor [mR 1, mI x1] (SK, D, false) (rI v D') := CM.intro pn_X8 rfl rfl (Nat.le_of_ble_eq_true rfl) (fun _ => c_X8_hasRoomFor_e hd h)
theorem c_X8_addNumber_L3 {Ω : mO} {d : Nat} (hd : 1 ≤ d) {r : Int × mD} {x1 : Int} : ∀ (n : Nat) {x2 : Int} {D : mD}, F_X8_addNumber_L3 x1 n x2 D = some r → J Ω M_X8_addNumber d 0 0 (rV r.2) 3 [some (mR 1), some (mI x1), some (mI x2)] [] (SK, D, false) 0 0 := by
  intro n
  induction n with
  | zero => intro x2 D h; exact absurd (show (none : Option (Int × mD)) = some r from h) nofun
  | succ n ih =>
    intro x2 D h
    rw [F_X8_addNumber_L3] at h
    refine j_iload_n (pc' := 4) dX8_addNumber_3 rfl rfl ?_
    obtain ⟨q1, h⟩ := ck_o h
    refine j_if_lt (tgt := 49) (pc' := 7) dX8_addNumber_4 rfl rfl q1 (fun b1 => ?_) (fun b1 => ?_)
    · replace h := ite_t b1 h
      exact j_vret dX8_addNumber_49 rfl (by decide) (by decide) (rV_of h)
    · replace h := ite_f b1 h
      refine j_aload_n (pc' := 8) dX8_addNumber_7 rfl rfl ?_
      refine k_getI (pc' := 11) (sl := 1) (z := D 1 1) kc_8 w_45 (by decide) dX8_addNumber_8 rfl (by decide) sk_1 (by decide) rfl rfl ?_
      refine j_sipush (pc' := 14) dX8_addNumber_11 rfl rfl ?_
      obtain ⟨q2, h⟩ := ck_o h
      refine j_icmp_ge (tgt := 43) (pc' := 17) dX8_addNumber_14 rfl rfl q2 (by decide) (fun b2 => ?_) (fun b2 => ?_)
      · replace h := ite_t b2 h
        refine j_iinc (pc' := 46) (z' := (x2 - 8)) (ls' := [some (mR 1), some (mI x1), some (mI (x2 - 8))]) dX8_addNumber_43 rfl rfl (by omega) (by decide) rfl ?_
        refine j_goto (tgt := 3) dX8_addNumber_46 rfl ?_
        exact j_wk (j_widen (ce := 0) (ke := 0) (by decide) (by decide) (ih h)) (And.intro rfl (And.intro rfl (And.intro rfl trivial)))
      · replace h := ite_f b2 h
        refine j_aload_n (pc' := 18) dX8_addNumber_17 rfl rfl ?_
        refine k_getR (pc' := 21) (sl := 0) (r := 2) kc_8 w_44 (Or.inl rfl) (by decide) dX8_addNumber_18 rfl (by decide) sk_1 (by decide) rfl (by decide) ?_
        refine j_aload_n (pc' := 22) dX8_addNumber_21 rfl rfl ?_
        refine k_getI (pc' := 25) (sl := 1) (z := D 1 1) kc_8 w_45 (by decide) dX8_addNumber_22 rfl (by decide) sk_1 (by decide) rfl rfl ?_
        refine j_iload_n (pc' := 26) dX8_addNumber_25 rfl rfl ?_
        refine j_iload_n (pc' := 27) dX8_addNumber_26 rfl rfl ?_
        refine j_iushr (pc' := 28) dX8_addNumber_27 rfl ?_
        refine j_sipush (pc' := 31) dX8_addNumber_28 rfl rfl ?_
        refine j_iand (pc' := 32) dX8_addNumber_31 rfl ?_
        obtain ⟨q3, h⟩ := ck_o h
        refine k_iast (pc' := 33) dX8_addNumber_32 rfl (by decide) sk_2 (by decide) q3.1 q3.2 ?_
        refine j_aload_n (pc' := 34) dX8_addNumber_33 rfl rfl ?_
        refine j_dup (pc' := 35) dX8_addNumber_34 rfl rfl ?_
        refine k_getI (pc' := 38) (sl := 1) (z := (pD D 2 (D 1 1) (bAnd (bUshr x1 x2) 255)) 1 1) kc_8 w_45 (by decide) dX8_addNumber_35 rfl (by decide) sk_1 (by decide) rfl rfl ?_
        refine j_iconst (pc' := 39) dX8_addNumber_38 rfl ?_
        refine j_iadd (pc' := 40) dX8_addNumber_39 rfl ?_
        refine k_putI (pc' := 43) (sl := 1) (i' := 1) kc_8 w_45 (by decide) (Or.inl rfl) dX8_addNumber_40 rfl (by decide) sk_1 (by decide) ⟨rfl, rfl⟩ rfl ?_
        refine j_iinc (pc' := 46) (z' := (x2 - 8)) (ls' := [some (mR 1), some (mI x1), some (mI (x2 - 8))]) dX8_addNumber_43 rfl rfl (by omega) (by decide) rfl ?_
        refine j_goto (tgt := 3) dX8_addNumber_46 rfl ?_
        exact j_wk (j_widen (ce := 0) (ke := 0) (by decide) (by decide) (ih h)) (And.intro rfl (And.intro rfl (And.intro rfl trivial)))
theorem c_X8_addNumber_e {Ω : mO} {d : Nat} (hd : 1 ≤ d) {r : Int × mD} {x1 : Int} {D : mD} (h : F_X8_addNumber x1 D = some r) : J Ω M_X8_addNumber d 0 0 (rV r.2) 0 [some (mR 1), some (mI x1), none] [] (SK, D, false) 0 0 := by
  rw [F_X8_addNumber] at h
  refine j_bipush (pc' := 2) dX8_addNumber_0 rfl rfl ?_
  refine j_istore_n (pc' := 3) (ls' := [some (mR 1), some (mI x1), some (mI 24)]) dX8_addNumber_2 rfl (by decide) rfl ?_
  exact j_wk (j_widen (ce := 0) (ke := 0) (by decide) (by decide) (c_X8_addNumber_L3 hd _ h)) (And.intro rfl (And.intro rfl (And.intro rfl trivial)))
theorem c_X8_addNumber {d : Nat} (hd : 1 ≤ d) {x1 : Int} {D D' : mD} {v : Int} (h : F_X8_addNumber x1 D = some (v, D')) : CM d 0 0 M_X8_addNumber [mR 1, mI x1] (SK, D, false) (rV D') := CM.intro pn_X8 rfl rfl (Nat.le_of_ble_eq_true rfl) (fun _ => c_X8_addNumber_e hd h)
theorem c_X8_pairAt_e {Ω : mO} {d : Nat} (hd : 1 ≤ d) {r : Int × mD} {x1 : Int} {D : mD} (h : F_X8_pairAt x1 D = some r) : J Ω M_X8_pairAt d 0 0 (rI r.1 r.2) 0 [some (mR 1), some (mI x1)] [] (SK, D, false) 0 0 := by
  rw [F_X8_pairAt] at h
  refine j_iload_n (pc' := 1) dX8_pairAt_0 rfl rfl ?_
  obtain ⟨q1, h⟩ := ck_o h
  obtain ⟨q2, h⟩ := ck_o h
  obtain ⟨q3, h⟩ := ck_o h
  obtain ⟨q4, h⟩ := ck_o h
  have hj : J Ω M_X8_pairAt d 0 0 (rI r.1 r.2) 36 [none, none] [mI (if x1 < 0 then (0 : Int) else (if (x1 + 1) < 400 then (((D 2 x1) * 256) + (D 2 (x1 + 1))) else (0 : Int)))] (SK, D, false) 0 0 := by
    exact j_iret dX8_pairAt_36 rfl (by decide) (by decide) (rI_of h)
  refine j_if_lt (tgt := 13) (pc' := 4) dX8_pairAt_1 rfl rfl q1 (fun b1 => ?_) (fun b1 => ?_)
  · refine j_iconst (pc' := 14) dX8_pairAt_13 rfl ?_
    refine j_goto (tgt := 36) dX8_pairAt_14 rfl ?_
    have hj := hj
    try simp only [if_pos b1] at hj
    exact j_wk hj (trivial)
  · refine j_iload_n (pc' := 5) dX8_pairAt_4 rfl rfl ?_
    refine j_iconst (pc' := 6) dX8_pairAt_5 rfl ?_
    refine j_iadd (pc' := 7) dX8_pairAt_6 rfl ?_
    refine j_sipush (pc' := 10) dX8_pairAt_7 rfl rfl ?_
    refine j_icmp_lt (tgt := 17) (pc' := 13) dX8_pairAt_10 rfl rfl (q2 b1) (by decide) (fun b2 => ?_) (fun b2 => ?_)
    · refine j_aload_n (pc' := 18) dX8_pairAt_17 rfl rfl ?_
      refine k_getR (pc' := 21) (sl := 0) (r := 2) kc_8 w_44 (Or.inl rfl) (by decide) dX8_pairAt_18 rfl (by decide) sk_1 (by decide) rfl (by decide) ?_
      refine j_iload_n (pc' := 22) dX8_pairAt_21 rfl rfl ?_
      refine k_iald (pc' := 23) (z := D 2 x1) dX8_pairAt_22 rfl (by decide) sk_2 (by decide) (q3 b1 b2).1 (q3 b1 b2).2 rfl ?_
      refine j_sipush (pc' := 26) dX8_pairAt_23 rfl rfl ?_
      refine j_imul (pc' := 27) dX8_pairAt_26 rfl ?_
      refine j_aload_n (pc' := 28) dX8_pairAt_27 rfl rfl ?_
      refine k_getR (pc' := 31) (sl := 0) (r := 2) kc_8 w_44 (Or.inl rfl) (by decide) dX8_pairAt_28 rfl (by decide) sk_1 (by decide) rfl (by decide) ?_
      refine j_iload_n (pc' := 32) dX8_pairAt_31 rfl rfl ?_
      refine j_iconst (pc' := 33) dX8_pairAt_32 rfl ?_
      refine j_iadd (pc' := 34) dX8_pairAt_33 rfl ?_
      refine k_iald (pc' := 35) (z := D 2 (x1 + 1)) dX8_pairAt_34 rfl (by decide) sk_2 (by decide) (q4 b1 b2).1 (q4 b1 b2).2 rfl ?_
      refine j_iadd (pc' := 36) dX8_pairAt_35 rfl ?_
      have hj := hj
      try simp only [if_neg b1, if_pos b2] at hj
      exact j_wk hj (trivial)
    · refine j_iconst (pc' := 14) dX8_pairAt_13 rfl ?_
      refine j_goto (tgt := 36) dX8_pairAt_14 rfl ?_
      have hj := hj
      try simp only [if_neg b1, if_neg b2] at hj
      exact j_wk hj (trivial)
theorem c_X8_pairAt {d : Nat} (hd : 1 ≤ d) {x1 : Int} {D D' : mD} {v : Int} (h : F_X8_pairAt x1 D = some (v, D')) : CM d 0 0 M_X8_pairAt [mR 1, mI x1] (SK, D, false) (rI v D') := CM.intro pn_X8 rfl rfl (Nat.le_of_ble_eq_true rfl) (fun _ => c_X8_pairAt_e hd h)
theorem c_X8_rewind_e {Ω : mO} {d : Nat} (hd : 3 ≤ d) {r : Int × mD} {D : mD} (h : F_X8_rewind D = some r) : J Ω M_X8_rewind d 0 0 (rV r.2) 0 [some (mR 1)] [] (SK, D, false) 0 0 := by
  rw [F_X8_rewind] at h
  refine j_aload_n (pc' := 1) dX8_rewind_0 rfl rfl ?_
  refine j_iconst (pc' := 2) dX8_rewind_1 rfl ?_
  refine k_putI (pc' := 5) (sl := 4) (i' := 4) kc_8 w_52 (by decide) (Or.inl rfl) dX8_rewind_2 rfl (by decide) sk_1 (by decide) ⟨rfl, rfl⟩ rfl ?_
  refine j_aload_n (pc' := 6) dX8_rewind_5 rfl rfl ?_
  obtain ⟨v1, D1, e1, h⟩ := bI_o h
  refine k_cVv (d' := 2) (pc' := 9) [] [] (c_X8_step (d := 2) (Nat.le_refl _) e1) cw_X8_22 kc_8 w_726 w_727 dX8_rewind_6 rfl (by omega) rfl rfl (by decide) sk_1 rfl rfl (by decide) (by decide) ?_
  exact j_vret dX8_rewind_9 rfl (by decide) (by decide) (rV_of h)
theorem c_X8_rewind {d : Nat} (hd : 3 ≤ d) {D D' : mD} {v : Int} (h : F_X8_rewind D = some (v, D')) : CM d 0 0 M_X8_rewind [mR 1] (SK, D, false) (rV D') := CM.intro pn_X8 rfl rfl (Nat.le_of_ble_eq_true rfl) (fun _ => c_X8_rewind_e hd h)
theorem c_X8_takesMark_e {Ω : mO} {d : Nat} (hd : 3 ≤ d) {r : Int × mD} {x1 : Int} {D : mD} (h : F_X8_takesMark x1 D = some r) : J Ω M_X8_takesMark d 0 0 (rI r.1 r.2) 0 [some (mR 1), some (mI x1)] [] (SK, D, false) 0 0 := by
  rw [F_X8_takesMark] at h
  refine j_aload_n (pc' := 1) dX8_takesMark_0 rfl rfl ?_
  refine j_iload_n (pc' := 2) dX8_takesMark_1 rfl rfl ?_
  obtain ⟨v1, D1, e1, h⟩ := bI_o h
  refine k_cV (d' := 1) (pc' := 5) [mI x1] [] (c_X8_isMark (d := 1) (Nat.le_refl _) e1) cw_X8_48 kc_8 w_820 w_821 dX8_takesMark_2 rfl (by omega) rfl rfl (by decide) sk_1 rfl rfl (by decide) (by decide) ?_
  obtain ⟨q1, h⟩ := ck_o h
  refine j_if_ne (tgt := 10) (pc' := 8) dX8_takesMark_5 rfl rfl q1 (fun b1 => ?_) (fun b1 => ?_)
  · replace h := ite_f b1 h
    refine j_aload_n (pc' := 11) dX8_takesMark_10 rfl rfl ?_
    obtain ⟨v2, D2, e2, h⟩ := bI_o h
    refine k_cVv (d' := 2) (pc' := 14) [] [] (c_X8_step (d := 2) (Nat.le_refl _) e2) cw_X8_22 kc_8 w_726 w_727 dX8_takesMark_11 rfl (by omega) rfl rfl (by decide) sk_1 rfl rfl (by decide) (by decide) ?_
    refine j_iconst (pc' := 15) dX8_takesMark_14 rfl ?_
    exact j_zret dX8_takesMark_15 rfl (Or.inr rfl) (by decide) (by decide) (rI_of h)
  · replace h := ite_t b1 h
    refine j_iconst (pc' := 9) dX8_takesMark_8 rfl ?_
    exact j_zret dX8_takesMark_9 rfl (Or.inl rfl) (by decide) (by decide) (rI_of h)
theorem c_X8_takesMark {d : Nat} (hd : 3 ≤ d) {x1 : Int} {D D' : mD} {v : Int} (h : F_X8_takesMark x1 D = some (v, D')) : CM d 0 0 M_X8_takesMark [mR 1, mI x1] (SK, D, false) (rI v D') := CM.intro pn_X8 rfl rfl (Nat.le_of_ble_eq_true rfl) (fun _ => c_X8_takesMark_e hd h)
theorem c_X9_readsText_S_L21 {Ω : mO} {d : Nat} (hd : 11 ≤ d) {r : Int × mD} : ∀ (n : Nat) {x1 : Int} {D : mD}, F_X9_readsText_S_L21 n x1 D = some r → J Ω M_X9_readsText d 0 0 (rI r.1 r.2) 21 [some (mR 93), some (mI x1)] [] (SK, D, false) 0 0 := by
  intro n
  induction n with
  | zero => intro x1 D h; exact absurd (show (none : Option (Int × mD)) = some r from h) nofun
  | succ n ih =>
    intro x1 D h
    rw [F_X9_readsText_S_L21] at h
    refine j_iload_n (pc' := 22) dX9_readsText_21 rfl rfl ?_
    refine j_aload_n (pc' := 23) dX9_readsText_22 rfl rfl ?_
    refine k_getI (pc' := 26) (sl := 1) (z := D 93 1) kc_7 w_368 (by decide) dX9_readsText_23 rfl (by decide) sk_93 (by decide) rfl rfl ?_
    obtain ⟨q1, h⟩ := ck_o h
    obtain ⟨q2, h⟩ := ck_o h
    refine j_icmp_ge (tgt := 70) (pc' := 29) dX9_readsText_26 rfl rfl q1 q2 (fun b1 => ?_) (fun b1 => ?_)
    · replace h := ite_t b1 h
      refine j_iconst (pc' := 71) dX9_readsText_70 rfl ?_
      exact j_zret dX9_readsText_71 rfl (Or.inl rfl) (by decide) (by decide) (rI_of h)
    · replace h := ite_f b1 h
      refine j_aload_n (pc' := 30) dX9_readsText_29 rfl rfl ?_
      obtain ⟨v1, D1, e1, h⟩ := bI_o h
      refine k_cU (d' := 10) (pc' := 33) [] [] (c_X7_readsLine (d := 10) (Nat.le_refl _) e1) cu_X9_27_S kc_7 dX9_readsText_30 rfl (by omega) rfl rfl (by decide) sk_93 rfl rfl (by decide) (by decide) ?_
      obtain ⟨q3, h⟩ := ck_o h
      refine j_if_ne (tgt := 38) (pc' := 36) dX9_readsText_33 rfl rfl q3 (fun b2 => ?_) (fun b2 => ?_)
      · replace h := ite_f b2 h
        refine j_aload_n (pc' := 39) dX9_readsText_38 rfl rfl ?_
        refine k_getR (pc' := 42) (sl := 0) (r := 1) kc_7 w_363 (Or.inl rfl) (by decide) dX9_readsText_39 rfl (by decide) sk_93 (by decide) rfl (by decide) ?_
        refine k_getI (pc' := 45) (sl := 2) (z := D1 1 2) kc_8 w_47 (by decide) dX9_readsText_42 rfl (by decide) sk_1 (by decide) rfl rfl ?_
        obtain ⟨q4, h⟩ := ck_o h
        refine j_if_ne (tgt := 50) (pc' := 48) dX9_readsText_45 rfl rfl q4 (fun b3 => ?_) (fun b3 => ?_)
        · replace h := ite_f b3 h
          refine j_aload_n (pc' := 51) dX9_readsText_50 rfl rfl ?_
          refine k_getR (pc' := 54) (sl := 0) (r := 1) kc_7 w_363 (Or.inl rfl) (by decide) dX9_readsText_51 rfl (by decide) sk_93 (by decide) rfl (by decide) ?_
          refine j_bipush (pc' := 56) dX9_readsText_54 rfl rfl ?_
          obtain ⟨v2, D2, e2, h⟩ := bI_o h
          refine k_cV (d' := 3) (pc' := 59) [mI 59] [] (c_X8_takesMark (d := 3) (Nat.le_refl _) e2) cw_X9_31 kc_8 w_923 w_924 dX9_readsText_56 rfl (by omega) rfl rfl (by decide) sk_1 rfl rfl (by decide) (by decide) ?_
          obtain ⟨q5, h⟩ := ck_o h
          refine j_if_ne (tgt := 64) (pc' := 62) dX9_readsText_59 rfl rfl q5 (fun b4 => ?_) (fun b4 => ?_)
          · replace h := ite_f b4 h
            refine j_iinc (pc' := 67) (z' := (x1 + 1)) (ls' := [some (mR 93), some (mI (x1 + 1))]) dX9_readsText_64 rfl rfl rfl (by decide) rfl ?_
            refine j_goto (tgt := 21) dX9_readsText_67 rfl ?_
            exact j_wk (j_widen (ce := 0) (ke := 0) (by decide) (by decide) (ih h)) (And.intro rfl (And.intro rfl trivial))
          · replace h := ite_t b4 h
            refine j_iconst (pc' := 63) dX9_readsText_62 rfl ?_
            exact j_zret dX9_readsText_63 rfl (Or.inl rfl) (by decide) (by decide) (rI_of h)
        · replace h := ite_t b3 h
          refine j_iconst (pc' := 49) dX9_readsText_48 rfl ?_
          exact j_zret dX9_readsText_49 rfl (Or.inr rfl) (by decide) (by decide) (rI_of h)
      · replace h := ite_t b2 h
        refine j_iconst (pc' := 37) dX9_readsText_36 rfl ?_
        exact j_zret dX9_readsText_37 rfl (Or.inl rfl) (by decide) (by decide) (rI_of h)
theorem c_X9_readsText_S_e {Ω : mO} {d : Nat} (hd : 11 ≤ d) {r : Int × mD} {D : mD} (h : F_X9_readsText_S D = some r) : J Ω M_X9_readsText d 0 0 (rI r.1 r.2) 0 [some (mR 93), none] [] (SK, D, false) 0 0 := by
  rw [F_X9_readsText_S] at h
  refine j_aload_n (pc' := 1) dX9_readsText_0 rfl rfl ?_
  refine k_getR (pc' := 4) (sl := 0) (r := 1) kc_7 w_363 (Or.inl rfl) (by decide) dX9_readsText_1 rfl (by decide) sk_93 (by decide) rfl (by decide) ?_
  obtain ⟨v1, D1, e1, h⟩ := bI_o h
  refine k_cVv (d' := 3) (pc' := 7) [] [] (c_X8_rewind (d := 3) (Nat.le_refl _) e1) cw_X9_19 kc_8 w_722 w_723 dX9_readsText_4 rfl (by omega) rfl rfl (by decide) sk_1 rfl rfl (by decide) (by decide) ?_
  refine j_aload_n (pc' := 8) dX9_readsText_7 rfl rfl ?_
  refine k_getR (pc' := 11) (sl := 0) (r := 1) kc_7 w_363 (Or.inl rfl) (by decide) dX9_readsText_8 rfl (by decide) sk_93 (by decide) rfl (by decide) ?_
  refine k_getI (pc' := 14) (sl := 2) (z := D1 1 2) kc_8 w_47 (by decide) dX9_readsText_11 rfl (by decide) sk_1 (by decide) rfl rfl ?_
  obtain ⟨q1, h⟩ := ck_o h
  refine j_if_ne (tgt := 19) (pc' := 17) dX9_readsText_14 rfl rfl q1 (fun b1 => ?_) (fun b1 => ?_)
  · replace h := ite_f b1 h
    refine j_iconst (pc' := 20) dX9_readsText_19 rfl ?_
    refine j_istore_n (pc' := 21) (ls' := [some (mR 93), some (mI 0)]) dX9_readsText_20 rfl (by decide) rfl ?_
    exact j_wk (j_widen (ce := 0) (ke := 0) (by decide) (by decide) (c_X9_readsText_S_L21 hd _ h)) (And.intro rfl (And.intro rfl trivial))
  · replace h := ite_t b1 h
    refine j_iconst (pc' := 18) dX9_readsText_17 rfl ?_
    exact j_zret dX9_readsText_18 rfl (Or.inr rfl) (by decide) (by decide) (rI_of h)
theorem c_X9_readsText_S {d : Nat} (hd : 11 ≤ d) {D D' : mD} {v : Int} (h : F_X9_readsText_S D = some (v, D')) : CM d 0 0 M_X9_readsText [mR 93] (SK, D, false) (rI v D') := CM.intro pn_X9 rfl rfl (Nat.le_of_ble_eq_true rfl) (fun _ => c_X9_readsText_S_e hd h)
theorem c_X9_readsText_L_L21 {Ω : mO} {d : Nat} (hd : 52 ≤ d) {r : Int × mD} : ∀ (n : Nat) {x1 : Int} {D : mD}, F_X9_readsText_L_L21 n x1 D = some r → J Ω M_X9_readsText d 0 0 (rI r.1 r.2) 21 [some (mR 103), some (mI x1)] [] (SK, D, false) 0 0 := by
  intro n
  induction n with
  | zero => intro x1 D h; exact absurd (show (none : Option (Int × mD)) = some r from h) nofun
  | succ n ih =>
    intro x1 D h
    rw [F_X9_readsText_L_L21] at h
    refine j_iload_n (pc' := 22) dX9_readsText_21 rfl rfl ?_
    refine j_aload_n (pc' := 23) dX9_readsText_22 rfl rfl ?_
    refine k_getI (pc' := 26) (sl := 1) (z := D 103 1) kc_3 w_368 (by decide) dX9_readsText_23 rfl (by decide) sk_103 (by decide) rfl rfl ?_
    obtain ⟨q1, h⟩ := ck_o h
    obtain ⟨q2, h⟩ := ck_o h
    refine j_icmp_ge (tgt := 70) (pc' := 29) dX9_readsText_26 rfl rfl q1 q2 (fun b1 => ?_) (fun b1 => ?_)
    · replace h := ite_t b1 h
      refine j_iconst (pc' := 71) dX9_readsText_70 rfl ?_
      exact j_zret dX9_readsText_71 rfl (Or.inl rfl) (by decide) (by decide) (rI_of h)
    · replace h := ite_f b1 h
      refine j_aload_n (pc' := 30) dX9_readsText_29 rfl rfl ?_
      obtain ⟨v1, D1, e1, h⟩ := bI_o h
      refine k_cU (d' := 51) (pc' := 33) [] [] (c_X3_readsLine (d := 51) (Nat.le_refl _) e1) cu_X9_27_L kc_3 dX9_readsText_30 rfl (by omega) rfl rfl (by decide) sk_103 rfl rfl (by decide) (by decide) ?_
      obtain ⟨q3, h⟩ := ck_o h
      refine j_if_ne (tgt := 38) (pc' := 36) dX9_readsText_33 rfl rfl q3 (fun b2 => ?_) (fun b2 => ?_)
      · replace h := ite_f b2 h
        refine j_aload_n (pc' := 39) dX9_readsText_38 rfl rfl ?_
        refine k_getR (pc' := 42) (sl := 0) (r := 1) kc_3 w_363 (Or.inl rfl) (by decide) dX9_readsText_39 rfl (by decide) sk_103 (by decide) rfl (by decide) ?_
        refine k_getI (pc' := 45) (sl := 2) (z := D1 1 2) kc_8 w_47 (by decide) dX9_readsText_42 rfl (by decide) sk_1 (by decide) rfl rfl ?_
        obtain ⟨q4, h⟩ := ck_o h
        refine j_if_ne (tgt := 50) (pc' := 48) dX9_readsText_45 rfl rfl q4 (fun b3 => ?_) (fun b3 => ?_)
        · replace h := ite_f b3 h
          refine j_aload_n (pc' := 51) dX9_readsText_50 rfl rfl ?_
          refine k_getR (pc' := 54) (sl := 0) (r := 1) kc_3 w_363 (Or.inl rfl) (by decide) dX9_readsText_51 rfl (by decide) sk_103 (by decide) rfl (by decide) ?_
          refine j_bipush (pc' := 56) dX9_readsText_54 rfl rfl ?_
          obtain ⟨v2, D2, e2, h⟩ := bI_o h
          refine k_cV (d' := 3) (pc' := 59) [mI 59] [] (c_X8_takesMark (d := 3) (Nat.le_refl _) e2) cw_X9_31 kc_8 w_923 w_924 dX9_readsText_56 rfl (by omega) rfl rfl (by decide) sk_1 rfl rfl (by decide) (by decide) ?_
          obtain ⟨q5, h⟩ := ck_o h
          refine j_if_ne (tgt := 64) (pc' := 62) dX9_readsText_59 rfl rfl q5 (fun b4 => ?_) (fun b4 => ?_)
          · replace h := ite_f b4 h
            refine j_iinc (pc' := 67) (z' := (x1 + 1)) (ls' := [some (mR 103), some (mI (x1 + 1))]) dX9_readsText_64 rfl rfl rfl (by decide) rfl ?_
            refine j_goto (tgt := 21) dX9_readsText_67 rfl ?_
            exact j_wk (j_widen (ce := 0) (ke := 0) (by decide) (by decide) (ih h)) (And.intro rfl (And.intro rfl trivial))
          · replace h := ite_t b4 h
            refine j_iconst (pc' := 63) dX9_readsText_62 rfl ?_
            exact j_zret dX9_readsText_63 rfl (Or.inl rfl) (by decide) (by decide) (rI_of h)
        · replace h := ite_t b3 h
          refine j_iconst (pc' := 49) dX9_readsText_48 rfl ?_
          exact j_zret dX9_readsText_49 rfl (Or.inr rfl) (by decide) (by decide) (rI_of h)
      · replace h := ite_t b2 h
        refine j_iconst (pc' := 37) dX9_readsText_36 rfl ?_
        exact j_zret dX9_readsText_37 rfl (Or.inl rfl) (by decide) (by decide) (rI_of h)
theorem c_X9_readsText_L_e {Ω : mO} {d : Nat} (hd : 52 ≤ d) {r : Int × mD} {D : mD} (h : F_X9_readsText_L D = some r) : J Ω M_X9_readsText d 0 0 (rI r.1 r.2) 0 [some (mR 103), none] [] (SK, D, false) 0 0 := by
  rw [F_X9_readsText_L] at h
  refine j_aload_n (pc' := 1) dX9_readsText_0 rfl rfl ?_
  refine k_getR (pc' := 4) (sl := 0) (r := 1) kc_3 w_363 (Or.inl rfl) (by decide) dX9_readsText_1 rfl (by decide) sk_103 (by decide) rfl (by decide) ?_
  obtain ⟨v1, D1, e1, h⟩ := bI_o h
  refine k_cVv (d' := 3) (pc' := 7) [] [] (c_X8_rewind (d := 3) (Nat.le_refl _) e1) cw_X9_19 kc_8 w_722 w_723 dX9_readsText_4 rfl (by omega) rfl rfl (by decide) sk_1 rfl rfl (by decide) (by decide) ?_
  refine j_aload_n (pc' := 8) dX9_readsText_7 rfl rfl ?_
  refine k_getR (pc' := 11) (sl := 0) (r := 1) kc_3 w_363 (Or.inl rfl) (by decide) dX9_readsText_8 rfl (by decide) sk_103 (by decide) rfl (by decide) ?_
  refine k_getI (pc' := 14) (sl := 2) (z := D1 1 2) kc_8 w_47 (by decide) dX9_readsText_11 rfl (by decide) sk_1 (by decide) rfl rfl ?_
  obtain ⟨q1, h⟩ := ck_o h
  refine j_if_ne (tgt := 19) (pc' := 17) dX9_readsText_14 rfl rfl q1 (fun b1 => ?_) (fun b1 => ?_)
  · replace h := ite_f b1 h
    refine j_iconst (pc' := 20) dX9_readsText_19 rfl ?_
    refine j_istore_n (pc' := 21) (ls' := [some (mR 103), some (mI 0)]) dX9_readsText_20 rfl (by decide) rfl ?_
    exact j_wk (j_widen (ce := 0) (ke := 0) (by decide) (by decide) (c_X9_readsText_L_L21 hd _ h)) (And.intro rfl (And.intro rfl trivial))
  · replace h := ite_t b1 h
    refine j_iconst (pc' := 18) dX9_readsText_17 rfl ?_
    exact j_zret dX9_readsText_18 rfl (Or.inr rfl) (by decide) (by decide) (rI_of h)
theorem c_X9_readsText_L {d : Nat} (hd : 52 ≤ d) {D D' : mD} {v : Int} (h : F_X9_readsText_L D = some (v, D')) : CM d 0 0 M_X9_readsText [mR 103] (SK, D, false) (rI v D') := CM.intro pn_X9 rfl rfl (Nat.le_of_ble_eq_true rfl) (fun _ => c_X9_readsText_L_e hd h)
theorem c_X10_beginWord_e {Ω : mO} {d : Nat} (hd : 6 ≤ d) {t0 : Nat} (hT0 : IsWork t0) {r : Int × mD} {D : mD} (h : F_X10_beginWord t0 D = some r) : J Ω M_X10_beginWord d 0 0 (rV r.2) 0 [some (mR t0)] [] (SK, D, false) 0 0 := by
  rw [F_X10_beginWord] at h
  refine j_aload_n (pc' := 1) dX10_beginWord_0 rfl rfl ?_
  refine k_getR (pc' := 4) (sl := 0) (r := (t0 + 1)) kc_9 w_209 (Or.inl rfl) (by decide) dX10_beginWord_1 rfl (work_lt hT0) (workA_0 hT0) (by decide) rfl (workL_1 hT0) ?_
  refine j_iconst (pc' := 5) dX10_beginWord_4 rfl ?_
  refine k_cSv (d' := 1) (pc' := 8) [mR (t0 + 1), mI 3] [] (k_fill (d := 1) (n := 13) (Nat.le_refl _) (workL_1 hT0) (workA_1 hT0) (by decide) rfl) cw_X10_31 w_207 dX10_beginWord_5 rfl (by omega) rfl rfl rfl rfl (by decide) (by decide) ?_
  refine j_aload_n (pc' := 9) dX10_beginWord_8 rfl rfl ?_
  refine k_getR (pc' := 12) (sl := 1) (r := (t0 + 2)) kc_9 w_212 (Or.inl rfl) (by decide) dX10_beginWord_9 rfl (work_lt hT0) (workA_0 hT0) (by decide) rfl (workL_2 hT0) ?_
  refine j_iconst (pc' := 13) dX10_beginWord_12 rfl ?_
  refine k_cSv (d' := 1) (pc' := 16) [mR (t0 + 2), mI 0] [] (k_fill (d := 1) (n := 14) (Nat.le_refl _) (workL_2 hT0) (workA_2 hT0) (by decide) rfl) cw_X10_31 w_207 dX10_beginWord_13 rfl (by omega) rfl rfl rfl rfl (by decide) (by decide) ?_
  refine j_aload_n (pc' := 17) dX10_beginWord_16 rfl rfl ?_
  refine k_getR (pc' := 20) (sl := 2) (r := (t0 + 3)) kc_9 w_216 (Or.inl rfl) (by decide) dX10_beginWord_17 rfl (work_lt hT0) (workA_0 hT0) (by decide) rfl (workL_3 hT0) ?_
  refine j_iconst (pc' := 21) dX10_beginWord_20 rfl ?_
  refine k_cSv (d' := 1) (pc' := 24) [mR (t0 + 3), mI (-1)] [] (k_fill (d := 1) (n := 14) (Nat.le_refl _) (workL_3 hT0) (workA_3 hT0) (by decide) rfl) cw_X10_31 w_207 dX10_beginWord_21 rfl (by omega) rfl rfl rfl rfl (by decide) (by decide) ?_
  refine j_aload_n (pc' := 25) dX10_beginWord_24 rfl rfl ?_
  refine j_iconst (pc' := 26) dX10_beginWord_25 rfl ?_
  refine k_putI (pc' := 29) (sl := 3) (i' := 3) kc_9 w_218 (by decide) (Or.inl rfl) dX10_beginWord_26 rfl (work_lt hT0) (workA_0 hT0) (by decide) ⟨rfl, rfl⟩ rfl ?_
  refine j_aload_n (pc' := 30) dX10_beginWord_29 rfl rfl ?_
  refine j_iconst (pc' := 31) dX10_beginWord_30 rfl ?_
  refine k_putI (pc' := 34) (sl := 4) (i' := 4) kc_9 w_220 (by decide) (Or.inl rfl) dX10_beginWord_31 rfl (work_lt hT0) (workA_0 hT0) (by decide) ⟨rfl, rfl⟩ rfl ?_
  exact j_vret dX10_beginWord_34 rfl (by decide) (by decide) (rV_of h)
theorem c_X10_beginWord {d : Nat} (hd : 6 ≤ d) {t0 : Nat} (hT0 : IsWork t0) {D D' : mD} {v : Int} (h : F_X10_beginWord t0 D = some (v, D')) : CM d 0 0 M_X10_beginWord [mR t0] (SK, D, false) (rV D') := CM.intro pn_X10 rfl rfl (Nat.le_of_ble_eq_true rfl) (fun _ => c_X10_beginWord_e hd hT0 h)
theorem c_X10_beside_e {Ω : mO} {d : Nat} (hd : 1 ≤ d) {r : Int × mD} {x0 : Int} {D : mD} (h : F_X10_beside x0 D = some r) : J Ω M_X10_beside d 0 0 (rI r.1 r.2) 0 [some (mI x0)] [] (SK, D, false) 0 0 := by
  rw [F_X10_beside] at h
  refine j_iload_n (pc' := 1) dX10_beside_0 rfl rfl ?_
  refine j_iconst (pc' := 2) dX10_beside_1 rfl ?_
  obtain ⟨q1, h⟩ := ck_o h
  have hj : J Ω M_X10_beside d 0 0 (rI r.1 r.2) 20 [none] [mI (if x0 = (-1) then (0 : Int) else (bOr (bShl (bShl 1 x0) 1) (bShr (bShl 1 x0) 1)))] (SK, D, false) 0 0 := by
    exact j_iret dX10_beside_20 rfl (by decide) (by decide) (rI_of h)
  refine j_icmp_ne (tgt := 9) (pc' := 5) dX10_beside_2 rfl rfl q1 (by decide) (fun b1 => ?_) (fun b1 => ?_)
  · refine j_iconst (pc' := 10) dX10_beside_9 rfl ?_
    refine j_iload_n (pc' := 11) dX10_beside_10 rfl rfl ?_
    refine j_ishl (pc' := 12) dX10_beside_11 rfl ?_
    refine j_iconst (pc' := 13) dX10_beside_12 rfl ?_
    refine j_ishl (pc' := 14) dX10_beside_13 rfl ?_
    refine j_iconst (pc' := 15) dX10_beside_14 rfl ?_
    refine j_iload_n (pc' := 16) dX10_beside_15 rfl rfl ?_
    refine j_ishl (pc' := 17) dX10_beside_16 rfl ?_
    refine j_iconst (pc' := 18) dX10_beside_17 rfl ?_
    refine j_ishr (pc' := 19) dX10_beside_18 rfl ?_
    refine j_ior (pc' := 20) dX10_beside_19 rfl ?_
    have hj := hj
    try simp only [if_neg b1] at hj
    exact j_wk hj (trivial)
  · refine j_iconst (pc' := 6) dX10_beside_5 rfl ?_
    refine j_goto (tgt := 20) dX10_beside_6 rfl ?_
    have hj := hj
    try simp only [if_pos b1] at hj
    exact j_wk hj (trivial)
theorem c_X10_beside {d : Nat} (hd : 1 ≤ d) {x0 : Int} {D D' : mD} {v : Int} (h : F_X10_beside x0 D = some (v, D')) : CM d 0 0 M_X10_beside [mI x0] (SK, D, false) (rI v D') := CM.intro pn_X10 rfl rfl (Nat.le_of_ble_eq_true rfl) (fun _ => c_X10_beside_e hd h)
theorem c_X10_nextLetter_L10 {Ω : mO} {d : Nat} (hd : 2 ≤ d) {r : Int × mD} {x2 x3 : Int} : ∀ (n : Nat) {x4 : Int} {D : mD}, F_X10_nextLetter_L10 x2 x3 n x4 D = some r → J Ω M_X10_nextLetter d 0 0 (rI r.1 r.2) 10 [none, none, some (mI x2), some (mI x3), some (mI x4)] [] (SK, D, false) 0 0 := by
  intro n
  induction n with
  | zero => intro x4 D h; exact absurd (show (none : Option (Int × mD)) = some r from h) nofun
  | succ n ih =>
    intro x4 D h
    rw [F_X10_nextLetter_L10] at h
    refine j_iload (pc' := 12) dX10_nextLetter_10 rfl rfl ?_
    refine j_iload_n (pc' := 13) dX10_nextLetter_12 rfl rfl ?_
    obtain ⟨q1, h⟩ := ck_o h
    obtain ⟨q2, h⟩ := ck_o h
    refine j_icmp_ge (tgt := 34) (pc' := 16) dX10_nextLetter_13 rfl rfl q1 q2 (fun b1 => ?_) (fun b1 => ?_)
    · replace h := ite_t b1 h
      refine j_iconst (pc' := 35) dX10_nextLetter_34 rfl ?_
      exact j_iret dX10_nextLetter_35 rfl (by decide) (by decide) (rI_of h)
    · replace h := ite_f b1 h
      refine j_iload_n (pc' := 17) dX10_nextLetter_16 rfl rfl ?_
      refine j_iload (pc' := 19) dX10_nextLetter_17 rfl rfl ?_
      refine j_ishr (pc' := 20) dX10_nextLetter_19 rfl ?_
      refine j_iconst (pc' := 21) dX10_nextLetter_20 rfl ?_
      refine j_iand (pc' := 22) dX10_nextLetter_21 rfl ?_
      obtain ⟨q3, h⟩ := ck_o h
      refine j_if_ne (tgt := 28) (pc' := 25) dX10_nextLetter_22 rfl rfl q3 (fun b2 => ?_) (fun b2 => ?_)
      · replace h := ite_f b2 h
        refine j_iinc (pc' := 31) (z' := (x4 + 1)) (ls' := [none, none, some (mI x2), some (mI x3), some (mI (x4 + 1))]) dX10_nextLetter_28 rfl rfl rfl (by decide) rfl ?_
        refine j_goto (tgt := 10) dX10_nextLetter_31 rfl ?_
        exact j_wk (j_widen (ce := 0) (ke := 0) (by decide) (by decide) (ih h)) (And.intro rfl (And.intro rfl (And.intro rfl trivial)))
      · replace h := ite_t b2 h
        refine j_iload (pc' := 27) dX10_nextLetter_25 rfl rfl ?_
        exact j_iret dX10_nextLetter_27 rfl (by decide) (by decide) (rI_of h)
theorem c_X10_nextLetter_e {Ω : mO} {d : Nat} (hd : 2 ≤ d) {r : Int × mD} {x0 x1 x2 : Int} {D : mD} (h : F_X10_nextLetter x0 x1 x2 D = some r) : J Ω M_X10_nextLetter d 0 0 (rI r.1 r.2) 0 [some (mI x0), some (mI x1), some (mI x2), none, none] [] (SK, D, false) 0 0 := by
  rw [F_X10_nextLetter] at h
  refine j_iload_n (pc' := 1) dX10_nextLetter_0 rfl rfl ?_
  refine j_iload_n (pc' := 2) dX10_nextLetter_1 rfl rfl ?_
  obtain ⟨v1, D1, e1, h⟩ := bI_o h
  refine k_cS (d' := 1) (pc' := 5) [mI x1] [mI x0] (c_X10_beside (d := 1) (Nat.le_refl _) e1) cw_X10_89 w_677 dX10_nextLetter_2 rfl (by omega) rfl rfl rfl rfl (by decide) (by decide) ?_
  refine j_ior (pc' := 6) dX10_nextLetter_5 rfl ?_
  refine j_istore_n (pc' := 7) (ls' := [some (mI x0), some (mI x1), some (mI x2), some (mI (bOr x0 v1)), none]) dX10_nextLetter_6 rfl (by decide) rfl ?_
  refine j_iconst (pc' := 8) dX10_nextLetter_7 rfl ?_
  refine j_istore (pc' := 10) (ls' := [some (mI x0), some (mI x1), some (mI x2), some (mI (bOr x0 v1)), some (mI 0)]) dX10_nextLetter_8 rfl (by decide) rfl ?_
  exact j_wk (j_widen (ce := 0) (ke := 0) (by decide) (by decide) (c_X10_nextLetter_L10 hd _ h)) (And.intro rfl (And.intro rfl (And.intro rfl trivial)))
theorem c_X10_nextLetter {d : Nat} (hd : 2 ≤ d) {x0 x1 x2 : Int} {D D' : mD} {v : Int} (h : F_X10_nextLetter x0 x1 x2 D = some (v, D')) : CM d 0 0 M_X10_nextLetter [mI x0, mI x1, mI x2] (SK, D, false) (rI v D') := CM.intro pn_X10 rfl rfl (Nat.le_of_ble_eq_true rfl) (fun _ => c_X10_nextLetter_e hd h)
theorem c_X10_draw_e {Ω : mO} {d : Nat} (hd : 1 ≤ d) {t0 : Nat} (hT0 : IsWork t0) {r : Int × mD} {D : mD} (h : F_X10_draw t0 D = some r) : J Ω M_X10_draw d 0 0 (rI r.1 r.2) 0 [some (mR t0)] [] (SK, D, false) 0 0 := by
  rw [F_X10_draw] at h
  refine j_aload_n (pc' := 1) dX10_draw_0 rfl rfl ?_
  refine j_ldcI (pc' := 3) (n := 1103515245) w_1249 dX10_draw_1 rfl ?_
  refine j_aload_n (pc' := 4) dX10_draw_3 rfl rfl ?_
  refine k_getI (pc' := 7) (sl := 6) (z := D t0 6) kc_9 w_224 (by decide) dX10_draw_4 rfl (work_lt hT0) (workA_0 hT0) (by decide) rfl rfl ?_
  refine j_imul (pc' := 8) dX10_draw_7 rfl ?_
  refine j_sipush (pc' := 11) dX10_draw_8 rfl rfl ?_
  refine j_iadd (pc' := 12) dX10_draw_11 rfl ?_
  refine k_wr ?_
  refine k_putI (pc' := 15) (sl := 6) (i' := 6) kc_9 w_224 (by decide) (Or.inl rfl) dX10_draw_12 rfl (work_lt hT0) (workA_0 hT0) (by decide) ⟨rfl, rfl⟩ rfl ?_
  refine j_aload_n (pc' := 16) dX10_draw_15 rfl rfl ?_
  refine k_getI (pc' := 19) (sl := 6) (z := (pD D t0 6 (wr ((1103515245 * (D t0 6)) + 12345))) t0 6) kc_9 w_224 (by decide) dX10_draw_16 rfl (work_lt hT0) (workA_0 hT0) (by decide) rfl rfl ?_
  refine j_bipush (pc' := 21) dX10_draw_19 rfl rfl ?_
  refine j_iushr (pc' := 22) dX10_draw_21 rfl ?_
  refine j_sipush (pc' := 25) dX10_draw_22 rfl rfl ?_
  refine j_iand (pc' := 26) dX10_draw_25 rfl ?_
  exact j_iret dX10_draw_26 rfl (by decide) (by decide) (rI_of h)
theorem c_X10_draw {d : Nat} (hd : 1 ≤ d) {t0 : Nat} (hT0 : IsWork t0) {D D' : mD} {v : Int} (h : F_X10_draw t0 D = some (v, D')) : CM d 0 0 M_X10_draw [mR t0] (SK, D, false) (rI v D') := CM.intro pn_X10 rfl rfl (Nat.le_of_ble_eq_true rfl) (fun _ => c_X10_draw_e hd hT0 h)
theorem c_X10_slipBeside_j65 {Ω : mO} {d : Nat} (hd : 6 ≤ d) {t0 : Nat} (hT0 : IsWork t0) {r : Int × mD} {x4 x5 s0 : Int} {D : mD} (h : F_X10_slipBeside_j65 t0 x4 x5 s0 D = some r) : J Ω M_X10_slipBeside d 0 0 (rI r.1 r.2) 65 [some (mR t0), none, none, none, some (mI x4), some (mI x5), none] [mI s0] (SK, D, false) 0 0 := by
  rw [F_X10_slipBeside_j65] at h
  refine j_istore (pc' := 67) (ls' := [some (mR t0), none, none, none, some (mI x4), some (mI x5), some (mI s0)]) dX10_slipBeside_65 rfl (by decide) rfl ?_
  refine j_aload_n (pc' := 68) dX10_slipBeside_67 rfl rfl ?_
  refine k_getR (pc' := 71) (sl := 0) (r := (t0 + 1)) kc_9 w_209 (Or.inl rfl) (by decide) dX10_slipBeside_68 rfl (work_lt hT0) (workA_0 hT0) (by decide) rfl (workL_1 hT0) ?_
  refine j_iload (pc' := 73) dX10_slipBeside_71 rfl rfl ?_
  refine j_iconst (pc' := 74) dX10_slipBeside_73 rfl ?_
  refine j_bipush (pc' := 76) dX10_slipBeside_74 rfl rfl ?_
  refine j_iload (pc' := 78) dX10_slipBeside_76 rfl rfl ?_
  obtain ⟨q1, h⟩ := ck_o h
  refine k_min (pc' := 81) cw_X10_76 w_560 dX10_slipBeside_78 rfl (by omega) (by decide) q1 rfl (by decide) (by decide) ?_
  obtain ⟨q2, h⟩ := ck_o h
  refine k_max (pc' := 84) cw_X10_82 w_541 dX10_slipBeside_81 rfl (by omega) (by decide) q2 rfl (by decide) (by decide) ?_
  obtain ⟨q3, h⟩ := ck_o h
  refine k_iast (pc' := 85) dX10_slipBeside_84 rfl (workL_1 hT0) (workA_1 hT0) (by decide) q3.1 q3.2 ?_
  refine j_aload_n (pc' := 86) dX10_slipBeside_85 rfl rfl ?_
  refine k_getR (pc' := 89) (sl := 0) (r := (t0 + 1)) kc_9 w_209 (Or.inl rfl) (by decide) dX10_slipBeside_86 rfl (work_lt hT0) (workA_0 hT0) (by decide) rfl (workL_1 hT0) ?_
  refine j_iload (pc' := 91) dX10_slipBeside_89 rfl rfl ?_
  refine k_iald (pc' := 92) (z := (pD D (t0 + 1) x4 (max 0 (min 30 s0))) (t0 + 1) x4) dX10_slipBeside_91 rfl (workL_1 hT0) (workA_1 hT0) (by decide) q3.1 q3.2 rfl ?_
  refine j_iload (pc' := 94) dX10_slipBeside_92 rfl rfl ?_
  refine j_isub (pc' := 95) dX10_slipBeside_94 rfl ?_
  exact j_iret dX10_slipBeside_95 rfl (by decide) (by decide) (rI_of h)
theorem c_X10_slipBeside_j27 {Ω : mO} {d : Nat} (hd : 6 ≤ d) {t0 : Nat} (hT0 : IsWork t0) {r : Int × mD} {s0 : Int} {D : mD} (h : F_X10_slipBeside_j27 t0 s0 D = some r) : J Ω M_X10_slipBeside d 0 0 (rI r.1 r.2) 27 [some (mR t0), none, none, none, none, none, none] [mI s0] (SK, D, false) 0 0 := by
  rw [F_X10_slipBeside_j27] at h
  refine j_istore (pc' := 29) (ls' := [some (mR t0), none, none, none, some (mI s0), none, none]) dX10_slipBeside_27 rfl (by decide) rfl ?_
  refine j_iload (pc' := 31) dX10_slipBeside_29 rfl rfl ?_
  obtain ⟨q1, h⟩ := ck_o h
  refine j_if_ge (tgt := 36) (pc' := 34) dX10_slipBeside_31 rfl rfl q1 (fun b1 => ?_) (fun b1 => ?_)
  · replace h := ite_t b1 h
    refine j_aload_n (pc' := 37) dX10_slipBeside_36 rfl rfl ?_
    refine k_getR (pc' := 40) (sl := 0) (r := (t0 + 1)) kc_9 w_209 (Or.inl rfl) (by decide) dX10_slipBeside_37 rfl (work_lt hT0) (workA_0 hT0) (by decide) rfl (workL_1 hT0) ?_
    refine j_iload (pc' := 42) dX10_slipBeside_40 rfl rfl ?_
    obtain ⟨q2, h⟩ := ck_o h
    refine k_iald (pc' := 43) (z := D (t0 + 1) s0) dX10_slipBeside_42 rfl (workL_1 hT0) (workA_1 hT0) (by decide) q2.1 q2.2 rfl ?_
    refine j_istore (pc' := 45) (ls' := [some (mR t0), none, none, none, some (mI s0), some (mI (D (t0 + 1) s0)), none]) dX10_slipBeside_43 rfl (by decide) rfl ?_
    refine j_aload_n (pc' := 46) dX10_slipBeside_45 rfl rfl ?_
    obtain ⟨v1, D1, e1, h⟩ := bI_o h
    refine k_cV (d' := 1) (pc' := 49) [] [] (c_X10_draw (d := 1) (Nat.le_refl _) hT0 e1) cw_X10_72 kc_9 w_1247 ws_34 dX10_slipBeside_46 rfl (by omega) rfl rfl (work_lt hT0) (workA_0 hT0) rfl rfl (by decide) (by decide) ?_
    refine j_iconst (pc' := 50) dX10_slipBeside_49 rfl ?_
    obtain ⟨q3, h⟩ := ck_o h
    obtain ⟨q4, h⟩ := ck_o h
    refine j_irem (pc' := 51) dX10_slipBeside_50 rfl q3 (by decide) q4 (by decide) ?_
    obtain ⟨q5, h⟩ := ck_o h
    have hj : J Ω M_X10_slipBeside d 0 0 (rI r.1 r.2) 65 [some (mR t0), none, none, none, some (mI s0), some (mI (D (t0 + 1) s0)), none] [mI (if (v1 % 2) = 0 then ((D (t0 + 1) s0) - 1) else ((D (t0 + 1) s0) + 1))] (SK, D1, false) 0 0 := by
      exact j_wk (j_widen (ce := 0) (ke := 0) (by decide) (by decide) (c_X10_slipBeside_j65 hd hT0 h)) (And.intro rfl (And.intro rfl (And.intro rfl trivial)))
    refine j_if_ne (tgt := 61) (pc' := 54) dX10_slipBeside_51 rfl rfl q5 (fun b2 => ?_) (fun b2 => ?_)
    · refine j_iload (pc' := 63) dX10_slipBeside_61 rfl rfl ?_
      refine j_iconst (pc' := 64) dX10_slipBeside_63 rfl ?_
      refine j_iadd (pc' := 65) dX10_slipBeside_64 rfl ?_
      have hj := hj
      try simp only [if_neg b2] at hj
      exact j_wk hj (And.intro rfl (And.intro rfl (And.intro rfl trivial)))
    · refine j_iload (pc' := 56) dX10_slipBeside_54 rfl rfl ?_
      refine j_iconst (pc' := 57) dX10_slipBeside_56 rfl ?_
      refine j_isub (pc' := 58) dX10_slipBeside_57 rfl ?_
      refine j_goto (tgt := 65) dX10_slipBeside_58 rfl ?_
      have hj := hj
      try simp only [if_pos b2] at hj
      exact j_wk hj (And.intro rfl (And.intro rfl (And.intro rfl trivial)))
  · replace h := ite_f b1 h
    refine j_iconst (pc' := 35) dX10_slipBeside_34 rfl ?_
    exact j_iret dX10_slipBeside_35 rfl (by decide) (by decide) (rI_of h)
theorem c_X10_slipBeside_e {Ω : mO} {d : Nat} (hd : 6 ≤ d) {t0 : Nat} (hT0 : IsWork t0) {r : Int × mD} {x1 x2 x3 : Int} {D : mD} (h : F_X10_slipBeside t0 x1 x2 x3 D = some r) : J Ω M_X10_slipBeside d 0 0 (rI r.1 r.2) 0 [some (mR t0), some (mI x1), some (mI x2), some (mI x3), none, none, none] [] (SK, D, false) 0 0 := by
  rw [F_X10_slipBeside] at h
  refine j_aload_n (pc' := 1) dX10_slipBeside_0 rfl rfl ?_
  obtain ⟨v1, D1, e1, h⟩ := bI_o h
  refine k_cV (d' := 1) (pc' := 4) [] [] (c_X10_draw (d := 1) (Nat.le_refl _) hT0 e1) cw_X10_72 kc_9 w_1247 ws_34 dX10_slipBeside_1 rfl (by omega) rfl rfl (work_lt hT0) (workA_0 hT0) rfl rfl (by decide) (by decide) ?_
  refine j_bipush (pc' := 6) dX10_slipBeside_4 rfl rfl ?_
  obtain ⟨q1, h⟩ := ck_o h
  obtain ⟨q2, h⟩ := ck_o h
  refine j_irem (pc' := 7) dX10_slipBeside_6 rfl q1 (by decide) q2 (by decide) ?_
  refine j_iload_n (pc' := 8) dX10_slipBeside_7 rfl rfl ?_
  obtain ⟨q3, h⟩ := ck_o h
  obtain ⟨q4, h⟩ := ck_o h
  refine j_icmp_lt (tgt := 13) (pc' := 11) dX10_slipBeside_8 rfl rfl q3 q4 (fun b1 => ?_) (fun b1 => ?_)
  · replace h := ite_t b1 h
    refine j_iload_n (pc' := 14) dX10_slipBeside_13 rfl rfl ?_
    refine j_iconst (pc' := 15) dX10_slipBeside_14 rfl ?_
    refine j_iadd (pc' := 16) dX10_slipBeside_15 rfl ?_
    refine j_iload_n (pc' := 17) dX10_slipBeside_16 rfl rfl ?_
    obtain ⟨q5, h⟩ := ck_o h
    obtain ⟨q6, h⟩ := ck_o h
    have hj : J Ω M_X10_slipBeside d 0 0 (rI r.1 r.2) 27 [some (mR t0), none, none, none, none, none, none] [mI (if x3 ≤ (x1 + 1) then (x1 - 1) else x1)] (SK, D1, false) 0 0 := by
      exact j_wk (j_widen (ce := 0) (ke := 0) (by decide) (by decide) (c_X10_slipBeside_j27 hd hT0 h)) (And.intro rfl trivial)
    refine j_icmp_ge (tgt := 24) (pc' := 20) dX10_slipBeside_17 rfl rfl q5 q6 (fun b2 => ?_) (fun b2 => ?_)
    · refine j_iload_n (pc' := 25) dX10_slipBeside_24 rfl rfl ?_
      refine j_iconst (pc' := 26) dX10_slipBeside_25 rfl ?_
      refine j_isub (pc' := 27) dX10_slipBeside_26 rfl ?_
      have hj := hj
      try simp only [if_pos b2] at hj
      exact j_wk hj (And.intro rfl trivial)
    · refine j_iload_n (pc' := 21) dX10_slipBeside_20 rfl rfl ?_
      refine j_goto (tgt := 27) dX10_slipBeside_21 rfl ?_
      have hj := hj
      try simp only [if_neg b2] at hj
      exact j_wk hj (And.intro rfl trivial)
  · replace h := ite_f b1 h
    refine j_iconst (pc' := 12) dX10_slipBeside_11 rfl ?_
    exact j_iret dX10_slipBeside_12 rfl (by decide) (by decide) (rI_of h)
theorem c_X10_slipBeside {d : Nat} (hd : 6 ≤ d) {t0 : Nat} (hT0 : IsWork t0) {x1 x2 x3 : Int} {D D' : mD} {v : Int} (h : F_X10_slipBeside t0 x1 x2 x3 D = some (v, D')) : CM d 0 0 M_X10_slipBeside [mR t0, mI x1, mI x2, mI x3] (SK, D, false) (rI v D') := CM.intro pn_X10 rfl rfl (Nat.le_of_ble_eq_true rfl) (fun _ => c_X10_slipBeside_e hd hT0 h)
