/-! CERTIFICATES: the bytecode does what F says (by program) -/
theorem c_X10_writeLog_e {Ω : mO} {d : Nat} (hd : 6 ≤ d) {t0 : Nat} (hT0 : IsWork t0) {r : Int × mD} {x1 x2 x3 : Int} {D : mD} (h : F_X10_writeLog t0 x1 x2 x3 D = some r) : J Ω M_X10_writeLog d 0 0 (rV r.2) 0 [some (mR t0), some (mI x1), some (mI x2), some (mI x3), none] [] (SK, D, false) 0 0 := by
  rw [F_X10_writeLog] at h
  refine j_aload_n (pc' := 1) dX10_writeLog_0 rfl rfl ?_
  refine k_getI (pc' := 4) (sl := 10) (z := D t0 10) kc_9 w_231 (by decide) dX10_writeLog_1 rfl (work_lt hT0) (workA_0 hT0) (by decide) rfl rfl ?_
  refine j_iconst (pc' := 5) dX10_writeLog_4 rfl ?_
  refine j_imul (pc' := 6) dX10_writeLog_5 rfl ?_
  refine j_istore (pc' := 8) (ls' := [some (mR t0), some (mI x1), some (mI x2), some (mI x3), some (mI ((D t0 10) * 4))]) dX10_writeLog_6 rfl (by decide) rfl ?_
  refine j_aload_n (pc' := 9) dX10_writeLog_8 rfl rfl ?_
  refine k_getR (pc' := 12) (sl := 8) (r := (t0 + 4)) kc_9 w_228 (Or.inl rfl) (by decide) dX10_writeLog_9 rfl (work_lt hT0) (workA_0 hT0) (by decide) rfl (workL_4 hT0) ?_
  refine j_iload (pc' := 14) dX10_writeLog_12 rfl rfl ?_
  refine j_aload_n (pc' := 15) dX10_writeLog_14 rfl rfl ?_
  refine k_getI (pc' := 18) (sl := 7) (z := D t0 7) kc_9 w_226 (by decide) dX10_writeLog_15 rfl (work_lt hT0) (workA_0 hT0) (by decide) rfl rfl ?_
  obtain ⟨q1, h⟩ := ck_o h
  refine k_iast (pc' := 19) dX10_writeLog_18 rfl (workL_4 hT0) (workA_4 hT0) (by decide) q1.1 q1.2 ?_
  refine j_aload_n (pc' := 20) dX10_writeLog_19 rfl rfl ?_
  refine k_getR (pc' := 23) (sl := 8) (r := (t0 + 4)) kc_9 w_228 (Or.inl rfl) (by decide) dX10_writeLog_20 rfl (work_lt hT0) (workA_0 hT0) (by decide) rfl (workL_4 hT0) ?_
  refine j_iload (pc' := 25) dX10_writeLog_23 rfl rfl ?_
  refine j_iconst (pc' := 26) dX10_writeLog_25 rfl ?_
  refine j_iadd (pc' := 27) dX10_writeLog_26 rfl ?_
  refine j_iload_n (pc' := 28) dX10_writeLog_27 rfl rfl ?_
  obtain ⟨q2, h⟩ := ck_o h
  refine k_iast (pc' := 29) dX10_writeLog_28 rfl (workL_4 hT0) (workA_4 hT0) (by decide) q2.1 q2.2 ?_
  refine j_aload_n (pc' := 30) dX10_writeLog_29 rfl rfl ?_
  refine k_getR (pc' := 33) (sl := 8) (r := (t0 + 4)) kc_9 w_228 (Or.inl rfl) (by decide) dX10_writeLog_30 rfl (work_lt hT0) (workA_0 hT0) (by decide) rfl (workL_4 hT0) ?_
  refine j_iload (pc' := 35) dX10_writeLog_33 rfl rfl ?_
  refine j_iconst (pc' := 36) dX10_writeLog_35 rfl ?_
  refine j_iadd (pc' := 37) dX10_writeLog_36 rfl ?_
  refine j_iload_n (pc' := 38) dX10_writeLog_37 rfl rfl ?_
  obtain ⟨q3, h⟩ := ck_o h
  refine k_iast (pc' := 39) dX10_writeLog_38 rfl (workL_4 hT0) (workA_4 hT0) (by decide) q3.1 q3.2 ?_
  refine j_aload_n (pc' := 40) dX10_writeLog_39 rfl rfl ?_
  refine k_getR (pc' := 43) (sl := 8) (r := (t0 + 4)) kc_9 w_228 (Or.inl rfl) (by decide) dX10_writeLog_40 rfl (work_lt hT0) (workA_0 hT0) (by decide) rfl (workL_4 hT0) ?_
  refine j_iload (pc' := 45) dX10_writeLog_43 rfl rfl ?_
  refine j_iconst (pc' := 46) dX10_writeLog_45 rfl ?_
  refine j_iadd (pc' := 47) dX10_writeLog_46 rfl ?_
  refine j_iload_n (pc' := 48) dX10_writeLog_47 rfl rfl ?_
  obtain ⟨q4, h⟩ := ck_o h
  refine k_iast (pc' := 49) dX10_writeLog_48 rfl (workL_4 hT0) (workA_4 hT0) (by decide) q4.1 q4.2 ?_
  refine j_aload_n (pc' := 50) dX10_writeLog_49 rfl rfl ?_
  refine j_aload_n (pc' := 51) dX10_writeLog_50 rfl rfl ?_
  refine k_getI (pc' := 54) (sl := 10) (z := (pD (pD (pD (pD D (t0 + 4) ((D t0 10) * 4) (D t0 7)) (t0 + 4) (((D t0 10) * 4) + 1) x1) (t0 + 4) (((D t0 10) * 4) + 2) x2) (t0 + 4) (((D t0 10) * 4) + 3) x3) t0 10) kc_9 w_231 (by decide) dX10_writeLog_51 rfl (work_lt hT0) (workA_0 hT0) (by decide) rfl rfl ?_
  refine j_iconst (pc' := 55) dX10_writeLog_54 rfl ?_
  refine j_iadd (pc' := 56) dX10_writeLog_55 rfl ?_
  refine j_bipush (pc' := 58) dX10_writeLog_56 rfl rfl ?_
  obtain ⟨q5, h⟩ := ck_o h
  obtain ⟨q6, h⟩ := ck_o h
  refine j_irem (pc' := 59) dX10_writeLog_58 rfl q5 (by decide) q6 (by decide) ?_
  refine k_putI (pc' := 62) (sl := 10) (i' := 10) kc_9 w_231 (by decide) (Or.inl rfl) dX10_writeLog_59 rfl (work_lt hT0) (workA_0 hT0) (by decide) ⟨rfl, rfl⟩ rfl ?_
  refine j_aload_n (pc' := 63) dX10_writeLog_62 rfl rfl ?_
  refine j_bipush (pc' := 65) dX10_writeLog_63 rfl rfl ?_
  refine j_aload_n (pc' := 66) dX10_writeLog_65 rfl rfl ?_
  refine k_getI (pc' := 69) (sl := 9) (z := (pD (pD (pD (pD (pD D (t0 + 4) ((D t0 10) * 4) (D t0 7)) (t0 + 4) (((D t0 10) * 4) + 1) x1) (t0 + 4) (((D t0 10) * 4) + 2) x2) (t0 + 4) (((D t0 10) * 4) + 3) x3) t0 10 ((((pD (pD (pD (pD D (t0 + 4) ((D t0 10) * 4) (D t0 7)) (t0 + 4) (((D t0 10) * 4) + 1) x1) (t0 + 4) (((D t0 10) * 4) + 2) x2) (t0 + 4) (((D t0 10) * 4) + 3) x3) t0 10) + 1) % 60)) t0 9) kc_9 w_229 (by decide) dX10_writeLog_66 rfl (work_lt hT0) (workA_0 hT0) (by decide) rfl rfl ?_
  refine j_iconst (pc' := 70) dX10_writeLog_69 rfl ?_
  refine j_iadd (pc' := 71) dX10_writeLog_70 rfl ?_
  obtain ⟨q7, h⟩ := ck_o h
  refine k_min (pc' := 74) cw_X10_76 w_560 dX10_writeLog_71 rfl (by omega) (by decide) q7 rfl (by decide) (by decide) ?_
  refine k_putI (pc' := 77) (sl := 9) (i' := 9) kc_9 w_229 (by decide) (Or.inl rfl) dX10_writeLog_74 rfl (work_lt hT0) (workA_0 hT0) (by decide) ⟨rfl, rfl⟩ rfl ?_
  exact j_vret dX10_writeLog_77 rfl (by decide) (by decide) (rV_of h)
theorem c_X10_writeLog {d : Nat} (hd : 6 ≤ d) {t0 : Nat} (hT0 : IsWork t0) {x1 x2 x3 : Int} {D D' : mD} {v : Int} (h : F_X10_writeLog t0 x1 x2 x3 D = some (v, D')) : CM d 0 0 M_X10_writeLog [mR t0, mI x1, mI x2, mI x3] (SK, D, false) (rV D') := CM.intro pn_X10 rfl rfl (Nat.le_of_ble_eq_true rfl) (fun _ => c_X10_writeLog_e hd hT0 h)
theorem c_X10_paintDay_j59 {Ω : mO} {d : Nat} (hd : 7 ≤ d) {t0 : Nat} (hT0 : IsWork t0) {r : Int × mD} {x4 : Int} {D : mD} (h : F_X10_paintDay_j59 t0 x4 D = some r) : J Ω M_X10_paintDay d 0 0 (rI r.1 r.2) 59 [some (mR t0), none, none, none, some (mI x4)] [] (SK, D, false) 0 0 := by
  rw [F_X10_paintDay_j59] at h
  refine j_aload_n (pc' := 60) dX10_paintDay_59 rfl rfl ?_
  refine j_iload (pc' := 62) dX10_paintDay_60 rfl rfl ?_
  refine k_putI (pc' := 65) (sl := 4) (i' := 4) kc_9 w_220 (by decide) (Or.inl rfl) dX10_paintDay_62 rfl (work_lt hT0) (workA_0 hT0) (by decide) ⟨rfl, rfl⟩ rfl ?_
  refine j_aload_n (pc' := 66) dX10_paintDay_65 rfl rfl ?_
  refine j_dup (pc' := 67) dX10_paintDay_66 rfl rfl ?_
  refine k_getI (pc' := 70) (sl := 7) (z := (pD D t0 4 x4) t0 7) kc_9 w_226 (by decide) dX10_paintDay_67 rfl (work_lt hT0) (workA_0 hT0) (by decide) rfl rfl ?_
  refine j_iconst (pc' := 71) dX10_paintDay_70 rfl ?_
  refine j_iadd (pc' := 72) dX10_paintDay_71 rfl ?_
  refine k_putI (pc' := 75) (sl := 7) (i' := 7) kc_9 w_226 (by decide) (Or.inl rfl) dX10_paintDay_72 rfl (work_lt hT0) (workA_0 hT0) (by decide) ⟨rfl, rfl⟩ rfl ?_
  refine j_iload (pc' := 77) dX10_paintDay_75 rfl rfl ?_
  exact j_iret dX10_paintDay_77 rfl (by decide) (by decide) (rI_of h)
theorem c_X10_paintDay_e {Ω : mO} {d : Nat} (hd : 7 ≤ d) {t0 : Nat} (hT0 : IsWork t0) {r : Int × mD} {x1 x2 x3 : Int} {D : mD} (h : F_X10_paintDay t0 x1 x2 x3 D = some r) : J Ω M_X10_paintDay d 0 0 (rI r.1 r.2) 0 [some (mR t0), some (mI x1), some (mI x2), some (mI x3), none] [] (SK, D, false) 0 0 := by
  rw [F_X10_paintDay] at h
  refine j_aload_n (pc' := 1) dX10_paintDay_0 rfl rfl ?_
  refine k_getI (pc' := 4) (sl := 3) (z := D t0 3) kc_9 w_218 (by decide) dX10_paintDay_1 rfl (work_lt hT0) (workA_0 hT0) (by decide) rfl rfl ?_
  refine j_aload_n (pc' := 5) dX10_paintDay_4 rfl rfl ?_
  refine k_getI (pc' := 8) (sl := 4) (z := D t0 4) kc_9 w_220 (by decide) dX10_paintDay_5 rfl (work_lt hT0) (workA_0 hT0) (by decide) rfl rfl ?_
  refine j_iload_n (pc' := 9) dX10_paintDay_8 rfl rfl ?_
  obtain ⟨v1, D1, e1, h⟩ := bI_o h
  refine k_cS (d' := 2) (pc' := 12) [mI (D t0 3), mI (D t0 4), mI x3] [] (c_X10_nextLetter (d := 2) (Nat.le_refl _) e1) cw_X10_61 w_674 dX10_paintDay_9 rfl (by omega) rfl rfl rfl rfl (by decide) (by decide) ?_
  refine j_istore (pc' := 14) (ls' := [some (mR t0), some (mI x1), some (mI x2), some (mI x3), some (mI v1)]) dX10_paintDay_12 rfl (by decide) rfl ?_
  refine j_iload (pc' := 16) dX10_paintDay_14 rfl rfl ?_
  refine j_iconst (pc' := 17) dX10_paintDay_16 rfl ?_
  obtain ⟨q1, h⟩ := ck_o h
  refine j_icmp_eq (tgt := 59) (pc' := 20) dX10_paintDay_17 rfl rfl q1 (by decide) (fun b1 => ?_) (fun b1 => ?_)
  · replace h := ite_t b1 h
    exact j_wk (j_widen (ce := 0) (ke := 0) (by decide) (by decide) (c_X10_paintDay_j59 hd hT0 h)) (And.intro rfl (And.intro rfl trivial))
  · replace h := ite_f b1 h
    refine j_aload_n (pc' := 21) dX10_paintDay_20 rfl rfl ?_
    refine j_dup (pc' := 22) dX10_paintDay_21 rfl rfl ?_
    refine k_getI (pc' := 25) (sl := 3) (z := D1 t0 3) kc_9 w_218 (by decide) dX10_paintDay_22 rfl (work_lt hT0) (workA_0 hT0) (by decide) rfl rfl ?_
    refine j_iconst (pc' := 26) dX10_paintDay_25 rfl ?_
    refine j_iload (pc' := 28) dX10_paintDay_26 rfl rfl ?_
    refine j_ishl (pc' := 29) dX10_paintDay_28 rfl ?_
    refine j_ior (pc' := 30) dX10_paintDay_29 rfl ?_
    refine k_putI (pc' := 33) (sl := 3) (i' := 3) kc_9 w_218 (by decide) (Or.inl rfl) dX10_paintDay_30 rfl (work_lt hT0) (workA_0 hT0) (by decide) ⟨rfl, rfl⟩ rfl ?_
    refine j_aload_n (pc' := 34) dX10_paintDay_33 rfl rfl ?_
    refine k_getR (pc' := 37) (sl := 2) (r := (t0 + 3)) kc_9 w_216 (Or.inl rfl) (by decide) dX10_paintDay_34 rfl (work_lt hT0) (workA_0 hT0) (by decide) rfl (workL_3 hT0) ?_
    refine j_iload (pc' := 39) dX10_paintDay_37 rfl rfl ?_
    refine j_aload_n (pc' := 40) dX10_paintDay_39 rfl rfl ?_
    refine k_getI (pc' := 43) (sl := 7) (z := (pD D1 t0 3 (bOr (D1 t0 3) (bShl 1 v1))) t0 7) kc_9 w_226 (by decide) dX10_paintDay_40 rfl (work_lt hT0) (workA_0 hT0) (by decide) rfl rfl ?_
    obtain ⟨q2, h⟩ := ck_o h
    refine k_iast (pc' := 44) dX10_paintDay_43 rfl (workL_3 hT0) (workA_3 hT0) (by decide) q2.1 q2.2 ?_
    refine j_aload_n (pc' := 45) dX10_paintDay_44 rfl rfl ?_
    refine j_iload (pc' := 47) dX10_paintDay_45 rfl rfl ?_
    refine j_iload_n (pc' := 48) dX10_paintDay_47 rfl rfl ?_
    refine j_aload_n (pc' := 49) dX10_paintDay_48 rfl rfl ?_
    refine j_iload (pc' := 51) dX10_paintDay_49 rfl rfl ?_
    refine j_iload_n (pc' := 52) dX10_paintDay_51 rfl rfl ?_
    refine j_iload_n (pc' := 53) dX10_paintDay_52 rfl rfl ?_
    obtain ⟨v2, D2, e2, h⟩ := bI_o h
    refine k_cV (d' := 6) (pc' := 56) [mI v1, mI x2, mI x3] [mI x1, mI v1, mR t0] (c_X10_slipBeside (d := 6) (Nat.le_refl _) hT0 e2) cw_X10_65 kc_9 w_1243 ws_33 dX10_paintDay_53 rfl (by omega) rfl rfl (work_lt hT0) (workA_0 hT0) rfl rfl (by decide) (by decide) ?_
    obtain ⟨v3, D3, e3, h⟩ := bI_o h
    refine k_cVv (d' := 6) (pc' := 59) [mI v1, mI x1, mI v2] [] (c_X10_writeLog (d := 6) (Nat.le_refl _) hT0 e3) cw_X10_68 kc_9 w_1254 ws_35 dX10_paintDay_56 rfl (by omega) rfl rfl (work_lt hT0) (workA_0 hT0) rfl rfl (by decide) (by decide) ?_
    exact j_wk (j_widen (ce := 0) (ke := 0) (by decide) (by decide) (c_X10_paintDay_j59 hd hT0 h)) (And.intro rfl (And.intro rfl trivial))
theorem c_X10_paintDay {d : Nat} (hd : 7 ≤ d) {t0 : Nat} (hT0 : IsWork t0) {x1 x2 x3 : Int} {D D' : mD} {v : Int} (h : F_X10_paintDay t0 x1 x2 x3 D = some (v, D')) : CM d 0 0 M_X10_paintDay [mR t0, mI x1, mI x2, mI x3] (SK, D, false) (rI v D') := CM.intro pn_X10 rfl rfl (Nat.le_of_ble_eq_true rfl) (fun _ => c_X10_paintDay_e hd hT0 h)
theorem c_X10_logged_e {Ω : mO} {d : Nat} (hd : 6 ≤ d) {t0 : Nat} (hT0 : IsWork t0) {r : Int × mD} {x1 x2 : Int} {D : mD} (h : F_X10_logged t0 x1 x2 D = some r) : J Ω M_X10_logged d 0 0 (rI r.1 r.2) 0 [some (mR t0), some (mI x1), some (mI x2), none] [] (SK, D, false) 0 0 := by
  rw [F_X10_logged] at h
  refine j_aload_n (pc' := 1) dX10_logged_0 rfl rfl ?_
  refine k_getI (pc' := 4) (sl := 10) (z := D t0 10) kc_9 w_231 (by decide) dX10_logged_1 rfl (work_lt hT0) (workA_0 hT0) (by decide) rfl rfl ?_
  refine j_iconst (pc' := 5) dX10_logged_4 rfl ?_
  refine j_isub (pc' := 6) dX10_logged_5 rfl ?_
  refine j_iload_n (pc' := 7) dX10_logged_6 rfl rfl ?_
  refine j_isub (pc' := 8) dX10_logged_7 rfl ?_
  refine j_bipush (pc' := 10) dX10_logged_8 rfl rfl ?_
  obtain ⟨q1, h⟩ := ck_o h
  refine k_cS (d' := 1) (pc' := 13) [mI (((D t0 10) - 1) - x1), mI 60] [] (k_fmod (d := 1) (Nat.le_refl _) q1 (by decide) (by decide)) cw_X10_86 w_1456 dX10_logged_10 rfl (by omega) rfl rfl rfl rfl (by decide) (by decide) ?_
  refine j_istore_n (pc' := 14) (ls' := [some (mR t0), some (mI x1), some (mI x2), some (mI ((((D t0 10) - 1) - x1) % 60))]) dX10_logged_13 rfl (by decide) rfl ?_
  refine j_aload_n (pc' := 15) dX10_logged_14 rfl rfl ?_
  refine k_getR (pc' := 18) (sl := 8) (r := (t0 + 4)) kc_9 w_228 (Or.inl rfl) (by decide) dX10_logged_15 rfl (work_lt hT0) (workA_0 hT0) (by decide) rfl (workL_4 hT0) ?_
  refine j_iload_n (pc' := 19) dX10_logged_18 rfl rfl ?_
  refine j_iconst (pc' := 20) dX10_logged_19 rfl ?_
  refine j_imul (pc' := 21) dX10_logged_20 rfl ?_
  refine j_iload_n (pc' := 22) dX10_logged_21 rfl rfl ?_
  refine j_iadd (pc' := 23) dX10_logged_22 rfl ?_
  obtain ⟨q2, h⟩ := ck_o h
  refine k_iald (pc' := 24) (z := D (t0 + 4) ((((((D t0 10) - 1) - x1) % 60) * 4) + x2)) dX10_logged_23 rfl (workL_4 hT0) (workA_4 hT0) (by decide) q2.1 q2.2 rfl ?_
  exact j_iret dX10_logged_24 rfl (by decide) (by decide) (rI_of h)
theorem c_X10_logged {d : Nat} (hd : 6 ≤ d) {t0 : Nat} (hT0 : IsWork t0) {x1 x2 : Int} {D D' : mD} {v : Int} (h : F_X10_logged t0 x1 x2 D = some (v, D')) : CM d 0 0 M_X10_logged [mR t0, mI x1, mI x2] (SK, D, false) (rI v D') := CM.intro pn_X10 rfl rfl (Nat.le_of_ble_eq_true rfl) (fun _ => c_X10_logged_e hd hT0 h)
theorem c_X10_orderOf_j78 {Ω : mO} {d : Nat} (hd : 3 ≤ d) {t0 : Nat} (hT0 : IsWork t0) {r : Int × mD} {x1 x6 x7 : Int} {D : mD} (h : F_X10_orderOf_j78 t0 x1 x6 x7 D = some r) : J Ω M_X10_orderOf d 0 0 (rI r.1 r.2) 78 [none, some (mI x1), none, none, none, none, some (mI x6), some (mI x7)] [] (SK, D, false) 0 0 := by
  rw [F_X10_orderOf_j78] at h
  refine j_iload_n (pc' := 79) dX10_orderOf_78 rfl rfl ?_
  refine j_iconst (pc' := 80) dX10_orderOf_79 rfl ?_
  obtain ⟨q1, h⟩ := ck_o h
  have hj : J Ω M_X10_orderOf d 0 0 (rI r.1 r.2) 90 [none, none, none, none, none, none, none, none] [mI (if x1 = (-1) then x7 else x6)] (SK, D, false) 0 0 := by
    exact j_iret dX10_orderOf_90 rfl (by decide) (by decide) (rI_of h)
  refine j_icmp_ne (tgt := 88) (pc' := 83) dX10_orderOf_80 rfl rfl q1 (by decide) (fun b1 => ?_) (fun b1 => ?_)
  · refine j_iload (pc' := 90) dX10_orderOf_88 rfl rfl ?_
    have hj := hj
    try simp only [if_neg b1] at hj
    exact j_wk hj (trivial)
  · refine j_iload (pc' := 85) dX10_orderOf_83 rfl rfl ?_
    refine j_goto (tgt := 90) dX10_orderOf_85 rfl ?_
    have hj := hj
    try simp only [if_pos b1] at hj
    exact j_wk hj (trivial)
theorem c_X10_orderOf_j62 {Ω : mO} {d : Nat} (hd : 3 ≤ d) {t0 : Nat} (hT0 : IsWork t0) {r : Int × mD} {K24 : Int → Int → Int → Int → mD → RI} {x1 x2 x3 x4 x5 x6 x7 : Int} (hK24 : ∀ {x4 x5 x6 x7 : Int} {D : mD}, K24 x4 x5 x6 x7 D = some r → J Ω M_X10_orderOf d 0 0 (rI r.1 r.2) 24 [none, some (mI x1), some (mI x2), some (mI x3), some (mI x4), some (mI x5), some (mI x6), some (mI x7)] [] (SK, D, false) 0 0) {D : mD} (h : F_X10_orderOf_j62 t0 K24 x1 x2 x3 x4 x5 x6 x7 D = some r) : J Ω M_X10_orderOf d 0 0 (rI r.1 r.2) 62 [none, some (mI x1), some (mI x2), some (mI x3), some (mI x4), some (mI x5), some (mI x6), some (mI x7)] [] (SK, D, false) 0 0 := by
  rw [F_X10_orderOf_j62] at h
  refine j_iload (pc' := 64) dX10_orderOf_62 rfl rfl ?_
  refine j_iload_n (pc' := 65) dX10_orderOf_64 rfl rfl ?_
  obtain ⟨q1, h⟩ := ck_o h
  obtain ⟨q2, h⟩ := ck_o h
  have hj : J Ω M_X10_orderOf d 0 0 (rI r.1 r.2) 72 [none, some (mI x1), some (mI x2), some (mI x3), some (mI x4), some (mI x5), some (mI (if x7 = x1 then x5 else x6)), some (mI x7)] [] (SK, D, false) 0 0 := by
    refine j_iinc (pc' := 75) (z' := (x7 + 1)) (ls' := [none, some (mI x1), some (mI x2), some (mI x3), some (mI x4), some (mI x5), some (mI (if x7 = x1 then x5 else x6)), some (mI (x7 + 1))]) dX10_orderOf_72 rfl rfl rfl (by decide) rfl ?_
    refine j_goto (tgt := 24) dX10_orderOf_75 rfl ?_
    exact j_wk (j_widen (ce := 0) (ke := 0) (by decide) (by decide) (hK24 h)) (And.intro rfl (And.intro rfl (And.intro rfl (And.intro rfl (And.intro rfl (And.intro rfl (And.intro rfl trivial)))))))
  refine j_icmp_ne (tgt := 72) (pc' := 68) dX10_orderOf_65 rfl rfl q1 q2 (fun b1 => ?_) (fun b1 => ?_)
  · have hj := hj
    try simp only [if_neg b1] at hj
    exact j_wk hj (And.intro rfl (And.intro rfl (And.intro rfl (And.intro rfl (And.intro rfl (And.intro rfl (And.intro rfl trivial)))))))
  · refine j_iload (pc' := 70) dX10_orderOf_68 rfl rfl ?_
    refine j_istore (pc' := 72) (ls' := [none, some (mI x1), some (mI x2), some (mI x3), some (mI x4), some (mI x5), some (mI x5), some (mI x7)]) dX10_orderOf_70 rfl (by decide) rfl ?_
    have hj := hj
    try simp only [if_pos b1] at hj
    exact j_wk hj (And.intro rfl (And.intro rfl (And.intro rfl (And.intro rfl (And.intro rfl (And.intro rfl (And.intro rfl trivial)))))))
theorem c_X10_orderOf_L24 {Ω : mO} {d : Nat} (hd : 3 ≤ d) {t0 : Nat} (hT0 : IsWork t0) {r : Int × mD} {x1 x2 x3 : Int} : ∀ (n : Nat) {x4 x5 x6 x7 : Int} {D : mD}, F_X10_orderOf_L24 t0 x1 x2 x3 n x4 x5 x6 x7 D = some r → J Ω M_X10_orderOf d 0 0 (rI r.1 r.2) 24 [none, some (mI x1), some (mI x2), some (mI x3), some (mI x4), some (mI x5), some (mI x6), some (mI x7)] [] (SK, D, false) 0 0 := by
  intro n
  induction n with
  | zero => intro x4 x5 x6 x7 D h; exact absurd (show (none : Option (Int × mD)) = some r from h) nofun
  | succ n ih =>
    intro x4 x5 x6 x7 D h
    rw [F_X10_orderOf_L24] at h
    refine j_iload (pc' := 26) dX10_orderOf_24 rfl rfl ?_
    refine j_iload_n (pc' := 27) dX10_orderOf_26 rfl rfl ?_
    obtain ⟨q1, h⟩ := ck_o h
    obtain ⟨q2, h⟩ := ck_o h
    refine j_icmp_eq (tgt := 78) (pc' := 30) dX10_orderOf_27 rfl rfl q1 q2 (fun b1 => ?_) (fun b1 => ?_)
    · replace h := ite_t b1 h
      exact j_wk (j_widen (ce := 0) (ke := 0) (by decide) (by decide) (c_X10_orderOf_j78 hd hT0 h)) (And.intro rfl (And.intro rfl (And.intro rfl trivial)))
    · replace h := ite_f b1 h
      refine j_iload (pc' := 32) dX10_orderOf_30 rfl rfl ?_
      refine j_bipush (pc' := 34) dX10_orderOf_32 rfl rfl ?_
      obtain ⟨q3, h⟩ := ck_o h
      refine j_icmp_ge (tgt := 78) (pc' := 37) dX10_orderOf_34 rfl rfl q3 (by decide) (fun b2 => ?_) (fun b2 => ?_)
      · replace h := ite_t b2 h
        exact j_wk (j_widen (ce := 0) (ke := 0) (by decide) (by decide) (c_X10_orderOf_j78 hd hT0 h)) (And.intro rfl (And.intro rfl (And.intro rfl trivial)))
      · replace h := ite_f b2 h
        refine j_iload (pc' := 39) dX10_orderOf_37 rfl rfl ?_
        refine j_iload (pc' := 41) dX10_orderOf_39 rfl rfl ?_
        refine j_iload_n (pc' := 42) dX10_orderOf_41 rfl rfl ?_
        obtain ⟨v1, D1, e1, h⟩ := bI_o h
        refine k_cS (d' := 2) (pc' := 45) [mI x4, mI x5, mI x2] [] (c_X10_nextLetter (d := 2) (Nat.le_refl _) e1) cw_X10_61 w_674 dX10_orderOf_42 rfl (by omega) rfl rfl rfl rfl (by decide) (by decide) ?_
        refine j_istore (pc' := 47) (ls' := [none, some (mI x1), some (mI x2), some (mI x3), some (mI x4), some (mI v1), some (mI x6), some (mI x7)]) dX10_orderOf_45 rfl (by decide) rfl ?_
        refine j_iload (pc' := 49) dX10_orderOf_47 rfl rfl ?_
        refine j_iconst (pc' := 50) dX10_orderOf_49 rfl ?_
        obtain ⟨q4, h⟩ := ck_o h
        have hj : J Ω M_X10_orderOf d 0 0 (rI r.1 r.2) 62 [none, some (mI x1), some (mI x2), some (mI x3), some (mI (if v1 = (-1) then x4 else (bOr x4 (bShl 1 v1)))), some (mI v1), some (mI x6), some (mI x7)] [] (SK, D1, false) 0 0 := by
          exact j_wk (j_widen (ce := 0) (ke := 0) (by decide) (by decide) (c_X10_orderOf_j62 hd hT0 ih h)) (And.intro rfl (And.intro rfl (And.intro rfl (And.intro rfl (And.intro rfl (And.intro rfl (And.intro rfl trivial)))))))
        refine j_icmp_eq (tgt := 62) (pc' := 53) dX10_orderOf_50 rfl rfl q4 (by decide) (fun b3 => ?_) (fun b3 => ?_)
        · have hj := hj
          try simp only [if_pos b3] at hj
          exact j_wk hj (And.intro rfl (And.intro rfl (And.intro rfl (And.intro rfl (And.intro rfl (And.intro rfl (And.intro rfl trivial)))))))
        · refine j_iload (pc' := 55) dX10_orderOf_53 rfl rfl ?_
          refine j_iconst (pc' := 56) dX10_orderOf_55 rfl ?_
          refine j_iload (pc' := 58) dX10_orderOf_56 rfl rfl ?_
          refine j_ishl (pc' := 59) dX10_orderOf_58 rfl ?_
          refine j_ior (pc' := 60) dX10_orderOf_59 rfl ?_
          refine j_istore (pc' := 62) (ls' := [none, some (mI x1), some (mI x2), some (mI x3), some (mI (bOr x4 (bShl 1 v1))), some (mI v1), some (mI x6), some (mI x7)]) dX10_orderOf_60 rfl (by decide) rfl ?_
          have hj := hj
          try simp only [if_neg b3] at hj
          exact j_wk hj (And.intro rfl (And.intro rfl (And.intro rfl (And.intro rfl (And.intro rfl (And.intro rfl (And.intro rfl trivial)))))))
theorem c_X10_orderOf_e {Ω : mO} {d : Nat} (hd : 3 ≤ d) {t0 : Nat} (hT0 : IsWork t0) {r : Int × mD} {x1 x2 : Int} {D : mD} (h : F_X10_orderOf t0 x1 x2 D = some r) : J Ω M_X10_orderOf d 0 0 (rI r.1 r.2) 0 [some (mR t0), some (mI x1), some (mI x2), none, none, none, none, none] [] (SK, D, false) 0 0 := by
  rw [F_X10_orderOf] at h
  refine j_iconst (pc' := 1) dX10_orderOf_0 rfl ?_
  refine j_iload_n (pc' := 2) dX10_orderOf_1 rfl rfl ?_
  refine j_ishl (pc' := 3) dX10_orderOf_2 rfl ?_
  refine j_iconst (pc' := 4) dX10_orderOf_3 rfl ?_
  refine j_isub (pc' := 5) dX10_orderOf_4 rfl ?_
  refine j_istore_n (pc' := 6) (ls' := [some (mR t0), some (mI x1), some (mI x2), some (mI ((bShl 1 x2) - 1)), none, none, none, none]) dX10_orderOf_5 rfl (by decide) rfl ?_
  refine j_aload_n (pc' := 7) dX10_orderOf_6 rfl rfl ?_
  refine k_getI (pc' := 10) (sl := 3) (z := D t0 3) kc_9 w_218 (by decide) dX10_orderOf_7 rfl (work_lt hT0) (workA_0 hT0) (by decide) rfl rfl ?_
  refine j_istore (pc' := 12) (ls' := [some (mR t0), some (mI x1), some (mI x2), some (mI ((bShl 1 x2) - 1)), some (mI (D t0 3)), none, none, none]) dX10_orderOf_10 rfl (by decide) rfl ?_
  refine j_aload_n (pc' := 13) dX10_orderOf_12 rfl rfl ?_
  refine k_getI (pc' := 16) (sl := 4) (z := D t0 4) kc_9 w_220 (by decide) dX10_orderOf_13 rfl (work_lt hT0) (workA_0 hT0) (by decide) rfl rfl ?_
  refine j_istore (pc' := 18) (ls' := [some (mR t0), some (mI x1), some (mI x2), some (mI ((bShl 1 x2) - 1)), some (mI (D t0 3)), some (mI (D t0 4)), none, none]) dX10_orderOf_16 rfl (by decide) rfl ?_
  refine j_iconst (pc' := 19) dX10_orderOf_18 rfl ?_
  refine j_istore (pc' := 21) (ls' := [some (mR t0), some (mI x1), some (mI x2), some (mI ((bShl 1 x2) - 1)), some (mI (D t0 3)), some (mI (D t0 4)), some (mI (-1)), none]) dX10_orderOf_19 rfl (by decide) rfl ?_
  refine j_iconst (pc' := 22) dX10_orderOf_21 rfl ?_
  refine j_istore (pc' := 24) (ls' := [some (mR t0), some (mI x1), some (mI x2), some (mI ((bShl 1 x2) - 1)), some (mI (D t0 3)), some (mI (D t0 4)), some (mI (-1)), some (mI 0)]) dX10_orderOf_22 rfl (by decide) rfl ?_
  exact j_wk (j_widen (ce := 0) (ke := 0) (by decide) (by decide) (c_X10_orderOf_L24 hd hT0 _ h)) (And.intro rfl (And.intro rfl (And.intro rfl (And.intro rfl (And.intro rfl (And.intro rfl (And.intro rfl trivial)))))))
theorem c_X10_orderOf {d : Nat} (hd : 3 ≤ d) {t0 : Nat} (hT0 : IsWork t0) {x1 x2 : Int} {D D' : mD} {v : Int} (h : F_X10_orderOf t0 x1 x2 D = some (v, D')) : CM d 0 0 M_X10_orderOf [mR t0, mI x1, mI x2] (SK, D, false) (rI v D') := CM.intro pn_X10 rfl rfl (Nat.le_of_ble_eq_true rfl) (fun _ => c_X10_orderOf_e hd hT0 h)
theorem c_X10_needsPause_j19 {Ω : mO} {d : Nat} (hd : 2 ≤ d) {t0 : Nat} (hT0 : IsWork t0) {r : Int × mD} {x1 x2 s0 : Int} {D : mD} (h : F_X10_needsPause_j19 t0 x1 x2 s0 D = some r) : J Ω M_X10_needsPause d 0 0 (rI r.1 r.2) 19 [none, some (mI x1), some (mI x2), none] [mI s0] (SK, D, false) 0 0 := by
  rw [F_X10_needsPause_j19] at h
  refine j_istore_n (pc' := 20) (ls' := [none, some (mI x1), some (mI x2), some (mI s0)]) dX10_needsPause_19 rfl (by decide) rfl ?_
  refine j_iload_n (pc' := 21) dX10_needsPause_20 rfl rfl ?_
  obtain ⟨q1, h⟩ := ck_o h
  by_cases b1 : x2 = 1
  · replace h := ite_t b1 h
    refine j_tabIn (off := 27) (tgt := 48) dX10_needsPause_21 q1 (by rw [b1]; decide) (by rw [b1]; decide) (by rw [b1]; rfl) rfl ?_
    refine j_iload_n (pc' := 49) dX10_needsPause_48 rfl rfl ?_
    obtain ⟨q2, h⟩ := ck_o h
    exact j_zret dX10_needsPause_49 rfl q2 (by decide) (by decide) (rI_of h)
  replace h := ite_f b1 h
  by_cases b2 : x2 = 2
  · replace h := ite_t b2 h
    refine j_tabIn (off := 29) (tgt := 50) dX10_needsPause_21 q1 (by rw [b2]; decide) (by rw [b2]; decide) (by rw [b2]; rfl) rfl ?_
    refine j_iload_n (pc' := 51) dX10_needsPause_50 rfl rfl ?_
    obtain ⟨q3, h⟩ := ck_o h
    obtain ⟨q4, h⟩ := ck_o h
    have hj : J Ω M_X10_needsPause d 0 0 (rI r.1 r.2) 67 [none, none, none, none] [mI (if s0 = 0 then (if (bAnd x1 (bShl x1 1)) = 0 then (0 : Int) else (1 : Int)) else (1 : Int))] (SK, D, false) 0 0 := by
      obtain ⟨q5, h⟩ := ck_o h
      exact j_zret dX10_needsPause_67 rfl q5 (by decide) (by decide) (rI_of h)
    refine j_if_ne (tgt := 62) (pc' := 54) dX10_needsPause_51 rfl rfl q3 (fun b3 => ?_) (fun b3 => ?_)
    · refine j_iconst (pc' := 63) dX10_needsPause_62 rfl ?_
      refine j_goto (tgt := 67) dX10_needsPause_63 rfl ?_
      have hj := hj
      try simp only [if_neg b3] at hj
      exact j_wk hj (trivial)
    · refine j_iload_n (pc' := 55) dX10_needsPause_54 rfl rfl ?_
      refine j_iload_n (pc' := 56) dX10_needsPause_55 rfl rfl ?_
      refine j_iconst (pc' := 57) dX10_needsPause_56 rfl ?_
      refine j_ishl (pc' := 58) dX10_needsPause_57 rfl ?_
      refine j_iand (pc' := 59) dX10_needsPause_58 rfl ?_
      refine j_if_eq (tgt := 66) (pc' := 62) dX10_needsPause_59 rfl rfl (q4 b3) (fun b4 => ?_) (fun b4 => ?_)
      · refine j_iconst (pc' := 67) dX10_needsPause_66 rfl ?_
        have hj := hj
        try simp only [if_pos b3, if_pos b4] at hj
        exact j_wk hj (trivial)
      · refine j_iconst (pc' := 63) dX10_needsPause_62 rfl ?_
        refine j_goto (tgt := 67) dX10_needsPause_63 rfl ?_
        have hj := hj
        try simp only [if_pos b3, if_neg b4] at hj
        exact j_wk hj (trivial)
  replace h := ite_f b2 h
  by_cases b5 : x2 = 3
  · replace h := ite_t b5 h
    refine j_tabIn (off := 47) (tgt := 68) dX10_needsPause_21 q1 (by rw [b5]; decide) (by rw [b5]; decide) (by rw [b5]; rfl) rfl ?_
    refine j_iload_n (pc' := 69) dX10_needsPause_68 rfl rfl ?_
    refine j_iload_n (pc' := 70) dX10_needsPause_69 rfl rfl ?_
    refine j_iconst (pc' := 71) dX10_needsPause_70 rfl ?_
    refine j_ishl (pc' := 72) dX10_needsPause_71 rfl ?_
    refine j_iand (pc' := 73) dX10_needsPause_72 rfl ?_
    refine j_iload_n (pc' := 74) dX10_needsPause_73 rfl rfl ?_
    refine j_iconst (pc' := 75) dX10_needsPause_74 rfl ?_
    refine j_ishl (pc' := 76) dX10_needsPause_75 rfl ?_
    refine j_iand (pc' := 77) dX10_needsPause_76 rfl ?_
    obtain ⟨q6, h⟩ := ck_o h
    have hj : J Ω M_X10_needsPause d 0 0 (rI r.1 r.2) 85 [none, none, none, none] [mI (if (bAnd (bAnd x1 (bShl x1 1)) (bShl x1 2)) = 0 then (0 : Int) else (1 : Int))] (SK, D, false) 0 0 := by
      obtain ⟨q7, h⟩ := ck_o h
      exact j_zret dX10_needsPause_85 rfl q7 (by decide) (by decide) (rI_of h)
    refine j_if_eq (tgt := 84) (pc' := 80) dX10_needsPause_77 rfl rfl q6 (fun b6 => ?_) (fun b6 => ?_)
    · refine j_iconst (pc' := 85) dX10_needsPause_84 rfl ?_
      have hj := hj
      try simp only [if_pos b6] at hj
      exact j_wk hj (trivial)
    · refine j_iconst (pc' := 81) dX10_needsPause_80 rfl ?_
      refine j_goto (tgt := 85) dX10_needsPause_81 rfl ?_
      have hj := hj
      try simp only [if_neg b6] at hj
      exact j_wk hj (trivial)
  replace h := ite_f b5 h
  refine j_tabOut (tgt := 86) dX10_needsPause_21 q1 (by omega) rfl ?_
  refine j_iconst (pc' := 87) dX10_needsPause_86 rfl ?_
  exact j_zret dX10_needsPause_87 rfl (Or.inl rfl) (by decide) (by decide) (rI_of h)
theorem c_X10_needsPause_e {Ω : mO} {d : Nat} (hd : 2 ≤ d) {t0 : Nat} (hT0 : IsWork t0) {r : Int × mD} {x1 x2 : Int} {D : mD} (h : F_X10_needsPause t0 x1 x2 D = some r) : J Ω M_X10_needsPause d 0 0 (rI r.1 r.2) 0 [some (mR t0), some (mI x1), some (mI x2), none] [] (SK, D, false) 0 0 := by
  rw [F_X10_needsPause] at h
  refine j_iload_n (pc' := 1) dX10_needsPause_0 rfl rfl ?_
  refine j_aload_n (pc' := 2) dX10_needsPause_1 rfl rfl ?_
  refine k_getI (pc' := 5) (sl := 4) (z := D t0 4) kc_9 w_220 (by decide) dX10_needsPause_2 rfl (work_lt hT0) (workA_0 hT0) (by decide) rfl rfl ?_
  obtain ⟨v1, D1, e1, h⟩ := bI_o h
  refine k_cS (d' := 1) (pc' := 8) [mI (D t0 4)] [mI x1] (c_X10_beside (d := 1) (Nat.le_refl _) e1) cw_X10_89 w_677 dX10_needsPause_5 rfl (by omega) rfl rfl rfl rfl (by decide) (by decide) ?_
  refine j_iconst (pc' := 9) dX10_needsPause_8 rfl ?_
  refine j_ixor (pc' := 10) dX10_needsPause_9 rfl ?_
  refine j_iand (pc' := 11) dX10_needsPause_10 rfl ?_
  obtain ⟨q1, h⟩ := ck_o h
  have hj : J Ω M_X10_needsPause d 0 0 (rI r.1 r.2) 19 [none, some (mI x1), some (mI x2), none] [mI (if (bAnd x1 (bXor v1 (-1))) = 0 then (1 : Int) else (0 : Int))] (SK, D1, false) 0 0 := by
    exact j_wk (j_widen (ce := 0) (ke := 0) (by decide) (by decide) (c_X10_needsPause_j19 hd hT0 h)) (And.intro rfl (And.intro rfl trivial))
  refine j_if_ne (tgt := 18) (pc' := 14) dX10_needsPause_11 rfl rfl q1 (fun b1 => ?_) (fun b1 => ?_)
  · refine j_iconst (pc' := 19) dX10_needsPause_18 rfl ?_
    have hj := hj
    try simp only [if_neg b1] at hj
    exact j_wk hj (And.intro rfl (And.intro rfl trivial))
  · refine j_iconst (pc' := 15) dX10_needsPause_14 rfl ?_
    refine j_goto (tgt := 19) dX10_needsPause_15 rfl ?_
    have hj := hj
    try simp only [if_pos b1] at hj
    exact j_wk hj (And.intro rfl (And.intro rfl trivial))
theorem c_X10_needsPause {d : Nat} (hd : 2 ≤ d) {t0 : Nat} (hT0 : IsWork t0) {x1 x2 : Int} {D D' : mD} {v : Int} (h : F_X10_needsPause t0 x1 x2 D = some (v, D')) : CM d 0 0 M_X10_needsPause [mR t0, mI x1, mI x2] (SK, D, false) (rI v D') := CM.intro pn_X10 rfl rfl (Nat.le_of_ble_eq_true rfl) (fun _ => c_X10_needsPause_e hd hT0 h)
theorem c_X10_fewestDays_e {Ω : mO} {d : Nat} (hd : 6 ≤ d) {t0 : Nat} (hT0 : IsWork t0) {r : Int × mD} {x1 : Int} {D : mD} (h : F_X10_fewestDays t0 x1 D = some r) : J Ω M_X10_fewestDays d 0 0 (rI r.1 r.2) 0 [some (mR t0), some (mI x1), none, none] [] (SK, D, false) 0 0 := by
  rw [F_X10_fewestDays] at h
  refine j_iconst (pc' := 1) dX10_fewestDays_0 rfl ?_
  refine j_iload_n (pc' := 2) dX10_fewestDays_1 rfl rfl ?_
  refine j_ishl (pc' := 3) dX10_fewestDays_2 rfl ?_
  refine j_iconst (pc' := 4) dX10_fewestDays_3 rfl ?_
  refine j_isub (pc' := 5) dX10_fewestDays_4 rfl ?_
  refine j_aload_n (pc' := 6) dX10_fewestDays_5 rfl rfl ?_
  refine k_getI (pc' := 9) (sl := 3) (z := D t0 3) kc_9 w_218 (by decide) dX10_fewestDays_6 rfl (work_lt hT0) (workA_0 hT0) (by decide) rfl rfl ?_
  refine j_iconst (pc' := 10) dX10_fewestDays_9 rfl ?_
  refine j_ixor (pc' := 11) dX10_fewestDays_10 rfl ?_
  refine j_iand (pc' := 12) dX10_fewestDays_11 rfl ?_
  refine j_istore_n (pc' := 13) (ls' := [some (mR t0), some (mI x1), some (mI (bAnd ((bShl 1 x1) - 1) (bXor (D t0 3) (-1)))), none]) dX10_fewestDays_12 rfl (by decide) rfl ?_
  refine j_iload_n (pc' := 14) dX10_fewestDays_13 rfl rfl ?_
  obtain ⟨q1, h⟩ := ck_o h
  refine k_cS (d' := 1) (pc' := 17) [mI (bAnd ((bShl 1 x1) - 1) (bXor (D t0 3) (-1)))] [] (k_bc (d := 1) (Nat.le_refl _) ) cw_X10_93 w_688 dX10_fewestDays_14 rfl (by omega) rfl rfl rfl rfl (by decide) (by decide) ?_
  refine j_istore_n (pc' := 18) (ls' := [some (mR t0), some (mI x1), some (mI (bAnd ((bShl 1 x1) - 1) (bXor (D t0 3) (-1)))), some (mI (bC (bAnd ((bShl 1 x1) - 1) (bXor (D t0 3) (-1)))))]) dX10_fewestDays_17 rfl (by decide) rfl ?_
  refine j_iload_n (pc' := 19) dX10_fewestDays_18 rfl rfl ?_
  refine j_bipush (pc' := 21) dX10_fewestDays_19 rfl rfl ?_
  obtain ⟨q2, h⟩ := ck_o h
  refine j_icmp_le (tgt := 27) (pc' := 24) dX10_fewestDays_21 rfl rfl q2 (by decide) (fun b1 => ?_) (fun b1 => ?_)
  · replace h := ite_t b1 h
    refine j_aload_n (pc' := 28) dX10_fewestDays_27 rfl rfl ?_
    refine j_iload_n (pc' := 29) dX10_fewestDays_28 rfl rfl ?_
    refine j_iload_n (pc' := 30) dX10_fewestDays_29 rfl rfl ?_
    obtain ⟨v1, D1, e1, h⟩ := bI_o h
    refine k_cV (d' := 2) (pc' := 33) [mI (bAnd ((bShl 1 x1) - 1) (bXor (D t0 3) (-1))), mI (bC (bAnd ((bShl 1 x1) - 1) (bXor (D t0 3) (-1))))] [] (c_X10_needsPause (d := 2) (Nat.le_refl _) hT0 e1) cw_X10_98 kc_9 w_695 ws_7 dX10_fewestDays_30 rfl (by omega) rfl rfl (work_lt hT0) (workA_0 hT0) rfl rfl (by decide) (by decide) ?_
    obtain ⟨q3, h⟩ := ck_o h
    have hj : J Ω M_X10_fewestDays d 0 0 (rI r.1 r.2) 43 [none, none, none, none] [mI (if v1 = 0 then (bC (bAnd ((bShl 1 x1) - 1) (bXor (D t0 3) (-1)))) else ((bC (bAnd ((bShl 1 x1) - 1) (bXor (D t0 3) (-1)))) + 1))] (SK, D1, false) 0 0 := by
      exact j_iret dX10_fewestDays_43 rfl (by decide) (by decide) (rI_of h)
    refine j_if_eq (tgt := 42) (pc' := 36) dX10_fewestDays_33 rfl rfl q3 (fun b2 => ?_) (fun b2 => ?_)
    · refine j_iload_n (pc' := 43) dX10_fewestDays_42 rfl rfl ?_
      have hj := hj
      try simp only [if_pos b2] at hj
      exact j_wk hj (trivial)
    · refine j_iload_n (pc' := 37) dX10_fewestDays_36 rfl rfl ?_
      refine j_iconst (pc' := 38) dX10_fewestDays_37 rfl ?_
      refine j_iadd (pc' := 39) dX10_fewestDays_38 rfl ?_
      refine j_goto (tgt := 43) dX10_fewestDays_39 rfl ?_
      have hj := hj
      try simp only [if_neg b2] at hj
      exact j_wk hj (trivial)
  · replace h := ite_f b1 h
    refine j_bipush (pc' := 26) dX10_fewestDays_24 rfl rfl ?_
    exact j_iret dX10_fewestDays_26 rfl (by decide) (by decide) (rI_of h)
theorem c_X10_fewestDays {d : Nat} (hd : 6 ≤ d) {t0 : Nat} (hT0 : IsWork t0) {x1 : Int} {D D' : mD} {v : Int} (h : F_X10_fewestDays t0 x1 D = some (v, D')) : CM d 0 0 M_X10_fewestDays [mR t0, mI x1] (SK, D, false) (rI v D') := CM.intro pn_X10 rfl rfl (Nat.le_of_ble_eq_true rfl) (fun _ => c_X10_fewestDays_e hd hT0 h)
theorem c_X11_feed_e {Ω : mO} {d : Nat} (hd : 2 ≤ d) {r : Int × mD} {x1 x2 x3 x4 x5 : Int} {D : mD} (h : F_X11_feed x1 x2 x3 x4 x5 D = some r) : J Ω M_X11_feed d 0 0 (rI r.1 r.2) 0 [some (mR 0), some (mI x1), some (mI x2), some (mI x3), some (mI x4), some (mI x5)] [] (SK, D, false) 0 0 := by
  rw [F_X11_feed] at h
  refine j_aload_n (pc' := 1) dX11_feed_0 rfl rfl ?_
  refine k_getR (pc' := 4) (sl := 0) (r := 1) kc_10 w_393 (Or.inl rfl) (by decide) dX11_feed_1 rfl (by decide) sk_0 (by decide) rfl (by decide) ?_
  refine j_bipush (pc' := 6) dX11_feed_4 rfl rfl ?_
  obtain ⟨v1, D1, e1, h⟩ := bI_o h
  refine k_cV (d' := 1) (pc' := 9) [mI 20] [] (c_X8_hasRoomFor (d := 1) (Nat.le_refl _) e1) cw_X11_107 kc_8 w_447 w_448 dX11_feed_6 rfl (by omega) rfl rfl (by decide) sk_1 rfl rfl (by decide) (by decide) ?_
  obtain ⟨q1, h⟩ := ck_o h
  refine j_if_ne (tgt := 14) (pc' := 12) dX11_feed_9 rfl rfl q1 (fun b1 => ?_) (fun b1 => ?_)
  · replace h := ite_f b1 h
    refine j_aload_n (pc' := 15) dX11_feed_14 rfl rfl ?_
    refine k_getR (pc' := 18) (sl := 0) (r := 1) kc_10 w_393 (Or.inl rfl) (by decide) dX11_feed_15 rfl (by decide) sk_0 (by decide) rfl (by decide) ?_
    refine j_iload_n (pc' := 19) dX11_feed_18 rfl rfl ?_
    obtain ⟨v2, D2, e2, h⟩ := bI_o h
    refine k_cVv (d' := 1) (pc' := 22) [mI x1] [] (c_X8_addNumber (d := 1) (Nat.le_refl _) e2) cw_X11_111 kc_8 w_451 w_452 dX11_feed_19 rfl (by omega) rfl rfl (by decide) sk_1 rfl rfl (by decide) (by decide) ?_
    refine j_aload_n (pc' := 23) dX11_feed_22 rfl rfl ?_
    refine k_getR (pc' := 26) (sl := 0) (r := 1) kc_10 w_393 (Or.inl rfl) (by decide) dX11_feed_23 rfl (by decide) sk_0 (by decide) rfl (by decide) ?_
    refine j_iload_n (pc' := 27) dX11_feed_26 rfl rfl ?_
    obtain ⟨v3, D3, e3, h⟩ := bI_o h
    refine k_cVv (d' := 1) (pc' := 30) [mI x2] [] (c_X8_addNumber (d := 1) (Nat.le_refl _) e3) cw_X11_111 kc_8 w_451 w_452 dX11_feed_27 rfl (by omega) rfl rfl (by decide) sk_1 rfl rfl (by decide) (by decide) ?_
    refine j_aload_n (pc' := 31) dX11_feed_30 rfl rfl ?_
    refine k_getR (pc' := 34) (sl := 0) (r := 1) kc_10 w_393 (Or.inl rfl) (by decide) dX11_feed_31 rfl (by decide) sk_0 (by decide) rfl (by decide) ?_
    refine j_iload_n (pc' := 35) dX11_feed_34 rfl rfl ?_
    obtain ⟨v4, D4, e4, h⟩ := bI_o h
    refine k_cVv (d' := 1) (pc' := 38) [mI x3] [] (c_X8_addNumber (d := 1) (Nat.le_refl _) e4) cw_X11_111 kc_8 w_451 w_452 dX11_feed_35 rfl (by omega) rfl rfl (by decide) sk_1 rfl rfl (by decide) (by decide) ?_
    refine j_aload_n (pc' := 39) dX11_feed_38 rfl rfl ?_
    refine k_getR (pc' := 42) (sl := 0) (r := 1) kc_10 w_393 (Or.inl rfl) (by decide) dX11_feed_39 rfl (by decide) sk_0 (by decide) rfl (by decide) ?_
    refine j_iload (pc' := 44) dX11_feed_42 rfl rfl ?_
    obtain ⟨v5, D5, e5, h⟩ := bI_o h
    refine k_cVv (d' := 1) (pc' := 47) [mI x4] [] (c_X8_addNumber (d := 1) (Nat.le_refl _) e5) cw_X11_111 kc_8 w_451 w_452 dX11_feed_44 rfl (by omega) rfl rfl (by decide) sk_1 rfl rfl (by decide) (by decide) ?_
    refine j_aload_n (pc' := 48) dX11_feed_47 rfl rfl ?_
    refine k_getR (pc' := 51) (sl := 0) (r := 1) kc_10 w_393 (Or.inl rfl) (by decide) dX11_feed_48 rfl (by decide) sk_0 (by decide) rfl (by decide) ?_
    refine j_iload (pc' := 53) dX11_feed_51 rfl rfl ?_
    obtain ⟨v6, D6, e6, h⟩ := bI_o h
    refine k_cVv (d' := 1) (pc' := 56) [mI x5] [] (c_X8_addNumber (d := 1) (Nat.le_refl _) e6) cw_X11_111 kc_8 w_451 w_452 dX11_feed_53 rfl (by omega) rfl rfl (by decide) sk_1 rfl rfl (by decide) (by decide) ?_
    refine j_aload_n (pc' := 57) dX11_feed_56 rfl rfl ?_
    refine k_getR (pc' := 60) (sl := 0) (r := 1) kc_10 w_393 (Or.inl rfl) (by decide) dX11_feed_57 rfl (by decide) sk_0 (by decide) rfl (by decide) ?_
    refine k_getI (pc' := 63) (sl := 1) (z := D6 1 1) kc_8 w_46 (by decide) dX11_feed_60 rfl (by decide) sk_1 (by decide) rfl rfl ?_
    exact j_iret dX11_feed_63 rfl (by decide) (by decide) (rI_of h)
  · replace h := ite_t b1 h
    refine j_iconst (pc' := 13) dX11_feed_12 rfl ?_
    exact j_iret dX11_feed_13 rfl (by decide) (by decide) (rI_of h)
theorem c_X11_feed {d : Nat} (hd : 2 ≤ d) {x1 x2 x3 x4 x5 : Int} {D D' : mD} {v : Int} (h : F_X11_feed x1 x2 x3 x4 x5 D = some (v, D')) : CM d 0 0 M_X11_feed [mR 0, mI x1, mI x2, mI x3, mI x4, mI x5] (SK, D, false) (rI v D') := CM.intro pn_X11 rfl rfl (Nat.le_of_ble_eq_true rfl) (fun _ => c_X11_feed_e hd h)
theorem c_X11_end_e {Ω : mO} {d : Nat} (hd : 1 ≤ d) {r : Int × mD} {x1 : Int} {D : mD} (h : F_X11_end x1 D = some r) : J Ω M_X11_end d 0 0 (rI r.1 r.2) 0 [some (mR 0), some (mI x1)] [] (SK, D, false) 0 0 := by
  rw [F_X11_end] at h
  refine j_iload_n (pc' := 1) dX11_end_0 rfl rfl ?_
  obtain ⟨q1, h⟩ := ck_o h
  refine j_if_lt (tgt := 15) (pc' := 4) dX11_end_1 rfl rfl q1 (fun b1 => ?_) (fun b1 => ?_)
  · replace h := ite_t b1 h
    refine j_iconst (pc' := 16) dX11_end_15 rfl ?_
    exact j_zret dX11_end_16 rfl (Or.inl rfl) (by decide) (by decide) (rI_of h)
  · replace h := ite_f b1 h
    refine j_iload_n (pc' := 5) dX11_end_4 rfl rfl ?_
    refine j_aload_n (pc' := 6) dX11_end_5 rfl rfl ?_
    refine k_getR (pc' := 9) (sl := 0) (r := 1) kc_10 w_393 (Or.inl rfl) (by decide) dX11_end_6 rfl (by decide) sk_0 (by decide) rfl (by decide) ?_
    refine k_getI (pc' := 12) (sl := 1) (z := D 1 1) kc_8 w_46 (by decide) dX11_end_9 rfl (by decide) sk_1 (by decide) rfl rfl ?_
    obtain ⟨q2, h⟩ := ck_o h
    refine j_icmp_le (tgt := 17) (pc' := 15) dX11_end_12 rfl rfl q1 q2 (fun b2 => ?_) (fun b2 => ?_)
    · replace h := ite_t b2 h
      refine j_aload_n (pc' := 18) dX11_end_17 rfl rfl ?_
      refine k_getR (pc' := 21) (sl := 0) (r := 1) kc_10 w_393 (Or.inl rfl) (by decide) dX11_end_18 rfl (by decide) sk_0 (by decide) rfl (by decide) ?_
      refine j_iload_n (pc' := 22) dX11_end_21 rfl rfl ?_
      refine k_putI (pc' := 25) (sl := 1) (i' := 1) kc_8 w_46 (by decide) (Or.inl rfl) dX11_end_22 rfl (by decide) sk_1 (by decide) ⟨rfl, rfl⟩ rfl ?_
      refine j_iconst (pc' := 26) dX11_end_25 rfl ?_
      exact j_zret dX11_end_26 rfl (Or.inr rfl) (by decide) (by decide) (rI_of h)
    · replace h := ite_f b2 h
      refine j_iconst (pc' := 16) dX11_end_15 rfl ?_
      exact j_zret dX11_end_16 rfl (Or.inl rfl) (by decide) (by decide) (rI_of h)
theorem c_X11_end {d : Nat} (hd : 1 ≤ d) {x1 : Int} {D D' : mD} {v : Int} (h : F_X11_end x1 D = some (v, D')) : CM d 0 0 M_X11_end [mR 0, mI x1] (SK, D, false) (rI v D') := CM.intro pn_X11 rfl rfl (Nat.le_of_ble_eq_true rfl) (fun _ => c_X11_end_e hd h)
theorem c_X11_forgetActs_e {Ω : mO} {d : Nat} (hd : 7 ≤ d) {r : Int × mD} {D : mD} (h : F_X11_forgetActs D = some r) : J Ω M_X11_forgetActs d 0 0 (rV r.2) 0 [some (mR 0)] [] (SK, D, false) 0 0 := by
  rw [F_X11_forgetActs] at h
  refine j_aload_n (pc' := 1) dX11_forgetActs_0 rfl rfl ?_
  refine k_getR (pc' := 4) (sl := 7) (r := 31) kc_10 w_400 (Or.inl rfl) (by decide) dX11_forgetActs_1 rfl (by decide) sk_0 (by decide) rfl (by decide) ?_
  obtain ⟨v1, D1, e1, h⟩ := bI_o h
  refine k_cVv (d' := 1) (pc' := 7) [] [] (c_X1_clear (d := 1) (Nat.le_refl _) e1) cw_X11_176 kc_1 w_525 w_526 dX11_forgetActs_4 rfl (by omega) rfl rfl (by decide) sk_31 rfl rfl (by decide) (by decide) ?_
  refine j_aload_n (pc' := 8) dX11_forgetActs_7 rfl rfl ?_
  refine k_getR (pc' := 11) (sl := 4) (r := 22) kc_10 w_397 (Or.inl rfl) (by decide) dX11_forgetActs_8 rfl (by decide) sk_0 (by decide) rfl (by decide) ?_
  obtain ⟨v2, D2, e2, h⟩ := bI_o h
  refine k_cVv (d' := 6) (pc' := 14) [] [] (c_X0_forgetWhites (d := 6) (Nat.le_refl _) e2) cw_X11_179 kc_0 w_498 w_499 dX11_forgetActs_11 rfl (by omega) rfl rfl (by decide) sk_22 rfl rfl (by decide) (by decide) ?_
  exact j_vret dX11_forgetActs_14 rfl (by decide) (by decide) (rV_of h)
theorem c_X11_forgetActs {d : Nat} (hd : 7 ≤ d) {D D' : mD} {v : Int} (h : F_X11_forgetActs D = some (v, D')) : CM d 0 0 M_X11_forgetActs [mR 0] (SK, D, false) (rV D') := CM.intro pn_X11 rfl rfl (Nat.le_of_ble_eq_true rfl) (fun _ => c_X11_forgetActs_e hd h)
theorem c_X11_useUp_e {Ω : mO} {d : Nat} (hd : 1 ≤ d) {r : Int × mD} {x1 : Int} {D : mD} (h : F_X11_useUp x1 D = some r) : J Ω M_X11_useUp d 0 0 (rV r.2) 0 [some (mR 0), some (mI x1)] [] (SK, D, false) 0 0 := by
  rw [F_X11_useUp] at h
  refine j_aload_n (pc' := 1) dX11_useUp_0 rfl rfl ?_
  refine j_iload_n (pc' := 2) dX11_useUp_1 rfl rfl ?_
  obtain ⟨q1, h⟩ := ck_o h
  have hj : J Ω M_X11_useUp d 0 0 (rV r.2) 16 [some (mR 0), none] [mI (if x1 = 0 then (D 1 3) else (-1 : Int)), mR 0] (SK, D, false) 0 0 := by
    refine k_putI (pc' := 19) (sl := 15) (i' := 15) kc_10 w_408 (by decide) (Or.inl rfl) dX11_useUp_16 rfl (by decide) sk_0 (by decide) ⟨rfl, rfl⟩ rfl ?_
    refine j_aload_n (pc' := 20) dX11_useUp_19 rfl rfl ?_
    refine k_getR (pc' := 23) (sl := 0) (r := 1) kc_10 w_393 (Or.inl rfl) (by decide) dX11_useUp_20 rfl (by decide) sk_0 (by decide) rfl (by decide) ?_
    refine j_iconst (pc' := 24) dX11_useUp_23 rfl ?_
    refine k_putI (pc' := 27) (sl := 1) (i' := 1) kc_8 w_46 (by decide) (Or.inl rfl) dX11_useUp_24 rfl (by decide) sk_1 (by decide) ⟨rfl, rfl⟩ rfl ?_
    exact j_vret dX11_useUp_27 rfl (by decide) (by decide) (rV_of h)
  refine j_if_eq (tgt := 9) (pc' := 5) dX11_useUp_2 rfl rfl q1 (fun b1 => ?_) (fun b1 => ?_)
  · refine j_aload_n (pc' := 10) dX11_useUp_9 rfl rfl ?_
    refine k_getR (pc' := 13) (sl := 0) (r := 1) kc_10 w_393 (Or.inl rfl) (by decide) dX11_useUp_10 rfl (by decide) sk_0 (by decide) rfl (by decide) ?_
    refine k_getI (pc' := 16) (sl := 3) (z := D 1 3) kc_8 w_51 (by decide) dX11_useUp_13 rfl (by decide) sk_1 (by decide) rfl rfl ?_
    have hj := hj
    try simp only [if_pos b1] at hj
    exact j_wk hj (And.intro rfl trivial)
  · refine j_iconst (pc' := 6) dX11_useUp_5 rfl ?_
    refine j_goto (tgt := 16) dX11_useUp_6 rfl ?_
    have hj := hj
    try simp only [if_neg b1] at hj
    exact j_wk hj (And.intro rfl trivial)
theorem c_X11_useUp {d : Nat} (hd : 1 ≤ d) {x1 : Int} {D D' : mD} {v : Int} (h : F_X11_useUp x1 D = some (v, D')) : CM d 0 0 M_X11_useUp [mR 0, mI x1] (SK, D, false) (rV D') := CM.intro pn_X11 rfl rfl (Nat.le_of_ble_eq_true rfl) (fun _ => c_X11_useUp_e hd h)
theorem c_X11_shop_j104 {Ω : mO} {d : Nat} (hd : 12 ≤ d) {r : (Int ⊕ Nat) × mD} {D : mD} (h : F_X11_shop_j104 D = some r) : J Ω M_X11_shop d 1 6 (rO r.1 r.2) 104 [some (mR 0), none] [] (SK, D, false) 0 0 := by
  rw [F_X11_shop_j104] at h
  refine j_aload_n (pc' := 105) dX11_shop_104 rfl rfl ?_
  obtain ⟨v1, D1, e1, h⟩ := bI_o h
  refine k_cVv (d' := 7) (pc' := 108) [] [] (c_X11_forgetActs (d := 7) (Nat.le_refl _) e1) cw_X11_157 kc_10 w_522 ws_0 dX11_shop_105 rfl (by omega) rfl rfl (by decide) sk_0 rfl rfl (by decide) (by decide) ?_
  refine j_aload_n (pc' := 109) dX11_shop_108 rfl rfl ?_
  refine k_getR (pc' := 112) (sl := 1) (r := 3) kc_10 w_394 (Or.inl rfl) (by decide) dX11_shop_109 rfl (by decide) sk_0 (by decide) rfl (by decide) ?_
  refine k_getI (pc' := 115) (sl := 16) (z := D1 3 16) kc_6 w_129 (by decide) dX11_shop_112 rfl (by decide) sk_3 (by decide) rfl rfl ?_
  exact j_iret dX11_shop_115 rfl (by decide) (by decide) (rIX_of h)
theorem c_X11_shop_e {Ω : mO} {d : Nat} (hd : 12 ≤ d) {r : (Int ⊕ Nat) × mD} {D : mD} (h : F_X11_shop D = some r) : J Ω M_X11_shop d 1 6 (rO r.1 r.2) 0 [some (mR 0), none] [] (SK, D, false) 0 0 := by
  rw [F_X11_shop] at h
  refine j_aload_n (pc' := 1) dX11_shop_0 rfl rfl ?_
  refine k_getR (pc' := 4) (sl := 8) (r := 93) kc_10 w_401 (Or.inl rfl) (by decide) dX11_shop_1 rfl (by decide) sk_0 (by decide) rfl (by decide) ?_
  refine j_aload_n (pc' := 5) dX11_shop_4 rfl rfl ?_
  refine k_getR (pc' := 8) (sl := 1) (r := 3) kc_10 w_394 (Or.inl rfl) (by decide) dX11_shop_5 rfl (by decide) sk_0 (by decide) rfl (by decide) ?_
  obtain ⟨v1, D1, e1, h⟩ := bI_o h
  refine k_cVv (d' := 2) (pc' := 11) [mR 3] [] (c_X7_beginFrom (d := 2) (Nat.le_refl _) shop_3 e1) cw_X11_118 kc_7 w_711 w_712 dX11_shop_8 rfl (by omega) rfl rfl (by decide) sk_93 rfl rfl (by decide) (by decide) ?_
  refine j_aload_n (pc' := 12) dX11_shop_11 rfl rfl ?_
  refine k_getR (pc' := 15) (sl := 8) (r := 93) kc_10 w_401 (Or.inl rfl) (by decide) dX11_shop_12 rfl (by decide) sk_0 (by decide) rfl (by decide) ?_
  obtain ⟨v2, D2, e2, h⟩ := bI_o h
  refine k_cU (d' := 11) (pc' := 18) [] [] (c_X9_readsText_S (d := 11) (Nat.le_refl _) e2) cu_X11_122_S kc_7 dX11_shop_15 rfl (by omega) rfl rfl (by decide) sk_93 rfl rfl (by decide) (by decide) ?_
  refine j_istore_n (pc' := 19) (ls' := [some (mR 0), some (mI v2)]) dX11_shop_18 rfl (by decide) rfl ?_
  refine j_aload_n (pc' := 20) dX11_shop_19 rfl rfl ?_
  refine j_iload_n (pc' := 21) dX11_shop_20 rfl rfl ?_
  obtain ⟨v3, D3, e3, h⟩ := bI_o h
  refine k_cVv (d' := 1) (pc' := 24) [mI v2] [] (c_X11_useUp (d := 1) (Nat.le_refl _) e3) cw_X11_126 kc_10 w_929 ws_21 dX11_shop_21 rfl (by omega) rfl rfl (by decide) sk_0 rfl rfl (by decide) (by decide) ?_
  refine j_iload_n (pc' := 25) dX11_shop_24 rfl rfl ?_
  obtain ⟨q1, h⟩ := ck_o h
  refine j_if_ne (tgt := 38) (pc' := 28) dX11_shop_25 rfl rfl q1 (fun b1 => ?_) (fun b1 => ?_)
  · replace h := ite_f b1 h
    refine j_aload_n (pc' := 39) dX11_shop_38 rfl rfl ?_
    refine k_getR (pc' := 42) (sl := 1) (r := 3) kc_10 w_394 (Or.inl rfl) (by decide) dX11_shop_39 rfl (by decide) sk_0 (by decide) rfl (by decide) ?_
    refine k_getI (pc' := 45) (sl := 16) (z := D3 3 16) kc_6 w_129 (by decide) dX11_shop_42 rfl (by decide) sk_3 (by decide) rfl rfl ?_
    refine j_bipush (pc' := 47) dX11_shop_45 rfl rfl ?_
    obtain ⟨q2, h⟩ := ck_o h
    refine j_icmp_lt (tgt := 60) (pc' := 50) dX11_shop_47 rfl rfl q2 (by decide) (fun b2 => ?_) (fun b2 => ?_)
    · replace h := ite_t b2 h
      refine j_aload_n (pc' := 61) dX11_shop_60 rfl rfl ?_
      refine k_getR (pc' := 64) (sl := 1) (r := 3) kc_10 w_394 (Or.inl rfl) (by decide) dX11_shop_61 rfl (by decide) sk_0 (by decide) rfl (by decide) ?_
      refine j_aload_n (pc' := 65) dX11_shop_64 rfl rfl ?_
      refine k_getR (pc' := 68) (sl := 8) (r := 93) kc_10 w_401 (Or.inl rfl) (by decide) dX11_shop_65 rfl (by decide) sk_0 (by decide) rfl (by decide) ?_
      refine k_getR (pc' := 71) (sl := 2) (r := 94) kc_7 w_360 (Or.inl rfl) (by decide) dX11_shop_68 rfl (by decide) sk_93 (by decide) rfl (by decide) ?_
      obtain ⟨v4, D4, e4, h⟩ := bI_o h
      refine k_cVv (d' := 1) (pc' := 74) [mR 94] [] (c_X6_copyFrom (d := 1) (Nat.le_refl _) shop_3 shop_94 e4) cw_X11_148 kc_6 w_506 w_507 dX11_shop_71 rfl (by omega) rfl rfl (by decide) sk_3 rfl rfl (by decide) (by decide) ?_
      refine j_aload_n (pc' := 75) dX11_shop_74 rfl rfl ?_
      refine k_getR (pc' := 78) (sl := 1) (r := 3) kc_10 w_394 (Or.inl rfl) (by decide) dX11_shop_75 rfl (by decide) sk_0 (by decide) rfl (by decide) ?_
      refine j_dup (pc' := 79) dX11_shop_78 rfl rfl ?_
      refine k_getI (pc' := 82) (sl := 16) (z := D4 3 16) kc_6 w_129 (by decide) dX11_shop_79 rfl (by decide) sk_3 (by decide) rfl rfl ?_
      refine j_iconst (pc' := 83) dX11_shop_82 rfl ?_
      refine j_iadd (pc' := 84) dX11_shop_83 rfl ?_
      refine k_putI (pc' := 87) (sl := 16) (i' := 16) kc_6 w_129 (by decide) (Or.inl rfl) dX11_shop_84 rfl (by decide) sk_3 (by decide) ⟨rfl, rfl⟩ rfl ?_
      refine j_aload_n (pc' := 88) dX11_shop_87 rfl rfl ?_
      refine k_getR (pc' := 91) (sl := 8) (r := 93) kc_10 w_401 (Or.inl rfl) (by decide) dX11_shop_88 rfl (by decide) sk_0 (by decide) rfl (by decide) ?_
      refine k_getI (pc' := 94) (sl := 3) (z := (pD D4 3 16 ((D4 3 16) + 1)) 93 3) kc_7 w_362 (by decide) dX11_shop_91 rfl (by decide) sk_93 (by decide) rfl rfl ?_
      obtain ⟨q3, h⟩ := ck_o h
      refine j_if_eq (tgt := 104) (pc' := 97) dX11_shop_94 rfl rfl q3 (fun b3 => ?_) (fun b3 => ?_)
      · replace h := ite_t b3 h
        exact j_wk (j_widen (ce := 0) (ke := 0) (by decide) (by decide) (c_X11_shop_j104 hd h)) (And.intro rfl trivial)
      · replace h := ite_f b3 h
        refine j_aload_n (pc' := 98) dX11_shop_97 rfl rfl ?_
        refine k_getR (pc' := 101) (sl := 3) (r := 17) kc_10 w_396 (Or.inl rfl) (by decide) dX11_shop_98 rfl (by decide) sk_0 (by decide) rfl (by decide) ?_
        obtain ⟨v5, D5, e5, h⟩ := bI_o h
        refine k_cVv (d' := 6) (pc' := 104) [] [] (c_X10_beginWord (d := 6) (Nat.le_refl _) work_17 e5) cw_X11_154 kc_9 w_203 w_204 dX11_shop_101 rfl (by omega) rfl rfl (by decide) sk_17 rfl rfl (by decide) (by decide) ?_
        exact j_wk (j_widen (ce := 0) (ke := 0) (by decide) (by decide) (c_X11_shop_j104 hd h)) (And.intro rfl trivial)
    · replace h := ite_f b2 h
      exact j_throw (tw_X11_140_144) (si := 33) rfl dX11_shop_50 dX11_shop_53 dX11_shop_54 dX11_shop_56 dX11_shop_59 rfl (by omega) rfl (by decide) (by decide) (rX_of h)
  · replace h := ite_t b1 h
    exact j_throw (tw_X11_130_134) (si := 32) rfl dX11_shop_28 dX11_shop_31 dX11_shop_32 dX11_shop_34 dX11_shop_37 rfl (by omega) rfl (by decide) (by decide) (rX_of h)
theorem c_X11_shop {d : Nat} (hd : 12 ≤ d) {D D' : mD} {v : Int ⊕ Nat} (h : F_X11_shop D = some (v, D')) : CM d 1 6 M_X11_shop [mR 0] (SK, D, false) (rO v D') := CM.intro pn_X11 rfl rfl (Nat.le_of_ble_eq_true rfl) (fun _ => c_X11_shop_e hd h)
theorem c_X11_law_e {Ω : mO} {d : Nat} (hd : 53 ≤ d) {r : (Int ⊕ Nat) × mD} {D : mD} (h : F_X11_law D = some r) : J Ω M_X11_law d 1 6 (rO r.1 r.2) 0 [some (mR 0), none] [] (SK, D, false) 0 0 := by
  rw [F_X11_law] at h
  refine j_aload_n (pc' := 1) dX11_law_0 rfl rfl ?_
  refine k_getR (pc' := 4) (sl := 9) (r := 103) kc_10 w_402 (Or.inl rfl) (by decide) dX11_law_1 rfl (by decide) sk_0 (by decide) rfl (by decide) ?_
  refine k_getR (pc' := 7) (sl := 2) (r := 104) kc_3 w_387 (Or.inl rfl) (by decide) dX11_law_4 rfl (by decide) sk_103 (by decide) rfl (by decide) ?_
  obtain ⟨v1, D1, e1, h⟩ := bI_o h
  refine k_cVv (d' := 1) (pc' := 10) [] [] (c_X2_begin (d := 1) (Nat.le_refl _) law_104 e1) cw_X11_162 kc_2 w_1026 w_1027 dX11_law_7 rfl (by omega) rfl rfl (by decide) sk_104 rfl rfl (by decide) (by decide) ?_
  refine j_aload_n (pc' := 11) dX11_law_10 rfl rfl ?_
  refine k_getR (pc' := 14) (sl := 9) (r := 103) kc_10 w_402 (Or.inl rfl) (by decide) dX11_law_11 rfl (by decide) sk_0 (by decide) rfl (by decide) ?_
  obtain ⟨v2, D2, e2, h⟩ := bI_o h
  refine k_cU (d' := 52) (pc' := 17) [] [] (c_X9_readsText_L (d := 52) (Nat.le_refl _) e2) cu_X11_165_L kc_3 dX11_law_14 rfl (by omega) rfl rfl (by decide) sk_103 rfl rfl (by decide) (by decide) ?_
  refine j_istore_n (pc' := 18) (ls' := [some (mR 0), some (mI v2)]) dX11_law_17 rfl (by decide) rfl ?_
  refine j_aload_n (pc' := 19) dX11_law_18 rfl rfl ?_
  refine j_iload_n (pc' := 20) dX11_law_19 rfl rfl ?_
  obtain ⟨v3, D3, e3, h⟩ := bI_o h
  refine k_cVv (d' := 1) (pc' := 23) [mI v2] [] (c_X11_useUp (d := 1) (Nat.le_refl _) e3) cw_X11_126 kc_10 w_929 ws_21 dX11_law_20 rfl (by omega) rfl rfl (by decide) sk_0 rfl rfl (by decide) (by decide) ?_
  refine j_iload_n (pc' := 24) dX11_law_23 rfl rfl ?_
  obtain ⟨q1, h⟩ := ck_o h
  refine j_if_ne (tgt := 37) (pc' := 27) dX11_law_24 rfl rfl q1 (fun b1 => ?_) (fun b1 => ?_)
  · replace h := ite_f b1 h
    refine j_aload_n (pc' := 38) dX11_law_37 rfl rfl ?_
    refine k_getR (pc' := 41) (sl := 2) (r := 12) kc_10 w_395 (Or.inl rfl) (by decide) dX11_law_38 rfl (by decide) sk_0 (by decide) rfl (by decide) ?_
    refine j_aload_n (pc' := 42) dX11_law_41 rfl rfl ?_
    refine k_getR (pc' := 45) (sl := 9) (r := 103) kc_10 w_402 (Or.inl rfl) (by decide) dX11_law_42 rfl (by decide) sk_0 (by decide) rfl (by decide) ?_
    refine k_getR (pc' := 48) (sl := 2) (r := 104) kc_3 w_387 (Or.inl rfl) (by decide) dX11_law_45 rfl (by decide) sk_103 (by decide) rfl (by decide) ?_
    obtain ⟨v4, D4, e4, h⟩ := bI_o h
    refine k_cVv (d' := 1) (pc' := 51) [mR 104] [] (c_X2_copyFrom (d := 1) (Nat.le_refl _) law_12 law_104 e4) cw_X11_168 kc_2 w_511 w_512 dX11_law_48 rfl (by omega) rfl rfl (by decide) sk_12 rfl rfl (by decide) (by decide) ?_
    refine j_aload_n (pc' := 52) dX11_law_51 rfl rfl ?_
    obtain ⟨v5, D5, e5, h⟩ := bI_o h
    refine k_cVv (d' := 7) (pc' := 55) [] [] (c_X11_forgetActs (d := 7) (Nat.le_refl _) e5) cw_X11_157 kc_10 w_522 ws_0 dX11_law_52 rfl (by omega) rfl rfl (by decide) sk_0 rfl rfl (by decide) (by decide) ?_
    refine j_aload_n (pc' := 56) dX11_law_55 rfl rfl ?_
    refine k_getR (pc' := 59) (sl := 2) (r := 12) kc_10 w_395 (Or.inl rfl) (by decide) dX11_law_56 rfl (by decide) sk_0 (by decide) rfl (by decide) ?_
    refine k_getI (pc' := 62) (sl := 0) (z := D5 12 0) kc_2 w_172 (by decide) dX11_law_59 rfl (by decide) sk_12 (by decide) rfl rfl ?_
    exact j_iret dX11_law_62 rfl (by decide) (by decide) (rIX_of h)
  · replace h := ite_t b1 h
    exact j_throw (tw_X11_130_134) (si := 34) rfl dX11_law_27 dX11_law_30 dX11_law_31 dX11_law_33 dX11_law_36 rfl (by omega) rfl (by decide) (by decide) (rX_of h)
theorem c_X11_law {d : Nat} (hd : 53 ≤ d) {D D' : mD} {v : Int ⊕ Nat} (h : F_X11_law D = some (v, D')) : CM d 1 6 M_X11_law [mR 0] (SK, D, false) (rO v D') := CM.intro pn_X11 rfl rfl (Nat.le_of_ble_eq_true rfl) (fun _ => c_X11_law_e hd h)
theorem c_X11_fault_e {Ω : mO} {d : Nat} (hd : 1 ≤ d) {r : Int × mD} {D : mD} (h : F_X11_fault D = some r) : J Ω M_X11_fault d 0 0 (rI r.1 r.2) 0 [some (mR 0)] [] (SK, D, false) 0 0 := by
  rw [F_X11_fault] at h
  refine j_aload_n (pc' := 1) dX11_fault_0 rfl rfl ?_
  refine k_getI (pc' := 4) (sl := 15) (z := D 0 15) kc_10 w_408 (by decide) dX11_fault_1 rfl (by decide) sk_0 (by decide) rfl rfl ?_
  exact j_iret dX11_fault_4 rfl (by decide) (by decide) (rI_of h)
theorem c_X11_fault {d : Nat} (hd : 1 ≤ d) {D D' : mD} {v : Int} (h : F_X11_fault D = some (v, D')) : CM d 0 0 M_X11_fault [mR 0] (SK, D, false) (rI v D') := CM.intro pn_X11 rfl rfl (Nat.le_of_ble_eq_true rfl) (fun _ => c_X11_fault_e hd h)
theorem c_X11_needSign_j15 {Ω : mO} {d : Nat} (hd : 6 ≤ d) {r : (Int ⊕ Nat) × mD} {D : mD} (h : F_X11_needSign_j15 D = some r) : J Ω M_X11_needSign d 1 6 (rOV r.1 r.2) 15 [none, none] [] (SK, D, false) 0 0 := by
  rw [F_X11_needSign_j15] at h
  exact j_throwW (tw_X11_437_441) (si := 35) rfl dX11_needSign_15 dX11_needSign_18 dX11_needSign_19 dX11_needSign_22 dX11_needSign_25 rfl (by omega) rfl (by decide) (by decide) (rXV_of h)
theorem c_X11_needSign_e {Ω : mO} {d : Nat} (hd : 6 ≤ d) {r : (Int ⊕ Nat) × mD} {x1 : Int} {D : mD} (h : F_X11_needSign x1 D = some r) : J Ω M_X11_needSign d 1 6 (rOV r.1 r.2) 0 [some (mR 0), some (mI x1)] [] (SK, D, false) 0 0 := by
  rw [F_X11_needSign] at h
  refine j_iload_n (pc' := 1) dX11_needSign_0 rfl rfl ?_
  obtain ⟨q1, h⟩ := ck_o h
  refine j_if_lt (tgt := 15) (pc' := 4) dX11_needSign_1 rfl rfl q1 (fun b1 => ?_) (fun b1 => ?_)
  · replace h := ite_t b1 h
    exact j_wk (j_widen (ce := 0) (ke := 0) (by decide) (by decide) (c_X11_needSign_j15 hd h)) (trivial)
  · replace h := ite_f b1 h
    refine j_iload_n (pc' := 5) dX11_needSign_4 rfl rfl ?_
    refine j_aload_n (pc' := 6) dX11_needSign_5 rfl rfl ?_
    refine k_getR (pc' := 9) (sl := 1) (r := 3) kc_10 w_394 (Or.inl rfl) (by decide) dX11_needSign_6 rfl (by decide) sk_0 (by decide) rfl (by decide) ?_
    refine k_getI (pc' := 12) (sl := 0) (z := D 3 0) kc_6 w_73 (by decide) dX11_needSign_9 rfl (by decide) sk_3 (by decide) rfl rfl ?_
    obtain ⟨q2, h⟩ := ck_o h
    refine j_icmp_lt (tgt := 26) (pc' := 15) dX11_needSign_12 rfl rfl q1 q2 (fun b2 => ?_) (fun b2 => ?_)
    · replace h := ite_t b2 h
      exact j_vret dX11_needSign_26 rfl (by decide) (by decide) (rVX_of h)
    · replace h := ite_f b2 h
      exact j_wk (j_widen (ce := 0) (ke := 0) (by decide) (by decide) (c_X11_needSign_j15 hd h)) (trivial)
theorem c_X11_needSign {d : Nat} (hd : 6 ≤ d) {x1 : Int} {D D' : mD} {v : Int ⊕ Nat} (h : F_X11_needSign x1 D = some (v, D')) : CM d 1 6 M_X11_needSign [mR 0, mI x1] (SK, D, false) (rOV v D') := CM.intro pn_X11 rfl rfl (Nat.le_of_ble_eq_true rfl) (fun _ => c_X11_needSign_e hd h)
theorem c_X11_sign_e {Ω : mO} {d : Nat} (hd : 7 ≤ d) {r : (Int ⊕ Nat) × mD} {x1 x2 : Int} {D : mD} (h : F_X11_sign x1 x2 D = some r) : J Ω M_X11_sign d 2 12 (rO r.1 r.2) 0 [some (mR 0), some (mI x1), some (mI x2)] [] (SK, D, false) 0 0 := by
  rw [F_X11_sign] at h
  refine j_aload_n (pc' := 1) dX11_sign_0 rfl rfl ?_
  refine j_iload_n (pc' := 2) dX11_sign_1 rfl rfl ?_
  rcases bX_o h with ⟨v1, D1, e1, h⟩ | ⟨v1, D1, e1, h⟩
  rotate_left
  · exact k_cVXtV (d' := 6) [mI x1] [] (c_X11_needSign (d := 6) (Nat.le_refl _) e1) cw_X11_182 kc_10 w_1044 ws_23 dX11_sign_2 (by omega) rfl rfl (by decide) sk_0 rfl rfl (by decide) (by decide) (rX_of h)
  refine k_cVXv (d' := 6) (pc' := 5) (ce := 1) (ke := 6) [mI x1] [] (c_X11_needSign (d := 6) (Nat.le_refl _) e1) cw_X11_182 kc_10 w_1044 ws_23 dX11_sign_2 rfl (by omega) rfl rfl (by decide) sk_0 rfl rfl rfl rfl (by decide) (by decide) ?_
  refine j_iload_n (pc' := 6) dX11_sign_5 rfl rfl ?_
  obtain ⟨q1, h⟩ := ck_o h
  by_cases b1 : x2 = 0
  · replace h := ite_t b1 h
    refine j_tabIn (off := 26) (tgt := 32) dX11_sign_6 q1 (by rw [b1]; decide) (by rw [b1]; decide) (by rw [b1]; rfl) rfl ?_
    refine j_aload_n (pc' := 33) dX11_sign_32 rfl rfl ?_
    refine k_getR (pc' := 36) (sl := 1) (r := 3) kc_10 w_394 (Or.inl rfl) (by decide) dX11_sign_33 rfl (by decide) sk_0 (by decide) rfl (by decide) ?_
    refine k_getR (pc' := 39) (sl := 1) (r := 4) kc_6 w_76 (Or.inl rfl) (by decide) dX11_sign_36 rfl (by decide) sk_3 (by decide) rfl (by decide) ?_
    refine j_iload_n (pc' := 40) dX11_sign_39 rfl rfl ?_
    obtain ⟨q2, h⟩ := ck_o h
    refine k_iald (pc' := 41) (z := D1 4 x1) dX11_sign_40 rfl (by decide) sk_4 (by decide) q2.1 q2.2 rfl ?_
    exact j_iret dX11_sign_41 rfl (by decide) (by decide) (rIX_of h)
  replace h := ite_f b1 h
  by_cases b2 : x2 = 1
  · replace h := ite_t b2 h
    refine j_tabIn (off := 36) (tgt := 42) dX11_sign_6 q1 (by rw [b2]; decide) (by rw [b2]; decide) (by rw [b2]; rfl) rfl ?_
    refine j_aload_n (pc' := 43) dX11_sign_42 rfl rfl ?_
    refine k_getR (pc' := 46) (sl := 1) (r := 3) kc_10 w_394 (Or.inl rfl) (by decide) dX11_sign_43 rfl (by decide) sk_0 (by decide) rfl (by decide) ?_
    refine k_getR (pc' := 49) (sl := 2) (r := 5) kc_6 w_81 (Or.inl rfl) (by decide) dX11_sign_46 rfl (by decide) sk_3 (by decide) rfl (by decide) ?_
    refine j_iload_n (pc' := 50) dX11_sign_49 rfl rfl ?_
    obtain ⟨q3, h⟩ := ck_o h
    refine k_iald (pc' := 51) (z := D1 5 x1) dX11_sign_50 rfl (by decide) sk_5 (by decide) q3.1 q3.2 rfl ?_
    exact j_iret dX11_sign_51 rfl (by decide) (by decide) (rIX_of h)
  replace h := ite_f b2 h
  by_cases b3 : x2 = 2
  · replace h := ite_t b3 h
    refine j_tabIn (off := 46) (tgt := 52) dX11_sign_6 q1 (by rw [b3]; decide) (by rw [b3]; decide) (by rw [b3]; rfl) rfl ?_
    refine j_aload_n (pc' := 53) dX11_sign_52 rfl rfl ?_
    refine k_getR (pc' := 56) (sl := 1) (r := 3) kc_10 w_394 (Or.inl rfl) (by decide) dX11_sign_53 rfl (by decide) sk_0 (by decide) rfl (by decide) ?_
    refine j_iload_n (pc' := 57) dX11_sign_56 rfl rfl ?_
    obtain ⟨v2, D2, e2, h⟩ := bI_o h
    refine k_cV (d' := 2) (pc' := 60) [mI x1] [] (c_X6_inkOf (d := 2) (Nat.le_refl _) shop_3 e2) cw_X11_192 kc_6 w_1063 w_1064 dX11_sign_57 rfl (by omega) rfl rfl (by decide) sk_3 rfl rfl (by decide) (by decide) ?_
    exact j_iret dX11_sign_60 rfl (by decide) (by decide) (rIX_of h)
  replace h := ite_f b3 h
  refine j_tabOut (tgt := 61) dX11_sign_6 q1 (by omega) rfl ?_
  exact j_throwN (tn_X11_196_200) (si := 36) rfl dX11_sign_61 dX11_sign_64 dX11_sign_65 dX11_sign_67 dX11_sign_70 rfl (by omega) rfl (by decide) (by decide) (rX_of h)
theorem c_X11_sign {d : Nat} (hd : 7 ≤ d) {x1 x2 : Int} {D D' : mD} {v : Int ⊕ Nat} (h : F_X11_sign x1 x2 D = some (v, D')) : CM d 2 12 M_X11_sign [mR 0, mI x1, mI x2] (SK, D, false) (rO v D') := CM.intro pn_X11 rfl rfl (Nat.le_of_ble_eq_true rfl) (fun _ => c_X11_sign_e hd h)
theorem c_X11_needRow_j9 {Ω : mO} {d : Nat} (hd : 6 ≤ d) {r : (Int ⊕ Nat) × mD} {D : mD} (h : F_X11_needRow_j9 D = some r) : J Ω M_X11_needRow d 1 6 (rOV r.1 r.2) 9 [none, none] [] (SK, D, false) 0 0 := by
  rw [F_X11_needRow_j9] at h
  exact j_throwW (tw_X11_437_441) (si := 37) rfl dX11_needRow_9 dX11_needRow_12 dX11_needRow_13 dX11_needRow_16 dX11_needRow_19 rfl (by omega) rfl (by decide) (by decide) (rXV_of h)
theorem c_X11_needRow_e {Ω : mO} {d : Nat} (hd : 6 ≤ d) {r : (Int ⊕ Nat) × mD} {x1 : Int} {D : mD} (h : F_X11_needRow x1 D = some r) : J Ω M_X11_needRow d 1 6 (rOV r.1 r.2) 0 [some (mR 0), some (mI x1)] [] (SK, D, false) 0 0 := by
  rw [F_X11_needRow] at h
  refine j_iload_n (pc' := 1) dX11_needRow_0 rfl rfl ?_
  obtain ⟨q1, h⟩ := ck_o h
  refine j_if_lt (tgt := 9) (pc' := 4) dX11_needRow_1 rfl rfl q1 (fun b1 => ?_) (fun b1 => ?_)
  · replace h := ite_t b1 h
    exact j_wk (j_widen (ce := 0) (ke := 0) (by decide) (by decide) (c_X11_needRow_j9 hd h)) (trivial)
  · replace h := ite_f b1 h
    refine j_iload_n (pc' := 5) dX11_needRow_4 rfl rfl ?_
    refine j_iconst (pc' := 6) dX11_needRow_5 rfl ?_
    refine j_icmp_lt (tgt := 20) (pc' := 9) dX11_needRow_6 rfl rfl q1 (by decide) (fun b2 => ?_) (fun b2 => ?_)
    · replace h := ite_t b2 h
      exact j_vret dX11_needRow_20 rfl (by decide) (by decide) (rVX_of h)
    · replace h := ite_f b2 h
      exact j_wk (j_widen (ce := 0) (ke := 0) (by decide) (by decide) (c_X11_needRow_j9 hd h)) (trivial)
theorem c_X11_needRow {d : Nat} (hd : 6 ≤ d) {x1 : Int} {D D' : mD} {v : Int ⊕ Nat} (h : F_X11_needRow x1 D = some (v, D')) : CM d 1 6 M_X11_needRow [mR 0, mI x1] (SK, D, false) (rOV v D') := CM.intro pn_X11 rfl rfl (Nat.le_of_ble_eq_true rfl) (fun _ => c_X11_needRow_e hd h)
theorem c_X11_side_e {Ω : mO} {d : Nat} (hd : 7 ≤ d) {r : (Int ⊕ Nat) × mD} {x1 x2 x3 : Int} {D : mD} (h : F_X11_side x1 x2 x3 D = some r) : J Ω M_X11_side d 2 12 (rO r.1 r.2) 0 [some (mR 0), some (mI x1), some (mI x2), some (mI x3)] [] (SK, D, false) 0 0 := by
  rw [F_X11_side] at h
  refine j_aload_n (pc' := 1) dX11_side_0 rfl rfl ?_
  refine j_iload_n (pc' := 2) dX11_side_1 rfl rfl ?_
  rcases bX_o h with ⟨v1, D1, e1, h⟩ | ⟨v1, D1, e1, h⟩
  rotate_left
  · exact k_cVXtV (d' := 6) [mI x1] [] (c_X11_needSign (d := 6) (Nat.le_refl _) e1) cw_X11_182 kc_10 w_1044 ws_23 dX11_side_2 (by omega) rfl rfl (by decide) sk_0 rfl rfl (by decide) (by decide) (rX_of h)
  refine k_cVXv (d' := 6) (pc' := 5) (ce := 1) (ke := 6) [mI x1] [] (c_X11_needSign (d := 6) (Nat.le_refl _) e1) cw_X11_182 kc_10 w_1044 ws_23 dX11_side_2 rfl (by omega) rfl rfl (by decide) sk_0 rfl rfl rfl rfl (by decide) (by decide) ?_
  refine j_aload_n (pc' := 6) dX11_side_5 rfl rfl ?_
  refine j_iload_n (pc' := 7) dX11_side_6 rfl rfl ?_
  rcases bX_o h with ⟨v2, D2, e2, h⟩ | ⟨v2, D2, e2, h⟩
  rotate_left
  · exact k_cVXtV (d' := 6) [mI x2] [] (c_X11_needRow (d := 6) (Nat.le_refl _) e2) cw_X11_201 kc_10 w_1093 ws_24 dX11_side_7 (by omega) rfl rfl (by decide) sk_0 rfl rfl (by decide) (by decide) (rX_of h)
  refine k_cVXv (d' := 6) (pc' := 10) (ce := 2) (ke := 12) [mI x2] [] (c_X11_needRow (d := 6) (Nat.le_refl _) e2) cw_X11_201 kc_10 w_1093 ws_24 dX11_side_7 rfl (by omega) rfl rfl (by decide) sk_0 rfl rfl rfl rfl (by decide) (by decide) ?_
  refine j_iload_n (pc' := 11) dX11_side_10 rfl rfl ?_
  obtain ⟨q1, h⟩ := ck_o h
  refine j_if_eq (tgt := 26) (pc' := 14) dX11_side_11 rfl rfl q1 (fun b1 => ?_) (fun b1 => ?_)
  · replace h := ite_t b1 h
    refine j_aload_n (pc' := 27) dX11_side_26 rfl rfl ?_
    refine k_getR (pc' := 30) (sl := 1) (r := 3) kc_10 w_394 (Or.inl rfl) (by decide) dX11_side_27 rfl (by decide) sk_0 (by decide) rfl (by decide) ?_
    refine j_iload_n (pc' := 31) dX11_side_30 rfl rfl ?_
    refine j_iload_n (pc' := 32) dX11_side_31 rfl rfl ?_
    obtain ⟨v3, D3, e3, h⟩ := bI_o h
    refine k_cV (d' := 1) (pc' := 35) [mI x1, mI x2] [] (c_X6_leftOf (d := 1) (Nat.le_refl _) shop_3 e3) cw_X11_208 kc_6 w_556 w_557 dX11_side_32 rfl (by omega) rfl rfl (by decide) sk_3 rfl rfl (by decide) (by decide) ?_
    exact j_iret dX11_side_35 rfl (by decide) (by decide) (rIX_of h)
  · replace h := ite_f b1 h
    refine j_aload_n (pc' := 15) dX11_side_14 rfl rfl ?_
    refine k_getR (pc' := 18) (sl := 1) (r := 3) kc_10 w_394 (Or.inl rfl) (by decide) dX11_side_15 rfl (by decide) sk_0 (by decide) rfl (by decide) ?_
    refine j_iload_n (pc' := 19) dX11_side_18 rfl rfl ?_
    refine j_iload_n (pc' := 20) dX11_side_19 rfl rfl ?_
    obtain ⟨v4, D4, e4, h⟩ := bI_o h
    refine k_cV (d' := 1) (pc' := 23) [mI x1, mI x2] [] (c_X6_rightOf (d := 1) (Nat.le_refl _) shop_3 e4) cw_X11_204 kc_6 w_552 w_553 dX11_side_20 rfl (by omega) rfl rfl (by decide) sk_3 rfl rfl (by decide) (by decide) ?_
    refine j_goto (tgt := 35) dX11_side_23 rfl ?_
    exact j_iret dX11_side_35 rfl (by decide) (by decide) (rIX_of h)
theorem c_X11_side {d : Nat} (hd : 7 ≤ d) {x1 x2 x3 : Int} {D D' : mD} {v : Int ⊕ Nat} (h : F_X11_side x1 x2 x3 D = some (v, D')) : CM d 2 12 M_X11_side [mR 0, mI x1, mI x2, mI x3] (SK, D, false) (rO v D') := CM.intro pn_X11 rfl rfl (Nat.le_of_ble_eq_true rfl) (fun _ => c_X11_side_e hd h)
theorem c_X11_needLetter_j15 {Ω : mO} {d : Nat} (hd : 6 ≤ d) {r : (Int ⊕ Nat) × mD} {D : mD} (h : F_X11_needLetter_j15 D = some r) : J Ω M_X11_needLetter d 1 6 (rOV r.1 r.2) 15 [none, none] [] (SK, D, false) 0 0 := by
  rw [F_X11_needLetter_j15] at h
  exact j_throwW (tw_X11_437_441) (si := 38) rfl dX11_needLetter_15 dX11_needLetter_18 dX11_needLetter_19 dX11_needLetter_22 dX11_needLetter_25 rfl (by omega) rfl (by decide) (by decide) (rXV_of h)
theorem c_X11_needLetter_e {Ω : mO} {d : Nat} (hd : 6 ≤ d) {r : (Int ⊕ Nat) × mD} {x1 : Int} {D : mD} (h : F_X11_needLetter x1 D = some r) : J Ω M_X11_needLetter d 1 6 (rOV r.1 r.2) 0 [some (mR 0), some (mI x1)] [] (SK, D, false) 0 0 := by
  rw [F_X11_needLetter] at h
  refine j_iload_n (pc' := 1) dX11_needLetter_0 rfl rfl ?_
  obtain ⟨q1, h⟩ := ck_o h
  refine j_if_lt (tgt := 15) (pc' := 4) dX11_needLetter_1 rfl rfl q1 (fun b1 => ?_) (fun b1 => ?_)
  · replace h := ite_t b1 h
    exact j_wk (j_widen (ce := 0) (ke := 0) (by decide) (by decide) (c_X11_needLetter_j15 hd h)) (trivial)
  · replace h := ite_f b1 h
    refine j_iload_n (pc' := 5) dX11_needLetter_4 rfl rfl ?_
    refine j_aload_n (pc' := 6) dX11_needLetter_5 rfl rfl ?_
    refine k_getR (pc' := 9) (sl := 1) (r := 3) kc_10 w_394 (Or.inl rfl) (by decide) dX11_needLetter_6 rfl (by decide) sk_0 (by decide) rfl (by decide) ?_
    refine k_getI (pc' := 12) (sl := 5) (z := D 3 5) kc_6 w_91 (by decide) dX11_needLetter_9 rfl (by decide) sk_3 (by decide) rfl rfl ?_
    obtain ⟨q2, h⟩ := ck_o h
    refine j_icmp_lt (tgt := 26) (pc' := 15) dX11_needLetter_12 rfl rfl q1 q2 (fun b2 => ?_) (fun b2 => ?_)
    · replace h := ite_t b2 h
      exact j_vret dX11_needLetter_26 rfl (by decide) (by decide) (rVX_of h)
    · replace h := ite_f b2 h
      exact j_wk (j_widen (ce := 0) (ke := 0) (by decide) (by decide) (c_X11_needLetter_j15 hd h)) (trivial)
theorem c_X11_needLetter {d : Nat} (hd : 6 ≤ d) {x1 : Int} {D D' : mD} {v : Int ⊕ Nat} (h : F_X11_needLetter x1 D = some (v, D')) : CM d 1 6 M_X11_needLetter [mR 0, mI x1] (SK, D, false) (rOV v D') := CM.intro pn_X11 rfl rfl (Nat.le_of_ble_eq_true rfl) (fun _ => c_X11_needLetter_e hd h)
theorem c_X11_letter_e {Ω : mO} {d : Nat} (hd : 7 ≤ d) {r : (Int ⊕ Nat) × mD} {x1 x2 : Int} {D : mD} (h : F_X11_letter x1 x2 D = some r) : J Ω M_X11_letter d 2 12 (rO r.1 r.2) 0 [some (mR 0), some (mI x1), some (mI x2)] [] (SK, D, false) 0 0 := by
  rw [F_X11_letter] at h
  refine j_aload_n (pc' := 1) dX11_letter_0 rfl rfl ?_
  refine j_iload_n (pc' := 2) dX11_letter_1 rfl rfl ?_
  rcases bX_o h with ⟨v1, D1, e1, h⟩ | ⟨v1, D1, e1, h⟩
  rotate_left
  · exact k_cVXtV (d' := 6) [mI x1] [] (c_X11_needLetter (d := 6) (Nat.le_refl _) e1) cw_X11_211 kc_10 w_1107 ws_25 dX11_letter_2 (by omega) rfl rfl (by decide) sk_0 rfl rfl (by decide) (by decide) (rX_of h)
  refine k_cVXv (d' := 6) (pc' := 5) (ce := 1) (ke := 6) [mI x1] [] (c_X11_needLetter (d := 6) (Nat.le_refl _) e1) cw_X11_211 kc_10 w_1107 ws_25 dX11_letter_2 rfl (by omega) rfl rfl (by decide) sk_0 rfl rfl rfl rfl (by decide) (by decide) ?_
  refine j_iload_n (pc' := 6) dX11_letter_5 rfl rfl ?_
  obtain ⟨q1, h⟩ := ck_o h
  by_cases b1 : x2 = 0
  · replace h := ite_t b1 h
    refine j_tabIn (off := 34) (tgt := 40) dX11_letter_6 q1 (by rw [b1]; decide) (by rw [b1]; decide) (by rw [b1]; rfl) rfl ?_
    refine j_aload_n (pc' := 41) dX11_letter_40 rfl rfl ?_
    refine k_getR (pc' := 44) (sl := 1) (r := 3) kc_10 w_394 (Or.inl rfl) (by decide) dX11_letter_41 rfl (by decide) sk_0 (by decide) rfl (by decide) ?_
    refine k_getR (pc' := 47) (sl := 6) (r := 8) kc_6 w_96 (Or.inl rfl) (by decide) dX11_letter_44 rfl (by decide) sk_3 (by decide) rfl (by decide) ?_
    refine j_iload_n (pc' := 48) dX11_letter_47 rfl rfl ?_
    obtain ⟨q2, h⟩ := ck_o h
    refine k_iald (pc' := 49) (z := D1 8 x1) dX11_letter_48 rfl (by decide) sk_8 (by decide) q2.1 q2.2 rfl ?_
    exact j_iret dX11_letter_49 rfl (by decide) (by decide) (rIX_of h)
  replace h := ite_f b1 h
  by_cases b2 : x2 = 1
  · replace h := ite_t b2 h
    refine j_tabIn (off := 44) (tgt := 50) dX11_letter_6 q1 (by rw [b2]; decide) (by rw [b2]; decide) (by rw [b2]; rfl) rfl ?_
    refine j_aload_n (pc' := 51) dX11_letter_50 rfl rfl ?_
    refine k_getR (pc' := 54) (sl := 3) (r := 17) kc_10 w_396 (Or.inl rfl) (by decide) dX11_letter_51 rfl (by decide) sk_0 (by decide) rfl (by decide) ?_
    refine k_getR (pc' := 57) (sl := 1) (r := 19) kc_9 w_215 (Or.inl rfl) (by decide) dX11_letter_54 rfl (by decide) sk_17 (by decide) rfl (by decide) ?_
    refine j_iload_n (pc' := 58) dX11_letter_57 rfl rfl ?_
    obtain ⟨q3, h⟩ := ck_o h
    refine k_iald (pc' := 59) (z := D1 19 x1) dX11_letter_58 rfl (by decide) sk_19 (by decide) q3.1 q3.2 rfl ?_
    exact j_iret dX11_letter_59 rfl (by decide) (by decide) (rIX_of h)
  replace h := ite_f b2 h
  by_cases b3 : x2 = 2
  · replace h := ite_t b3 h
    refine j_tabIn (off := 54) (tgt := 60) dX11_letter_6 q1 (by rw [b3]; decide) (by rw [b3]; decide) (by rw [b3]; rfl) rfl ?_
    refine j_aload_n (pc' := 61) dX11_letter_60 rfl rfl ?_
    refine k_getR (pc' := 64) (sl := 4) (r := 22) kc_10 w_397 (Or.inl rfl) (by decide) dX11_letter_61 rfl (by decide) sk_0 (by decide) rfl (by decide) ?_
    refine j_iload_n (pc' := 65) dX11_letter_64 rfl rfl ?_
    obtain ⟨v2, D2, e2, h⟩ := bI_o h
    refine k_cV (d' := 1) (pc' := 68) [mI x1] [] (c_X0_widthOf (d := 1) (Nat.le_refl _) e2) cw_X11_220 kc_0 w_475 w_476 dX11_letter_65 rfl (by omega) rfl rfl (by decide) sk_22 rfl rfl (by decide) (by decide) ?_
    exact j_iret dX11_letter_68 rfl (by decide) (by decide) (rIX_of h)
  replace h := ite_f b3 h
  by_cases b4 : x2 = 3
  · replace h := ite_t b4 h
    refine j_tabIn (off := 63) (tgt := 69) dX11_letter_6 q1 (by rw [b4]; decide) (by rw [b4]; decide) (by rw [b4]; rfl) rfl ?_
    refine j_aload_n (pc' := 70) dX11_letter_69 rfl rfl ?_
    refine k_getR (pc' := 73) (sl := 4) (r := 22) kc_10 w_397 (Or.inl rfl) (by decide) dX11_letter_70 rfl (by decide) sk_0 (by decide) rfl (by decide) ?_
    refine j_iload_n (pc' := 74) dX11_letter_73 rfl rfl ?_
    obtain ⟨v3, D3, e3, h⟩ := bI_o h
    refine k_cV (d' := 2) (pc' := 77) [mI x1] [] (c_X0_beginOf (d := 2) (Nat.le_refl _) e3) cw_X11_223 kc_0 w_471 w_472 dX11_letter_74 rfl (by omega) rfl rfl (by decide) sk_22 rfl rfl (by decide) (by decide) ?_
    exact j_iret dX11_letter_77 rfl (by decide) (by decide) (rIX_of h)
  replace h := ite_f b4 h
  by_cases b5 : x2 = 4
  · replace h := ite_t b5 h
    refine j_tabIn (off := 72) (tgt := 78) dX11_letter_6 q1 (by rw [b5]; decide) (by rw [b5]; decide) (by rw [b5]; rfl) rfl ?_
    refine j_aload_n (pc' := 79) dX11_letter_78 rfl rfl ?_
    refine k_getR (pc' := 82) (sl := 3) (r := 17) kc_10 w_396 (Or.inl rfl) (by decide) dX11_letter_79 rfl (by decide) sk_0 (by decide) rfl (by decide) ?_
    refine k_getR (pc' := 85) (sl := 2) (r := 20) kc_9 w_217 (Or.inl rfl) (by decide) dX11_letter_82 rfl (by decide) sk_17 (by decide) rfl (by decide) ?_
    refine j_iload_n (pc' := 86) dX11_letter_85 rfl rfl ?_
    obtain ⟨q4, h⟩ := ck_o h
    refine k_iald (pc' := 87) (z := D1 20 x1) dX11_letter_86 rfl (by decide) sk_20 (by decide) q4.1 q4.2 rfl ?_
    exact j_iret dX11_letter_87 rfl (by decide) (by decide) (rIX_of h)
  replace h := ite_f b5 h
  refine j_tabOut (tgt := 88) dX11_letter_6 q1 (by omega) rfl ?_
  exact j_throwN (tn_X11_196_200) (si := 39) rfl dX11_letter_88 dX11_letter_91 dX11_letter_92 dX11_letter_94 dX11_letter_97 rfl (by omega) rfl (by decide) (by decide) (rX_of h)
theorem c_X11_letter {d : Nat} (hd : 7 ≤ d) {x1 x2 : Int} {D D' : mD} {v : Int ⊕ Nat} (h : F_X11_letter x1 x2 D = some (v, D')) : CM d 2 12 M_X11_letter [mR 0, mI x1, mI x2] (SK, D, false) (rO v D') := CM.intro pn_X11 rfl rfl (Nat.le_of_ble_eq_true rfl) (fun _ => c_X11_letter_e hd h)
theorem c_X11_needGap_j15 {Ω : mO} {d : Nat} (hd : 6 ≤ d) {r : (Int ⊕ Nat) × mD} {D : mD} (h : F_X11_needGap_j15 D = some r) : J Ω M_X11_needGap d 1 6 (rOV r.1 r.2) 15 [none, none] [] (SK, D, false) 0 0 := by
  rw [F_X11_needGap_j15] at h
  exact j_throwW (tw_X11_437_441) (si := 40) rfl dX11_needGap_15 dX11_needGap_18 dX11_needGap_19 dX11_needGap_22 dX11_needGap_25 rfl (by omega) rfl (by decide) (by decide) (rXV_of h)
theorem c_X11_needGap_e {Ω : mO} {d : Nat} (hd : 6 ≤ d) {r : (Int ⊕ Nat) × mD} {x1 : Int} {D : mD} (h : F_X11_needGap x1 D = some r) : J Ω M_X11_needGap d 1 6 (rOV r.1 r.2) 0 [some (mR 0), some (mI x1)] [] (SK, D, false) 0 0 := by
  rw [F_X11_needGap] at h
  refine j_iload_n (pc' := 1) dX11_needGap_0 rfl rfl ?_
  obtain ⟨q1, h⟩ := ck_o h
  refine j_if_lt (tgt := 15) (pc' := 4) dX11_needGap_1 rfl rfl q1 (fun b1 => ?_) (fun b1 => ?_)
  · replace h := ite_t b1 h
    exact j_wk (j_widen (ce := 0) (ke := 0) (by decide) (by decide) (c_X11_needGap_j15 hd h)) (trivial)
  · replace h := ite_f b1 h
    refine j_iload_n (pc' := 5) dX11_needGap_4 rfl rfl ?_
    refine j_aload_n (pc' := 6) dX11_needGap_5 rfl rfl ?_
    refine k_getR (pc' := 9) (sl := 1) (r := 3) kc_10 w_394 (Or.inl rfl) (by decide) dX11_needGap_6 rfl (by decide) sk_0 (by decide) rfl (by decide) ?_
    obtain ⟨v1, D1, e1, h⟩ := bI_o h
    refine k_cV (d' := 1) (pc' := 12) [] [mI x1] (c_X6_gapCount (d := 1) (Nat.le_refl _) shop_3 e1) cw_X11_353 kc_6 w_537 w_538 dX11_needGap_9 rfl (by omega) rfl rfl (by decide) sk_3 rfl rfl (by decide) (by decide) ?_
    obtain ⟨q2, h⟩ := ck_o h
    refine j_icmp_lt (tgt := 26) (pc' := 15) dX11_needGap_12 rfl rfl q1 q2 (fun b2 => ?_) (fun b2 => ?_)
    · replace h := ite_t b2 h
      exact j_vret dX11_needGap_26 rfl (by decide) (by decide) (rVX_of h)
    · replace h := ite_f b2 h
      exact j_wk (j_widen (ce := 0) (ke := 0) (by decide) (by decide) (c_X11_needGap_j15 hd h)) (trivial)
theorem c_X11_needGap {d : Nat} (hd : 6 ≤ d) {x1 : Int} {D D' : mD} {v : Int ⊕ Nat} (h : F_X11_needGap x1 D = some (v, D')) : CM d 1 6 M_X11_needGap [mR 0, mI x1] (SK, D, false) (rOV v D') := CM.intro pn_X11 rfl rfl (Nat.le_of_ble_eq_true rfl) (fun _ => c_X11_needGap_e hd h)
theorem c_X11_gap_e {Ω : mO} {d : Nat} (hd : 8 ≤ d) {r : (Int ⊕ Nat) × mD} {x1 x2 : Int} {D : mD} (h : F_X11_gap x1 x2 D = some r) : J Ω M_X11_gap d 2 12 (rO r.1 r.2) 0 [some (mR 0), some (mI x1), some (mI x2), none] [] (SK, D, false) 0 0 := by
  rw [F_X11_gap] at h
  refine j_aload_n (pc' := 1) dX11_gap_0 rfl rfl ?_
  refine j_iload_n (pc' := 2) dX11_gap_1 rfl rfl ?_
  rcases bX_o h with ⟨v1, D1, e1, h⟩ | ⟨v1, D1, e1, h⟩
  rotate_left
  · exact k_cVXtV (d' := 6) [mI x1] [] (c_X11_needGap (d := 6) (Nat.le_refl _) e1) cw_X11_231 kc_10 w_1122 ws_26 dX11_gap_2 (by omega) rfl rfl (by decide) sk_0 rfl rfl (by decide) (by decide) (rX_of h)
  refine k_cVXv (d' := 6) (pc' := 5) (ce := 1) (ke := 6) [mI x1] [] (c_X11_needGap (d := 6) (Nat.le_refl _) e1) cw_X11_231 kc_10 w_1122 ws_26 dX11_gap_2 rfl (by omega) rfl rfl (by decide) sk_0 rfl rfl rfl rfl (by decide) (by decide) ?_
  refine j_aload_n (pc' := 6) dX11_gap_5 rfl rfl ?_
  refine k_getR (pc' := 9) (sl := 3) (r := 17) kc_10 w_396 (Or.inl rfl) (by decide) dX11_gap_6 rfl (by decide) sk_0 (by decide) rfl (by decide) ?_
  refine k_getR (pc' := 12) (sl := 0) (r := 18) kc_9 w_211 (Or.inl rfl) (by decide) dX11_gap_9 rfl (by decide) sk_17 (by decide) rfl (by decide) ?_
  refine j_iload_n (pc' := 13) dX11_gap_12 rfl rfl ?_
  obtain ⟨q1, h⟩ := ck_o h
  refine k_iald (pc' := 14) (z := D1 18 x1) dX11_gap_13 rfl (by decide) sk_18 (by decide) q1.1 q1.2 rfl ?_
  refine j_istore_n (pc' := 15) (ls' := [some (mR 0), some (mI x1), some (mI x2), some (mI (D1 18 x1))]) dX11_gap_14 rfl (by decide) rfl ?_
  refine j_iload_n (pc' := 16) dX11_gap_15 rfl rfl ?_
  obtain ⟨q2, h⟩ := ck_o h
  by_cases b1 : x2 = 0
  · replace h := ite_t b1 h
    refine j_tabIn (off := 28) (tgt := 44) dX11_gap_16 q2 (by rw [b1]; decide) (by rw [b1]; decide) (by rw [b1]; rfl) rfl ?_
    refine j_iload_n (pc' := 45) dX11_gap_44 rfl rfl ?_
    exact j_iret dX11_gap_45 rfl (by decide) (by decide) (rIX_of h)
  replace h := ite_f b1 h
  by_cases b2 : x2 = 1
  · replace h := ite_t b2 h
    refine j_tabIn (off := 30) (tgt := 46) dX11_gap_16 q2 (by rw [b2]; decide) (by rw [b2]; decide) (by rw [b2]; rfl) rfl ?_
    refine j_aload_n (pc' := 47) dX11_gap_46 rfl rfl ?_
    refine k_getR (pc' := 50) (sl := 4) (r := 22) kc_10 w_397 (Or.inl rfl) (by decide) dX11_gap_47 rfl (by decide) sk_0 (by decide) rfl (by decide) ?_
    refine j_iload_n (pc' := 51) dX11_gap_50 rfl rfl ?_
    refine j_iload_n (pc' := 52) dX11_gap_51 rfl rfl ?_
    obtain ⟨v2, D2, e2, h⟩ := bI_o h
    refine k_cV (d' := 7) (pc' := 55) [mI x1, mI (D1 18 x1)] [] (c_X0_whiteOf (d := 7) (Nat.le_refl _) e2) cw_X11_237 kc_0 w_544 w_545 dX11_gap_52 rfl (by omega) rfl rfl (by decide) sk_22 rfl rfl (by decide) (by decide) ?_
    exact j_iret dX11_gap_55 rfl (by decide) (by decide) (rIX_of h)
  replace h := ite_f b2 h
  by_cases b3 : x2 = 2
  · replace h := ite_t b3 h
    refine j_tabIn (off := 40) (tgt := 56) dX11_gap_16 q2 (by rw [b3]; decide) (by rw [b3]; decide) (by rw [b3]; rfl) rfl ?_
    refine j_aload_n (pc' := 57) dX11_gap_56 rfl rfl ?_
    refine k_getR (pc' := 60) (sl := 4) (r := 22) kc_10 w_397 (Or.inl rfl) (by decide) dX11_gap_57 rfl (by decide) sk_0 (by decide) rfl (by decide) ?_
    refine j_iload_n (pc' := 61) dX11_gap_60 rfl rfl ?_
    refine j_iload_n (pc' := 62) dX11_gap_61 rfl rfl ?_
    refine j_aload_n (pc' := 63) dX11_gap_62 rfl rfl ?_
    refine k_getR (pc' := 66) (sl := 3) (r := 17) kc_10 w_396 (Or.inl rfl) (by decide) dX11_gap_63 rfl (by decide) sk_0 (by decide) rfl (by decide) ?_
    refine k_getI (pc' := 69) (sl := 5) (z := D1 17 5) kc_9 w_223 (by decide) dX11_gap_66 rfl (by decide) sk_17 (by decide) rfl rfl ?_
    obtain ⟨v3, D3, e3, h⟩ := bI_o h
    refine k_cV (d' := 7) (pc' := 72) [mI x1, mI (D1 18 x1), mI (D1 17 5)] [] (c_X0_leastSpace (d := 7) (Nat.le_refl _) e3) cw_X11_243 kc_0 w_646 w_647 dX11_gap_69 rfl (by omega) rfl rfl (by decide) sk_22 rfl rfl (by decide) (by decide) ?_
    exact j_iret dX11_gap_72 rfl (by decide) (by decide) (rIX_of h)
  replace h := ite_f b3 h
  refine j_tabOut (tgt := 73) dX11_gap_16 q2 (by omega) rfl ?_
  exact j_throwN (tn_X11_196_200) (si := 41) rfl dX11_gap_73 dX11_gap_76 dX11_gap_77 dX11_gap_79 dX11_gap_82 rfl (by omega) rfl (by decide) (by decide) (rX_of h)
theorem c_X11_gap {d : Nat} (hd : 8 ≤ d) {x1 x2 : Int} {D D' : mD} {v : Int ⊕ Nat} (h : F_X11_gap x1 x2 D = some (v, D')) : CM d 2 12 M_X11_gap [mR 0, mI x1, mI x2] (SK, D, false) (rO v D') := CM.intro pn_X11 rfl rfl (Nat.le_of_ble_eq_true rfl) (fun _ => c_X11_gap_e hd h)
theorem c_X11_row_e {Ω : mO} {d : Nat} (hd : 7 ≤ d) {r : (Int ⊕ Nat) × mD} {x1 x2 x3 : Int} {D : mD} (h : F_X11_row x1 x2 x3 D = some r) : J Ω M_X11_row d 2 12 (rO r.1 r.2) 0 [some (mR 0), some (mI x1), some (mI x2), some (mI x3), none] [] (SK, D, false) 0 0 := by
  rw [F_X11_row] at h
  refine j_aload_n (pc' := 1) dX11_row_0 rfl rfl ?_
  refine j_iload_n (pc' := 2) dX11_row_1 rfl rfl ?_
  rcases bX_o h with ⟨v1, D1, e1, h⟩ | ⟨v1, D1, e1, h⟩
  rotate_left
  · exact k_cVXtV (d' := 6) [mI x1] [] (c_X11_needGap (d := 6) (Nat.le_refl _) e1) cw_X11_231 kc_10 w_1122 ws_26 dX11_row_2 (by omega) rfl rfl (by decide) sk_0 rfl rfl (by decide) (by decide) (rX_of h)
  refine k_cVXv (d' := 6) (pc' := 5) (ce := 1) (ke := 6) [mI x1] [] (c_X11_needGap (d := 6) (Nat.le_refl _) e1) cw_X11_231 kc_10 w_1122 ws_26 dX11_row_2 rfl (by omega) rfl rfl (by decide) sk_0 rfl rfl rfl rfl (by decide) (by decide) ?_
  refine j_aload_n (pc' := 6) dX11_row_5 rfl rfl ?_
  refine j_iload_n (pc' := 7) dX11_row_6 rfl rfl ?_
  rcases bX_o h with ⟨v2, D2, e2, h⟩ | ⟨v2, D2, e2, h⟩
  rotate_left
  · exact k_cVXtV (d' := 6) [mI x2] [] (c_X11_needRow (d := 6) (Nat.le_refl _) e2) cw_X11_201 kc_10 w_1093 ws_24 dX11_row_7 (by omega) rfl rfl (by decide) sk_0 rfl rfl (by decide) (by decide) (rX_of h)
  refine k_cVXv (d' := 6) (pc' := 10) (ce := 2) (ke := 12) [mI x2] [] (c_X11_needRow (d := 6) (Nat.le_refl _) e2) cw_X11_201 kc_10 w_1093 ws_24 dX11_row_7 rfl (by omega) rfl rfl (by decide) sk_0 rfl rfl rfl rfl (by decide) (by decide) ?_
  refine j_aload_n (pc' := 11) dX11_row_10 rfl rfl ?_
  refine k_getR (pc' := 14) (sl := 3) (r := 17) kc_10 w_396 (Or.inl rfl) (by decide) dX11_row_11 rfl (by decide) sk_0 (by decide) rfl (by decide) ?_
  refine k_getR (pc' := 17) (sl := 0) (r := 18) kc_9 w_211 (Or.inl rfl) (by decide) dX11_row_14 rfl (by decide) sk_17 (by decide) rfl (by decide) ?_
  refine j_iload_n (pc' := 18) dX11_row_17 rfl rfl ?_
  obtain ⟨q1, h⟩ := ck_o h
  refine k_iald (pc' := 19) (z := D2 18 x1) dX11_row_18 rfl (by decide) sk_18 (by decide) q1.1 q1.2 rfl ?_
  refine j_istore (pc' := 21) (ls' := [some (mR 0), some (mI x1), some (mI x2), some (mI x3), some (mI (D2 18 x1))]) dX11_row_19 rfl (by decide) rfl ?_
  refine j_iload_n (pc' := 22) dX11_row_21 rfl rfl ?_
  obtain ⟨q2, h⟩ := ck_o h
  refine j_if_eq (tgt := 39) (pc' := 25) dX11_row_22 rfl rfl q2 (fun b1 => ?_) (fun b1 => ?_)
  · replace h := ite_t b1 h
    refine j_aload_n (pc' := 40) dX11_row_39 rfl rfl ?_
    refine k_getR (pc' := 43) (sl := 4) (r := 22) kc_10 w_397 (Or.inl rfl) (by decide) dX11_row_40 rfl (by decide) sk_0 (by decide) rfl (by decide) ?_
    refine j_iload_n (pc' := 44) dX11_row_43 rfl rfl ?_
    refine j_iload_n (pc' := 45) dX11_row_44 rfl rfl ?_
    refine j_iload (pc' := 47) dX11_row_45 rfl rfl ?_
    refine j_aload_n (pc' := 48) dX11_row_47 rfl rfl ?_
    refine k_getR (pc' := 51) (sl := 3) (r := 17) kc_10 w_396 (Or.inl rfl) (by decide) dX11_row_48 rfl (by decide) sk_0 (by decide) rfl (by decide) ?_
    refine k_getI (pc' := 54) (sl := 5) (z := D2 17 5) kc_9 w_223 (by decide) dX11_row_51 rfl (by decide) sk_17 (by decide) rfl rfl ?_
    obtain ⟨v3, D3, e3, h⟩ := bI_o h
    refine k_cV (d' := 6) (pc' := 57) [mI x1, mI x2, mI (D2 18 x1), mI (D2 17 5)] [] (c_X0_spaceOf (d := 6) (Nat.le_refl _) e3) cw_X11_252 kc_0 w_548 w_549 dX11_row_54 rfl (by omega) rfl rfl (by decide) sk_22 rfl rfl (by decide) (by decide) ?_
    exact j_iret dX11_row_57 rfl (by decide) (by decide) (rIX_of h)
  · replace h := ite_f b1 h
    refine j_aload_n (pc' := 26) dX11_row_25 rfl rfl ?_
    refine k_getR (pc' := 29) (sl := 4) (r := 22) kc_10 w_397 (Or.inl rfl) (by decide) dX11_row_26 rfl (by decide) sk_0 (by decide) rfl (by decide) ?_
    refine j_iload_n (pc' := 30) dX11_row_29 rfl rfl ?_
    refine j_iload_n (pc' := 31) dX11_row_30 rfl rfl ?_
    refine j_iload (pc' := 33) dX11_row_31 rfl rfl ?_
    obtain ⟨v4, D4, e4, h⟩ := bI_o h
    refine k_cV (d' := 6) (pc' := 36) [mI x1, mI x2, mI (D2 18 x1)] [] (c_X0_weightOf (d := 6) (Nat.le_refl _) e4) cw_X11_249 kc_0 w_563 w_564 dX11_row_33 rfl (by omega) rfl rfl (by decide) sk_22 rfl rfl (by decide) (by decide) ?_
    refine j_goto (tgt := 57) dX11_row_36 rfl ?_
    exact j_iret dX11_row_57 rfl (by decide) (by decide) (rIX_of h)
theorem c_X11_row {d : Nat} (hd : 7 ≤ d) {x1 x2 x3 : Int} {D D' : mD} {v : Int ⊕ Nat} (h : F_X11_row x1 x2 x3 D = some (v, D')) : CM d 2 12 M_X11_row [mR 0, mI x1, mI x2, mI x3] (SK, D, false) (rO v D') := CM.intro pn_X11 rfl rfl (Nat.le_of_ble_eq_true rfl) (fun _ => c_X11_row_e hd h)
theorem c_X11_needLight_j10 {Ω : mO} {d : Nat} (hd : 6 ≤ d) {r : (Int ⊕ Nat) × mD} {D : mD} (h : F_X11_needLight_j10 D = some r) : J Ω M_X11_needLight d 1 6 (rOV r.1 r.2) 10 [none, none] [] (SK, D, false) 0 0 := by
  rw [F_X11_needLight_j10] at h
  exact j_throwW (tw_X11_130_134) (si := 43) rfl dX11_needLight_10 dX11_needLight_13 dX11_needLight_14 dX11_needLight_17 dX11_needLight_20 rfl (by omega) rfl (by decide) (by decide) (rXV_of h)
theorem c_X11_needLight_e {Ω : mO} {d : Nat} (hd : 6 ≤ d) {r : (Int ⊕ Nat) × mD} {x1 : Int} {D : mD} (h : F_X11_needLight x1 D = some r) : J Ω M_X11_needLight d 1 6 (rOV r.1 r.2) 0 [some (mR 0), some (mI x1)] [] (SK, D, false) 0 0 := by
  rw [F_X11_needLight] at h
  refine j_iload_n (pc' := 1) dX11_needLight_0 rfl rfl ?_
  obtain ⟨q1, h⟩ := ck_o h
  refine j_if_lt (tgt := 10) (pc' := 4) dX11_needLight_1 rfl rfl q1 (fun b1 => ?_) (fun b1 => ?_)
  · replace h := ite_t b1 h
    exact j_wk (j_widen (ce := 0) (ke := 0) (by decide) (by decide) (c_X11_needLight_j10 hd h)) (trivial)
  · replace h := ite_f b1 h
    refine j_iload_n (pc' := 5) dX11_needLight_4 rfl rfl ?_
    refine j_bipush (pc' := 7) dX11_needLight_5 rfl rfl ?_
    refine j_icmp_le (tgt := 21) (pc' := 10) dX11_needLight_7 rfl rfl q1 (by decide) (fun b2 => ?_) (fun b2 => ?_)
    · replace h := ite_t b2 h
      exact j_vret dX11_needLight_21 rfl (by decide) (by decide) (rVX_of h)
    · replace h := ite_f b2 h
      exact j_wk (j_widen (ce := 0) (ke := 0) (by decide) (by decide) (c_X11_needLight_j10 hd h)) (trivial)
theorem c_X11_needLight {d : Nat} (hd : 6 ≤ d) {x1 : Int} {D D' : mD} {v : Int ⊕ Nat} (h : F_X11_needLight x1 D = some (v, D')) : CM d 1 6 M_X11_needLight [mR 0, mI x1] (SK, D, false) (rOV v D') := CM.intro pn_X11 rfl rfl (Nat.le_of_ble_eq_true rfl) (fun _ => c_X11_needLight_e hd h)
theorem c_X11_needYards_j11 {Ω : mO} {d : Nat} (hd : 6 ≤ d) {r : (Int ⊕ Nat) × mD} {D : mD} (h : F_X11_needYards_j11 D = some r) : J Ω M_X11_needYards d 1 6 (rOV r.1 r.2) 11 [none, none] [] (SK, D, false) 0 0 := by
  rw [F_X11_needYards_j11] at h
  exact j_throwW (tw_X11_130_134) (si := 42) rfl dX11_needYards_11 dX11_needYards_14 dX11_needYards_15 dX11_needYards_18 dX11_needYards_21 rfl (by omega) rfl (by decide) (by decide) (rXV_of h)
theorem c_X11_needYards_e {Ω : mO} {d : Nat} (hd : 6 ≤ d) {r : (Int ⊕ Nat) × mD} {x1 : Int} {D : mD} (h : F_X11_needYards x1 D = some r) : J Ω M_X11_needYards d 1 6 (rOV r.1 r.2) 0 [some (mR 0), some (mI x1)] [] (SK, D, false) 0 0 := by
  rw [F_X11_needYards] at h
  refine j_iload_n (pc' := 1) dX11_needYards_0 rfl rfl ?_
  refine j_iconst (pc' := 2) dX11_needYards_1 rfl ?_
  obtain ⟨q1, h⟩ := ck_o h
  refine j_icmp_lt (tgt := 11) (pc' := 5) dX11_needYards_2 rfl rfl q1 (by decide) (fun b1 => ?_) (fun b1 => ?_)
  · replace h := ite_t b1 h
    exact j_wk (j_widen (ce := 0) (ke := 0) (by decide) (by decide) (c_X11_needYards_j11 hd h)) (trivial)
  · replace h := ite_f b1 h
    refine j_iload_n (pc' := 6) dX11_needYards_5 rfl rfl ?_
    refine j_bipush (pc' := 8) dX11_needYards_6 rfl rfl ?_
    refine j_icmp_le (tgt := 22) (pc' := 11) dX11_needYards_8 rfl rfl q1 (by decide) (fun b2 => ?_) (fun b2 => ?_)
    · replace h := ite_t b2 h
      exact j_vret dX11_needYards_22 rfl (by decide) (by decide) (rVX_of h)
    · replace h := ite_f b2 h
      exact j_wk (j_widen (ce := 0) (ke := 0) (by decide) (by decide) (c_X11_needYards_j11 hd h)) (trivial)
theorem c_X11_needYards {d : Nat} (hd : 6 ≤ d) {x1 : Int} {D D' : mD} {v : Int ⊕ Nat} (h : F_X11_needYards x1 D = some (v, D')) : CM d 1 6 M_X11_needYards [mR 0, mI x1] (SK, D, false) (rOV v D') := CM.intro pn_X11 rfl rfl (Nat.le_of_ble_eq_true rfl) (fun _ => c_X11_needYards_e hd h)
theorem c_X11_fades_e {Ω : mO} {d : Nat} (hd : 7 ≤ d) {r : (Int ⊕ Nat) × mD} {x1 x2 : Int} {D : mD} (h : F_X11_fades x1 x2 D = some r) : J Ω M_X11_fades d 2 12 (rO r.1 r.2) 0 [some (mR 0), some (mI x1), some (mI x2)] [] (SK, D, false) 0 0 := by
  rw [F_X11_fades] at h
  refine j_aload_n (pc' := 1) dX11_fades_0 rfl rfl ?_
  refine j_iload_n (pc' := 2) dX11_fades_1 rfl rfl ?_
  rcases bX_o h with ⟨v1, D1, e1, h⟩ | ⟨v1, D1, e1, h⟩
  rotate_left
  · exact k_cVXtV (d' := 6) [mI x1] [] (c_X11_needYards (d := 6) (Nat.le_refl _) e1) cw_X11_256 kc_10 w_1146 ws_27 dX11_fades_2 (by omega) rfl rfl (by decide) sk_0 rfl rfl (by decide) (by decide) (rX_of h)
  refine k_cVXv (d' := 6) (pc' := 5) (ce := 1) (ke := 6) [mI x1] [] (c_X11_needYards (d := 6) (Nat.le_refl _) e1) cw_X11_256 kc_10 w_1146 ws_27 dX11_fades_2 rfl (by omega) rfl rfl (by decide) sk_0 rfl rfl rfl rfl (by decide) (by decide) ?_
  refine j_aload_n (pc' := 6) dX11_fades_5 rfl rfl ?_
  refine j_iload_n (pc' := 7) dX11_fades_6 rfl rfl ?_
  rcases bX_o h with ⟨v2, D2, e2, h⟩ | ⟨v2, D2, e2, h⟩
  rotate_left
  · exact k_cVXtV (d' := 6) [mI x2] [] (c_X11_needLight (d := 6) (Nat.le_refl _) e2) cw_X11_259 kc_10 w_1151 ws_28 dX11_fades_7 (by omega) rfl rfl (by decide) sk_0 rfl rfl (by decide) (by decide) (rX_of h)
  refine k_cVXv (d' := 6) (pc' := 10) (ce := 2) (ke := 12) [mI x2] [] (c_X11_needLight (d := 6) (Nat.le_refl _) e2) cw_X11_259 kc_10 w_1151 ws_28 dX11_fades_7 rfl (by omega) rfl rfl (by decide) sk_0 rfl rfl rfl rfl (by decide) (by decide) ?_
  refine j_aload_n (pc' := 11) dX11_fades_10 rfl rfl ?_
  refine k_getR (pc' := 14) (sl := 4) (r := 22) kc_10 w_397 (Or.inl rfl) (by decide) dX11_fades_11 rfl (by decide) sk_0 (by decide) rfl (by decide) ?_
  refine j_iload_n (pc' := 15) dX11_fades_14 rfl rfl ?_
  refine j_iload_n (pc' := 16) dX11_fades_15 rfl rfl ?_
  obtain ⟨v3, D3, e3, h⟩ := bI_o h
  refine k_cV (d' := 6) (pc' := 19) [mI x1, mI x2] [] (c_X0_fadingAt (d := 6) (Nat.le_refl _) e3) cw_X11_262 kc_0 w_658 w_659 dX11_fades_16 rfl (by omega) rfl rfl (by decide) sk_22 rfl rfl (by decide) (by decide) ?_
  exact j_iret dX11_fades_19 rfl (by decide) (by decide) (rIX_of h)
theorem c_X11_fades {d : Nat} (hd : 7 ≤ d) {x1 x2 : Int} {D D' : mD} {v : Int ⊕ Nat} (h : F_X11_fades x1 x2 D = some (v, D')) : CM d 2 12 M_X11_fades [mR 0, mI x1, mI x2] (SK, D, false) (rO v D') := CM.intro pn_X11 rfl rfl (Nat.le_of_ble_eq_true rfl) (fun _ => c_X11_fades_e hd h)
theorem c_X11_count_e {Ω : mO} {d : Nat} (hd : 4 ≤ d) {r : Int × mD} {x1 : Int} {D : mD} (h : F_X11_count x1 D = some r) : J Ω M_X11_count d 0 0 (rI r.1 r.2) 0 [some (mR 0), some (mI x1)] [] (SK, D, false) 0 0 := by
  rw [F_X11_count] at h
  refine j_iload_n (pc' := 1) dX11_count_0 rfl rfl ?_
  obtain ⟨q1, h⟩ := ck_o h
  by_cases b1 : x1 = 0
  · replace h := ite_t b1 h
    refine j_tabIn (off := 79) (tgt := 80) dX11_count_1 q1 (by rw [b1]; decide) (by rw [b1]; decide) (by rw [b1]; rfl) rfl ?_
    refine j_aload_n (pc' := 81) dX11_count_80 rfl rfl ?_
    refine k_getR (pc' := 84) (sl := 1) (r := 3) kc_10 w_394 (Or.inl rfl) (by decide) dX11_count_81 rfl (by decide) sk_0 (by decide) rfl (by decide) ?_
    refine k_getI (pc' := 87) (sl := 0) (z := D 3 0) kc_6 w_73 (by decide) dX11_count_84 rfl (by decide) sk_3 (by decide) rfl rfl ?_
    exact j_iret dX11_count_87 rfl (by decide) (by decide) (rI_of h)
  replace h := ite_f b1 h
  by_cases b2 : x1 = 1
  · replace h := ite_t b2 h
    refine j_tabIn (off := 87) (tgt := 88) dX11_count_1 q1 (by rw [b2]; decide) (by rw [b2]; decide) (by rw [b2]; rfl) rfl ?_
    refine j_aload_n (pc' := 89) dX11_count_88 rfl rfl ?_
    refine k_getR (pc' := 92) (sl := 1) (r := 3) kc_10 w_394 (Or.inl rfl) (by decide) dX11_count_89 rfl (by decide) sk_0 (by decide) rfl (by decide) ?_
    refine k_getI (pc' := 95) (sl := 5) (z := D 3 5) kc_6 w_91 (by decide) dX11_count_92 rfl (by decide) sk_3 (by decide) rfl rfl ?_
    exact j_iret dX11_count_95 rfl (by decide) (by decide) (rI_of h)
  replace h := ite_f b2 h
  by_cases b3 : x1 = 2
  · replace h := ite_t b3 h
    refine j_tabIn (off := 95) (tgt := 96) dX11_count_1 q1 (by rw [b3]; decide) (by rw [b3]; decide) (by rw [b3]; rfl) rfl ?_
    refine j_aload_n (pc' := 97) dX11_count_96 rfl rfl ?_
    refine k_getR (pc' := 100) (sl := 1) (r := 3) kc_10 w_394 (Or.inl rfl) (by decide) dX11_count_97 rfl (by decide) sk_0 (by decide) rfl (by decide) ?_
    refine k_getI (pc' := 103) (sl := 7) (z := D 3 7) kc_6 w_100 (by decide) dX11_count_100 rfl (by decide) sk_3 (by decide) rfl rfl ?_
    exact j_iret dX11_count_103 rfl (by decide) (by decide) (rI_of h)
  replace h := ite_f b3 h
  by_cases b4 : x1 = 3
  · replace h := ite_t b4 h
    refine j_tabIn (off := 103) (tgt := 104) dX11_count_1 q1 (by rw [b4]; decide) (by rw [b4]; decide) (by rw [b4]; rfl) rfl ?_
    refine j_aload_n (pc' := 105) dX11_count_104 rfl rfl ?_
    refine k_getR (pc' := 108) (sl := 1) (r := 3) kc_10 w_394 (Or.inl rfl) (by decide) dX11_count_105 rfl (by decide) sk_0 (by decide) rfl (by decide) ?_
    refine k_getI (pc' := 111) (sl := 8) (z := D 3 8) kc_6 w_104 (by decide) dX11_count_108 rfl (by decide) sk_3 (by decide) rfl rfl ?_
    exact j_iret dX11_count_111 rfl (by decide) (by decide) (rI_of h)
  replace h := ite_f b4 h
  by_cases b5 : x1 = 4
  · replace h := ite_t b5 h
    refine j_tabIn (off := 111) (tgt := 112) dX11_count_1 q1 (by rw [b5]; decide) (by rw [b5]; decide) (by rw [b5]; rfl) rfl ?_
    refine j_aload_n (pc' := 113) dX11_count_112 rfl rfl ?_
    refine k_getR (pc' := 116) (sl := 1) (r := 3) kc_10 w_394 (Or.inl rfl) (by decide) dX11_count_113 rfl (by decide) sk_0 (by decide) rfl (by decide) ?_
    refine k_getI (pc' := 119) (sl := 9) (z := D 3 9) kc_6 w_108 (by decide) dX11_count_116 rfl (by decide) sk_3 (by decide) rfl rfl ?_
    exact j_iret dX11_count_119 rfl (by decide) (by decide) (rI_of h)
  replace h := ite_f b5 h
  by_cases b6 : x1 = 5
  · replace h := ite_t b6 h
    refine j_tabIn (off := 119) (tgt := 120) dX11_count_1 q1 (by rw [b6]; decide) (by rw [b6]; decide) (by rw [b6]; rfl) rfl ?_
    refine j_aload_n (pc' := 121) dX11_count_120 rfl rfl ?_
    refine k_getR (pc' := 124) (sl := 3) (r := 17) kc_10 w_396 (Or.inl rfl) (by decide) dX11_count_121 rfl (by decide) sk_0 (by decide) rfl (by decide) ?_
    refine k_getI (pc' := 127) (sl := 5) (z := D 17 5) kc_9 w_223 (by decide) dX11_count_124 rfl (by decide) sk_17 (by decide) rfl rfl ?_
    exact j_iret dX11_count_127 rfl (by decide) (by decide) (rI_of h)
  replace h := ite_f b6 h
  by_cases b7 : x1 = 6
  · replace h := ite_t b7 h
    refine j_tabIn (off := 127) (tgt := 128) dX11_count_1 q1 (by rw [b7]; decide) (by rw [b7]; decide) (by rw [b7]; rfl) rfl ?_
    refine j_aload_n (pc' := 129) dX11_count_128 rfl rfl ?_
    refine k_getR (pc' := 132) (sl := 1) (r := 3) kc_10 w_394 (Or.inl rfl) (by decide) dX11_count_129 rfl (by decide) sk_0 (by decide) rfl (by decide) ?_
    refine k_getI (pc' := 135) (sl := 10) (z := D 3 10) kc_6 w_111 (by decide) dX11_count_132 rfl (by decide) sk_3 (by decide) rfl rfl ?_
    exact j_iret dX11_count_135 rfl (by decide) (by decide) (rI_of h)
  replace h := ite_f b7 h
  by_cases b8 : x1 = 7
  · replace h := ite_t b8 h
    refine j_tabIn (off := 135) (tgt := 136) dX11_count_1 q1 (by rw [b8]; decide) (by rw [b8]; decide) (by rw [b8]; rfl) rfl ?_
    refine j_aload_n (pc' := 137) dX11_count_136 rfl rfl ?_
    refine k_getR (pc' := 140) (sl := 1) (r := 3) kc_10 w_394 (Or.inl rfl) (by decide) dX11_count_137 rfl (by decide) sk_0 (by decide) rfl (by decide) ?_
    refine k_getI (pc' := 143) (sl := 11) (z := D 3 11) kc_6 w_115 (by decide) dX11_count_140 rfl (by decide) sk_3 (by decide) rfl rfl ?_
    exact j_iret dX11_count_143 rfl (by decide) (by decide) (rI_of h)
  replace h := ite_f b8 h
  by_cases b9 : x1 = 8
  · replace h := ite_t b9 h
    refine j_tabIn (off := 143) (tgt := 144) dX11_count_1 q1 (by rw [b9]; decide) (by rw [b9]; decide) (by rw [b9]; rfl) rfl ?_
    refine j_aload_n (pc' := 145) dX11_count_144 rfl rfl ?_
    refine k_getR (pc' := 148) (sl := 1) (r := 3) kc_10 w_394 (Or.inl rfl) (by decide) dX11_count_145 rfl (by decide) sk_0 (by decide) rfl (by decide) ?_
    refine k_getI (pc' := 151) (sl := 14) (z := D 3 14) kc_6 w_124 (by decide) dX11_count_148 rfl (by decide) sk_3 (by decide) rfl rfl ?_
    exact j_iret dX11_count_151 rfl (by decide) (by decide) (rI_of h)
  replace h := ite_f b9 h
  by_cases b10 : x1 = 9
  · replace h := ite_t b10 h
    refine j_tabIn (off := 151) (tgt := 152) dX11_count_1 q1 (by rw [b10]; decide) (by rw [b10]; decide) (by rw [b10]; rfl) rfl ?_
    refine j_aload_n (pc' := 153) dX11_count_152 rfl rfl ?_
    refine k_getR (pc' := 156) (sl := 1) (r := 3) kc_10 w_394 (Or.inl rfl) (by decide) dX11_count_153 rfl (by decide) sk_0 (by decide) rfl (by decide) ?_
    refine k_getI (pc' := 159) (sl := 16) (z := D 3 16) kc_6 w_129 (by decide) dX11_count_156 rfl (by decide) sk_3 (by decide) rfl rfl ?_
    exact j_iret dX11_count_159 rfl (by decide) (by decide) (rI_of h)
  replace h := ite_f b10 h
  by_cases b11 : x1 = 10
  · replace h := ite_t b11 h
    refine j_tabIn (off := 159) (tgt := 160) dX11_count_1 q1 (by rw [b11]; decide) (by rw [b11]; decide) (by rw [b11]; rfl) rfl ?_
    refine j_aload_n (pc' := 161) dX11_count_160 rfl rfl ?_
    refine k_getR (pc' := 164) (sl := 2) (r := 12) kc_10 w_395 (Or.inl rfl) (by decide) dX11_count_161 rfl (by decide) sk_0 (by decide) rfl (by decide) ?_
    refine k_getI (pc' := 167) (sl := 0) (z := D 12 0) kc_2 w_172 (by decide) dX11_count_164 rfl (by decide) sk_12 (by decide) rfl rfl ?_
    exact j_iret dX11_count_167 rfl (by decide) (by decide) (rI_of h)
  replace h := ite_f b11 h
  by_cases b12 : x1 = 11
  · replace h := ite_t b12 h
    refine j_tabIn (off := 167) (tgt := 168) dX11_count_1 q1 (by rw [b12]; decide) (by rw [b12]; decide) (by rw [b12]; rfl) rfl ?_
    refine j_aload_n (pc' := 169) dX11_count_168 rfl rfl ?_
    refine k_getR (pc' := 172) (sl := 3) (r := 17) kc_10 w_396 (Or.inl rfl) (by decide) dX11_count_169 rfl (by decide) sk_0 (by decide) rfl (by decide) ?_
    refine k_getI (pc' := 175) (sl := 7) (z := D 17 7) kc_9 w_227 (by decide) dX11_count_172 rfl (by decide) sk_17 (by decide) rfl rfl ?_
    exact j_iret dX11_count_175 rfl (by decide) (by decide) (rI_of h)
  replace h := ite_f b12 h
  by_cases b13 : x1 = 12
  · replace h := ite_t b13 h
    refine j_tabIn (off := 175) (tgt := 176) dX11_count_1 q1 (by rw [b13]; decide) (by rw [b13]; decide) (by rw [b13]; rfl) rfl ?_
    refine j_aload_n (pc' := 177) dX11_count_176 rfl rfl ?_
    refine k_getR (pc' := 180) (sl := 4) (r := 22) kc_10 w_397 (Or.inl rfl) (by decide) dX11_count_177 rfl (by decide) sk_0 (by decide) rfl (by decide) ?_
    obtain ⟨v1, D1, e1, h⟩ := bI_o h
    refine k_cV (d' := 3) (pc' := 183) [] [] (c_X0_endOfWord (d := 3) (Nat.le_refl _) e1) cw_X11_292 kc_0 w_467 w_468 dX11_count_180 rfl (by omega) rfl rfl (by decide) sk_22 rfl rfl (by decide) (by decide) ?_
    exact j_iret dX11_count_183 rfl (by decide) (by decide) (rI_of h)
  replace h := ite_f b13 h
  by_cases b14 : x1 = 13
  · replace h := ite_t b14 h
    refine j_tabIn (off := 183) (tgt := 184) dX11_count_1 q1 (by rw [b14]; decide) (by rw [b14]; decide) (by rw [b14]; rfl) rfl ?_
    refine j_aload_n (pc' := 185) dX11_count_184 rfl rfl ?_
    refine k_getR (pc' := 188) (sl := 3) (r := 17) kc_10 w_396 (Or.inl rfl) (by decide) dX11_count_185 rfl (by decide) sk_0 (by decide) rfl (by decide) ?_
    refine k_getI (pc' := 191) (sl := 3) (z := D 17 3) kc_9 w_219 (by decide) dX11_count_188 rfl (by decide) sk_17 (by decide) rfl rfl ?_
    exact j_iret dX11_count_191 rfl (by decide) (by decide) (rI_of h)
  replace h := ite_f b14 h
  by_cases b15 : x1 = 14
  · replace h := ite_t b15 h
    refine j_tabIn (off := 191) (tgt := 192) dX11_count_1 q1 (by rw [b15]; decide) (by rw [b15]; decide) (by rw [b15]; rfl) rfl ?_
    refine j_aload_n (pc' := 193) dX11_count_192 rfl rfl ?_
    refine k_getR (pc' := 196) (sl := 3) (r := 17) kc_10 w_396 (Or.inl rfl) (by decide) dX11_count_193 rfl (by decide) sk_0 (by decide) rfl (by decide) ?_
    refine k_getI (pc' := 199) (sl := 9) (z := D 17 9) kc_9 w_230 (by decide) dX11_count_196 rfl (by decide) sk_17 (by decide) rfl rfl ?_
    exact j_iret dX11_count_199 rfl (by decide) (by decide) (rI_of h)
  replace h := ite_f b15 h
  by_cases b16 : x1 = 15
  · replace h := ite_t b16 h
    refine j_tabIn (off := 199) (tgt := 200) dX11_count_1 q1 (by rw [b16]; decide) (by rw [b16]; decide) (by rw [b16]; rfl) rfl ?_
    refine j_aload_n (pc' := 201) dX11_count_200 rfl rfl ?_
    refine k_getR (pc' := 204) (sl := 7) (r := 31) kc_10 w_400 (Or.inl rfl) (by decide) dX11_count_201 rfl (by decide) sk_0 (by decide) rfl (by decide) ?_
    refine k_getI (pc' := 207) (sl := 1) (z := D 31 1) kc_1 w_339 (by decide) dX11_count_204 rfl (by decide) sk_31 (by decide) rfl rfl ?_
    exact j_iret dX11_count_207 rfl (by decide) (by decide) (rI_of h)
  replace h := ite_f b16 h
  refine j_tabOut (tgt := 208) dX11_count_1 q1 (by omega) rfl ?_
  refine j_iconst (pc' := 209) dX11_count_208 rfl ?_
  exact j_iret dX11_count_209 rfl (by decide) (by decide) (rI_of h)
theorem c_X11_count {d : Nat} (hd : 4 ≤ d) {x1 : Int} {D D' : mD} {v : Int} (h : F_X11_count x1 D = some (v, D')) : CM d 0 0 M_X11_count [mR 0, mI x1] (SK, D, false) (rI v D') := CM.intro pn_X11 rfl rfl (Nat.le_of_ble_eq_true rfl) (fun _ => c_X11_count_e hd h)
theorem c_X11_needDistance_j10 {Ω : mO} {d : Nat} (hd : 6 ≤ d) {r : (Int ⊕ Nat) × mD} {D : mD} (h : F_X11_needDistance_j10 D = some r) : J Ω M_X11_needDistance d 1 6 (rOV r.1 r.2) 10 [none, none] [] (SK, D, false) 0 0 := by
  rw [F_X11_needDistance_j10] at h
  exact j_throwW (tw_X11_130_134) (si := 44) rfl dX11_needDistance_10 dX11_needDistance_13 dX11_needDistance_14 dX11_needDistance_17 dX11_needDistance_20 rfl (by omega) rfl (by decide) (by decide) (rXV_of h)
theorem c_X11_needDistance_e {Ω : mO} {d : Nat} (hd : 6 ≤ d) {r : (Int ⊕ Nat) × mD} {x1 : Int} {D : mD} (h : F_X11_needDistance x1 D = some r) : J Ω M_X11_needDistance d 1 6 (rOV r.1 r.2) 0 [some (mR 0), some (mI x1)] [] (SK, D, false) 0 0 := by
  rw [F_X11_needDistance] at h
  refine j_iload_n (pc' := 1) dX11_needDistance_0 rfl rfl ?_
  obtain ⟨q1, h⟩ := ck_o h
  refine j_if_lt (tgt := 10) (pc' := 4) dX11_needDistance_1 rfl rfl q1 (fun b1 => ?_) (fun b1 => ?_)
  · replace h := ite_t b1 h
    exact j_wk (j_widen (ce := 0) (ke := 0) (by decide) (by decide) (c_X11_needDistance_j10 hd h)) (trivial)
  · replace h := ite_f b1 h
    refine j_iload_n (pc' := 5) dX11_needDistance_4 rfl rfl ?_
    refine j_bipush (pc' := 7) dX11_needDistance_5 rfl rfl ?_
    refine j_icmp_le (tgt := 21) (pc' := 10) dX11_needDistance_7 rfl rfl q1 (by decide) (fun b2 => ?_) (fun b2 => ?_)
    · replace h := ite_t b2 h
      exact j_vret dX11_needDistance_21 rfl (by decide) (by decide) (rVX_of h)
    · replace h := ite_f b2 h
      exact j_wk (j_widen (ce := 0) (ke := 0) (by decide) (by decide) (c_X11_needDistance_j10 hd h)) (trivial)
theorem c_X11_needDistance {d : Nat} (hd : 6 ≤ d) {x1 : Int} {D D' : mD} {v : Int ⊕ Nat} (h : F_X11_needDistance x1 D = some (v, D')) : CM d 1 6 M_X11_needDistance [mR 0, mI x1] (SK, D, false) (rOV v D') := CM.intro pn_X11 rfl rfl (Nat.le_of_ble_eq_true rfl) (fun _ => c_X11_needDistance_e hd h)
theorem c_X11_shift_e {Ω : mO} {d : Nat} (hd : 7 ≤ d) {r : (Int ⊕ Nat) × mD} {x1 x2 : Int} {D : mD} (h : F_X11_shift x1 x2 D = some r) : J Ω M_X11_shift d 2 12 (rO r.1 r.2) 0 [some (mR 0), some (mI x1), some (mI x2), none] [] (SK, D, false) 0 0 := by
  rw [F_X11_shift] at h
  refine j_aload_n (pc' := 1) dX11_shift_0 rfl rfl ?_
  refine j_iload_n (pc' := 2) dX11_shift_1 rfl rfl ?_
  rcases bX_o h with ⟨v1, D1, e1, h⟩ | ⟨v1, D1, e1, h⟩
  rotate_left
  · exact k_cVXtV (d' := 6) [mI x1] [] (c_X11_needGap (d := 6) (Nat.le_refl _) e1) cw_X11_231 kc_10 w_1122 ws_26 dX11_shift_2 (by omega) rfl rfl (by decide) sk_0 rfl rfl (by decide) (by decide) (rX_of h)
  refine k_cVXv (d' := 6) (pc' := 5) (ce := 1) (ke := 6) [mI x1] [] (c_X11_needGap (d := 6) (Nat.le_refl _) e1) cw_X11_231 kc_10 w_1122 ws_26 dX11_shift_2 rfl (by omega) rfl rfl (by decide) sk_0 rfl rfl rfl rfl (by decide) (by decide) ?_
  refine j_aload_n (pc' := 6) dX11_shift_5 rfl rfl ?_
  refine j_iload_n (pc' := 7) dX11_shift_6 rfl rfl ?_
  rcases bX_o h with ⟨v2, D2, e2, h⟩ | ⟨v2, D2, e2, h⟩
  rotate_left
  · exact k_cVXtV (d' := 6) [mI x2] [] (c_X11_needDistance (d := 6) (Nat.le_refl _) e2) cw_X11_305 kc_10 w_1164 ws_29 dX11_shift_7 (by omega) rfl rfl (by decide) sk_0 rfl rfl (by decide) (by decide) (rX_of h)
  refine k_cVXv (d' := 6) (pc' := 10) (ce := 2) (ke := 12) [mI x2] [] (c_X11_needDistance (d := 6) (Nat.le_refl _) e2) cw_X11_305 kc_10 w_1164 ws_29 dX11_shift_7 rfl (by omega) rfl rfl (by decide) sk_0 rfl rfl rfl rfl (by decide) (by decide) ?_
  refine j_aload_n (pc' := 11) dX11_shift_10 rfl rfl ?_
  refine k_getR (pc' := 14) (sl := 7) (r := 31) kc_10 w_400 (Or.inl rfl) (by decide) dX11_shift_11 rfl (by decide) sk_0 (by decide) rfl (by decide) ?_
  refine j_aload_n (pc' := 15) dX11_shift_14 rfl rfl ?_
  refine k_getR (pc' := 18) (sl := 3) (r := 17) kc_10 w_396 (Or.inl rfl) (by decide) dX11_shift_15 rfl (by decide) sk_0 (by decide) rfl (by decide) ?_
  obtain ⟨v3, D3, e3, h⟩ := bI_o h
  refine k_cVv (d' := 6) (pc' := 21) [mR 17] [] (c_X1_remember (d := 6) (Nat.le_refl _) work_17 e3) cw_X11_308 kc_1 w_1168 w_1169 dX11_shift_18 rfl (by omega) rfl rfl (by decide) sk_31 rfl rfl (by decide) (by decide) ?_
  refine j_aload_n (pc' := 22) dX11_shift_21 rfl rfl ?_
  refine k_getR (pc' := 25) (sl := 3) (r := 17) kc_10 w_396 (Or.inl rfl) (by decide) dX11_shift_22 rfl (by decide) sk_0 (by decide) rfl (by decide) ?_
  refine k_getR (pc' := 28) (sl := 0) (r := 18) kc_9 w_211 (Or.inl rfl) (by decide) dX11_shift_25 rfl (by decide) sk_17 (by decide) rfl (by decide) ?_
  refine j_iload_n (pc' := 29) dX11_shift_28 rfl rfl ?_
  obtain ⟨q1, h⟩ := ck_o h
  refine k_iald (pc' := 30) (z := D3 18 x1) dX11_shift_29 rfl (by decide) sk_18 (by decide) q1.1 q1.2 rfl ?_
  refine j_istore_n (pc' := 31) (ls' := [some (mR 0), some (mI x1), some (mI x2), some (mI (D3 18 x1))]) dX11_shift_30 rfl (by decide) rfl ?_
  refine j_aload_n (pc' := 32) dX11_shift_31 rfl rfl ?_
  refine k_getR (pc' := 35) (sl := 3) (r := 17) kc_10 w_396 (Or.inl rfl) (by decide) dX11_shift_32 rfl (by decide) sk_0 (by decide) rfl (by decide) ?_
  refine k_getR (pc' := 38) (sl := 0) (r := 18) kc_9 w_211 (Or.inl rfl) (by decide) dX11_shift_35 rfl (by decide) sk_17 (by decide) rfl (by decide) ?_
  refine j_iload_n (pc' := 39) dX11_shift_38 rfl rfl ?_
  refine j_iload_n (pc' := 40) dX11_shift_39 rfl rfl ?_
  refine k_iast (pc' := 41) dX11_shift_40 rfl (by decide) sk_18 (by decide) q1.1 q1.2 ?_
  refine j_iload_n (pc' := 42) dX11_shift_41 rfl rfl ?_
  exact j_iret dX11_shift_42 rfl (by decide) (by decide) (rIX_of h)
theorem c_X11_shift {d : Nat} (hd : 7 ≤ d) {x1 x2 : Int} {D D' : mD} {v : Int ⊕ Nat} (h : F_X11_shift x1 x2 D = some (v, D')) : CM d 2 12 M_X11_shift [mR 0, mI x1, mI x2] (SK, D, false) (rO v D') := CM.intro pn_X11 rfl rfl (Nat.le_of_ble_eq_true rfl) (fun _ => c_X11_shift_e hd h)
theorem c_X11_squeezed_j37 {Ω : mO} {d : Nat} (hd : 7 ≤ d) {r : (Int ⊕ Nat) × mD} {D : mD} (h : F_X11_squeezed_j37 D = some r) : J Ω M_X11_squeezed d 2 12 (rO r.1 r.2) 37 [none, none, none, none] [] (SK, D, false) 1 6 := by
  rw [F_X11_squeezed_j37] at h
  exact j_throwW (tw_X11_130_134) (si := 45) rfl dX11_squeezed_37 dX11_squeezed_40 dX11_squeezed_41 dX11_squeezed_44 dX11_squeezed_47 rfl (by omega) rfl (by decide) (by decide) (rX_of h)
theorem c_X11_squeezed_e {Ω : mO} {d : Nat} (hd : 7 ≤ d) {r : (Int ⊕ Nat) × mD} {x1 x2 : Int} {D : mD} (h : F_X11_squeezed x1 x2 D = some r) : J Ω M_X11_squeezed d 2 12 (rO r.1 r.2) 0 [some (mR 0), some (mI x1), some (mI x2), none] [] (SK, D, false) 0 0 := by
  rw [F_X11_squeezed] at h
  refine j_aload_n (pc' := 1) dX11_squeezed_0 rfl rfl ?_
  refine j_iload_n (pc' := 2) dX11_squeezed_1 rfl rfl ?_
  rcases bX_o h with ⟨v1, D1, e1, h⟩ | ⟨v1, D1, e1, h⟩
  rotate_left
  · exact k_cVXtV (d' := 6) [mI x1] [] (c_X11_needLetter (d := 6) (Nat.le_refl _) e1) cw_X11_211 kc_10 w_1107 ws_25 dX11_squeezed_2 (by omega) rfl rfl (by decide) sk_0 rfl rfl (by decide) (by decide) (rX_of h)
  refine k_cVXv (d' := 6) (pc' := 5) (ce := 1) (ke := 6) [mI x1] [] (c_X11_needLetter (d := 6) (Nat.le_refl _) e1) cw_X11_211 kc_10 w_1107 ws_25 dX11_squeezed_2 rfl (by omega) rfl rfl (by decide) sk_0 rfl rfl rfl rfl (by decide) (by decide) ?_
  refine j_iload_n (pc' := 6) dX11_squeezed_5 rfl rfl ?_
  obtain ⟨q1, h⟩ := ck_o h
  refine j_if_lt (tgt := 37) (pc' := 9) dX11_squeezed_6 rfl rfl q1 (fun b1 => ?_) (fun b1 => ?_)
  · replace h := ite_t b1 h
    exact j_wk (j_widen (ce := 1) (ke := 6) (by decide) (by decide) (c_X11_squeezed_j37 hd h)) (trivial)
  · replace h := ite_f b1 h
    refine j_iload_n (pc' := 10) dX11_squeezed_9 rfl rfl ?_
    refine j_iconst (pc' := 11) dX11_squeezed_10 rfl ?_
    refine j_icmp_gt (tgt := 37) (pc' := 14) dX11_squeezed_11 rfl rfl q1 (by decide) (fun b2 => ?_) (fun b2 => ?_)
    · replace h := ite_t b2 h
      exact j_wk (j_widen (ce := 1) (ke := 6) (by decide) (by decide) (c_X11_squeezed_j37 hd h)) (trivial)
    · replace h := ite_f b2 h
      refine j_aload_n (pc' := 15) dX11_squeezed_14 rfl rfl ?_
      refine k_getR (pc' := 18) (sl := 1) (r := 3) kc_10 w_394 (Or.inl rfl) (by decide) dX11_squeezed_15 rfl (by decide) sk_0 (by decide) rfl (by decide) ?_
      refine k_getR (pc' := 21) (sl := 2) (r := 5) kc_6 w_81 (Or.inl rfl) (by decide) dX11_squeezed_18 rfl (by decide) sk_3 (by decide) rfl (by decide) ?_
      refine j_aload_n (pc' := 22) dX11_squeezed_21 rfl rfl ?_
      refine k_getR (pc' := 25) (sl := 1) (r := 3) kc_10 w_394 (Or.inl rfl) (by decide) dX11_squeezed_22 rfl (by decide) sk_0 (by decide) rfl (by decide) ?_
      refine k_getR (pc' := 28) (sl := 6) (r := 8) kc_6 w_96 (Or.inl rfl) (by decide) dX11_squeezed_25 rfl (by decide) sk_3 (by decide) rfl (by decide) ?_
      refine j_iload_n (pc' := 29) dX11_squeezed_28 rfl rfl ?_
      obtain ⟨q2, h⟩ := ck_o h
      refine k_iald (pc' := 30) (z := D1 8 x1) dX11_squeezed_29 rfl (by decide) sk_8 (by decide) q2.1 q2.2 rfl ?_
      obtain ⟨q3, h⟩ := ck_o h
      refine k_iald (pc' := 31) (z := D1 5 (D1 8 x1)) dX11_squeezed_30 rfl (by decide) sk_5 (by decide) q3.1 q3.2 rfl ?_
      refine j_iload_n (pc' := 32) dX11_squeezed_31 rfl rfl ?_
      refine j_isub (pc' := 33) dX11_squeezed_32 rfl ?_
      refine j_iconst (pc' := 34) dX11_squeezed_33 rfl ?_
      obtain ⟨q4, h⟩ := ck_o h
      refine j_icmp_ge (tgt := 48) (pc' := 37) dX11_squeezed_34 rfl rfl q4 (by decide) (fun b3 => ?_) (fun b3 => ?_)
      · replace h := ite_t b3 h
        refine j_aload_n (pc' := 49) dX11_squeezed_48 rfl rfl ?_
        refine k_getR (pc' := 52) (sl := 7) (r := 31) kc_10 w_400 (Or.inl rfl) (by decide) dX11_squeezed_49 rfl (by decide) sk_0 (by decide) rfl (by decide) ?_
        refine j_aload_n (pc' := 53) dX11_squeezed_52 rfl rfl ?_
        refine k_getR (pc' := 56) (sl := 3) (r := 17) kc_10 w_396 (Or.inl rfl) (by decide) dX11_squeezed_53 rfl (by decide) sk_0 (by decide) rfl (by decide) ?_
        obtain ⟨v2, D2, e2, h⟩ := bI_o h
        refine k_cVv (d' := 6) (pc' := 59) [mR 17] [] (c_X1_remember (d := 6) (Nat.le_refl _) work_17 e2) cw_X11_308 kc_1 w_1168 w_1169 dX11_squeezed_56 rfl (by omega) rfl rfl (by decide) sk_31 rfl rfl (by decide) (by decide) ?_
        refine j_aload_n (pc' := 60) dX11_squeezed_59 rfl rfl ?_
        refine k_getR (pc' := 63) (sl := 3) (r := 17) kc_10 w_396 (Or.inl rfl) (by decide) dX11_squeezed_60 rfl (by decide) sk_0 (by decide) rfl (by decide) ?_
        refine k_getR (pc' := 66) (sl := 1) (r := 19) kc_9 w_215 (Or.inl rfl) (by decide) dX11_squeezed_63 rfl (by decide) sk_17 (by decide) rfl (by decide) ?_
        refine j_iload_n (pc' := 67) dX11_squeezed_66 rfl rfl ?_
        refine k_iald (pc' := 68) (z := D2 19 x1) dX11_squeezed_67 rfl (by decide) sk_19 (by decide) q2.1 q2.2 rfl ?_
        refine j_istore_n (pc' := 69) (ls' := [some (mR 0), some (mI x1), some (mI x2), some (mI (D2 19 x1))]) dX11_squeezed_68 rfl (by decide) rfl ?_
        refine j_aload_n (pc' := 70) dX11_squeezed_69 rfl rfl ?_
        refine k_getR (pc' := 73) (sl := 3) (r := 17) kc_10 w_396 (Or.inl rfl) (by decide) dX11_squeezed_70 rfl (by decide) sk_0 (by decide) rfl (by decide) ?_
        refine k_getR (pc' := 76) (sl := 1) (r := 19) kc_9 w_215 (Or.inl rfl) (by decide) dX11_squeezed_73 rfl (by decide) sk_17 (by decide) rfl (by decide) ?_
        refine j_iload_n (pc' := 77) dX11_squeezed_76 rfl rfl ?_
        refine j_iload_n (pc' := 78) dX11_squeezed_77 rfl rfl ?_
        refine k_iast (pc' := 79) dX11_squeezed_78 rfl (by decide) sk_19 (by decide) q2.1 q2.2 ?_
        refine j_iload_n (pc' := 80) dX11_squeezed_79 rfl rfl ?_
        exact j_iret dX11_squeezed_80 rfl (by decide) (by decide) (rIX_of h)
      · replace h := ite_f b3 h
        exact j_wk (j_widen (ce := 1) (ke := 6) (by decide) (by decide) (c_X11_squeezed_j37 hd h)) (trivial)
theorem c_X11_squeezed {d : Nat} (hd : 7 ≤ d) {x1 x2 : Int} {D D' : mD} {v : Int ⊕ Nat} (h : F_X11_squeezed x1 x2 D = some (v, D')) : CM d 2 12 M_X11_squeezed [mR 0, mI x1, mI x2] (SK, D, false) (rO v D') := CM.intro pn_X11 rfl rfl (Nat.le_of_ble_eq_true rfl) (fun _ => c_X11_squeezed_e hd h)
theorem c_X11_shadow_j10 {Ω : mO} {d : Nat} (hd : 7 ≤ d) {r : (Int ⊕ Nat) × mD} {D : mD} (h : F_X11_shadow_j10 D = some r) : J Ω M_X11_shadow d 1 6 (rO r.1 r.2) 10 [none, none, none] [] (SK, D, false) 0 0 := by
  rw [F_X11_shadow_j10] at h
  exact j_throwW (tw_X11_130_134) (si := 46) rfl dX11_shadow_10 dX11_shadow_13 dX11_shadow_14 dX11_shadow_17 dX11_shadow_20 rfl (by omega) rfl (by decide) (by decide) (rX_of h)
theorem c_X11_shadow_e {Ω : mO} {d : Nat} (hd : 7 ≤ d) {r : (Int ⊕ Nat) × mD} {x1 : Int} {D : mD} (h : F_X11_shadow x1 D = some r) : J Ω M_X11_shadow d 1 6 (rO r.1 r.2) 0 [some (mR 0), some (mI x1), none] [] (SK, D, false) 0 0 := by
  rw [F_X11_shadow] at h
  refine j_iload_n (pc' := 1) dX11_shadow_0 rfl rfl ?_
  obtain ⟨q1, h⟩ := ck_o h
  refine j_if_lt (tgt := 10) (pc' := 4) dX11_shadow_1 rfl rfl q1 (fun b1 => ?_) (fun b1 => ?_)
  · replace h := ite_t b1 h
    exact j_wk (j_widen (ce := 0) (ke := 0) (by decide) (by decide) (c_X11_shadow_j10 hd h)) (trivial)
  · replace h := ite_f b1 h
    refine j_iload_n (pc' := 5) dX11_shadow_4 rfl rfl ?_
    refine j_bipush (pc' := 7) dX11_shadow_5 rfl rfl ?_
    refine j_icmp_le (tgt := 21) (pc' := 10) dX11_shadow_7 rfl rfl q1 (by decide) (fun b2 => ?_) (fun b2 => ?_)
    · replace h := ite_t b2 h
      refine j_aload_n (pc' := 22) dX11_shadow_21 rfl rfl ?_
      refine k_getR (pc' := 25) (sl := 7) (r := 31) kc_10 w_400 (Or.inl rfl) (by decide) dX11_shadow_22 rfl (by decide) sk_0 (by decide) rfl (by decide) ?_
      refine j_aload_n (pc' := 26) dX11_shadow_25 rfl rfl ?_
      refine k_getR (pc' := 29) (sl := 3) (r := 17) kc_10 w_396 (Or.inl rfl) (by decide) dX11_shadow_26 rfl (by decide) sk_0 (by decide) rfl (by decide) ?_
      obtain ⟨v1, D1, e1, h⟩ := bI_o h
      refine k_cVv (d' := 6) (pc' := 32) [mR 17] [] (c_X1_remember (d := 6) (Nat.le_refl _) work_17 e1) cw_X11_308 kc_1 w_1168 w_1169 dX11_shadow_29 rfl (by omega) rfl rfl (by decide) sk_31 rfl rfl (by decide) (by decide) ?_
      refine j_aload_n (pc' := 33) dX11_shadow_32 rfl rfl ?_
      refine k_getR (pc' := 36) (sl := 3) (r := 17) kc_10 w_396 (Or.inl rfl) (by decide) dX11_shadow_33 rfl (by decide) sk_0 (by decide) rfl (by decide) ?_
      refine k_getI (pc' := 39) (sl := 5) (z := D1 17 5) kc_9 w_223 (by decide) dX11_shadow_36 rfl (by decide) sk_17 (by decide) rfl rfl ?_
      refine j_istore_n (pc' := 40) (ls' := [some (mR 0), some (mI x1), some (mI (D1 17 5))]) dX11_shadow_39 rfl (by decide) rfl ?_
      refine j_aload_n (pc' := 41) dX11_shadow_40 rfl rfl ?_
      refine k_getR (pc' := 44) (sl := 3) (r := 17) kc_10 w_396 (Or.inl rfl) (by decide) dX11_shadow_41 rfl (by decide) sk_0 (by decide) rfl (by decide) ?_
      refine j_iload_n (pc' := 45) dX11_shadow_44 rfl rfl ?_
      refine k_putI (pc' := 48) (sl := 5) (i' := 5) kc_9 w_223 (by decide) (Or.inl rfl) dX11_shadow_45 rfl (by decide) sk_17 (by decide) ⟨rfl, rfl⟩ rfl ?_
      refine j_aload_n (pc' := 49) dX11_shadow_48 rfl rfl ?_
      refine k_getR (pc' := 52) (sl := 4) (r := 22) kc_10 w_397 (Or.inl rfl) (by decide) dX11_shadow_49 rfl (by decide) sk_0 (by decide) rfl (by decide) ?_
      obtain ⟨v2, D2, e2, h⟩ := bI_o h
      refine k_cVv (d' := 6) (pc' := 55) [] [] (c_X0_forgetWhites (d := 6) (Nat.le_refl _) e2) cw_X11_179 kc_0 w_498 w_499 dX11_shadow_52 rfl (by omega) rfl rfl (by decide) sk_22 rfl rfl (by decide) (by decide) ?_
      refine j_iload_n (pc' := 56) dX11_shadow_55 rfl rfl ?_
      exact j_iret dX11_shadow_56 rfl (by decide) (by decide) (rIX_of h)
    · replace h := ite_f b2 h
      exact j_wk (j_widen (ce := 0) (ke := 0) (by decide) (by decide) (c_X11_shadow_j10 hd h)) (trivial)
theorem c_X11_shadow {d : Nat} (hd : 7 ≤ d) {x1 : Int} {D D' : mD} {v : Int ⊕ Nat} (h : F_X11_shadow x1 D = some (v, D')) : CM d 1 6 M_X11_shadow [mR 0, mI x1] (SK, D, false) (rO v D') := CM.intro pn_X11 rfl rfl (Nat.le_of_ble_eq_true rfl) (fun _ => c_X11_shadow_e hd h)
theorem c_X11_needWhite_j11 {Ω : mO} {d : Nat} (hd : 6 ≤ d) {r : (Int ⊕ Nat) × mD} {D : mD} (h : F_X11_needWhite_j11 D = some r) : J Ω M_X11_needWhite d 1 6 (rOV r.1 r.2) 11 [none, none] [] (SK, D, false) 0 0 := by
  rw [F_X11_needWhite_j11] at h
  exact j_throwW (tw_X11_130_134) (si := 47) rfl dX11_needWhite_11 dX11_needWhite_14 dX11_needWhite_15 dX11_needWhite_18 dX11_needWhite_21 rfl (by omega) rfl (by decide) (by decide) (rXV_of h)
theorem c_X11_needWhite_e {Ω : mO} {d : Nat} (hd : 6 ≤ d) {r : (Int ⊕ Nat) × mD} {x1 : Int} {D : mD} (h : F_X11_needWhite x1 D = some r) : J Ω M_X11_needWhite d 1 6 (rOV r.1 r.2) 0 [some (mR 0), some (mI x1)] [] (SK, D, false) 0 0 := by
  rw [F_X11_needWhite] at h
  refine j_iload_n (pc' := 1) dX11_needWhite_0 rfl rfl ?_
  obtain ⟨q1, h⟩ := ck_o h
  refine j_if_lt (tgt := 11) (pc' := 4) dX11_needWhite_1 rfl rfl q1 (fun b1 => ?_) (fun b1 => ?_)
  · replace h := ite_t b1 h
    exact j_wk (j_widen (ce := 0) (ke := 0) (by decide) (by decide) (c_X11_needWhite_j11 hd h)) (trivial)
  · replace h := ite_f b1 h
    refine j_iload_n (pc' := 5) dX11_needWhite_4 rfl rfl ?_
    refine j_sipush (pc' := 8) dX11_needWhite_5 rfl rfl ?_
    refine j_icmp_le (tgt := 22) (pc' := 11) dX11_needWhite_8 rfl rfl q1 (by decide) (fun b2 => ?_) (fun b2 => ?_)
    · replace h := ite_t b2 h
      exact j_vret dX11_needWhite_22 rfl (by decide) (by decide) (rVX_of h)
    · replace h := ite_f b2 h
      exact j_wk (j_widen (ce := 0) (ke := 0) (by decide) (by decide) (c_X11_needWhite_j11 hd h)) (trivial)
theorem c_X11_needWhite {d : Nat} (hd : 6 ≤ d) {x1 : Int} {D D' : mD} {v : Int ⊕ Nat} (h : F_X11_needWhite x1 D = some (v, D')) : CM d 1 6 M_X11_needWhite [mR 0, mI x1] (SK, D, false) (rOV v D') := CM.intro pn_X11 rfl rfl (Nat.le_of_ble_eq_true rfl) (fun _ => c_X11_needWhite_e hd h)
theorem c_X11_lays_e {Ω : mO} {d : Nat} (hd : 10 ≤ d) {r : (Int ⊕ Nat) × mD} {x1 : Int} {D : mD} (h : F_X11_lays x1 D = some r) : J Ω M_X11_lays d 2 12 (rO r.1 r.2) 0 [some (mR 0), some (mI x1), none] [] (SK, D, false) 0 0 := by
  rw [F_X11_lays] at h
  refine j_aload_n (pc' := 1) dX11_lays_0 rfl rfl ?_
  refine j_iload_n (pc' := 2) dX11_lays_1 rfl rfl ?_
  rcases bX_o h with ⟨v1, D1, e1, h⟩ | ⟨v1, D1, e1, h⟩
  rotate_left
  · exact k_cVXtV (d' := 6) [mI x1] [] (c_X11_needWhite (d := 6) (Nat.le_refl _) e1) cw_X11_316 kc_10 w_1198 ws_30 dX11_lays_2 (by omega) rfl rfl (by decide) sk_0 rfl rfl (by decide) (by decide) (rX_of h)
  refine k_cVXv (d' := 6) (pc' := 5) (ce := 1) (ke := 6) [mI x1] [] (c_X11_needWhite (d := 6) (Nat.le_refl _) e1) cw_X11_316 kc_10 w_1198 ws_30 dX11_lays_2 rfl (by omega) rfl rfl (by decide) sk_0 rfl rfl rfl rfl (by decide) (by decide) ?_
  refine j_aload_n (pc' := 6) dX11_lays_5 rfl rfl ?_
  refine k_getR (pc' := 9) (sl := 5) (r := 26) kc_10 w_398 (Or.inl rfl) (by decide) dX11_lays_6 rfl (by decide) sk_0 (by decide) rfl (by decide) ?_
  refine j_iload_n (pc' := 10) dX11_lays_9 rfl rfl ?_
  refine j_iconst (pc' := 11) dX11_lays_10 rfl ?_
  obtain ⟨v2, D2, e2, h⟩ := bI_o h
  refine k_cV (d' := 9) (pc' := 14) [mI x1, mI 0] [] (c_X4_leastOff (d := 9) (Nat.le_refl _) e2) cw_X11_319 kc_4 w_600 w_601 dX11_lays_11 rfl (by omega) rfl rfl (by decide) sk_26 rfl rfl (by decide) (by decide) ?_
  refine j_istore_n (pc' := 15) (ls' := [some (mR 0), some (mI x1), some (mI v2)]) dX11_lays_14 rfl (by decide) rfl ?_
  refine j_iload_n (pc' := 16) dX11_lays_15 rfl rfl ?_
  refine j_iconst (pc' := 17) dX11_lays_16 rfl ?_
  obtain ⟨q1, h⟩ := ck_o h
  refine j_icmp_ne (tgt := 31) (pc' := 20) dX11_lays_17 rfl rfl q1 (by decide) (fun b1 => ?_) (fun b1 => ?_)
  · replace h := ite_f b1 h
    refine j_aload_n (pc' := 32) dX11_lays_31 rfl rfl ?_
    refine k_getR (pc' := 35) (sl := 7) (r := 31) kc_10 w_400 (Or.inl rfl) (by decide) dX11_lays_32 rfl (by decide) sk_0 (by decide) rfl (by decide) ?_
    refine j_aload_n (pc' := 36) dX11_lays_35 rfl rfl ?_
    refine k_getR (pc' := 39) (sl := 3) (r := 17) kc_10 w_396 (Or.inl rfl) (by decide) dX11_lays_36 rfl (by decide) sk_0 (by decide) rfl (by decide) ?_
    obtain ⟨v3, D3, e3, h⟩ := bI_o h
    refine k_cVv (d' := 6) (pc' := 42) [mR 17] [] (c_X1_remember (d := 6) (Nat.le_refl _) work_17 e3) cw_X11_308 kc_1 w_1168 w_1169 dX11_lays_39 rfl (by omega) rfl rfl (by decide) sk_31 rfl rfl (by decide) (by decide) ?_
    refine j_aload_n (pc' := 43) dX11_lays_42 rfl rfl ?_
    refine k_getR (pc' := 46) (sl := 5) (r := 26) kc_10 w_398 (Or.inl rfl) (by decide) dX11_lays_43 rfl (by decide) sk_0 (by decide) rfl (by decide) ?_
    refine j_aload_n (pc' := 47) dX11_lays_46 rfl rfl ?_
    refine k_getR (pc' := 50) (sl := 3) (r := 17) kc_10 w_396 (Or.inl rfl) (by decide) dX11_lays_47 rfl (by decide) sk_0 (by decide) rfl (by decide) ?_
    refine k_getR (pc' := 53) (sl := 0) (r := 18) kc_9 w_211 (Or.inl rfl) (by decide) dX11_lays_50 rfl (by decide) sk_17 (by decide) rfl (by decide) ?_
    obtain ⟨v4, D4, e4, h⟩ := bI_o h
    refine k_cVv (d' := 9) (pc' := 56) [mR 18] [] (c_X4_putDistances (d := 9) (Nat.le_refl _) arr_18 e4) cw_X11_327 kc_4 w_1218 w_1219 dX11_lays_53 rfl (by omega) rfl rfl (by decide) sk_26 rfl rfl (by decide) (by decide) ?_
    refine j_iload_n (pc' := 57) dX11_lays_56 rfl rfl ?_
    exact j_iret dX11_lays_57 rfl (by decide) (by decide) (rIX_of h)
  · replace h := ite_t b1 h
    exact j_throwW (tw_X11_322_326) (si := 48) rfl dX11_lays_20 dX11_lays_23 dX11_lays_24 dX11_lays_27 dX11_lays_30 rfl (by omega) rfl (by decide) (by decide) (rX_of h)
theorem c_X11_lays {d : Nat} (hd : 10 ≤ d) {x1 : Int} {D D' : mD} {v : Int ⊕ Nat} (h : F_X11_lays x1 D = some (v, D')) : CM d 2 12 M_X11_lays [mR 0, mI x1] (SK, D, false) (rO v D') := CM.intro pn_X11 rfl rfl (Nat.le_of_ble_eq_true rfl) (fun _ => c_X11_lays_e hd h)
theorem c_X11_needWriter_j15 {Ω : mO} {d : Nat} (hd : 6 ≤ d) {r : (Int ⊕ Nat) × mD} {D : mD} (h : F_X11_needWriter_j15 D = some r) : J Ω M_X11_needWriter d 1 6 (rOV r.1 r.2) 15 [none, none] [] (SK, D, false) 0 0 := by
  rw [F_X11_needWriter_j15] at h
  exact j_throwW (tw_X11_437_441) (si := 49) rfl dX11_needWriter_15 dX11_needWriter_18 dX11_needWriter_19 dX11_needWriter_22 dX11_needWriter_25 rfl (by omega) rfl (by decide) (by decide) (rXV_of h)
theorem c_X11_needWriter_e {Ω : mO} {d : Nat} (hd : 6 ≤ d) {r : (Int ⊕ Nat) × mD} {x1 : Int} {D : mD} (h : F_X11_needWriter x1 D = some r) : J Ω M_X11_needWriter d 1 6 (rOV r.1 r.2) 0 [some (mR 0), some (mI x1)] [] (SK, D, false) 0 0 := by
  rw [F_X11_needWriter] at h
  refine j_iload_n (pc' := 1) dX11_needWriter_0 rfl rfl ?_
  obtain ⟨q1, h⟩ := ck_o h
  refine j_if_lt (tgt := 15) (pc' := 4) dX11_needWriter_1 rfl rfl q1 (fun b1 => ?_) (fun b1 => ?_)
  · replace h := ite_t b1 h
    exact j_wk (j_widen (ce := 0) (ke := 0) (by decide) (by decide) (c_X11_needWriter_j15 hd h)) (trivial)
  · replace h := ite_f b1 h
    refine j_iload_n (pc' := 5) dX11_needWriter_4 rfl rfl ?_
    refine j_aload_n (pc' := 6) dX11_needWriter_5 rfl rfl ?_
    refine k_getR (pc' := 9) (sl := 1) (r := 3) kc_10 w_394 (Or.inl rfl) (by decide) dX11_needWriter_6 rfl (by decide) sk_0 (by decide) rfl (by decide) ?_
    refine k_getI (pc' := 12) (sl := 11) (z := D 3 11) kc_6 w_115 (by decide) dX11_needWriter_9 rfl (by decide) sk_3 (by decide) rfl rfl ?_
    obtain ⟨q2, h⟩ := ck_o h
    refine j_icmp_lt (tgt := 26) (pc' := 15) dX11_needWriter_12 rfl rfl q1 q2 (fun b2 => ?_) (fun b2 => ?_)
    · replace h := ite_t b2 h
      exact j_vret dX11_needWriter_26 rfl (by decide) (by decide) (rVX_of h)
    · replace h := ite_f b2 h
      exact j_wk (j_widen (ce := 0) (ke := 0) (by decide) (by decide) (c_X11_needWriter_j15 hd h)) (trivial)
theorem c_X11_needWriter {d : Nat} (hd : 6 ≤ d) {x1 : Int} {D D' : mD} {v : Int ⊕ Nat} (h : F_X11_needWriter x1 D = some (v, D')) : CM d 1 6 M_X11_needWriter [mR 0, mI x1] (SK, D, false) (rOV v D') := CM.intro pn_X11 rfl rfl (Nat.le_of_ble_eq_true rfl) (fun _ => c_X11_needWriter_e hd h)
theorem c_X11_paint_e {Ω : mO} {d : Nat} (hd : 8 ≤ d) {r : (Int ⊕ Nat) × mD} {x1 : Int} {D : mD} (h : F_X11_paint x1 D = some r) : J Ω M_X11_paint d 1 6 (rO r.1 r.2) 0 [some (mR 0), some (mI x1)] [] (SK, D, false) 0 0 := by
  rw [F_X11_paint] at h
  refine j_aload_n (pc' := 1) dX11_paint_0 rfl rfl ?_
  refine j_iload_n (pc' := 2) dX11_paint_1 rfl rfl ?_
  rcases bX_o h with ⟨v1, D1, e1, h⟩ | ⟨v1, D1, e1, h⟩
  rotate_left
  · exact k_cVXtV (d' := 6) [mI x1] [] (c_X11_needWriter (d := 6) (Nat.le_refl _) e1) cw_X11_331 kc_10 w_1234 ws_32 dX11_paint_2 (by omega) rfl rfl (by decide) sk_0 rfl rfl (by decide) (by decide) (rX_of h)
  refine k_cVXv (d' := 6) (pc' := 5) (ce := 1) (ke := 6) [mI x1] [] (c_X11_needWriter (d := 6) (Nat.le_refl _) e1) cw_X11_331 kc_10 w_1234 ws_32 dX11_paint_2 rfl (by omega) rfl rfl (by decide) sk_0 rfl rfl rfl rfl (by decide) (by decide) ?_
  refine j_aload_n (pc' := 6) dX11_paint_5 rfl rfl ?_
  refine k_getR (pc' := 9) (sl := 7) (r := 31) kc_10 w_400 (Or.inl rfl) (by decide) dX11_paint_6 rfl (by decide) sk_0 (by decide) rfl (by decide) ?_
  refine j_aload_n (pc' := 10) dX11_paint_9 rfl rfl ?_
  refine k_getR (pc' := 13) (sl := 3) (r := 17) kc_10 w_396 (Or.inl rfl) (by decide) dX11_paint_10 rfl (by decide) sk_0 (by decide) rfl (by decide) ?_
  obtain ⟨v2, D2, e2, h⟩ := bI_o h
  refine k_cVv (d' := 6) (pc' := 16) [mR 17] [] (c_X1_remember (d := 6) (Nat.le_refl _) work_17 e2) cw_X11_308 kc_1 w_1168 w_1169 dX11_paint_13 rfl (by omega) rfl rfl (by decide) sk_31 rfl rfl (by decide) (by decide) ?_
  refine j_aload_n (pc' := 17) dX11_paint_16 rfl rfl ?_
  refine k_getR (pc' := 20) (sl := 3) (r := 17) kc_10 w_396 (Or.inl rfl) (by decide) dX11_paint_17 rfl (by decide) sk_0 (by decide) rfl (by decide) ?_
  refine j_iload_n (pc' := 21) dX11_paint_20 rfl rfl ?_
  refine j_aload_n (pc' := 22) dX11_paint_21 rfl rfl ?_
  refine k_getR (pc' := 25) (sl := 1) (r := 3) kc_10 w_394 (Or.inl rfl) (by decide) dX11_paint_22 rfl (by decide) sk_0 (by decide) rfl (by decide) ?_
  refine k_getR (pc' := 28) (sl := 13) (r := 10) kc_6 w_121 (Or.inl rfl) (by decide) dX11_paint_25 rfl (by decide) sk_3 (by decide) rfl (by decide) ?_
  refine j_iload_n (pc' := 29) dX11_paint_28 rfl rfl ?_
  obtain ⟨q1, h⟩ := ck_o h
  refine k_iald (pc' := 30) (z := D2 10 x1) dX11_paint_29 rfl (by decide) sk_10 (by decide) q1.1 q1.2 rfl ?_
  refine j_aload_n (pc' := 31) dX11_paint_30 rfl rfl ?_
  refine k_getR (pc' := 34) (sl := 1) (r := 3) kc_10 w_394 (Or.inl rfl) (by decide) dX11_paint_31 rfl (by decide) sk_0 (by decide) rfl (by decide) ?_
  refine k_getI (pc' := 37) (sl := 5) (z := D2 3 5) kc_6 w_91 (by decide) dX11_paint_34 rfl (by decide) sk_3 (by decide) rfl rfl ?_
  obtain ⟨v3, D3, e3, h⟩ := bI_o h
  refine k_cV (d' := 7) (pc' := 40) [mI x1, mI (D2 10 x1), mI (D2 3 5)] [] (c_X10_paintDay (d := 7) (Nat.le_refl _) work_17 e3) cw_X11_337 kc_9 w_1238 w_1239 dX11_paint_37 rfl (by omega) rfl rfl (by decide) sk_17 rfl rfl (by decide) (by decide) ?_
  exact j_iret dX11_paint_40 rfl (by decide) (by decide) (rIX_of h)
theorem c_X11_paint {d : Nat} (hd : 8 ≤ d) {x1 : Int} {D D' : mD} {v : Int ⊕ Nat} (h : F_X11_paint x1 D = some (v, D')) : CM d 1 6 M_X11_paint [mR 0, mI x1] (SK, D, false) (rO v D') := CM.intro pn_X11 rfl rfl (Nat.le_of_ble_eq_true rfl) (fun _ => c_X11_paint_e hd h)
theorem c_X11_seed_e {Ω : mO} {d : Nat} (hd : 1 ≤ d) {r : Int × mD} {x1 : Int} {D : mD} (h : F_X11_seed x1 D = some r) : J Ω M_X11_seed d 0 0 (rI r.1 r.2) 0 [some (mR 0), some (mI x1), none] [] (SK, D, false) 0 0 := by
  rw [F_X11_seed] at h
  refine j_aload_n (pc' := 1) dX11_seed_0 rfl rfl ?_
  refine k_getR (pc' := 4) (sl := 3) (r := 17) kc_10 w_396 (Or.inl rfl) (by decide) dX11_seed_1 rfl (by decide) sk_0 (by decide) rfl (by decide) ?_
  refine k_getI (pc' := 7) (sl := 6) (z := D 17 6) kc_9 w_225 (by decide) dX11_seed_4 rfl (by decide) sk_17 (by decide) rfl rfl ?_
  refine j_istore_n (pc' := 8) (ls' := [some (mR 0), some (mI x1), some (mI (D 17 6))]) dX11_seed_7 rfl (by decide) rfl ?_
  refine j_aload_n (pc' := 9) dX11_seed_8 rfl rfl ?_
  refine k_getR (pc' := 12) (sl := 3) (r := 17) kc_10 w_396 (Or.inl rfl) (by decide) dX11_seed_9 rfl (by decide) sk_0 (by decide) rfl (by decide) ?_
  refine j_iload_n (pc' := 13) dX11_seed_12 rfl rfl ?_
  refine k_putI (pc' := 16) (sl := 6) (i' := 6) kc_9 w_225 (by decide) (Or.inl rfl) dX11_seed_13 rfl (by decide) sk_17 (by decide) ⟨rfl, rfl⟩ rfl ?_
  refine j_iload_n (pc' := 17) dX11_seed_16 rfl rfl ?_
  exact j_iret dX11_seed_17 rfl (by decide) (by decide) (rI_of h)
theorem c_X11_seed {d : Nat} (hd : 1 ≤ d) {x1 : Int} {D D' : mD} {v : Int} (h : F_X11_seed x1 D = some (v, D')) : CM d 0 0 M_X11_seed [mR 0, mI x1] (SK, D, false) (rI v D') := CM.intro pn_X11 rfl rfl (Nat.le_of_ble_eq_true rfl) (fun _ => c_X11_seed_e hd h)
theorem c_X11_undo_e {Ω : mO} {d : Nat} (hd : 7 ≤ d) {r : Int × mD} {D : mD} (h : F_X11_undo D = some r) : J Ω M_X11_undo d 0 0 (rI r.1 r.2) 0 [some (mR 0)] [] (SK, D, false) 0 0 := by
  rw [F_X11_undo] at h
  refine j_aload_n (pc' := 1) dX11_undo_0 rfl rfl ?_
  refine k_getR (pc' := 4) (sl := 7) (r := 31) kc_10 w_400 (Or.inl rfl) (by decide) dX11_undo_1 rfl (by decide) sk_0 (by decide) rfl (by decide) ?_
  refine j_aload_n (pc' := 5) dX11_undo_4 rfl rfl ?_
  refine k_getR (pc' := 8) (sl := 3) (r := 17) kc_10 w_396 (Or.inl rfl) (by decide) dX11_undo_5 rfl (by decide) sk_0 (by decide) rfl (by decide) ?_
  obtain ⟨v1, D1, e1, h⟩ := bI_o h
  refine k_cV (d' := 2) (pc' := 11) [mR 17] [] (c_X1_recall (d := 2) (Nat.le_refl _) work_17 e1) cw_X11_343 kc_1 w_487 w_488 dX11_undo_8 rfl (by omega) rfl rfl (by decide) sk_31 rfl rfl (by decide) (by decide) ?_
  obtain ⟨q1, h⟩ := ck_o h
  refine j_if_ne (tgt := 16) (pc' := 14) dX11_undo_11 rfl rfl q1 (fun b1 => ?_) (fun b1 => ?_)
  · replace h := ite_f b1 h
    refine j_aload_n (pc' := 17) dX11_undo_16 rfl rfl ?_
    refine k_getR (pc' := 20) (sl := 4) (r := 22) kc_10 w_397 (Or.inl rfl) (by decide) dX11_undo_17 rfl (by decide) sk_0 (by decide) rfl (by decide) ?_
    obtain ⟨v2, D2, e2, h⟩ := bI_o h
    refine k_cVv (d' := 6) (pc' := 23) [] [] (c_X0_forgetWhites (d := 6) (Nat.le_refl _) e2) cw_X11_179 kc_0 w_498 w_499 dX11_undo_20 rfl (by omega) rfl rfl (by decide) sk_22 rfl rfl (by decide) (by decide) ?_
    refine j_iconst (pc' := 24) dX11_undo_23 rfl ?_
    exact j_zret dX11_undo_24 rfl (Or.inr rfl) (by decide) (by decide) (rI_of h)
  · replace h := ite_t b1 h
    refine j_iconst (pc' := 15) dX11_undo_14 rfl ?_
    exact j_zret dX11_undo_15 rfl (Or.inl rfl) (by decide) (by decide) (rI_of h)
theorem c_X11_undo {d : Nat} (hd : 7 ≤ d) {D D' : mD} {v : Int} (h : F_X11_undo D = some (v, D')) : CM d 0 0 M_X11_undo [mR 0] (SK, D, false) (rI v D') := CM.intro pn_X11 rfl rfl (Nat.le_of_ble_eq_true rfl) (fun _ => c_X11_undo_e hd h)
theorem c_X11_image_e {Ω : mO} {d : Nat} (hd : 2 ≤ d) {r : Int × mD} {D : mD} (h : F_X11_image D = some r) : J Ω M_X11_image d 0 0 (rV r.2) 0 [some (mR 0)] [] (SK, D, false) 0 0 := by
  rw [F_X11_image] at h
  refine j_aload_n (pc' := 1) dX11_image_0 rfl rfl ?_
  refine k_getR (pc' := 4) (sl := 11) (r := 114) kc_10 w_404 (Or.inl rfl) (by decide) dX11_image_1 rfl (by decide) sk_0 (by decide) rfl (by decide) ?_
  refine j_aload_n (pc' := 5) dX11_image_4 rfl rfl ?_
  refine k_getR (pc' := 8) (sl := 1) (r := 3) kc_10 w_394 (Or.inl rfl) (by decide) dX11_image_5 rfl (by decide) sk_0 (by decide) rfl (by decide) ?_
  obtain ⟨v1, D1, e1, h⟩ := bI_o h
  refine k_cVv (d' := 1) (pc' := 11) [mR 3] [] (c_X6_copyFrom (d := 1) (Nat.le_refl _) shop_114 shop_3 e1) cw_X11_148 kc_6 w_506 w_507 dX11_image_8 rfl (by omega) rfl rfl (by decide) sk_114 rfl rfl (by decide) (by decide) ?_
  refine j_aload_n (pc' := 12) dX11_image_11 rfl rfl ?_
  refine k_getR (pc' := 15) (sl := 12) (r := 123) kc_10 w_405 (Or.inl rfl) (by decide) dX11_image_12 rfl (by decide) sk_0 (by decide) rfl (by decide) ?_
  refine j_aload_n (pc' := 16) dX11_image_15 rfl rfl ?_
  refine k_getR (pc' := 19) (sl := 2) (r := 12) kc_10 w_395 (Or.inl rfl) (by decide) dX11_image_16 rfl (by decide) sk_0 (by decide) rfl (by decide) ?_
  obtain ⟨v2, D2, e2, h⟩ := bI_o h
  refine k_cVv (d' := 1) (pc' := 22) [mR 12] [] (c_X2_copyFrom (d := 1) (Nat.le_refl _) law_123 law_12 e2) cw_X11_168 kc_2 w_511 w_512 dX11_image_19 rfl (by omega) rfl rfl (by decide) sk_123 rfl rfl (by decide) (by decide) ?_
  refine j_aload_n (pc' := 23) dX11_image_22 rfl rfl ?_
  refine k_getR (pc' := 26) (sl := 13) (r := 128) kc_10 w_406 (Or.inl rfl) (by decide) dX11_image_23 rfl (by decide) sk_0 (by decide) rfl (by decide) ?_
  refine j_aload_n (pc' := 27) dX11_image_26 rfl rfl ?_
  refine k_getR (pc' := 30) (sl := 3) (r := 17) kc_10 w_396 (Or.inl rfl) (by decide) dX11_image_27 rfl (by decide) sk_0 (by decide) rfl (by decide) ?_
  obtain ⟨v3, D3, e3, h⟩ := bI_o h
  refine k_cVv (d' := 1) (pc' := 33) [mR 17] [] (c_X10_copyFrom (d := 1) (Nat.le_refl _) work_128 work_17 e3) cw_X11_347 kc_9 w_491 w_492 dX11_image_30 rfl (by omega) rfl rfl (by decide) sk_128 rfl rfl (by decide) (by decide) ?_
  refine j_aload_n (pc' := 34) dX11_image_33 rfl rfl ?_
  refine j_iconst (pc' := 35) dX11_image_34 rfl ?_
  refine k_putI (pc' := 38) (sl := 14) (i' := 14) kc_10 w_407 (by decide) (Or.inr ⟨rfl, Or.inr rfl⟩) dX11_image_35 rfl (by decide) sk_0 (by decide) ⟨rfl, rfl⟩ rfl ?_
  exact j_vret dX11_image_38 rfl (by decide) (by decide) (rV_of h)
theorem c_X11_image {d : Nat} (hd : 2 ≤ d) {D D' : mD} {v : Int} (h : F_X11_image D = some (v, D')) : CM d 0 0 M_X11_image [mR 0] (SK, D, false) (rV D') := CM.intro pn_X11 rfl rfl (Nat.le_of_ble_eq_true rfl) (fun _ => c_X11_image_e hd h)
theorem c_X11_back_e {Ω : mO} {d : Nat} (hd : 8 ≤ d) {r : Int × mD} {D : mD} (h : F_X11_back D = some r) : J Ω M_X11_back d 0 0 (rI r.1 r.2) 0 [some (mR 0)] [] (SK, D, false) 0 0 := by
  rw [F_X11_back] at h
  refine j_aload_n (pc' := 1) dX11_back_0 rfl rfl ?_
  refine k_getI (pc' := 4) (sl := 14) (z := D 0 14) kc_10 w_407 (by decide) dX11_back_1 rfl (by decide) sk_0 (by decide) rfl rfl ?_
  obtain ⟨q1, h⟩ := ck_o h
  refine j_if_ne (tgt := 9) (pc' := 7) dX11_back_4 rfl rfl q1 (fun b1 => ?_) (fun b1 => ?_)
  · replace h := ite_f b1 h
    refine j_aload_n (pc' := 10) dX11_back_9 rfl rfl ?_
    refine k_getR (pc' := 13) (sl := 1) (r := 3) kc_10 w_394 (Or.inl rfl) (by decide) dX11_back_10 rfl (by decide) sk_0 (by decide) rfl (by decide) ?_
    refine j_aload_n (pc' := 14) dX11_back_13 rfl rfl ?_
    refine k_getR (pc' := 17) (sl := 11) (r := 114) kc_10 w_404 (Or.inl rfl) (by decide) dX11_back_14 rfl (by decide) sk_0 (by decide) rfl (by decide) ?_
    obtain ⟨v1, D1, e1, h⟩ := bI_o h
    refine k_cVv (d' := 1) (pc' := 20) [mR 114] [] (c_X6_copyFrom (d := 1) (Nat.le_refl _) shop_3 shop_114 e1) cw_X11_148 kc_6 w_506 w_507 dX11_back_17 rfl (by omega) rfl rfl (by decide) sk_3 rfl rfl (by decide) (by decide) ?_
    refine j_aload_n (pc' := 21) dX11_back_20 rfl rfl ?_
    refine k_getR (pc' := 24) (sl := 2) (r := 12) kc_10 w_395 (Or.inl rfl) (by decide) dX11_back_21 rfl (by decide) sk_0 (by decide) rfl (by decide) ?_
    refine j_aload_n (pc' := 25) dX11_back_24 rfl rfl ?_
    refine k_getR (pc' := 28) (sl := 12) (r := 123) kc_10 w_405 (Or.inl rfl) (by decide) dX11_back_25 rfl (by decide) sk_0 (by decide) rfl (by decide) ?_
    obtain ⟨v2, D2, e2, h⟩ := bI_o h
    refine k_cVv (d' := 1) (pc' := 31) [mR 123] [] (c_X2_copyFrom (d := 1) (Nat.le_refl _) law_12 law_123 e2) cw_X11_168 kc_2 w_511 w_512 dX11_back_28 rfl (by omega) rfl rfl (by decide) sk_12 rfl rfl (by decide) (by decide) ?_
    refine j_aload_n (pc' := 32) dX11_back_31 rfl rfl ?_
    refine k_getR (pc' := 35) (sl := 3) (r := 17) kc_10 w_396 (Or.inl rfl) (by decide) dX11_back_32 rfl (by decide) sk_0 (by decide) rfl (by decide) ?_
    refine j_aload_n (pc' := 36) dX11_back_35 rfl rfl ?_
    refine k_getR (pc' := 39) (sl := 13) (r := 128) kc_10 w_406 (Or.inl rfl) (by decide) dX11_back_36 rfl (by decide) sk_0 (by decide) rfl (by decide) ?_
    obtain ⟨v3, D3, e3, h⟩ := bI_o h
    refine k_cVv (d' := 1) (pc' := 42) [mR 128] [] (c_X10_copyFrom (d := 1) (Nat.le_refl _) work_17 work_128 e3) cw_X11_347 kc_9 w_491 w_492 dX11_back_39 rfl (by omega) rfl rfl (by decide) sk_17 rfl rfl (by decide) (by decide) ?_
    refine j_aload_n (pc' := 43) dX11_back_42 rfl rfl ?_
    obtain ⟨v4, D4, e4, h⟩ := bI_o h
    refine k_cVv (d' := 7) (pc' := 46) [] [] (c_X11_forgetActs (d := 7) (Nat.le_refl _) e4) cw_X11_157 kc_10 w_522 ws_0 dX11_back_43 rfl (by omega) rfl rfl (by decide) sk_0 rfl rfl (by decide) (by decide) ?_
    refine j_iconst (pc' := 47) dX11_back_46 rfl ?_
    exact j_zret dX11_back_47 rfl (Or.inr rfl) (by decide) (by decide) (rI_of h)
  · replace h := ite_t b1 h
    refine j_iconst (pc' := 8) dX11_back_7 rfl ?_
    exact j_zret dX11_back_8 rfl (Or.inl rfl) (by decide) (by decide) (rI_of h)
theorem c_X11_back {d : Nat} (hd : 8 ≤ d) {D D' : mD} {v : Int} (h : F_X11_back D = some (v, D')) : CM d 0 0 M_X11_back [mR 0] (SK, D, false) (rI v D') := CM.intro pn_X11 rfl rfl (Nat.le_of_ble_eq_true rfl) (fun _ => c_X11_back_e hd h)
theorem c_X11_uneven_e {Ω : mO} {d : Nat} (hd : 9 ≤ d) {r : Int × mD} {D : mD} (h : F_X11_uneven D = some r) : J Ω M_X11_uneven d 0 0 (rI r.1 r.2) 0 [some (mR 0)] [] (SK, D, false) 0 0 := by
  rw [F_X11_uneven] at h
  refine j_aload_n (pc' := 1) dX11_uneven_0 rfl rfl ?_
  refine k_getR (pc' := 4) (sl := 4) (r := 22) kc_10 w_397 (Or.inl rfl) (by decide) dX11_uneven_1 rfl (by decide) sk_0 (by decide) rfl (by decide) ?_
  refine j_aload_n (pc' := 5) dX11_uneven_4 rfl rfl ?_
  refine k_getR (pc' := 8) (sl := 3) (r := 17) kc_10 w_396 (Or.inl rfl) (by decide) dX11_uneven_5 rfl (by decide) sk_0 (by decide) rfl (by decide) ?_
  refine k_getR (pc' := 11) (sl := 0) (r := 18) kc_9 w_211 (Or.inl rfl) (by decide) dX11_uneven_8 rfl (by decide) sk_17 (by decide) rfl (by decide) ?_
  refine j_iconst (pc' := 12) dX11_uneven_11 rfl ?_
  obtain ⟨v1, D1, e1, h⟩ := bI_o h
  refine k_cV (d' := 8) (pc' := 15) [mR 18, mI 0] [] (c_X0_unevenBy (d := 8) (Nat.le_refl _) arr_18 e1) cw_X11_349 kc_0 w_533 w_534 dX11_uneven_12 rfl (by omega) rfl rfl (by decide) sk_22 rfl rfl (by decide) (by decide) ?_
  exact j_iret dX11_uneven_15 rfl (by decide) (by decide) (rI_of h)
theorem c_X11_uneven {d : Nat} (hd : 9 ≤ d) {D D' : mD} {v : Int} (h : F_X11_uneven D = some (v, D')) : CM d 0 0 M_X11_uneven [mR 0] (SK, D, false) (rI v D') := CM.intro pn_X11 rfl rfl (Nat.le_of_ble_eq_true rfl) (fun _ => c_X11_uneven_e hd h)
theorem c_X11_off_L9 {Ω : mO} {d : Nat} (hd : 8 ≤ d) {r : (Int ⊕ Nat) × mD} {x1 : Int} : ∀ (n : Nat) {x2 x3 : Int} {D : mD}, F_X11_off_L9 x1 n x2 x3 D = some r → J Ω M_X11_off d 1 6 (rO r.1 r.2) 9 [some (mR 0), some (mI x1), some (mI x2), some (mI x3)] [] (SK, D, false) 1 6 := by
  intro n
  induction n with
  | zero => intro x2 x3 D h; exact absurd (show (none : Option ((Int ⊕ Nat) × mD)) = some r from h) nofun
  | succ n ih =>
    intro x2 x3 D h
    rw [F_X11_off_L9] at h
    refine j_iload_n (pc' := 10) dX11_off_9 rfl rfl ?_
    refine j_aload_n (pc' := 11) dX11_off_10 rfl rfl ?_
    refine k_getR (pc' := 14) (sl := 1) (r := 3) kc_10 w_394 (Or.inl rfl) (by decide) dX11_off_11 rfl (by decide) sk_0 (by decide) rfl (by decide) ?_
    obtain ⟨v1, D1, e1, h⟩ := bI_o h
    refine k_cV (d' := 1) (pc' := 17) [] [mI x3] (c_X6_gapCount (d := 1) (Nat.le_refl _) shop_3 e1) cw_X11_353 kc_6 w_537 w_538 dX11_off_14 rfl (by omega) rfl rfl (by decide) sk_3 rfl rfl (by decide) (by decide) ?_
    obtain ⟨q1, h⟩ := ck_o h
    obtain ⟨q2, h⟩ := ck_o h
    refine j_icmp_ge (tgt := 51) (pc' := 20) dX11_off_17 rfl rfl q1 q2 (fun b1 => ?_) (fun b1 => ?_)
    · replace h := ite_t b1 h
      refine j_iload_n (pc' := 52) dX11_off_51 rfl rfl ?_
      exact j_iret dX11_off_52 rfl (by decide) (by decide) (rIX_of h)
    · replace h := ite_f b1 h
      refine j_iload_n (pc' := 21) dX11_off_20 rfl rfl ?_
      refine j_aload_n (pc' := 22) dX11_off_21 rfl rfl ?_
      refine k_getR (pc' := 25) (sl := 4) (r := 22) kc_10 w_397 (Or.inl rfl) (by decide) dX11_off_22 rfl (by decide) sk_0 (by decide) rfl (by decide) ?_
      refine j_iload_n (pc' := 26) dX11_off_25 rfl rfl ?_
      refine j_aload_n (pc' := 27) dX11_off_26 rfl rfl ?_
      refine k_getR (pc' := 30) (sl := 3) (r := 17) kc_10 w_396 (Or.inl rfl) (by decide) dX11_off_27 rfl (by decide) sk_0 (by decide) rfl (by decide) ?_
      refine k_getR (pc' := 33) (sl := 0) (r := 18) kc_9 w_211 (Or.inl rfl) (by decide) dX11_off_30 rfl (by decide) sk_17 (by decide) rfl (by decide) ?_
      refine j_iload_n (pc' := 34) dX11_off_33 rfl rfl ?_
      obtain ⟨q3, h⟩ := ck_o h
      refine k_iald (pc' := 35) (z := D1 18 x3) dX11_off_34 rfl (by decide) sk_18 (by decide) q3.1 q3.2 rfl ?_
      obtain ⟨v2, D2, e2, h⟩ := bI_o h
      refine k_cV (d' := 7) (pc' := 38) [mI x3, mI (D1 18 x3)] [mI x2] (c_X0_whiteOf (d := 7) (Nat.le_refl _) e2) cw_X11_237 kc_0 w_544 w_545 dX11_off_35 rfl (by omega) rfl rfl (by decide) sk_22 rfl rfl (by decide) (by decide) ?_
      refine j_iload_n (pc' := 39) dX11_off_38 rfl rfl ?_
      refine j_isub (pc' := 40) dX11_off_39 rfl ?_
      obtain ⟨q4, h⟩ := ck_o h
      refine k_abs (pc' := 43) cw_X11_356 w_614 dX11_off_40 rfl (by omega) q4 rfl (by decide) (by decide) ?_
      refine j_iadd (pc' := 44) dX11_off_43 rfl ?_
      refine j_istore_n (pc' := 45) (ls' := [some (mR 0), some (mI x1), some (mI (x2 + (Int.natAbs (v2 - x1) : Int))), some (mI x3)]) dX11_off_44 rfl (by decide) rfl ?_
      refine j_iinc (pc' := 48) (z' := (x3 + 1)) (ls' := [some (mR 0), some (mI x1), some (mI (x2 + (Int.natAbs (v2 - x1) : Int))), some (mI (x3 + 1))]) dX11_off_45 rfl rfl rfl (by decide) rfl ?_
      refine j_goto (tgt := 9) dX11_off_48 rfl ?_
      exact j_wk (j_widen (ce := 1) (ke := 6) (by decide) (by decide) (ih h)) (And.intro rfl (And.intro rfl (And.intro rfl (And.intro rfl trivial))))
theorem c_X11_off_e {Ω : mO} {d : Nat} (hd : 8 ≤ d) {r : (Int ⊕ Nat) × mD} {x1 : Int} {D : mD} (h : F_X11_off x1 D = some r) : J Ω M_X11_off d 1 6 (rO r.1 r.2) 0 [some (mR 0), some (mI x1), none, none] [] (SK, D, false) 0 0 := by
  rw [F_X11_off] at h
  refine j_aload_n (pc' := 1) dX11_off_0 rfl rfl ?_
  refine j_iload_n (pc' := 2) dX11_off_1 rfl rfl ?_
  rcases bX_o h with ⟨v1, D1, e1, h⟩ | ⟨v1, D1, e1, h⟩
  rotate_left
  · exact k_cVXtV (d' := 6) [mI x1] [] (c_X11_needWhite (d := 6) (Nat.le_refl _) e1) cw_X11_316 kc_10 w_1198 ws_30 dX11_off_2 (by omega) rfl rfl (by decide) sk_0 rfl rfl (by decide) (by decide) (rX_of h)
  refine k_cVXv (d' := 6) (pc' := 5) (ce := 1) (ke := 6) [mI x1] [] (c_X11_needWhite (d := 6) (Nat.le_refl _) e1) cw_X11_316 kc_10 w_1198 ws_30 dX11_off_2 rfl (by omega) rfl rfl (by decide) sk_0 rfl rfl rfl rfl (by decide) (by decide) ?_
  refine j_iconst (pc' := 6) dX11_off_5 rfl ?_
  refine j_istore_n (pc' := 7) (ls' := [some (mR 0), some (mI x1), some (mI 0), none]) dX11_off_6 rfl (by decide) rfl ?_
  refine j_iconst (pc' := 8) dX11_off_7 rfl ?_
  refine j_istore_n (pc' := 9) (ls' := [some (mR 0), some (mI x1), some (mI 0), some (mI 0)]) dX11_off_8 rfl (by decide) rfl ?_
  exact j_wk (j_widen (ce := 1) (ke := 6) (by decide) (by decide) (c_X11_off_L9 hd _ h)) (And.intro rfl (And.intro rfl (And.intro rfl (And.intro rfl trivial))))
theorem c_X11_off {d : Nat} (hd : 8 ≤ d) {x1 : Int} {D D' : mD} {v : Int ⊕ Nat} (h : F_X11_off x1 D = some (v, D')) : CM d 1 6 M_X11_off [mR 0, mI x1] (SK, D, false) (rO v D') := CM.intro pn_X11 rfl rfl (Nat.le_of_ble_eq_true rfl) (fun _ => c_X11_off_e hd h)
theorem c_X11_fits_e {Ω : mO} {d : Nat} (hd : 5 ≤ d) {r : Int × mD} {D : mD} (h : F_X11_fits D = some r) : J Ω M_X11_fits d 0 0 (rI r.1 r.2) 0 [some (mR 0)] [] (SK, D, false) 0 0 := by
  rw [F_X11_fits] at h
  refine j_aload_n (pc' := 1) dX11_fits_0 rfl rfl ?_
  refine k_getR (pc' := 4) (sl := 4) (r := 22) kc_10 w_397 (Or.inl rfl) (by decide) dX11_fits_1 rfl (by decide) sk_0 (by decide) rfl (by decide) ?_
  refine j_aload_n (pc' := 5) dX11_fits_4 rfl rfl ?_
  refine k_getR (pc' := 8) (sl := 3) (r := 17) kc_10 w_396 (Or.inl rfl) (by decide) dX11_fits_5 rfl (by decide) sk_0 (by decide) rfl (by decide) ?_
  refine k_getI (pc' := 11) (sl := 5) (z := D 17 5) kc_9 w_223 (by decide) dX11_fits_8 rfl (by decide) sk_17 (by decide) rfl rfl ?_
  obtain ⟨v1, D1, e1, h⟩ := bI_o h
  refine k_cV (d' := 4) (pc' := 14) [mI (D 17 5)] [] (c_X0_fitsWith (d := 4) (Nat.le_refl _) e1) cw_X11_361 kc_0 w_591 w_592 dX11_fits_11 rfl (by omega) rfl rfl (by decide) sk_22 rfl rfl (by decide) (by decide) ?_
  obtain ⟨q1, h⟩ := ck_o h
  exact j_zret dX11_fits_14 rfl q1 (by decide) (by decide) (rI_of h)
theorem c_X11_fits {d : Nat} (hd : 5 ≤ d) {D D' : mD} {v : Int} (h : F_X11_fits D = some (v, D')) : CM d 0 0 M_X11_fits [mR 0] (SK, D, false) (rI v D') := CM.intro pn_X11 rfl rfl (Nat.le_of_ble_eq_true rfl) (fun _ => c_X11_fits_e hd h)
theorem c_X11_laid_e {Ω : mO} {d : Nat} (hd : 10 ≤ d) {r : (Int ⊕ Nat) × mD} {x1 x2 : Int} {D : mD} (h : F_X11_laid x1 x2 D = some r) : J Ω M_X11_laid d 1 6 (rO r.1 r.2) 0 [some (mR 0), some (mI x1), some (mI x2), none] [] (SK, D, false) 0 0 := by
  rw [F_X11_laid] at h
  refine j_aload_n (pc' := 1) dX11_laid_0 rfl rfl ?_
  refine j_iload_n (pc' := 2) dX11_laid_1 rfl rfl ?_
  rcases bX_o h with ⟨v1, D1, e1, h⟩ | ⟨v1, D1, e1, h⟩
  rotate_left
  · exact k_cVXtV (d' := 6) [mI x1] [] (c_X11_needWhite (d := 6) (Nat.le_refl _) e1) cw_X11_316 kc_10 w_1198 ws_30 dX11_laid_2 (by omega) rfl rfl (by decide) sk_0 rfl rfl (by decide) (by decide) (rX_of h)
  refine k_cVXv (d' := 6) (pc' := 5) (ce := 1) (ke := 6) [mI x1] [] (c_X11_needWhite (d := 6) (Nat.le_refl _) e1) cw_X11_316 kc_10 w_1198 ws_30 dX11_laid_2 rfl (by omega) rfl rfl (by decide) sk_0 rfl rfl rfl rfl (by decide) (by decide) ?_
  refine j_aload_n (pc' := 6) dX11_laid_5 rfl rfl ?_
  refine k_getR (pc' := 9) (sl := 5) (r := 26) kc_10 w_398 (Or.inl rfl) (by decide) dX11_laid_6 rfl (by decide) sk_0 (by decide) rfl (by decide) ?_
  refine j_iload_n (pc' := 10) dX11_laid_9 rfl rfl ?_
  refine j_iconst (pc' := 11) dX11_laid_10 rfl ?_
  obtain ⟨v2, D2, e2, h⟩ := bI_o h
  refine k_cV (d' := 9) (pc' := 14) [mI x1, mI 0] [] (c_X4_leastOff (d := 9) (Nat.le_refl _) e2) cw_X11_319 kc_4 w_600 w_601 dX11_laid_11 rfl (by omega) rfl rfl (by decide) sk_26 rfl rfl (by decide) (by decide) ?_
  refine j_istore_n (pc' := 15) (ls' := [some (mR 0), some (mI x1), some (mI x2), some (mI v2)]) dX11_laid_14 rfl (by decide) rfl ?_
  refine j_iload_n (pc' := 16) dX11_laid_15 rfl rfl ?_
  refine j_iconst (pc' := 17) dX11_laid_16 rfl ?_
  obtain ⟨q1, h⟩ := ck_o h
  refine j_icmp_eq (tgt := 25) (pc' := 20) dX11_laid_17 rfl rfl q1 (by decide) (fun b1 => ?_) (fun b1 => ?_)
  · replace h := ite_t b1 h
    refine j_iload_n (pc' := 26) dX11_laid_25 rfl rfl ?_
    exact j_iret dX11_laid_26 rfl (by decide) (by decide) (rIX_of h)
  · replace h := ite_f b1 h
    refine j_iload_n (pc' := 21) dX11_laid_20 rfl rfl ?_
    refine j_iconst (pc' := 22) dX11_laid_21 rfl ?_
    obtain ⟨q2, h⟩ := ck_o h
    refine j_icmp_ne (tgt := 27) (pc' := 25) dX11_laid_22 rfl rfl q2 (by decide) (fun b2 => ?_) (fun b2 => ?_)
    · replace h := ite_f b2 h
      refine j_iload_n (pc' := 28) dX11_laid_27 rfl rfl ?_
      refine j_if_lt (tgt := 42) (pc' := 31) dX11_laid_28 rfl rfl q2 (fun b3 => ?_) (fun b3 => ?_)
      · replace h := ite_t b3 h
        refine j_iconst (pc' := 43) dX11_laid_42 rfl ?_
        refine j_goto (tgt := 54) dX11_laid_43 rfl ?_
        exact j_iret dX11_laid_54 rfl (by decide) (by decide) (rIX_of h)
      · replace h := ite_f b3 h
        refine j_iload_n (pc' := 32) dX11_laid_31 rfl rfl ?_
        refine j_aload_n (pc' := 33) dX11_laid_32 rfl rfl ?_
        refine k_getR (pc' := 36) (sl := 1) (r := 3) kc_10 w_394 (Or.inl rfl) (by decide) dX11_laid_33 rfl (by decide) sk_0 (by decide) rfl (by decide) ?_
        obtain ⟨v3, D3, e3, h⟩ := bI_o h
        refine k_cV (d' := 1) (pc' := 39) [] [mI x2] (c_X6_gapCount (d := 1) (Nat.le_refl _) shop_3 e3) cw_X11_353 kc_6 w_537 w_538 dX11_laid_36 rfl (by omega) rfl rfl (by decide) sk_3 rfl rfl (by decide) (by decide) ?_
        obtain ⟨q3, h⟩ := ck_o h
        refine j_icmp_lt (tgt := 46) (pc' := 42) dX11_laid_39 rfl rfl q2 q3 (fun b4 => ?_) (fun b4 => ?_)
        · replace h := ite_t b4 h
          refine j_aload_n (pc' := 47) dX11_laid_46 rfl rfl ?_
          refine k_getR (pc' := 50) (sl := 5) (r := 26) kc_10 w_398 (Or.inl rfl) (by decide) dX11_laid_47 rfl (by decide) sk_0 (by decide) rfl (by decide) ?_
          refine j_iload_n (pc' := 51) dX11_laid_50 rfl rfl ?_
          obtain ⟨v4, D4, e4, h⟩ := bI_o h
          refine k_cV (d' := 9) (pc' := 54) [mI x2] [] (c_X4_distanceOf (d := 9) (Nat.le_refl _) e4) cw_X11_364 kc_4 w_1272 w_1273 dX11_laid_51 rfl (by omega) rfl rfl (by decide) sk_26 rfl rfl (by decide) (by decide) ?_
          exact j_iret dX11_laid_54 rfl (by decide) (by decide) (rIX_of h)
        · replace h := ite_f b4 h
          refine j_iconst (pc' := 43) dX11_laid_42 rfl ?_
          refine j_goto (tgt := 54) dX11_laid_43 rfl ?_
          exact j_iret dX11_laid_54 rfl (by decide) (by decide) (rIX_of h)
    · replace h := ite_t b2 h
      refine j_iload_n (pc' := 26) dX11_laid_25 rfl rfl ?_
      exact j_iret dX11_laid_26 rfl (by decide) (by decide) (rIX_of h)
theorem c_X11_laid {d : Nat} (hd : 10 ≤ d) {x1 x2 : Int} {D D' : mD} {v : Int ⊕ Nat} (h : F_X11_laid x1 x2 D = some (v, D')) : CM d 1 6 M_X11_laid [mR 0, mI x1, mI x2] (SK, D, false) (rO v D') := CM.intro pn_X11 rfl rfl (Nat.le_of_ble_eq_true rfl) (fun _ => c_X11_laid_e hd h)
theorem c_X11_best_j83 {Ω : mO} {d : Nat} (hd : 10 ≤ d) {r : Int × mD} {x1 x2 x3 : Int} {D : mD} (h : F_X11_best_j83 x1 x2 x3 D = some r) : J Ω M_X11_best d 0 0 (rI r.1 r.2) 83 [none, some (mI x1), some (mI x2), some (mI x3), none, none] [] (SK, D, false) 0 0 := by
  rw [F_X11_best_j83] at h
  refine j_iload_n (pc' := 84) dX11_best_83 rfl rfl ?_
  obtain ⟨q1, h⟩ := ck_o h
  have hj : J Ω M_X11_best d 0 0 (rI r.1 r.2) 92 [none, none, none, none, none, none] [mI (if x1 = 0 then x2 else x3)] (SK, D, false) 0 0 := by
    exact j_iret dX11_best_92 rfl (by decide) (by decide) (rI_of h)
  refine j_if_eq (tgt := 91) (pc' := 87) dX11_best_84 rfl rfl q1 (fun b1 => ?_) (fun b1 => ?_)
  · refine j_iload_n (pc' := 92) dX11_best_91 rfl rfl ?_
    have hj := hj
    try simp only [if_pos b1] at hj
    exact j_wk hj (trivial)
  · refine j_iload_n (pc' := 88) dX11_best_87 rfl rfl ?_
    refine j_goto (tgt := 92) dX11_best_88 rfl ?_
    have hj := hj
    try simp only [if_neg b1] at hj
    exact j_wk hj (trivial)
theorem c_X11_best_j57 {Ω : mO} {d : Nat} (hd : 10 ≤ d) {r : Int × mD} {K22 : Int → Int → Int → mD → RI} {x1 x2 x3 x4 x5 : Int} (hK22 : ∀ {x2 x3 x4 : Int} {D : mD}, K22 x2 x3 x4 D = some r → J Ω M_X11_best d 0 0 (rI r.1 r.2) 22 [some (mR 0), some (mI x1), some (mI x2), some (mI x3), some (mI x4), none] [] (SK, D, false) 0 0) {D : mD} (h : F_X11_best_j57 K22 x1 x2 x3 x4 x5 D = some r) : J Ω M_X11_best d 0 0 (rI r.1 r.2) 57 [some (mR 0), some (mI x1), some (mI x2), some (mI x3), some (mI x4), some (mI x5)] [] (SK, D, false) 0 0 := by
  rw [F_X11_best_j57] at h
  refine j_iload (pc' := 59) dX11_best_57 rfl rfl ?_
  refine j_iconst (pc' := 60) dX11_best_59 rfl ?_
  refine j_iload (pc' := 62) dX11_best_60 rfl rfl ?_
  refine j_iload_n (pc' := 63) dX11_best_62 rfl rfl ?_
  refine j_isub (pc' := 64) dX11_best_63 rfl ?_
  refine j_iconst (pc' := 65) dX11_best_64 rfl ?_
  refine j_aload_n (pc' := 66) dX11_best_65 rfl rfl ?_
  refine k_getR (pc' := 69) (sl := 1) (r := 3) kc_10 w_394 (Or.inl rfl) (by decide) dX11_best_66 rfl (by decide) sk_0 (by decide) rfl (by decide) ?_
  obtain ⟨v1, D1, e1, h⟩ := bI_o h
  refine k_cV (d' := 1) (pc' := 72) [] [mI 1, mI (x5 - x3), mI 1, mI x4] (c_X6_gapCount (d := 1) (Nat.le_refl _) shop_3 e1) cw_X11_353 kc_6 w_537 w_538 dX11_best_69 rfl (by omega) rfl rfl (by decide) sk_3 rfl rfl (by decide) (by decide) ?_
  obtain ⟨q1, h⟩ := ck_o h
  refine k_max (pc' := 75) cw_X11_367 w_541 dX11_best_72 rfl (by omega) (by decide) q1 rfl (by decide) (by decide) ?_
  obtain ⟨q2, h⟩ := ck_o h
  obtain ⟨q3, h⟩ := ck_o h
  obtain ⟨q4, h⟩ := ck_o h
  obtain ⟨q5, h⟩ := ck_o h
  refine j_idiv (pc' := 76) dX11_best_75 rfl q2 q3 q4 q5 ?_
  refine j_iadd (pc' := 77) dX11_best_76 rfl ?_
  refine j_iadd (pc' := 78) dX11_best_77 rfl ?_
  refine j_istore (pc' := 80) (ls' := [some (mR 0), some (mI x1), some (mI x2), some (mI x3), some (mI (x4 + (1 + ((x5 - x3) / (max 1 v1))))), some (mI x5)]) dX11_best_78 rfl (by decide) rfl ?_
  refine j_goto (tgt := 22) dX11_best_80 rfl ?_
  exact j_wk (j_widen (ce := 0) (ke := 0) (by decide) (by decide) (hK22 h)) (And.intro rfl (And.intro rfl (And.intro rfl (And.intro rfl (And.intro rfl trivial)))))
theorem c_X11_best_L22 {Ω : mO} {d : Nat} (hd : 10 ≤ d) {r : Int × mD} {x1 : Int} : ∀ (n : Nat) {x2 x3 x4 : Int} {D : mD}, F_X11_best_L22 x1 n x2 x3 x4 D = some r → J Ω M_X11_best d 0 0 (rI r.1 r.2) 22 [some (mR 0), some (mI x1), some (mI x2), some (mI x3), some (mI x4), none] [] (SK, D, false) 0 0 := by
  intro n
  induction n with
  | zero => intro x2 x3 x4 D h; exact absurd (show (none : Option (Int × mD)) = some r from h) nofun
  | succ n ih =>
    intro x2 x3 x4 D h
    rw [F_X11_best_L22] at h
    refine j_iload (pc' := 24) dX11_best_22 rfl rfl ?_
    refine j_bipush (pc' := 26) dX11_best_24 rfl rfl ?_
    obtain ⟨q1, h⟩ := ck_o h
    refine j_icmp_gt (tgt := 83) (pc' := 29) dX11_best_26 rfl rfl q1 (by decide) (fun b1 => ?_) (fun b1 => ?_)
    · replace h := ite_t b1 h
      exact j_wk (j_widen (ce := 0) (ke := 0) (by decide) (by decide) (c_X11_best_j83 hd h)) (And.intro rfl (And.intro rfl (And.intro rfl trivial)))
    · replace h := ite_f b1 h
      refine j_iload_n (pc' := 30) dX11_best_29 rfl rfl ?_
      obtain ⟨q2, h⟩ := ck_o h
      refine j_if_le (tgt := 83) (pc' := 33) dX11_best_30 rfl rfl q2 (fun b2 => ?_) (fun b2 => ?_)
      · replace h := ite_t b2 h
        exact j_wk (j_widen (ce := 0) (ke := 0) (by decide) (by decide) (c_X11_best_j83 hd h)) (And.intro rfl (And.intro rfl (And.intro rfl trivial)))
      · replace h := ite_f b2 h
        refine j_aload_n (pc' := 34) dX11_best_33 rfl rfl ?_
        refine k_getR (pc' := 37) (sl := 5) (r := 26) kc_10 w_398 (Or.inl rfl) (by decide) dX11_best_34 rfl (by decide) sk_0 (by decide) rfl (by decide) ?_
        refine j_iload (pc' := 39) dX11_best_37 rfl rfl ?_
        refine j_iconst (pc' := 40) dX11_best_39 rfl ?_
        obtain ⟨v1, D1, e1, h⟩ := bI_o h
        refine k_cV (d' := 9) (pc' := 43) [mI x4, mI 0] [] (c_X4_leastOff (d := 9) (Nat.le_refl _) e1) cw_X11_319 kc_4 w_600 w_601 dX11_best_40 rfl (by omega) rfl rfl (by decide) sk_26 rfl rfl (by decide) (by decide) ?_
        refine j_istore (pc' := 45) (ls' := [some (mR 0), some (mI x1), some (mI x2), some (mI x3), some (mI x4), some (mI v1)]) dX11_best_43 rfl (by decide) rfl ?_
        refine j_iload (pc' := 47) dX11_best_45 rfl rfl ?_
        refine j_iload_n (pc' := 48) dX11_best_47 rfl rfl ?_
        obtain ⟨q3, h⟩ := ck_o h
        have hj : J Ω M_X11_best d 0 0 (rI r.1 r.2) 57 [some (mR 0), some (mI x1), some (mI (if x3 ≤ v1 then x2 else x4)), some (mI (if x3 ≤ v1 then x3 else v1)), some (mI x4), some (mI v1)] [] (SK, D1, false) 0 0 := by
          exact j_wk (j_widen (ce := 0) (ke := 0) (by decide) (by decide) (c_X11_best_j57 hd ih h)) (And.intro rfl (And.intro rfl (And.intro rfl (And.intro rfl (And.intro rfl (And.intro rfl trivial))))))
        refine j_icmp_ge (tgt := 57) (pc' := 51) dX11_best_48 rfl rfl q3 q2 (fun b3 => ?_) (fun b3 => ?_)
        · have hj := hj
          try simp only [if_pos b3] at hj
          exact j_wk hj (And.intro rfl (And.intro rfl (And.intro rfl (And.intro rfl (And.intro rfl (And.intro rfl trivial))))))
        · refine j_iload (pc' := 53) dX11_best_51 rfl rfl ?_
          refine j_istore_n (pc' := 54) (ls' := [some (mR 0), some (mI x1), some (mI x2), some (mI v1), some (mI x4), some (mI v1)]) dX11_best_53 rfl (by decide) rfl ?_
          refine j_iload (pc' := 56) dX11_best_54 rfl rfl ?_
          refine j_istore_n (pc' := 57) (ls' := [some (mR 0), some (mI x1), some (mI x4), some (mI v1), some (mI x4), some (mI v1)]) dX11_best_56 rfl (by decide) rfl ?_
          have hj := hj
          try simp only [if_neg b3] at hj
          exact j_wk hj (And.intro rfl (And.intro rfl (And.intro rfl (And.intro rfl (And.intro rfl (And.intro rfl trivial))))))
theorem c_X11_best_e {Ω : mO} {d : Nat} (hd : 10 ≤ d) {r : Int × mD} {x1 : Int} {D : mD} (h : F_X11_best x1 D = some r) : J Ω M_X11_best d 0 0 (rI r.1 r.2) 0 [some (mR 0), some (mI x1), none, none, none, none] [] (SK, D, false) 0 0 := by
  rw [F_X11_best] at h
  refine j_iconst (pc' := 1) dX11_best_0 rfl ?_
  refine j_istore_n (pc' := 2) (ls' := [some (mR 0), some (mI x1), some (mI 0), none, none, none]) dX11_best_1 rfl (by decide) rfl ?_
  refine j_aload_n (pc' := 3) dX11_best_2 rfl rfl ?_
  refine k_getR (pc' := 6) (sl := 5) (r := 26) kc_10 w_398 (Or.inl rfl) (by decide) dX11_best_3 rfl (by decide) sk_0 (by decide) rfl (by decide) ?_
  refine j_iconst (pc' := 7) dX11_best_6 rfl ?_
  refine j_iconst (pc' := 8) dX11_best_7 rfl ?_
  obtain ⟨v1, D1, e1, h⟩ := bI_o h
  refine k_cV (d' := 9) (pc' := 11) [mI 0, mI 0] [] (c_X4_leastOff (d := 9) (Nat.le_refl _) e1) cw_X11_319 kc_4 w_600 w_601 dX11_best_8 rfl (by omega) rfl rfl (by decide) sk_26 rfl rfl (by decide) (by decide) ?_
  refine j_istore_n (pc' := 12) (ls' := [some (mR 0), some (mI x1), some (mI 0), some (mI v1), none, none]) dX11_best_11 rfl (by decide) rfl ?_
  refine j_iload_n (pc' := 13) dX11_best_12 rfl rfl ?_
  refine j_iconst (pc' := 14) dX11_best_13 rfl ?_
  obtain ⟨q1, h⟩ := ck_o h
  refine j_icmp_ne (tgt := 19) (pc' := 17) dX11_best_14 rfl rfl q1 (by decide) (fun b1 => ?_) (fun b1 => ?_)
  · replace h := ite_f b1 h
    refine j_iconst (pc' := 20) dX11_best_19 rfl ?_
    refine j_istore (pc' := 22) (ls' := [some (mR 0), some (mI x1), some (mI 0), some (mI v1), some (mI 1), none]) dX11_best_20 rfl (by decide) rfl ?_
    exact j_wk (j_widen (ce := 0) (ke := 0) (by decide) (by decide) (c_X11_best_L22 hd _ h)) (And.intro rfl (And.intro rfl (And.intro rfl (And.intro rfl (And.intro rfl trivial)))))
  · replace h := ite_t b1 h
    refine j_iconst (pc' := 18) dX11_best_17 rfl ?_
    exact j_iret dX11_best_18 rfl (by decide) (by decide) (rI_of h)
theorem c_X11_best {d : Nat} (hd : 10 ≤ d) {x1 : Int} {D D' : mD} {v : Int} (h : F_X11_best x1 D = some (v, D')) : CM d 0 0 M_X11_best [mR 0, mI x1] (SK, D, false) (rI v D') := CM.intro pn_X11 rfl rfl (Nat.le_of_ble_eq_true rfl) (fun _ => c_X11_best_e hd h)
theorem c_X11_nearest_L15 {Ω : mO} {d : Nat} (hd : 8 ≤ d) {r : (Int ⊕ Nat) × mD} {x1 x2 : Int} : ∀ (n : Nat) {x3 x4 : Int} {D : mD}, F_X11_nearest_L15 x1 x2 n x3 x4 D = some r → J Ω M_X11_nearest d 2 12 (rO r.1 r.2) 15 [some (mR 0), some (mI x1), some (mI x2), some (mI x3), some (mI x4), none] [] (SK, D, false) 2 12 := by
  intro n
  induction n with
  | zero => intro x3 x4 D h; exact absurd (show (none : Option ((Int ⊕ Nat) × mD)) = some r from h) nofun
  | succ n ih =>
    intro x3 x4 D h
    rw [F_X11_nearest_L15] at h
    refine j_iload (pc' := 17) dX11_nearest_15 rfl rfl ?_
    refine j_bipush (pc' := 19) dX11_nearest_17 rfl rfl ?_
    obtain ⟨q1, h⟩ := ck_o h
    refine j_icmp_gt (tgt := 67) (pc' := 22) dX11_nearest_19 rfl rfl q1 (by decide) (fun b1 => ?_) (fun b1 => ?_)
    · replace h := ite_t b1 h
      refine j_iload_n (pc' := 68) dX11_nearest_67 rfl rfl ?_
      exact j_iret dX11_nearest_68 rfl (by decide) (by decide) (rIX_of h)
    · replace h := ite_f b1 h
      refine j_aload_n (pc' := 23) dX11_nearest_22 rfl rfl ?_
      refine k_getR (pc' := 26) (sl := 4) (r := 22) kc_10 w_397 (Or.inl rfl) (by decide) dX11_nearest_23 rfl (by decide) sk_0 (by decide) rfl (by decide) ?_
      refine j_iload_n (pc' := 27) dX11_nearest_26 rfl rfl ?_
      refine j_iload (pc' := 29) dX11_nearest_27 rfl rfl ?_
      obtain ⟨v1, D1, e1, h⟩ := bI_o h
      refine k_cV (d' := 7) (pc' := 32) [mI x1, mI x4] [] (c_X0_whiteOf (d := 7) (Nat.le_refl _) e1) cw_X11_237 kc_0 w_544 w_545 dX11_nearest_29 rfl (by omega) rfl rfl (by decide) sk_22 rfl rfl (by decide) (by decide) ?_
      refine j_iload_n (pc' := 33) dX11_nearest_32 rfl rfl ?_
      refine j_isub (pc' := 34) dX11_nearest_33 rfl ?_
      obtain ⟨q2, h⟩ := ck_o h
      refine k_abs (pc' := 37) cw_X11_356 w_614 dX11_nearest_34 rfl (by omega) q2 rfl (by decide) (by decide) ?_
      refine j_istore (pc' := 39) (ls' := [some (mR 0), some (mI x1), some (mI x2), some (mI x3), some (mI x4), some (mI (Int.natAbs (v1 - x2) : Int))]) dX11_nearest_37 rfl (by decide) rfl ?_
      refine j_iload (pc' := 41) dX11_nearest_39 rfl rfl ?_
      refine j_aload_n (pc' := 42) dX11_nearest_41 rfl rfl ?_
      refine k_getR (pc' := 45) (sl := 4) (r := 22) kc_10 w_397 (Or.inl rfl) (by decide) dX11_nearest_42 rfl (by decide) sk_0 (by decide) rfl (by decide) ?_
      refine j_iload_n (pc' := 46) dX11_nearest_45 rfl rfl ?_
      refine j_iload_n (pc' := 47) dX11_nearest_46 rfl rfl ?_
      obtain ⟨v2, D2, e2, h⟩ := bI_o h
      refine k_cV (d' := 7) (pc' := 50) [mI x1, mI x3] [mI (Int.natAbs (v1 - x2) : Int)] (c_X0_whiteOf (d := 7) (Nat.le_refl _) e2) cw_X11_237 kc_0 w_544 w_545 dX11_nearest_47 rfl (by omega) rfl rfl (by decide) sk_22 rfl rfl (by decide) (by decide) ?_
      refine j_iload_n (pc' := 51) dX11_nearest_50 rfl rfl ?_
      refine j_isub (pc' := 52) dX11_nearest_51 rfl ?_
      obtain ⟨q3, h⟩ := ck_o h
      refine k_abs (pc' := 55) cw_X11_356 w_614 dX11_nearest_52 rfl (by omega) q3 rfl (by decide) (by decide) ?_
      obtain ⟨q4, h⟩ := ck_o h
      obtain ⟨q5, h⟩ := ck_o h
      have hj : J Ω M_X11_nearest d 2 12 (rO r.1 r.2) 61 [some (mR 0), some (mI x1), some (mI x2), some (mI (if (Int.natAbs (v2 - x2) : Int) ≤ (Int.natAbs (v1 - x2) : Int) then x3 else x4)), some (mI x4), none] [] (SK, D2, false) 2 12 := by
        refine j_iinc (pc' := 64) (z' := (x4 + 1)) (ls' := [some (mR 0), some (mI x1), some (mI x2), some (mI (if (Int.natAbs (v2 - x2) : Int) ≤ (Int.natAbs (v1 - x2) : Int) then x3 else x4)), some (mI (x4 + 1)), none]) dX11_nearest_61 rfl rfl rfl (by decide) rfl ?_
        refine j_goto (tgt := 15) dX11_nearest_64 rfl ?_
        exact j_wk (j_widen (ce := 2) (ke := 12) (by decide) (by decide) (ih h)) (And.intro rfl (And.intro rfl (And.intro rfl (And.intro rfl (And.intro rfl trivial)))))
      refine j_icmp_ge (tgt := 61) (pc' := 58) dX11_nearest_55 rfl rfl q4 q5 (fun b2 => ?_) (fun b2 => ?_)
      · have hj := hj
        try simp only [if_pos b2] at hj
        exact j_wk hj (And.intro rfl (And.intro rfl (And.intro rfl (And.intro rfl (And.intro rfl trivial)))))
      · refine j_iload (pc' := 60) dX11_nearest_58 rfl rfl ?_
        refine j_istore_n (pc' := 61) (ls' := [some (mR 0), some (mI x1), some (mI x2), some (mI x4), some (mI x4), some (mI (Int.natAbs (v1 - x2) : Int))]) dX11_nearest_60 rfl (by decide) rfl ?_
        have hj := hj
        try simp only [if_neg b2] at hj
        exact j_wk hj (And.intro rfl (And.intro rfl (And.intro rfl (And.intro rfl (And.intro rfl trivial)))))
theorem c_X11_nearest_e {Ω : mO} {d : Nat} (hd : 8 ≤ d) {r : (Int ⊕ Nat) × mD} {x1 x2 : Int} {D : mD} (h : F_X11_nearest x1 x2 D = some r) : J Ω M_X11_nearest d 2 12 (rO r.1 r.2) 0 [some (mR 0), some (mI x1), some (mI x2), none, none, none] [] (SK, D, false) 0 0 := by
  rw [F_X11_nearest] at h
  refine j_aload_n (pc' := 1) dX11_nearest_0 rfl rfl ?_
  refine j_iload_n (pc' := 2) dX11_nearest_1 rfl rfl ?_
  rcases bX_o h with ⟨v1, D1, e1, h⟩ | ⟨v1, D1, e1, h⟩
  rotate_left
  · exact k_cVXtV (d' := 6) [mI x1] [] (c_X11_needGap (d := 6) (Nat.le_refl _) e1) cw_X11_231 kc_10 w_1122 ws_26 dX11_nearest_2 (by omega) rfl rfl (by decide) sk_0 rfl rfl (by decide) (by decide) (rX_of h)
  refine k_cVXv (d' := 6) (pc' := 5) (ce := 1) (ke := 6) [mI x1] [] (c_X11_needGap (d := 6) (Nat.le_refl _) e1) cw_X11_231 kc_10 w_1122 ws_26 dX11_nearest_2 rfl (by omega) rfl rfl (by decide) sk_0 rfl rfl rfl rfl (by decide) (by decide) ?_
  refine j_aload_n (pc' := 6) dX11_nearest_5 rfl rfl ?_
  refine j_iload_n (pc' := 7) dX11_nearest_6 rfl rfl ?_
  rcases bX_o h with ⟨v2, D2, e2, h⟩ | ⟨v2, D2, e2, h⟩
  rotate_left
  · exact k_cVXtV (d' := 6) [mI x2] [] (c_X11_needWhite (d := 6) (Nat.le_refl _) e2) cw_X11_316 kc_10 w_1198 ws_30 dX11_nearest_7 (by omega) rfl rfl (by decide) sk_0 rfl rfl (by decide) (by decide) (rX_of h)
  refine k_cVXv (d' := 6) (pc' := 10) (ce := 2) (ke := 12) [mI x2] [] (c_X11_needWhite (d := 6) (Nat.le_refl _) e2) cw_X11_316 kc_10 w_1198 ws_30 dX11_nearest_7 rfl (by omega) rfl rfl (by decide) sk_0 rfl rfl rfl rfl (by decide) (by decide) ?_
  refine j_iconst (pc' := 11) dX11_nearest_10 rfl ?_
  refine j_istore_n (pc' := 12) (ls' := [some (mR 0), some (mI x1), some (mI x2), some (mI 0), none, none]) dX11_nearest_11 rfl (by decide) rfl ?_
  refine j_iconst (pc' := 13) dX11_nearest_12 rfl ?_
  refine j_istore (pc' := 15) (ls' := [some (mR 0), some (mI x1), some (mI x2), some (mI 0), some (mI 1), none]) dX11_nearest_13 rfl (by decide) rfl ?_
  exact j_wk (j_widen (ce := 2) (ke := 12) (by decide) (by decide) (c_X11_nearest_L15 hd _ h)) (And.intro rfl (And.intro rfl (And.intro rfl (And.intro rfl (And.intro rfl trivial)))))
theorem c_X11_nearest {d : Nat} (hd : 8 ≤ d) {x1 x2 : Int} {D D' : mD} {v : Int ⊕ Nat} (h : F_X11_nearest x1 x2 D = some (v, D')) : CM d 2 12 M_X11_nearest [mR 0, mI x1, mI x2] (SK, D, false) (rO v D') := CM.intro pn_X11 rfl rfl (Nat.le_of_ble_eq_true rfl) (fun _ => c_X11_nearest_e hd h)
