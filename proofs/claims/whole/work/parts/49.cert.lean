/-! CERTIFICATES: the bytecode does what F says (by program) -/
theorem c_X12_seed_e {Ω : mO} {d : Nat} (hd : 1 ≤ d) {r : Int × mD} {x1 : Int} {D : mD} (h : F_X12_seed x1 D = some r) : J Ω M_X12_seed d 0 0 (rI r.1 r.2) 0 [some (mR 133), some (mI x1), none] [] (SK, D, false) 0 0 := by
  rw [F_X12_seed] at h
  refine j_aload_n (pc' := 1) dX12_seed_0 rfl rfl ?_
  refine j_iconst (pc' := 2) dX12_seed_1 rfl ?_
  refine k_putI (pc' := 5) (sl := 0) (i' := 0) kc_11 w_1477 (by decide) (Or.inl rfl) dX12_seed_2 rfl (by decide) sk_133 (by decide) ⟨rfl, rfl⟩ rfl ?_
  refine j_aload_n (pc' := 6) dX12_seed_5 rfl rfl ?_
  refine k_getR (pc' := 9) (sl := 1) (r := 134) kc_11 w_1478 (Or.inl rfl) (by decide) dX12_seed_6 rfl (by decide) sk_133 (by decide) rfl (by decide) ?_
  refine j_bipush (pc' := 11) dX12_seed_9 rfl rfl ?_
  refine k_iald (pc' := 12) (z := (pD D 133 0 0) 134 14) dX12_seed_11 rfl (by decide) sk_134 (by decide) (by decide) (by decide) rfl ?_
  refine j_istore_n (pc' := 13) (ls' := [some (mR 133), some (mI x1), some (mI ((pD D 133 0 0) 134 14))]) dX12_seed_12 rfl (by decide) rfl ?_
  refine j_aload_n (pc' := 14) dX12_seed_13 rfl rfl ?_
  refine k_getR (pc' := 17) (sl := 1) (r := 134) kc_11 w_1478 (Or.inl rfl) (by decide) dX12_seed_14 rfl (by decide) sk_133 (by decide) rfl (by decide) ?_
  refine j_bipush (pc' := 19) dX12_seed_17 rfl rfl ?_
  refine j_iload_n (pc' := 20) dX12_seed_19 rfl rfl ?_
  refine k_iast (pc' := 21) dX12_seed_20 rfl (by decide) sk_134 (by decide) (by decide) (by decide) ?_
  refine j_iload_n (pc' := 22) dX12_seed_21 rfl rfl ?_
  exact j_iret dX12_seed_22 rfl (by decide) (by decide) (rI_of h)
theorem c_X12_seed {d : Nat} (hd : 1 ≤ d) {x1 : Int} {D D' : mD} {v : Int} (h : F_X12_seed x1 D = some (v, D')) : CM d 0 0 M_X12_seed [mR 133, mI x1] (SK, D, false) (rI v D') := CM.intro pn_X12 rfl rfl (Nat.le_of_ble_eq_true rfl) (fun _ => c_X12_seed_e hd h)
theorem c_X12_count_e {Ω : mO} {d : Nat} (hd : 9 ≤ d) {r : Int × mD} {x1 : Int} {D : mD} (h : F_X12_count x1 D = some r) : J Ω M_X12_count d 0 0 (rI r.1 r.2) 0 [some (mR 133), some (mI x1)] [] (SK, D, false) 0 0 := by
  rw [F_X12_count] at h
  refine j_aload_n (pc' := 1) dX12_count_0 rfl rfl ?_
  refine j_iconst (pc' := 2) dX12_count_1 rfl ?_
  refine k_putI (pc' := 5) (sl := 0) (i' := 0) kc_11 w_1477 (by decide) (Or.inl rfl) dX12_count_2 rfl (by decide) sk_133 (by decide) ⟨rfl, rfl⟩ rfl ?_
  refine j_iload_n (pc' := 6) dX12_count_5 rfl rfl ?_
  obtain ⟨q1, h⟩ := ck_o h
  by_cases b1 : x1 = 10
  · replace h := ite_t b1 h
    refine j_tabIn (off := 38) (tgt := 44) dX12_count_6 q1 (by rw [b1]; decide) (by rw [b1]; decide) (by rw [b1]; rfl) rfl ?_
    refine j_aload_n (pc' := 45) dX12_count_44 rfl rfl ?_
    refine k_getR (pc' := 48) (sl := 1) (r := 134) kc_11 w_1478 (Or.inl rfl) (by decide) dX12_count_45 rfl (by decide) sk_133 (by decide) rfl (by decide) ?_
    refine j_bipush (pc' := 50) dX12_count_48 rfl rfl ?_
    refine k_iald (pc' := 51) (z := (pD D 133 0 0) 134 10) dX12_count_50 rfl (by decide) sk_134 (by decide) (by decide) (by decide) rfl ?_
    refine j_iconst (pc' := 52) dX12_count_51 rfl ?_
    obtain ⟨q2, h⟩ := ck_o h
    have hj : J Ω M_X12_count d 0 0 (rI r.1 r.2) 67 [none, none] [mI (if ((pD D 133 0 0) 134 10) = 1 then ((pD D 133 0 0) 134 475) else (-1 : Int))] (SK, (pD D 133 0 0), false) 0 0 := by
      exact j_iret dX12_count_67 rfl (by decide) (by decide) (rI_of h)
    refine j_icmp_ne (tgt := 66) (pc' := 55) dX12_count_52 rfl rfl q2 (by decide) (fun b2 => ?_) (fun b2 => ?_)
    · refine j_iconst (pc' := 67) dX12_count_66 rfl ?_
      have hj := hj
      try simp only [if_neg b2] at hj
      exact j_wk hj (trivial)
    · refine j_aload_n (pc' := 56) dX12_count_55 rfl rfl ?_
      refine k_getR (pc' := 59) (sl := 1) (r := 134) kc_11 w_1478 (Or.inl rfl) (by decide) dX12_count_56 rfl (by decide) sk_133 (by decide) rfl (by decide) ?_
      refine j_sipush (pc' := 62) dX12_count_59 rfl rfl ?_
      refine k_iald (pc' := 63) (z := (pD D 133 0 0) 134 475) dX12_count_62 rfl (by decide) sk_134 (by decide) (by decide) (by decide) rfl ?_
      refine j_goto (tgt := 67) dX12_count_63 rfl ?_
      have hj := hj
      try simp only [if_pos b2] at hj
      exact j_wk hj (trivial)
  replace h := ite_f b1 h
  by_cases b3 : x1 = 11
  · replace h := ite_t b3 h
    refine j_tabIn (off := 62) (tgt := 68) dX12_count_6 q1 (by rw [b3]; decide) (by rw [b3]; decide) (by rw [b3]; rfl) rfl ?_
    refine j_aload_n (pc' := 69) dX12_count_68 rfl rfl ?_
    refine k_getR (pc' := 72) (sl := 1) (r := 134) kc_11 w_1478 (Or.inl rfl) (by decide) dX12_count_69 rfl (by decide) sk_133 (by decide) rfl (by decide) ?_
    refine j_bipush (pc' := 74) dX12_count_72 rfl rfl ?_
    refine k_iald (pc' := 75) (z := (pD D 133 0 0) 134 11) dX12_count_74 rfl (by decide) sk_134 (by decide) (by decide) (by decide) rfl ?_
    exact j_iret dX12_count_75 rfl (by decide) (by decide) (rI_of h)
  replace h := ite_f b3 h
  by_cases b4 : x1 = 12
  · replace h := ite_t b4 h
    refine j_tabIn (off := 70) (tgt := 76) dX12_count_6 q1 (by rw [b4]; decide) (by rw [b4]; decide) (by rw [b4]; rfl) rfl ?_
    refine j_aload_n (pc' := 77) dX12_count_76 rfl rfl ?_
    obtain ⟨v1, D1, e1, h⟩ := bI_o h
    refine k_cV (d' := 8) (pc' := 80) [] [] (c_X12_endOfLast (d := 8) (Nat.le_refl _) e1) cw_X12_438 kc_11 w_2037 ws_122 dX12_count_77 rfl (by omega) rfl rfl (by decide) sk_133 rfl rfl (by decide) (by decide) ?_
    exact j_iret dX12_count_80 rfl (by decide) (by decide) (rI_of h)
  replace h := ite_f b4 h
  by_cases b5 : x1 = 13
  · replace h := ite_t b5 h
    refine j_tabIn (off := 75) (tgt := 81) dX12_count_6 q1 (by rw [b5]; decide) (by rw [b5]; decide) (by rw [b5]; rfl) rfl ?_
    refine j_aload_n (pc' := 82) dX12_count_81 rfl rfl ?_
    obtain ⟨v2, D2, e2, h⟩ := bI_o h
    refine k_cV (d' := 3) (pc' := 85) [] [] (c_X12_painted (d := 3) (Nat.le_refl _) e2) cw_X12_417 kc_11 w_1990 ws_115 dX12_count_82 rfl (by omega) rfl rfl (by decide) sk_133 rfl rfl (by decide) (by decide) ?_
    exact j_iret dX12_count_85 rfl (by decide) (by decide) (rI_of h)
  replace h := ite_f b5 h
  by_cases b6 : x1 = 14
  · replace h := ite_t b6 h
    refine j_tabIn (off := 80) (tgt := 86) dX12_count_6 q1 (by rw [b6]; decide) (by rw [b6]; decide) (by rw [b6]; rfl) rfl ?_
    refine j_aload_n (pc' := 87) dX12_count_86 rfl rfl ?_
    refine k_getR (pc' := 90) (sl := 1) (r := 134) kc_11 w_1478 (Or.inl rfl) (by decide) dX12_count_87 rfl (by decide) sk_133 (by decide) rfl (by decide) ?_
    refine j_bipush (pc' := 92) dX12_count_90 rfl rfl ?_
    refine k_iald (pc' := 93) (z := (pD D 133 0 0) 134 13) dX12_count_92 rfl (by decide) sk_134 (by decide) (by decide) (by decide) rfl ?_
    exact j_iret dX12_count_93 rfl (by decide) (by decide) (rI_of h)
  replace h := ite_f b6 h
  by_cases b7 : x1 = 15
  · replace h := ite_t b7 h
    refine j_tabIn (off := 88) (tgt := 94) dX12_count_6 q1 (by rw [b7]; decide) (by rw [b7]; decide) (by rw [b7]; rfl) rfl ?_
    refine j_aload_n (pc' := 95) dX12_count_94 rfl rfl ?_
    refine k_getI (pc' := 98) (sl := 7) (z := (pD D 133 0 0) 133 7) kc_11 w_1484 (by decide) dX12_count_95 rfl (by decide) sk_133 (by decide) rfl rfl ?_
    exact j_iret dX12_count_98 rfl (by decide) (by decide) (rI_of h)
  replace h := ite_f b7 h
  refine j_tabOut (tgt := 99) dX12_count_6 q1 (by omega) rfl ?_
  refine j_iload_n (pc' := 100) dX12_count_99 rfl rfl ?_
  refine j_iconst (pc' := 101) dX12_count_100 rfl ?_
  refine j_bipush (pc' := 103) dX12_count_101 rfl rfl ?_
  obtain ⟨v3, D3, e3, h⟩ := bI_o h
  refine k_cS (d' := 1) (pc' := 106) [mI x1, mI 0, mI 9] [] (c_X12_in (d := 1) (Nat.le_refl _) e3) cw_X12_90 w_1768 dX12_count_103 rfl (by omega) rfl rfl rfl rfl (by decide) (by decide) ?_
  obtain ⟨q3, h⟩ := ck_o h
  obtain ⟨q4, h⟩ := ck_o h
  have hj : J Ω M_X12_count d 0 0 (rI r.1 r.2) 119 [none, none] [mI (if v3 = 0 then (-1 : Int) else (D3 134 x1))] (SK, D3, false) 0 0 := by
    exact j_iret dX12_count_119 rfl (by decide) (by decide) (rI_of h)
  refine j_if_eq (tgt := 118) (pc' := 109) dX12_count_106 rfl rfl q3 (fun b8 => ?_) (fun b8 => ?_)
  · refine j_iconst (pc' := 119) dX12_count_118 rfl ?_
    have hj := hj
    try simp only [if_pos b8] at hj
    exact j_wk hj (trivial)
  · refine j_aload_n (pc' := 110) dX12_count_109 rfl rfl ?_
    refine k_getR (pc' := 113) (sl := 1) (r := 134) kc_11 w_1478 (Or.inl rfl) (by decide) dX12_count_110 rfl (by decide) sk_133 (by decide) rfl (by decide) ?_
    refine j_iload_n (pc' := 114) dX12_count_113 rfl rfl ?_
    refine k_iald (pc' := 115) (z := D3 134 x1) dX12_count_114 rfl (by decide) sk_134 (by decide) (q4 b8).1 (q4 b8).2 rfl ?_
    refine j_goto (tgt := 119) dX12_count_115 rfl ?_
    have hj := hj
    try simp only [if_neg b8] at hj
    exact j_wk hj (trivial)
theorem c_X12_count {d : Nat} (hd : 9 ≤ d) {x1 : Int} {D D' : mD} {v : Int} (h : F_X12_count x1 D = some (v, D')) : CM d 0 0 M_X12_count [mR 133, mI x1] (SK, D, false) (rI v D') := CM.intro pn_X12 rfl rfl (Nat.le_of_ble_eq_true rfl) (fun _ => c_X12_count_e hd h)
