/-! CERTIFICATES: the bytecode does what F says (by program) -/
theorem c_X12_feed_L60 {Ω : mO} {d : Nat} (hd : 1 ≤ d) {r : Int × mD} : ∀ (n : Nat) {x6 : Int} {D : mD}, F_X12_feed_L60 n x6 D = some r → J Ω M_X12_feed d 0 0 (rI r.1 r.2) 60 [some (mR 133), none, none, none, none, none, some (mI x6)] [] (SK, D, false) 0 0 := by
  intro n
  induction n with
  | zero => intro x6 D h; exact absurd (show (none : Option (Int × mD)) = some r from h) nofun
  | succ n ih =>
    intro x6 D h
    rw [F_X12_feed_L60] at h
    refine j_iload (pc' := 62) dX12_feed_60 rfl rfl ?_
    refine j_bipush (pc' := 64) dX12_feed_62 rfl rfl ?_
    obtain ⟨q1, h⟩ := ck_o h
    refine j_icmp_ge (tgt := 106) (pc' := 67) dX12_feed_64 rfl rfl q1 (by decide) (fun b1 => ?_) (fun b1 => ?_)
    · replace h := ite_t b1 h
      refine j_aload_n (pc' := 107) dX12_feed_106 rfl rfl ?_
      refine j_dup (pc' := 108) dX12_feed_107 rfl rfl ?_
      refine k_getI (pc' := 111) (sl := 9) (z := D 133 9) kc_11 w_1486 (by decide) dX12_feed_108 rfl (by decide) sk_133 (by decide) rfl rfl ?_
      refine j_bipush (pc' := 113) dX12_feed_111 rfl rfl ?_
      refine j_iadd (pc' := 114) dX12_feed_113 rfl ?_
      refine k_putI (pc' := 117) (sl := 9) (i' := 9) kc_11 w_1486 (by decide) (Or.inl rfl) dX12_feed_114 rfl (by decide) sk_133 (by decide) ⟨rfl, rfl⟩ rfl ?_
      refine j_aload_n (pc' := 118) dX12_feed_117 rfl rfl ?_
      refine k_getI (pc' := 121) (sl := 9) (z := (pD D 133 9 ((D 133 9) + 20)) 133 9) kc_11 w_1486 (by decide) dX12_feed_118 rfl (by decide) sk_133 (by decide) rfl rfl ?_
      exact j_iret dX12_feed_121 rfl (by decide) (by decide) (rI_of h)
    · replace h := ite_f b1 h
      refine j_aload_n (pc' := 68) dX12_feed_67 rfl rfl ?_
      refine k_getR (pc' := 71) (sl := 8) (r := 139) kc_11 w_1485 (Or.inl rfl) (by decide) dX12_feed_68 rfl (by decide) sk_133 (by decide) rfl (by decide) ?_
      refine j_aload_n (pc' := 72) dX12_feed_71 rfl rfl ?_
      refine k_getI (pc' := 75) (sl := 9) (z := D 133 9) kc_11 w_1486 (by decide) dX12_feed_72 rfl (by decide) sk_133 (by decide) rfl rfl ?_
      refine j_iload (pc' := 77) dX12_feed_75 rfl rfl ?_
      refine j_iadd (pc' := 78) dX12_feed_77 rfl ?_
      refine j_aload_n (pc' := 79) dX12_feed_78 rfl rfl ?_
      refine k_getR (pc' := 82) (sl := 15) (r := 140) kc_11 w_1492 (Or.inl rfl) (by decide) dX12_feed_79 rfl (by decide) sk_133 (by decide) rfl (by decide) ?_
      refine j_iload (pc' := 84) dX12_feed_82 rfl rfl ?_
      refine j_iconst (pc' := 85) dX12_feed_84 rfl ?_
      obtain ⟨q2, h⟩ := ck_o h
      refine j_idiv (pc' := 86) dX12_feed_85 rfl q1 (by decide) q2 (by decide) ?_
      obtain ⟨q3, h⟩ := ck_o h
      refine k_iald (pc' := 87) (z := D 140 (x6 / 4)) dX12_feed_86 rfl (by decide) sk_140 (by decide) q3.1 q3.2 rfl ?_
      refine j_bipush (pc' := 89) dX12_feed_87 rfl rfl ?_
      refine j_bipush (pc' := 91) dX12_feed_89 rfl rfl ?_
      refine j_iload (pc' := 93) dX12_feed_91 rfl rfl ?_
      refine j_iconst (pc' := 94) dX12_feed_93 rfl ?_
      refine j_irem (pc' := 95) dX12_feed_94 rfl q1 (by decide) q2 (by decide) ?_
      refine j_imul (pc' := 96) dX12_feed_95 rfl ?_
      refine j_isub (pc' := 97) dX12_feed_96 rfl ?_
      refine j_ishr (pc' := 98) dX12_feed_97 rfl ?_
      refine j_i2b (pc' := 99) dX12_feed_98 rfl ?_
      obtain ⟨q4, h⟩ := ck_o h
      refine k_bast (pc' := 100) dX12_feed_99 rfl (by decide) sk_139 (by decide) q4.1 q4.2 ?_
      refine j_iinc (pc' := 103) (z' := (x6 + 1)) (ls' := [some (mR 133), none, none, none, none, none, some (mI (x6 + 1))]) dX12_feed_100 rfl rfl rfl (by decide) rfl ?_
      refine j_goto (tgt := 60) dX12_feed_103 rfl ?_
      exact j_wk (j_widen (ce := 0) (ke := 0) (by decide) (by decide) (ih h)) (And.intro rfl (And.intro rfl trivial))
theorem c_X12_feed_e {Ω : mO} {d : Nat} (hd : 1 ≤ d) {r : Int × mD} {x1 x2 x3 x4 x5 : Int} {D : mD} (h : F_X12_feed x1 x2 x3 x4 x5 D = some r) : J Ω M_X12_feed d 0 0 (rI r.1 r.2) 0 [some (mR 133), some (mI x1), some (mI x2), some (mI x3), some (mI x4), some (mI x5), none] [] (SK, D, false) 0 0 := by
  rw [F_X12_feed] at h
  refine j_aload_n (pc' := 1) dX12_feed_0 rfl rfl ?_
  refine j_iconst (pc' := 2) dX12_feed_1 rfl ?_
  refine k_putI (pc' := 5) (sl := 0) (i' := 0) kc_11 w_1477 (by decide) (Or.inl rfl) dX12_feed_2 rfl (by decide) sk_133 (by decide) ⟨rfl, rfl⟩ rfl ?_
  refine j_aload_n (pc' := 6) dX12_feed_5 rfl rfl ?_
  refine k_getI (pc' := 9) (sl := 9) (z := (pD D 133 0 0) 133 9) kc_11 w_1486 (by decide) dX12_feed_6 rfl (by decide) sk_133 (by decide) rfl rfl ?_
  refine j_bipush (pc' := 11) dX12_feed_9 rfl rfl ?_
  refine j_iadd (pc' := 12) dX12_feed_11 rfl ?_
  refine j_sipush (pc' := 15) dX12_feed_12 rfl rfl ?_
  obtain ⟨q1, h⟩ := ck_o h
  refine j_icmp_le (tgt := 20) (pc' := 18) dX12_feed_15 rfl rfl q1 (by decide) (fun b1 => ?_) (fun b1 => ?_)
  · replace h := ite_t b1 h
    refine j_aload_n (pc' := 21) dX12_feed_20 rfl rfl ?_
    refine k_getR (pc' := 24) (sl := 15) (r := 140) kc_11 w_1492 (Or.inl rfl) (by decide) dX12_feed_21 rfl (by decide) sk_133 (by decide) rfl (by decide) ?_
    refine j_iconst (pc' := 25) dX12_feed_24 rfl ?_
    refine j_iload_n (pc' := 26) dX12_feed_25 rfl rfl ?_
    refine k_iast (pc' := 27) dX12_feed_26 rfl (by decide) sk_140 (by decide) (by decide) (by decide) ?_
    refine j_aload_n (pc' := 28) dX12_feed_27 rfl rfl ?_
    refine k_getR (pc' := 31) (sl := 15) (r := 140) kc_11 w_1492 (Or.inl rfl) (by decide) dX12_feed_28 rfl (by decide) sk_133 (by decide) rfl (by decide) ?_
    refine j_iconst (pc' := 32) dX12_feed_31 rfl ?_
    refine j_iload_n (pc' := 33) dX12_feed_32 rfl rfl ?_
    refine k_iast (pc' := 34) dX12_feed_33 rfl (by decide) sk_140 (by decide) (by decide) (by decide) ?_
    refine j_aload_n (pc' := 35) dX12_feed_34 rfl rfl ?_
    refine k_getR (pc' := 38) (sl := 15) (r := 140) kc_11 w_1492 (Or.inl rfl) (by decide) dX12_feed_35 rfl (by decide) sk_133 (by decide) rfl (by decide) ?_
    refine j_iconst (pc' := 39) dX12_feed_38 rfl ?_
    refine j_iload_n (pc' := 40) dX12_feed_39 rfl rfl ?_
    refine k_iast (pc' := 41) dX12_feed_40 rfl (by decide) sk_140 (by decide) (by decide) (by decide) ?_
    refine j_aload_n (pc' := 42) dX12_feed_41 rfl rfl ?_
    refine k_getR (pc' := 45) (sl := 15) (r := 140) kc_11 w_1492 (Or.inl rfl) (by decide) dX12_feed_42 rfl (by decide) sk_133 (by decide) rfl (by decide) ?_
    refine j_iconst (pc' := 46) dX12_feed_45 rfl ?_
    refine j_iload (pc' := 48) dX12_feed_46 rfl rfl ?_
    refine k_iast (pc' := 49) dX12_feed_48 rfl (by decide) sk_140 (by decide) (by decide) (by decide) ?_
    refine j_aload_n (pc' := 50) dX12_feed_49 rfl rfl ?_
    refine k_getR (pc' := 53) (sl := 15) (r := 140) kc_11 w_1492 (Or.inl rfl) (by decide) dX12_feed_50 rfl (by decide) sk_133 (by decide) rfl (by decide) ?_
    refine j_iconst (pc' := 54) dX12_feed_53 rfl ?_
    refine j_iload (pc' := 56) dX12_feed_54 rfl rfl ?_
    refine k_iast (pc' := 57) dX12_feed_56 rfl (by decide) sk_140 (by decide) (by decide) (by decide) ?_
    refine j_iconst (pc' := 58) dX12_feed_57 rfl ?_
    refine j_istore (pc' := 60) (ls' := [some (mR 133), some (mI x1), some (mI x2), some (mI x3), some (mI x4), some (mI x5), some (mI 0)]) dX12_feed_58 rfl (by decide) rfl ?_
    exact j_wk (j_widen (ce := 0) (ke := 0) (by decide) (by decide) (c_X12_feed_L60 hd _ h)) (And.intro rfl (And.intro rfl trivial))
  · replace h := ite_f b1 h
    refine j_iconst (pc' := 19) dX12_feed_18 rfl ?_
    exact j_iret dX12_feed_19 rfl (by decide) (by decide) (rI_of h)
theorem c_X12_feed {d : Nat} (hd : 1 ≤ d) {x1 x2 x3 x4 x5 : Int} {D D' : mD} {v : Int} (h : F_X12_feed x1 x2 x3 x4 x5 D = some (v, D')) : CM d 0 0 M_X12_feed [mR 133, mI x1, mI x2, mI x3, mI x4, mI x5] (SK, D, false) (rI v D') := CM.intro pn_X12 rfl rfl (Nat.le_of_ble_eq_true rfl) (fun _ => c_X12_feed_e hd h)
theorem c_X12_end_e {Ω : mO} {d : Nat} (hd : 1 ≤ d) {r : Int × mD} {x1 : Int} {D : mD} (h : F_X12_end x1 D = some r) : J Ω M_X12_end d 0 0 (rI r.1 r.2) 0 [some (mR 133), some (mI x1)] [] (SK, D, false) 0 0 := by
  rw [F_X12_end] at h
  refine j_aload_n (pc' := 1) dX12_end_0 rfl rfl ?_
  refine j_iconst (pc' := 2) dX12_end_1 rfl ?_
  refine k_putI (pc' := 5) (sl := 0) (i' := 0) kc_11 w_1477 (by decide) (Or.inl rfl) dX12_end_2 rfl (by decide) sk_133 (by decide) ⟨rfl, rfl⟩ rfl ?_
  refine j_iload_n (pc' := 6) dX12_end_5 rfl rfl ?_
  obtain ⟨q1, h⟩ := ck_o h
  refine j_if_lt (tgt := 17) (pc' := 9) dX12_end_6 rfl rfl q1 (fun b1 => ?_) (fun b1 => ?_)
  · replace h := ite_t b1 h
    refine j_iconst (pc' := 18) dX12_end_17 rfl ?_
    exact j_zret dX12_end_18 rfl (Or.inl rfl) (by decide) (by decide) (rI_of h)
  · replace h := ite_f b1 h
    refine j_iload_n (pc' := 10) dX12_end_9 rfl rfl ?_
    refine j_aload_n (pc' := 11) dX12_end_10 rfl rfl ?_
    refine k_getI (pc' := 14) (sl := 9) (z := (pD D 133 0 0) 133 9) kc_11 w_1486 (by decide) dX12_end_11 rfl (by decide) sk_133 (by decide) rfl rfl ?_
    obtain ⟨q2, h⟩ := ck_o h
    refine j_icmp_le (tgt := 19) (pc' := 17) dX12_end_14 rfl rfl q1 q2 (fun b2 => ?_) (fun b2 => ?_)
    · replace h := ite_t b2 h
      refine j_aload_n (pc' := 20) dX12_end_19 rfl rfl ?_
      refine j_iload_n (pc' := 21) dX12_end_20 rfl rfl ?_
      refine k_putI (pc' := 24) (sl := 9) (i' := 9) kc_11 w_1486 (by decide) (Or.inl rfl) dX12_end_21 rfl (by decide) sk_133 (by decide) ⟨rfl, rfl⟩ rfl ?_
      refine j_iconst (pc' := 25) dX12_end_24 rfl ?_
      exact j_zret dX12_end_25 rfl (Or.inr rfl) (by decide) (by decide) (rI_of h)
    · replace h := ite_f b2 h
      refine j_iconst (pc' := 18) dX12_end_17 rfl ?_
      exact j_zret dX12_end_18 rfl (Or.inl rfl) (by decide) (by decide) (rI_of h)
theorem c_X12_end {d : Nat} (hd : 1 ≤ d) {x1 : Int} {D D' : mD} {v : Int} (h : F_X12_end x1 D = some (v, D')) : CM d 0 0 M_X12_end [mR 133, mI x1] (SK, D, false) (rI v D') := CM.intro pn_X12 rfl rfl (Nat.le_of_ble_eq_true rfl) (fun _ => c_X12_end_e hd h)
theorem c_X12_isAt_e {Ω : mO} {d : Nat} (hd : 1 ≤ d) {r : Int × mD} {x1 x2 : Int} {D : mD} (h : F_X12_isAt x1 x2 D = some r) : J Ω M_X12_isAt d 0 0 (rI r.1 r.2) 0 [some (mR 133), some (mI x1), some (mI x2)] [] (SK, D, false) 0 0 := by
  rw [F_X12_isAt] at h
  refine j_aload_n (pc' := 1) dX12_isAt_0 rfl rfl ?_
  refine k_getI (pc' := 4) (sl := 10) (z := D 133 10) kc_11 w_1487 (by decide) dX12_isAt_1 rfl (by decide) sk_133 (by decide) rfl rfl ?_
  refine j_aload_n (pc' := 5) dX12_isAt_4 rfl rfl ?_
  refine k_getI (pc' := 8) (sl := 11) (z := D 133 11) kc_11 w_1488 (by decide) dX12_isAt_5 rfl (by decide) sk_133 (by decide) rfl rfl ?_
  obtain ⟨q1, h⟩ := ck_o h
  obtain ⟨q2, h⟩ := ck_o h
  obtain ⟨q3, h⟩ := ck_o h
  obtain ⟨q4, h⟩ := ck_o h
  obtain ⟨q5, h⟩ := ck_o h
  obtain ⟨q6, h⟩ := ck_o h
  have hj : J Ω M_X12_isAt d 0 0 (rI r.1 r.2) 42 [none, none, none] [mI (if (D 133 11) ≤ (D 133 10) then (0 : Int) else (if (D 139 (D 133 10)) < x1 then (0 : Int) else (if x2 < (D 139 (D 133 10)) then (0 : Int) else (1 : Int))))] (SK, D, false) 0 0 := by
    obtain ⟨q7, h⟩ := ck_o h
    exact j_zret dX12_isAt_42 rfl q7 (by decide) (by decide) (rI_of h)
  refine j_icmp_ge (tgt := 41) (pc' := 11) dX12_isAt_8 rfl rfl q1 q2 (fun b1 => ?_) (fun b1 => ?_)
  · refine j_iconst (pc' := 42) dX12_isAt_41 rfl ?_
    have hj := hj
    try simp only [if_pos b1] at hj
    exact j_wk hj (trivial)
  · refine j_aload_n (pc' := 12) dX12_isAt_11 rfl rfl ?_
    refine k_getR (pc' := 15) (sl := 8) (r := 139) kc_11 w_1485 (Or.inl rfl) (by decide) dX12_isAt_12 rfl (by decide) sk_133 (by decide) rfl (by decide) ?_
    refine j_aload_n (pc' := 16) dX12_isAt_15 rfl rfl ?_
    refine k_getI (pc' := 19) (sl := 10) (z := D 133 10) kc_11 w_1487 (by decide) dX12_isAt_16 rfl (by decide) sk_133 (by decide) rfl rfl ?_
    refine k_bald (pc' := 20) (z := D 139 (D 133 10)) dX12_isAt_19 rfl (by decide) sk_139 (by decide) (q3 b1).1 (q3 b1).2 rfl ?_
    refine j_iload_n (pc' := 21) dX12_isAt_20 rfl rfl ?_
    refine j_icmp_lt (tgt := 41) (pc' := 24) dX12_isAt_21 rfl rfl (q4 b1) (q5 b1) (fun b2 => ?_) (fun b2 => ?_)
    · refine j_iconst (pc' := 42) dX12_isAt_41 rfl ?_
      have hj := hj
      try simp only [if_neg b1, if_pos b2] at hj
      exact j_wk hj (trivial)
    · refine j_aload_n (pc' := 25) dX12_isAt_24 rfl rfl ?_
      refine k_getR (pc' := 28) (sl := 8) (r := 139) kc_11 w_1485 (Or.inl rfl) (by decide) dX12_isAt_25 rfl (by decide) sk_133 (by decide) rfl (by decide) ?_
      refine j_aload_n (pc' := 29) dX12_isAt_28 rfl rfl ?_
      refine k_getI (pc' := 32) (sl := 10) (z := D 133 10) kc_11 w_1487 (by decide) dX12_isAt_29 rfl (by decide) sk_133 (by decide) rfl rfl ?_
      refine k_bald (pc' := 33) (z := D 139 (D 133 10)) dX12_isAt_32 rfl (by decide) sk_139 (by decide) (q3 b1).1 (q3 b1).2 rfl ?_
      refine j_iload_n (pc' := 34) dX12_isAt_33 rfl rfl ?_
      refine j_icmp_gt (tgt := 41) (pc' := 37) dX12_isAt_34 rfl rfl (q4 b1) (q6 b1 b2) (fun b3 => ?_) (fun b3 => ?_)
      · refine j_iconst (pc' := 42) dX12_isAt_41 rfl ?_
        have hj := hj
        try simp only [if_neg b1, if_neg b2, if_pos b3] at hj
        exact j_wk hj (trivial)
      · refine j_iconst (pc' := 38) dX12_isAt_37 rfl ?_
        refine j_goto (tgt := 42) dX12_isAt_38 rfl ?_
        have hj := hj
        try simp only [if_neg b1, if_neg b2, if_neg b3] at hj
        exact j_wk hj (trivial)
theorem c_X12_isAt {d : Nat} (hd : 1 ≤ d) {x1 x2 : Int} {D D' : mD} {v : Int} (h : F_X12_isAt x1 x2 D = some (v, D')) : CM d 0 0 M_X12_isAt [mR 133, mI x1, mI x2] (SK, D, false) (rI v D') := CM.intro pn_X12 rfl rfl (Nat.le_of_ble_eq_true rfl) (fun _ => c_X12_isAt_e hd h)
theorem c_X12_blanks_L0 {Ω : mO} {d : Nat} (hd : 2 ≤ d) {r : Int × mD} : ∀ (n : Nat) {D : mD}, F_X12_blanks_L0 n D = some r → J Ω M_X12_blanks d 0 0 (rV r.2) 0 [some (mR 133)] [] (SK, D, false) 0 0 := by
  intro n
  induction n with
  | zero => intro D h; exact absurd (show (none : Option (Int × mD)) = some r from h) nofun
  | succ n ih =>
    intro D h
    rw [F_X12_blanks_L0] at h
    refine j_aload_n (pc' := 1) dX12_blanks_0 rfl rfl ?_
    refine j_bipush (pc' := 3) dX12_blanks_1 rfl rfl ?_
    refine j_bipush (pc' := 5) dX12_blanks_3 rfl rfl ?_
    obtain ⟨v1, D1, e1, h⟩ := bI_o h
    refine k_cV (d' := 1) (pc' := 8) [mI 32, mI 32] [] (c_X12_isAt (d := 1) (Nat.le_refl _) e1) cw_X12_110 kc_11 w_1604 ws_46 dX12_blanks_5 rfl (by omega) rfl rfl (by decide) sk_133 rfl rfl (by decide) (by decide) ?_
    obtain ⟨q1, h⟩ := ck_o h
    refine j_if_eq (tgt := 24) (pc' := 11) dX12_blanks_8 rfl rfl q1 (fun b1 => ?_) (fun b1 => ?_)
    · replace h := ite_t b1 h
      refine j_aload_n (pc' := 25) dX12_blanks_24 rfl rfl ?_
      refine j_aload_n (pc' := 26) dX12_blanks_25 rfl rfl ?_
      refine k_getI (pc' := 29) (sl := 10) (z := D1 133 10) kc_11 w_1487 (by decide) dX12_blanks_26 rfl (by decide) sk_133 (by decide) rfl rfl ?_
      refine k_putI (pc' := 32) (sl := 12) (i' := 12) kc_11 w_1489 (by decide) (Or.inl rfl) dX12_blanks_29 rfl (by decide) sk_133 (by decide) ⟨rfl, rfl⟩ rfl ?_
      exact j_vret dX12_blanks_32 rfl (by decide) (by decide) (rV_of h)
    · replace h := ite_f b1 h
      refine j_aload_n (pc' := 12) dX12_blanks_11 rfl rfl ?_
      refine j_dup (pc' := 13) dX12_blanks_12 rfl rfl ?_
      refine k_getI (pc' := 16) (sl := 10) (z := D1 133 10) kc_11 w_1487 (by decide) dX12_blanks_13 rfl (by decide) sk_133 (by decide) rfl rfl ?_
      refine j_iconst (pc' := 17) dX12_blanks_16 rfl ?_
      refine j_iadd (pc' := 18) dX12_blanks_17 rfl ?_
      refine k_putI (pc' := 21) (sl := 10) (i' := 10) kc_11 w_1487 (by decide) (Or.inl rfl) dX12_blanks_18 rfl (by decide) sk_133 (by decide) ⟨rfl, rfl⟩ rfl ?_
      refine j_goto (tgt := 0) dX12_blanks_21 rfl ?_
      exact j_wk (j_widen (ce := 0) (ke := 0) (by decide) (by decide) (ih h)) (And.intro rfl trivial)
theorem c_X12_blanks_e {Ω : mO} {d : Nat} (hd : 2 ≤ d) {r : Int × mD} {D : mD} (h : F_X12_blanks D = some r) : J Ω M_X12_blanks d 0 0 (rV r.2) 0 [some (mR 133)] [] (SK, D, false) 0 0 := by
  rw [F_X12_blanks] at h
  exact j_wk (j_widen (ce := 0) (ke := 0) (by decide) (by decide) (c_X12_blanks_L0 hd _ h)) (And.intro rfl trivial)
theorem c_X12_blanks {d : Nat} (hd : 2 ≤ d) {D D' : mD} {v : Int} (h : F_X12_blanks D = some (v, D')) : CM d 0 0 M_X12_blanks [mR 133] (SK, D, false) (rV D') := CM.intro pn_X12 rfl rfl (Nat.le_of_ble_eq_true rfl) (fun _ => c_X12_blanks_e hd h)
theorem c_X12_lettersPass_L4 {Ω : mO} {d : Nat} (hd : 3 ≤ d) {r : Int × mD} : ∀ (n : Nat) {D : mD}, F_X12_lettersPass_L4 n D = some r → J Ω M_X12_lettersPass d 0 0 (rV r.2) 4 [some (mR 133)] [] (SK, D, false) 0 0 := by
  intro n
  induction n with
  | zero => intro D h; exact absurd (show (none : Option (Int × mD)) = some r from h) nofun
  | succ n ih =>
    intro D h
    rw [F_X12_lettersPass_L4] at h
    refine j_aload_n (pc' := 5) dX12_lettersPass_4 rfl rfl ?_
    refine j_bipush (pc' := 7) dX12_lettersPass_5 rfl rfl ?_
    refine j_bipush (pc' := 9) dX12_lettersPass_7 rfl rfl ?_
    obtain ⟨v1, D1, e1, h⟩ := bI_o h
    refine k_cV (d' := 1) (pc' := 12) [mI 97, mI 122] [] (c_X12_isAt (d := 1) (Nat.le_refl _) e1) cw_X12_110 kc_11 w_1604 ws_46 dX12_lettersPass_9 rfl (by omega) rfl rfl (by decide) sk_133 rfl rfl (by decide) (by decide) ?_
    obtain ⟨q1, h⟩ := ck_o h
    refine j_if_eq (tgt := 28) (pc' := 15) dX12_lettersPass_12 rfl rfl q1 (fun b1 => ?_) (fun b1 => ?_)
    · replace h := ite_t b1 h
      exact j_vret dX12_lettersPass_28 rfl (by decide) (by decide) (rV_of h)
    · replace h := ite_f b1 h
      refine j_aload_n (pc' := 16) dX12_lettersPass_15 rfl rfl ?_
      refine j_dup (pc' := 17) dX12_lettersPass_16 rfl rfl ?_
      refine k_getI (pc' := 20) (sl := 10) (z := D1 133 10) kc_11 w_1487 (by decide) dX12_lettersPass_17 rfl (by decide) sk_133 (by decide) rfl rfl ?_
      refine j_iconst (pc' := 21) dX12_lettersPass_20 rfl ?_
      refine j_iadd (pc' := 22) dX12_lettersPass_21 rfl ?_
      refine k_putI (pc' := 25) (sl := 10) (i' := 10) kc_11 w_1487 (by decide) (Or.inl rfl) dX12_lettersPass_22 rfl (by decide) sk_133 (by decide) ⟨rfl, rfl⟩ rfl ?_
      refine j_goto (tgt := 4) dX12_lettersPass_25 rfl ?_
      exact j_wk (j_widen (ce := 0) (ke := 0) (by decide) (by decide) (ih h)) (And.intro rfl trivial)
theorem c_X12_lettersPass_e {Ω : mO} {d : Nat} (hd : 3 ≤ d) {r : Int × mD} {D : mD} (h : F_X12_lettersPass D = some r) : J Ω M_X12_lettersPass d 0 0 (rV r.2) 0 [some (mR 133)] [] (SK, D, false) 0 0 := by
  rw [F_X12_lettersPass] at h
  refine j_aload_n (pc' := 1) dX12_lettersPass_0 rfl rfl ?_
  obtain ⟨v1, D1, e1, h⟩ := bI_o h
  refine k_cVv (d' := 2) (pc' := 4) [] [] (c_X12_blanks (d := 2) (Nat.le_refl _) e1) cw_X12_117 kc_11 w_1600 ws_45 dX12_lettersPass_1 rfl (by omega) rfl rfl (by decide) sk_133 rfl rfl (by decide) (by decide) ?_
  exact j_wk (j_widen (ce := 0) (ke := 0) (by decide) (by decide) (c_X12_lettersPass_L4 hd _ h)) (And.intro rfl trivial)
theorem c_X12_lettersPass {d : Nat} (hd : 3 ≤ d) {D D' : mD} {v : Int} (h : F_X12_lettersPass D = some (v, D')) : CM d 0 0 M_X12_lettersPass [mR 133] (SK, D, false) (rV D') := CM.intro pn_X12 rfl rfl (Nat.le_of_ble_eq_true rfl) (fun _ => c_X12_lettersPass_e hd h)
theorem c_X12_isWord_L24 {Ω : mO} {d : Nat} (hd : 6 ≤ d) {s1_ : Nat} (hs1 : s1_ < 81) {r : Int × mD} : ∀ (n : Nat) {x2 x3 : Int} {D : mD}, F_X12_isWord_L24 s1_ n x2 x3 D = some r → J Ω M_X12_isWord d 0 0 (rI r.1 r.2) 24 [some (mR 133), some (mR (1000000 + s1_)), some (mI x2), some (mI x3)] [] (SK, D, false) 0 0 := by
  intro n
  induction n with
  | zero => intro x2 x3 D h; exact absurd (show (none : Option (Int × mD)) = some r from h) nofun
  | succ n ih =>
    intro x2 x3 D h
    rw [F_X12_isWord_L24] at h
    refine j_iload_n (pc' := 25) dX12_isWord_24 rfl rfl ?_
    obtain ⟨q1, h⟩ := ck_o h
    refine j_if_eq (tgt := 67) (pc' := 28) dX12_isWord_25 rfl rfl q1 (fun b1 => ?_) (fun b1 => ?_)
    · replace h := ite_t b1 h
      refine j_iload_n (pc' := 68) dX12_isWord_67 rfl rfl ?_
      obtain ⟨q2, h⟩ := ck_o h
      exact j_zret dX12_isWord_68 rfl q2 (by decide) (by decide) (rI_of h)
    · replace h := ite_f b1 h
      refine j_iload_n (pc' := 29) dX12_isWord_28 rfl rfl ?_
      refine j_aload_n (pc' := 30) dX12_isWord_29 rfl rfl ?_
      refine k_strlen (pc' := 33) hs1 cw_X12_120 dX12_isWord_30 rfl (by omega) rfl rfl (by decide) (by decide) ?_
      obtain ⟨q3, h⟩ := ck_o h
      obtain ⟨q4, h⟩ := ck_o h
      refine j_icmp_ge (tgt := 67) (pc' := 36) dX12_isWord_33 rfl rfl q3 q4 (fun b2 => ?_) (fun b2 => ?_)
      · replace h := ite_t b2 h
        refine j_iload_n (pc' := 68) dX12_isWord_67 rfl rfl ?_
        obtain ⟨q5, h⟩ := ck_o h
        exact j_zret dX12_isWord_68 rfl q5 (by decide) (by decide) (rI_of h)
      · replace h := ite_f b2 h
        refine j_aload_n (pc' := 37) dX12_isWord_36 rfl rfl ?_
        refine k_getR (pc' := 40) (sl := 8) (r := 139) kc_11 w_1485 (Or.inl rfl) (by decide) dX12_isWord_37 rfl (by decide) sk_133 (by decide) rfl (by decide) ?_
        refine j_aload_n (pc' := 41) dX12_isWord_40 rfl rfl ?_
        refine k_getI (pc' := 44) (sl := 12) (z := D 133 12) kc_11 w_1489 (by decide) dX12_isWord_41 rfl (by decide) sk_133 (by decide) rfl rfl ?_
        refine j_iload_n (pc' := 45) dX12_isWord_44 rfl rfl ?_
        refine j_iadd (pc' := 46) dX12_isWord_45 rfl ?_
        obtain ⟨q6, h⟩ := ck_o h
        refine k_bald (pc' := 47) (z := D 139 ((D 133 12) + x3)) dX12_isWord_46 rfl (by decide) sk_139 (by decide) q6.1 q6.2 rfl ?_
        refine j_aload_n (pc' := 48) dX12_isWord_47 rfl rfl ?_
        refine j_iload_n (pc' := 49) dX12_isWord_48 rfl rfl ?_
        obtain ⟨q7, h⟩ := ck_o h
        refine k_strchr (pc' := 52) hs1 q7.1 q7.2 cw_X12_125 dX12_isWord_49 rfl (by omega) rfl rfl (by decide) (by decide) ?_
        obtain ⟨q8, h⟩ := ck_o h
        obtain ⟨q9, h⟩ := ck_o h
        have hj : J Ω M_X12_isWord d 0 0 (rI r.1 r.2) 60 [some (mR 133), some (mR (1000000 + s1_)), none, some (mI x3)] [mI (if (D 139 ((D 133 12) + x3)) = (sAt s1_ x3) then (1 : Int) else (0 : Int))] (SK, D, false) 0 0 := by
          refine j_istore_n (pc' := 61) (ls' := [some (mR 133), some (mR (1000000 + s1_)), some (mI (if (D 139 ((D 133 12) + x3)) = (sAt s1_ x3) then (1 : Int) else (0 : Int))), some (mI x3)]) dX12_isWord_60 rfl (by decide) rfl ?_
          refine j_iinc (pc' := 64) (z' := (x3 + 1)) (ls' := [some (mR 133), some (mR (1000000 + s1_)), some (mI (if (D 139 ((D 133 12) + x3)) = (sAt s1_ x3) then (1 : Int) else (0 : Int))), some (mI (x3 + 1))]) dX12_isWord_61 rfl rfl rfl (by decide) rfl ?_
          refine j_goto (tgt := 24) dX12_isWord_64 rfl ?_
          exact j_wk (j_widen (ce := 0) (ke := 0) (by decide) (by decide) (ih h)) (And.intro rfl (And.intro rfl (And.intro rfl (And.intro rfl trivial))))
        refine j_icmp_ne (tgt := 59) (pc' := 55) dX12_isWord_52 rfl rfl q8 q9 (fun b3 => ?_) (fun b3 => ?_)
        · refine j_iconst (pc' := 60) dX12_isWord_59 rfl ?_
          have hj := hj
          try simp only [if_neg b3] at hj
          exact j_wk hj (And.intro rfl (And.intro rfl (And.intro rfl trivial)))
        · refine j_iconst (pc' := 56) dX12_isWord_55 rfl ?_
          refine j_goto (tgt := 60) dX12_isWord_56 rfl ?_
          have hj := hj
          try simp only [if_pos b3] at hj
          exact j_wk hj (And.intro rfl (And.intro rfl (And.intro rfl trivial)))
theorem c_X12_isWord_e {Ω : mO} {d : Nat} (hd : 6 ≤ d) {s1_ : Nat} (hs1 : s1_ < 81) {r : Int × mD} {D : mD} (h : F_X12_isWord s1_ D = some r) : J Ω M_X12_isWord d 0 0 (rI r.1 r.2) 0 [some (mR 133), some (mR (1000000 + s1_)), none, none] [] (SK, D, false) 0 0 := by
  rw [F_X12_isWord] at h
  refine j_aload_n (pc' := 1) dX12_isWord_0 rfl rfl ?_
  refine k_getI (pc' := 4) (sl := 10) (z := D 133 10) kc_11 w_1487 (by decide) dX12_isWord_1 rfl (by decide) sk_133 (by decide) rfl rfl ?_
  refine j_aload_n (pc' := 5) dX12_isWord_4 rfl rfl ?_
  refine k_getI (pc' := 8) (sl := 12) (z := D 133 12) kc_11 w_1489 (by decide) dX12_isWord_5 rfl (by decide) sk_133 (by decide) rfl rfl ?_
  refine j_isub (pc' := 9) dX12_isWord_8 rfl ?_
  refine j_aload_n (pc' := 10) dX12_isWord_9 rfl rfl ?_
  refine k_strlen (pc' := 13) hs1 cw_X12_120 dX12_isWord_10 rfl (by omega) rfl rfl (by decide) (by decide) ?_
  obtain ⟨q1, h⟩ := ck_o h
  obtain ⟨q2, h⟩ := ck_o h
  have hj : J Ω M_X12_isWord d 0 0 (rI r.1 r.2) 21 [some (mR 133), some (mR (1000000 + s1_)), none, none] [mI (if ((D 133 10) - (D 133 12)) = (sLen s1_) then (1 : Int) else (0 : Int))] (SK, D, false) 0 0 := by
    refine j_istore_n (pc' := 22) (ls' := [some (mR 133), some (mR (1000000 + s1_)), some (mI (if ((D 133 10) - (D 133 12)) = (sLen s1_) then (1 : Int) else (0 : Int))), none]) dX12_isWord_21 rfl (by decide) rfl ?_
    refine j_iconst (pc' := 23) dX12_isWord_22 rfl ?_
    refine j_istore_n (pc' := 24) (ls' := [some (mR 133), some (mR (1000000 + s1_)), some (mI (if ((D 133 10) - (D 133 12)) = (sLen s1_) then (1 : Int) else (0 : Int))), some (mI 0)]) dX12_isWord_23 rfl (by decide) rfl ?_
    exact j_wk (j_widen (ce := 0) (ke := 0) (by decide) (by decide) (c_X12_isWord_L24 hd hs1 _ h)) (And.intro rfl (And.intro rfl (And.intro rfl (And.intro rfl trivial))))
  refine j_icmp_ne (tgt := 20) (pc' := 16) dX12_isWord_13 rfl rfl q1 q2 (fun b1 => ?_) (fun b1 => ?_)
  · refine j_iconst (pc' := 21) dX12_isWord_20 rfl ?_
    have hj := hj
    try simp only [if_neg b1] at hj
    exact j_wk hj (And.intro rfl (And.intro rfl trivial))
  · refine j_iconst (pc' := 17) dX12_isWord_16 rfl ?_
    refine j_goto (tgt := 21) dX12_isWord_17 rfl ?_
    have hj := hj
    try simp only [if_pos b1] at hj
    exact j_wk hj (And.intro rfl (And.intro rfl trivial))
theorem c_X12_isWord {d : Nat} (hd : 6 ≤ d) {s1_ : Nat} (hs1 : s1_ < 81) {D D' : mD} {v : Int} (h : F_X12_isWord s1_ D = some (v, D')) : CM d 0 0 M_X12_isWord [mR 133, mR (1000000 + s1_)] (SK, D, false) (rI v D') := CM.intro pn_X12 rfl rfl (Nat.le_of_ble_eq_true rfl) (fun _ => c_X12_isWord_e hd hs1 h)
theorem c_X12_passes_e {Ω : mO} {d : Nat} (hd : 7 ≤ d) {s1_ : Nat} (hs1 : s1_ < 81) {r : Int × mD} {D : mD} (h : F_X12_passes s1_ D = some r) : J Ω M_X12_passes d 0 0 (rI r.1 r.2) 0 [some (mR 133), some (mR (1000000 + s1_))] [] (SK, D, false) 0 0 := by
  rw [F_X12_passes] at h
  refine j_aload_n (pc' := 1) dX12_passes_0 rfl rfl ?_
  obtain ⟨v1, D1, e1, h⟩ := bI_o h
  refine k_cVv (d' := 3) (pc' := 4) [] [] (c_X12_lettersPass (d := 3) (Nat.le_refl _) e1) cw_X12_129 kc_11 w_1612 ws_48 dX12_passes_1 rfl (by omega) rfl rfl (by decide) sk_133 rfl rfl (by decide) (by decide) ?_
  refine j_aload_n (pc' := 5) dX12_passes_4 rfl rfl ?_
  refine j_aload_n (pc' := 6) dX12_passes_5 rfl rfl ?_
  obtain ⟨v2, D2, e2, h⟩ := bI_o h
  refine k_cV (d' := 6) (pc' := 9) [mR (1000000 + s1_)] [] (c_X12_isWord (d := 6) (Nat.le_refl _) hs1 e2) cw_X12_132 kc_11 w_1621 ws_50 dX12_passes_6 rfl (by omega) rfl rfl (by decide) sk_133 rfl rfl (by decide) (by decide) ?_
  obtain ⟨q1, h⟩ := ck_o h
  refine j_if_eq (tgt := 14) (pc' := 12) dX12_passes_9 rfl rfl q1 (fun b1 => ?_) (fun b1 => ?_)
  · replace h := ite_t b1 h
    refine j_aload_n (pc' := 15) dX12_passes_14 rfl rfl ?_
    refine j_aload_n (pc' := 16) dX12_passes_15 rfl rfl ?_
    refine k_getI (pc' := 19) (sl := 12) (z := D2 133 12) kc_11 w_1489 (by decide) dX12_passes_16 rfl (by decide) sk_133 (by decide) rfl rfl ?_
    refine k_putI (pc' := 22) (sl := 10) (i' := 10) kc_11 w_1487 (by decide) (Or.inl rfl) dX12_passes_19 rfl (by decide) sk_133 (by decide) ⟨rfl, rfl⟩ rfl ?_
    refine j_iconst (pc' := 23) dX12_passes_22 rfl ?_
    exact j_zret dX12_passes_23 rfl (Or.inl rfl) (by decide) (by decide) (rI_of h)
  · replace h := ite_f b1 h
    refine j_iconst (pc' := 13) dX12_passes_12 rfl ?_
    exact j_zret dX12_passes_13 rfl (Or.inr rfl) (by decide) (by decide) (rI_of h)
theorem c_X12_passes {d : Nat} (hd : 7 ≤ d) {s1_ : Nat} (hs1 : s1_ < 81) {D D' : mD} {v : Int} (h : F_X12_passes s1_ D = some (v, D')) : CM d 0 0 M_X12_passes [mR 133, mR (1000000 + s1_)] (SK, D, false) (rI v D') := CM.intro pn_X12 rfl rfl (Nat.le_of_ble_eq_true rfl) (fun _ => c_X12_passes_e hd hs1 h)
theorem c_X12_isSign_e {Ω : mO} {d : Nat} (hd : 3 ≤ d) {r : Int × mD} {x1 : Int} {D : mD} (h : F_X12_isSign x1 D = some r) : J Ω M_X12_isSign d 0 0 (rI r.1 r.2) 0 [some (mR 133), some (mI x1)] [] (SK, D, false) 0 0 := by
  rw [F_X12_isSign] at h
  refine j_aload_n (pc' := 1) dX12_isSign_0 rfl rfl ?_
  obtain ⟨v1, D1, e1, h⟩ := bI_o h
  refine k_cVv (d' := 2) (pc' := 4) [] [] (c_X12_blanks (d := 2) (Nat.le_refl _) e1) cw_X12_117 kc_11 w_1600 ws_45 dX12_isSign_1 rfl (by omega) rfl rfl (by decide) sk_133 rfl rfl (by decide) (by decide) ?_
  refine j_aload_n (pc' := 5) dX12_isSign_4 rfl rfl ?_
  refine j_iload_n (pc' := 6) dX12_isSign_5 rfl rfl ?_
  refine j_iload_n (pc' := 7) dX12_isSign_6 rfl rfl ?_
  obtain ⟨v2, D2, e2, h⟩ := bI_o h
  refine k_cV (d' := 1) (pc' := 10) [mI x1, mI x1] [] (c_X12_isAt (d := 1) (Nat.le_refl _) e2) cw_X12_110 kc_11 w_1604 ws_46 dX12_isSign_7 rfl (by omega) rfl rfl (by decide) sk_133 rfl rfl (by decide) (by decide) ?_
  obtain ⟨q1, h⟩ := ck_o h
  refine j_if_ne (tgt := 15) (pc' := 13) dX12_isSign_10 rfl rfl q1 (fun b1 => ?_) (fun b1 => ?_)
  · replace h := ite_f b1 h
    refine j_aload_n (pc' := 16) dX12_isSign_15 rfl rfl ?_
    refine j_dup (pc' := 17) dX12_isSign_16 rfl rfl ?_
    refine k_getI (pc' := 20) (sl := 10) (z := D2 133 10) kc_11 w_1487 (by decide) dX12_isSign_17 rfl (by decide) sk_133 (by decide) rfl rfl ?_
    refine j_iconst (pc' := 21) dX12_isSign_20 rfl ?_
    refine j_iadd (pc' := 22) dX12_isSign_21 rfl ?_
    refine k_putI (pc' := 25) (sl := 10) (i' := 10) kc_11 w_1487 (by decide) (Or.inl rfl) dX12_isSign_22 rfl (by decide) sk_133 (by decide) ⟨rfl, rfl⟩ rfl ?_
    refine j_iconst (pc' := 26) dX12_isSign_25 rfl ?_
    exact j_zret dX12_isSign_26 rfl (Or.inr rfl) (by decide) (by decide) (rI_of h)
  · replace h := ite_t b1 h
    refine j_iconst (pc' := 14) dX12_isSign_13 rfl ?_
    exact j_zret dX12_isSign_14 rfl (Or.inl rfl) (by decide) (by decide) (rI_of h)
theorem c_X12_isSign {d : Nat} (hd : 3 ≤ d) {x1 : Int} {D D' : mD} {v : Int} (h : F_X12_isSign x1 D = some (v, D')) : CM d 0 0 M_X12_isSign [mR 133, mI x1] (SK, D, false) (rI v D') := CM.intro pn_X12 rfl rfl (Nat.le_of_ble_eq_true rfl) (fun _ => c_X12_isSign_e hd h)
theorem c_X12_number_j51 {Ω : mO} {d : Nat} (hd : 3 ≤ d) {r : Int × mD} {K6 : Int → mD → RI} {x1 x2 s0 : Int} (hK6 : ∀ {x3 : Int} {D : mD}, K6 x3 D = some r → J Ω M_X12_number d 0 0 (rI r.1 r.2) 6 [some (mR 133), some (mI x1), some (mI x2), some (mI x3)] [] (SK, D, false) 0 0) {D : mD} (h : F_X12_number_j51 K6 x1 x2 s0 D = some r) : J Ω M_X12_number d 0 0 (rI r.1 r.2) 51 [some (mR 133), some (mI x1), some (mI x2), none] [mI s0] (SK, D, false) 0 0 := by
  rw [F_X12_number_j51] at h
  refine j_istore_n (pc' := 52) (ls' := [some (mR 133), some (mI x1), some (mI x2), some (mI s0)]) dX12_number_51 rfl (by decide) rfl ?_
  refine j_aload_n (pc' := 53) dX12_number_52 rfl rfl ?_
  refine j_dup (pc' := 54) dX12_number_53 rfl rfl ?_
  refine k_getI (pc' := 57) (sl := 10) (z := D 133 10) kc_11 w_1487 (by decide) dX12_number_54 rfl (by decide) sk_133 (by decide) rfl rfl ?_
  refine j_iconst (pc' := 58) dX12_number_57 rfl ?_
  refine j_iadd (pc' := 59) dX12_number_58 rfl ?_
  refine k_putI (pc' := 62) (sl := 10) (i' := 10) kc_11 w_1487 (by decide) (Or.inl rfl) dX12_number_59 rfl (by decide) sk_133 (by decide) ⟨rfl, rfl⟩ rfl ?_
  refine j_goto (tgt := 6) dX12_number_62 rfl ?_
  exact j_wk (j_widen (ce := 0) (ke := 0) (by decide) (by decide) (hK6 h)) (And.intro rfl (And.intro rfl (And.intro rfl (And.intro rfl trivial))))
theorem c_X12_number_L6 {Ω : mO} {d : Nat} (hd : 3 ≤ d) {r : Int × mD} {x1 x2 : Int} : ∀ (n : Nat) {x3 : Int} {D : mD}, F_X12_number_L6 x1 x2 n x3 D = some r → J Ω M_X12_number d 0 0 (rI r.1 r.2) 6 [some (mR 133), some (mI x1), some (mI x2), some (mI x3)] [] (SK, D, false) 0 0 := by
  intro n
  induction n with
  | zero => intro x3 D h; exact absurd (show (none : Option (Int × mD)) = some r from h) nofun
  | succ n ih =>
    intro x3 D h
    rw [F_X12_number_L6] at h
    refine j_aload_n (pc' := 7) dX12_number_6 rfl rfl ?_
    refine j_bipush (pc' := 9) dX12_number_7 rfl rfl ?_
    refine j_bipush (pc' := 11) dX12_number_9 rfl rfl ?_
    obtain ⟨v1, D1, e1, h⟩ := bI_o h
    refine k_cV (d' := 1) (pc' := 14) [mI 48, mI 57] [] (c_X12_isAt (d := 1) (Nat.le_refl _) e1) cw_X12_110 kc_11 w_1604 ws_46 dX12_number_11 rfl (by omega) rfl rfl (by decide) sk_133 rfl rfl (by decide) (by decide) ?_
    obtain ⟨q1, h⟩ := ck_o h
    refine j_if_eq (tgt := 65) (pc' := 17) dX12_number_14 rfl rfl q1 (fun b1 => ?_) (fun b1 => ?_)
    · replace h := ite_t b1 h
      refine j_aload_n (pc' := 66) dX12_number_65 rfl rfl ?_
      refine k_getI (pc' := 69) (sl := 10) (z := D1 133 10) kc_11 w_1487 (by decide) dX12_number_66 rfl (by decide) sk_133 (by decide) rfl rfl ?_
      refine j_aload_n (pc' := 70) dX12_number_69 rfl rfl ?_
      refine k_getI (pc' := 73) (sl := 12) (z := D1 133 12) kc_11 w_1489 (by decide) dX12_number_70 rfl (by decide) sk_133 (by decide) rfl rfl ?_
      obtain ⟨q2, h⟩ := ck_o h
      obtain ⟨q3, h⟩ := ck_o h
      obtain ⟨q4, h⟩ := ck_o h
      obtain ⟨q5, h⟩ := ck_o h
      obtain ⟨q6, h⟩ := ck_o h
      obtain ⟨q7, h⟩ := ck_o h
      have hj : J Ω M_X12_number d 0 0 (rI r.1 r.2) 104 [none, none, none, none] [mI (if (D1 133 10) = (D1 133 12) then (-1 : Int) else (if 3 < ((D1 133 10) - (D1 133 12)) then (-1 : Int) else (if x3 < x1 then (-1 : Int) else (if x3 ≤ x2 then x3 else (-1 : Int)))))] (SK, D1, false) 0 0 := by
        exact j_iret dX12_number_104 rfl (by decide) (by decide) (rI_of h)
      refine j_icmp_eq (tgt := 99) (pc' := 76) dX12_number_73 rfl rfl q2 q3 (fun b2 => ?_) (fun b2 => ?_)
      · refine j_iconst (pc' := 100) dX12_number_99 rfl ?_
        refine j_goto (tgt := 104) dX12_number_100 rfl ?_
        have hj := hj
        try simp only [if_pos b2] at hj
        exact j_wk hj (trivial)
      · refine j_aload_n (pc' := 77) dX12_number_76 rfl rfl ?_
        refine k_getI (pc' := 80) (sl := 10) (z := D1 133 10) kc_11 w_1487 (by decide) dX12_number_77 rfl (by decide) sk_133 (by decide) rfl rfl ?_
        refine j_aload_n (pc' := 81) dX12_number_80 rfl rfl ?_
        refine k_getI (pc' := 84) (sl := 12) (z := D1 133 12) kc_11 w_1489 (by decide) dX12_number_81 rfl (by decide) sk_133 (by decide) rfl rfl ?_
        refine j_isub (pc' := 85) dX12_number_84 rfl ?_
        refine j_iconst (pc' := 86) dX12_number_85 rfl ?_
        refine j_icmp_gt (tgt := 99) (pc' := 89) dX12_number_86 rfl rfl (q4 b2) (by decide) (fun b3 => ?_) (fun b3 => ?_)
        · refine j_iconst (pc' := 100) dX12_number_99 rfl ?_
          refine j_goto (tgt := 104) dX12_number_100 rfl ?_
          have hj := hj
          try simp only [if_neg b2, if_pos b3] at hj
          exact j_wk hj (trivial)
        · refine j_iload_n (pc' := 90) dX12_number_89 rfl rfl ?_
          refine j_iload_n (pc' := 91) dX12_number_90 rfl rfl ?_
          refine j_icmp_lt (tgt := 99) (pc' := 94) dX12_number_91 rfl rfl (q5 b2 b3) (q6 b2 b3) (fun b4 => ?_) (fun b4 => ?_)
          · refine j_iconst (pc' := 100) dX12_number_99 rfl ?_
            refine j_goto (tgt := 104) dX12_number_100 rfl ?_
            have hj := hj
            try simp only [if_neg b2, if_neg b3, if_pos b4] at hj
            exact j_wk hj (trivial)
          · refine j_iload_n (pc' := 95) dX12_number_94 rfl rfl ?_
            refine j_iload_n (pc' := 96) dX12_number_95 rfl rfl ?_
            refine j_icmp_le (tgt := 103) (pc' := 99) dX12_number_96 rfl rfl (q5 b2 b3) (q7 b2 b3 b4) (fun b5 => ?_) (fun b5 => ?_)
            · refine j_iload_n (pc' := 104) dX12_number_103 rfl rfl ?_
              have hj := hj
              try simp only [if_neg b2, if_neg b3, if_neg b4, if_pos b5] at hj
              exact j_wk hj (trivial)
            · refine j_iconst (pc' := 100) dX12_number_99 rfl ?_
              refine j_goto (tgt := 104) dX12_number_100 rfl ?_
              have hj := hj
              try simp only [if_neg b2, if_neg b3, if_neg b4, if_neg b5] at hj
              exact j_wk hj (trivial)
    · replace h := ite_f b1 h
      refine j_aload_n (pc' := 18) dX12_number_17 rfl rfl ?_
      refine k_getI (pc' := 21) (sl := 10) (z := D1 133 10) kc_11 w_1487 (by decide) dX12_number_18 rfl (by decide) sk_133 (by decide) rfl rfl ?_
      refine j_aload_n (pc' := 22) dX12_number_21 rfl rfl ?_
      refine k_getI (pc' := 25) (sl := 12) (z := D1 133 12) kc_11 w_1489 (by decide) dX12_number_22 rfl (by decide) sk_133 (by decide) rfl rfl ?_
      refine j_isub (pc' := 26) dX12_number_25 rfl ?_
      refine j_iconst (pc' := 27) dX12_number_26 rfl ?_
      obtain ⟨q8, h⟩ := ck_o h
      obtain ⟨q9, h⟩ := ck_o h
      have hj : J Ω M_X12_number d 0 0 (rI r.1 r.2) 51 [some (mR 133), some (mI x1), some (mI x2), none] [mI (if 3 ≤ ((D1 133 10) - (D1 133 12)) then x3 else (((10 * x3) + (D1 139 (D1 133 10))) - 48))] (SK, D1, false) 0 0 := by
        exact j_wk (j_widen (ce := 0) (ke := 0) (by decide) (by decide) (c_X12_number_j51 hd ih h)) (And.intro rfl (And.intro rfl (And.intro rfl trivial)))
      refine j_icmp_ge (tgt := 50) (pc' := 30) dX12_number_27 rfl rfl q8 (by decide) (fun b6 => ?_) (fun b6 => ?_)
      · refine j_iload_n (pc' := 51) dX12_number_50 rfl rfl ?_
        have hj := hj
        try simp only [if_pos b6] at hj
        exact j_wk hj (And.intro rfl (And.intro rfl (And.intro rfl trivial)))
      · refine j_bipush (pc' := 32) dX12_number_30 rfl rfl ?_
        refine j_iload_n (pc' := 33) dX12_number_32 rfl rfl ?_
        refine j_imul (pc' := 34) dX12_number_33 rfl ?_
        refine j_aload_n (pc' := 35) dX12_number_34 rfl rfl ?_
        refine k_getR (pc' := 38) (sl := 8) (r := 139) kc_11 w_1485 (Or.inl rfl) (by decide) dX12_number_35 rfl (by decide) sk_133 (by decide) rfl (by decide) ?_
        refine j_aload_n (pc' := 39) dX12_number_38 rfl rfl ?_
        refine k_getI (pc' := 42) (sl := 10) (z := D1 133 10) kc_11 w_1487 (by decide) dX12_number_39 rfl (by decide) sk_133 (by decide) rfl rfl ?_
        refine k_bald (pc' := 43) (z := D1 139 (D1 133 10)) dX12_number_42 rfl (by decide) sk_139 (by decide) (q9 b6).1 (q9 b6).2 rfl ?_
        refine j_iadd (pc' := 44) dX12_number_43 rfl ?_
        refine j_bipush (pc' := 46) dX12_number_44 rfl rfl ?_
        refine j_isub (pc' := 47) dX12_number_46 rfl ?_
        refine j_goto (tgt := 51) dX12_number_47 rfl ?_
        have hj := hj
        try simp only [if_neg b6] at hj
        exact j_wk hj (And.intro rfl (And.intro rfl (And.intro rfl trivial)))
theorem c_X12_number_e {Ω : mO} {d : Nat} (hd : 3 ≤ d) {r : Int × mD} {x1 x2 : Int} {D : mD} (h : F_X12_number x1 x2 D = some r) : J Ω M_X12_number d 0 0 (rI r.1 r.2) 0 [some (mR 133), some (mI x1), some (mI x2), none] [] (SK, D, false) 0 0 := by
  rw [F_X12_number] at h
  refine j_aload_n (pc' := 1) dX12_number_0 rfl rfl ?_
  obtain ⟨v1, D1, e1, h⟩ := bI_o h
  refine k_cVv (d' := 2) (pc' := 4) [] [] (c_X12_blanks (d := 2) (Nat.le_refl _) e1) cw_X12_117 kc_11 w_1600 ws_45 dX12_number_1 rfl (by omega) rfl rfl (by decide) sk_133 rfl rfl (by decide) (by decide) ?_
  refine j_iconst (pc' := 5) dX12_number_4 rfl ?_
  refine j_istore_n (pc' := 6) (ls' := [some (mR 133), some (mI x1), some (mI x2), some (mI 0)]) dX12_number_5 rfl (by decide) rfl ?_
  exact j_wk (j_widen (ce := 0) (ke := 0) (by decide) (by decide) (c_X12_number_L6 hd _ h)) (And.intro rfl (And.intro rfl (And.intro rfl (And.intro rfl trivial))))
theorem c_X12_number {d : Nat} (hd : 3 ≤ d) {x1 x2 : Int} {D D' : mD} {v : Int} (h : F_X12_number x1 x2 D = some (v, D')) : CM d 0 0 M_X12_number [mR 133, mI x1, mI x2] (SK, D, false) (rI v D') := CM.intro pn_X12 rfl rfl (Nat.le_of_ble_eq_true rfl) (fun _ => c_X12_number_e hd h)
theorem c_X12_after_e {Ω : mO} {d : Nat} (hd : 7 ≤ d) {s1_ : Nat} (hs1 : s1_ < 81) {r : Int × mD} {x2 x3 : Int} {D : mD} (h : F_X12_after s1_ x2 x3 D = some r) : J Ω M_X12_after d 0 0 (rI r.1 r.2) 0 [some (mR 133), some (mR (1000000 + s1_)), some (mI x2), some (mI x3)] [] (SK, D, false) 0 0 := by
  rw [F_X12_after] at h
  refine j_aload_n (pc' := 1) dX12_after_0 rfl rfl ?_
  obtain ⟨v1, D1, e1, h⟩ := bI_o h
  refine k_cVv (d' := 3) (pc' := 4) [] [] (c_X12_lettersPass (d := 3) (Nat.le_refl _) e1) cw_X12_129 kc_11 w_1612 ws_48 dX12_after_1 rfl (by omega) rfl rfl (by decide) sk_133 rfl rfl (by decide) (by decide) ?_
  refine j_aload_n (pc' := 5) dX12_after_4 rfl rfl ?_
  refine j_aload_n (pc' := 6) dX12_after_5 rfl rfl ?_
  obtain ⟨v2, D2, e2, h⟩ := bI_o h
  refine k_cV (d' := 6) (pc' := 9) [mR (1000000 + s1_)] [] (c_X12_isWord (d := 6) (Nat.le_refl _) hs1 e2) cw_X12_132 kc_11 w_1621 ws_50 dX12_after_6 rfl (by omega) rfl rfl (by decide) sk_133 rfl rfl (by decide) (by decide) ?_
  obtain ⟨q1, h⟩ := ck_o h
  refine j_if_eq (tgt := 21) (pc' := 12) dX12_after_9 rfl rfl q1 (fun b1 => ?_) (fun b1 => ?_)
  · replace h := ite_t b1 h
    refine j_iconst (pc' := 22) dX12_after_21 rfl ?_
    exact j_iret dX12_after_22 rfl (by decide) (by decide) (rI_of h)
  · replace h := ite_f b1 h
    refine j_aload_n (pc' := 13) dX12_after_12 rfl rfl ?_
    refine j_iload_n (pc' := 14) dX12_after_13 rfl rfl ?_
    refine j_iload_n (pc' := 15) dX12_after_14 rfl rfl ?_
    obtain ⟨v3, D3, e3, h⟩ := bI_o h
    refine k_cV (d' := 3) (pc' := 18) [mI x2, mI x3] [] (c_X12_number (d := 3) (Nat.le_refl _) e3) cw_X12_136 kc_11 w_1648 ws_55 dX12_after_15 rfl (by omega) rfl rfl (by decide) sk_133 rfl rfl (by decide) (by decide) ?_
    refine j_goto (tgt := 22) dX12_after_18 rfl ?_
    exact j_iret dX12_after_22 rfl (by decide) (by decide) (rI_of h)
theorem c_X12_after {d : Nat} (hd : 7 ≤ d) {s1_ : Nat} (hs1 : s1_ < 81) {x2 x3 : Int} {D D' : mD} {v : Int} (h : F_X12_after s1_ x2 x3 D = some (v, D')) : CM d 0 0 M_X12_after [mR 133, mR (1000000 + s1_), mI x2, mI x3] (SK, D, false) (rI v D') := CM.intro pn_X12 rfl rfl (Nat.le_of_ble_eq_true rfl) (fun _ => c_X12_after_e hd hs1 h)
theorem c_X12_isFigure_e {Ω : mO} {d : Nat} (hd : 3 ≤ d) {r : Int × mD} {D : mD} (h : F_X12_isFigure D = some r) : J Ω M_X12_isFigure d 0 0 (rI r.1 r.2) 0 [some (mR 133)] [] (SK, D, false) 0 0 := by
  rw [F_X12_isFigure] at h
  refine j_aload_n (pc' := 1) dX12_isFigure_0 rfl rfl ?_
  obtain ⟨v1, D1, e1, h⟩ := bI_o h
  refine k_cVv (d' := 2) (pc' := 4) [] [] (c_X12_blanks (d := 2) (Nat.le_refl _) e1) cw_X12_117 kc_11 w_1600 ws_45 dX12_isFigure_1 rfl (by omega) rfl rfl (by decide) sk_133 rfl rfl (by decide) (by decide) ?_
  refine j_aload_n (pc' := 5) dX12_isFigure_4 rfl rfl ?_
  refine j_bipush (pc' := 7) dX12_isFigure_5 rfl rfl ?_
  refine j_bipush (pc' := 9) dX12_isFigure_7 rfl rfl ?_
  obtain ⟨v2, D2, e2, h⟩ := bI_o h
  refine k_cV (d' := 1) (pc' := 12) [mI 48, mI 57] [] (c_X12_isAt (d := 1) (Nat.le_refl _) e2) cw_X12_110 kc_11 w_1604 ws_46 dX12_isFigure_9 rfl (by omega) rfl rfl (by decide) sk_133 rfl rfl (by decide) (by decide) ?_
  obtain ⟨q1, h⟩ := ck_o h
  exact j_zret dX12_isFigure_12 rfl q1 (by decide) (by decide) (rI_of h)
theorem c_X12_isFigure {d : Nat} (hd : 3 ≤ d) {D D' : mD} {v : Int} (h : F_X12_isFigure D = some (v, D')) : CM d 0 0 M_X12_isFigure [mR 133] (SK, D, false) (rI v D') := CM.intro pn_X12 rfl rfl (Nat.le_of_ble_eq_true rfl) (fun _ => c_X12_isFigure_e hd h)
theorem c_X12_fault_e {Ω : mO} {d : Nat} (hd : 1 ≤ d) {r : Int × mD} {D : mD} (h : F_X12_fault D = some r) : J Ω M_X12_fault d 0 0 (rI r.1 r.2) 0 [some (mR 133)] [] (SK, D, false) 0 0 := by
  rw [F_X12_fault] at h
  refine j_aload_n (pc' := 1) dX12_fault_0 rfl rfl ?_
  refine j_iconst (pc' := 2) dX12_fault_1 rfl ?_
  refine k_putI (pc' := 5) (sl := 0) (i' := 0) kc_11 w_1477 (by decide) (Or.inl rfl) dX12_fault_2 rfl (by decide) sk_133 (by decide) ⟨rfl, rfl⟩ rfl ?_
  refine j_aload_n (pc' := 6) dX12_fault_5 rfl rfl ?_
  refine k_getI (pc' := 9) (sl := 14) (z := (pD D 133 0 0) 133 14) kc_11 w_1491 (by decide) dX12_fault_6 rfl (by decide) sk_133 (by decide) rfl rfl ?_
  exact j_iret dX12_fault_9 rfl (by decide) (by decide) (rI_of h)
theorem c_X12_fault {d : Nat} (hd : 1 ≤ d) {D D' : mD} {v : Int} (h : F_X12_fault D = some (v, D')) : CM d 0 0 M_X12_fault [mR 133] (SK, D, false) (rI v D') := CM.intro pn_X12 rfl rfl (Nat.le_of_ble_eq_true rfl) (fun _ => c_X12_fault_e hd h)
theorem c_X12_uses_e {Ω : mO} {d : Nat} (hd : 1 ≤ d) {r : Int × mD} {D : mD} (h : F_X12_uses D = some r) : J Ω M_X12_uses d 0 0 (rV r.2) 0 [some (mR 133)] [] (SK, D, false) 0 0 := by
  rw [F_X12_uses] at h
  refine j_aload_n (pc' := 1) dX12_uses_0 rfl rfl ?_
  refine j_iconst (pc' := 2) dX12_uses_1 rfl ?_
  refine k_putI (pc' := 5) (sl := 0) (i' := 0) kc_11 w_1477 (by decide) (Or.inl rfl) dX12_uses_2 rfl (by decide) sk_133 (by decide) ⟨rfl, rfl⟩ rfl ?_
  refine j_aload_n (pc' := 6) dX12_uses_5 rfl rfl ?_
  refine j_aload_n (pc' := 7) dX12_uses_6 rfl rfl ?_
  refine k_getI (pc' := 10) (sl := 9) (z := (pD D 133 0 0) 133 9) kc_11 w_1486 (by decide) dX12_uses_7 rfl (by decide) sk_133 (by decide) rfl rfl ?_
  refine k_putI (pc' := 13) (sl := 11) (i' := 11) kc_11 w_1488 (by decide) (Or.inl rfl) dX12_uses_10 rfl (by decide) sk_133 (by decide) ⟨rfl, rfl⟩ rfl ?_
  refine j_aload_n (pc' := 14) dX12_uses_13 rfl rfl ?_
  refine j_iconst (pc' := 15) dX12_uses_14 rfl ?_
  refine k_putI (pc' := 18) (sl := 9) (i' := 9) kc_11 w_1486 (by decide) (Or.inl rfl) dX12_uses_15 rfl (by decide) sk_133 (by decide) ⟨rfl, rfl⟩ rfl ?_
  refine j_aload_n (pc' := 19) dX12_uses_18 rfl rfl ?_
  refine j_iconst (pc' := 20) dX12_uses_19 rfl ?_
  refine k_putI (pc' := 23) (sl := 10) (i' := 10) kc_11 w_1487 (by decide) (Or.inl rfl) dX12_uses_20 rfl (by decide) sk_133 (by decide) ⟨rfl, rfl⟩ rfl ?_
  exact j_vret dX12_uses_23 rfl (by decide) (by decide) (rV_of h)
theorem c_X12_uses {d : Nat} (hd : 1 ≤ d) {D D' : mD} {v : Int} (h : F_X12_uses D = some (v, D')) : CM d 0 0 M_X12_uses [mR 133] (SK, D, false) (rV D') := CM.intro pn_X12 rfl rfl (Nat.le_of_ble_eq_true rfl) (fun _ => c_X12_uses_e hd h)
theorem c_X12_sortTold_e {Ω : mO} {d : Nat} (hd : 7 ≤ d) {r : Int × mD} {D : mD} (h : F_X12_sortTold D = some r) : J Ω M_X12_sortTold d 0 0 (rI r.1 r.2) 0 [some (mR 133)] [] (SK, D, false) 0 0 := by
  rw [F_X12_sortTold] at h
  refine j_aload_n (pc' := 1) dX12_sortTold_0 rfl rfl ?_
  refine j_ldcS (pc' := 3) (si := 55) rfl dX12_sortTold_1 rfl ?_
  obtain ⟨v1, D1, e1, h⟩ := bI_o h
  refine k_cV (d' := 6) (pc' := 6) [mR (1000000 + 55)] [] (c_X12_isWord (d := 6) (Nat.le_refl _) ((by decide)) e1) cw_X12_132 kc_11 w_1621 ws_50 dX12_sortTold_3 rfl (by omega) rfl rfl (by decide) sk_133 rfl rfl (by decide) (by decide) ?_
  obtain ⟨q1, h⟩ := ck_o h
  refine j_if_eq (tgt := 13) (pc' := 9) dX12_sortTold_6 rfl rfl q1 (fun b1 => ?_) (fun b1 => ?_)
  · replace h := ite_t b1 h
    refine j_aload_n (pc' := 14) dX12_sortTold_13 rfl rfl ?_
    refine j_ldcS (pc' := 16) (si := 56) rfl dX12_sortTold_14 rfl ?_
    obtain ⟨v2, D2, e2, h⟩ := bI_o h
    refine k_cV (d' := 6) (pc' := 19) [mR (1000000 + 56)] [] (c_X12_isWord (d := 6) (Nat.le_refl _) ((by decide)) e2) cw_X12_132 kc_11 w_1621 ws_50 dX12_sortTold_16 rfl (by omega) rfl rfl (by decide) sk_133 rfl rfl (by decide) (by decide) ?_
    obtain ⟨q2, h⟩ := ck_o h
    refine j_if_eq (tgt := 26) (pc' := 22) dX12_sortTold_19 rfl rfl q2 (fun b2 => ?_) (fun b2 => ?_)
    · replace h := ite_t b2 h
      refine j_aload_n (pc' := 27) dX12_sortTold_26 rfl rfl ?_
      refine j_ldcS (pc' := 29) (si := 57) rfl dX12_sortTold_27 rfl ?_
      obtain ⟨v3, D3, e3, h⟩ := bI_o h
      refine k_cV (d' := 6) (pc' := 32) [mR (1000000 + 57)] [] (c_X12_isWord (d := 6) (Nat.le_refl _) ((by decide)) e3) cw_X12_132 kc_11 w_1621 ws_50 dX12_sortTold_29 rfl (by omega) rfl rfl (by decide) sk_133 rfl rfl (by decide) (by decide) ?_
      obtain ⟨q3, h⟩ := ck_o h
      refine j_if_eq (tgt := 39) (pc' := 35) dX12_sortTold_32 rfl rfl q3 (fun b3 => ?_) (fun b3 => ?_)
      · replace h := ite_t b3 h
        refine j_aload_n (pc' := 40) dX12_sortTold_39 rfl rfl ?_
        refine j_ldcS (pc' := 42) (si := 58) rfl dX12_sortTold_40 rfl ?_
        obtain ⟨v4, D4, e4, h⟩ := bI_o h
        refine k_cV (d' := 6) (pc' := 45) [mR (1000000 + 58)] [] (c_X12_isWord (d := 6) (Nat.le_refl _) ((by decide)) e4) cw_X12_132 kc_11 w_1621 ws_50 dX12_sortTold_42 rfl (by omega) rfl rfl (by decide) sk_133 rfl rfl (by decide) (by decide) ?_
        obtain ⟨q4, h⟩ := ck_o h
        have hj : J Ω M_X12_sortTold d 0 0 (rI r.1 r.2) 53 [none] [mI (if v4 = 0 then (-1 : Int) else (3 : Int))] (SK, D4, false) 0 0 := by
          exact j_iret dX12_sortTold_53 rfl (by decide) (by decide) (rI_of h)
        refine j_if_eq (tgt := 52) (pc' := 48) dX12_sortTold_45 rfl rfl q4 (fun b4 => ?_) (fun b4 => ?_)
        · refine j_iconst (pc' := 53) dX12_sortTold_52 rfl ?_
          have hj := hj
          try simp only [if_pos b4] at hj
          exact j_wk hj (trivial)
        · refine j_iconst (pc' := 49) dX12_sortTold_48 rfl ?_
          refine j_goto (tgt := 53) dX12_sortTold_49 rfl ?_
          have hj := hj
          try simp only [if_neg b4] at hj
          exact j_wk hj (trivial)
      · replace h := ite_f b3 h
        refine j_iconst (pc' := 36) dX12_sortTold_35 rfl ?_
        refine j_goto (tgt := 53) dX12_sortTold_36 rfl ?_
        exact j_iret dX12_sortTold_53 rfl (by decide) (by decide) (rI_of h)
    · replace h := ite_f b2 h
      refine j_iconst (pc' := 23) dX12_sortTold_22 rfl ?_
      refine j_goto (tgt := 53) dX12_sortTold_23 rfl ?_
      exact j_iret dX12_sortTold_53 rfl (by decide) (by decide) (rI_of h)
  · replace h := ite_f b1 h
    refine j_iconst (pc' := 10) dX12_sortTold_9 rfl ?_
    refine j_goto (tgt := 53) dX12_sortTold_10 rfl ?_
    exact j_iret dX12_sortTold_53 rfl (by decide) (by decide) (rI_of h)
theorem c_X12_sortTold {d : Nat} (hd : 7 ≤ d) {D D' : mD} {v : Int} (h : F_X12_sortTold D = some (v, D')) : CM d 0 0 M_X12_sortTold [mR 133] (SK, D, false) (rI v D') := CM.intro pn_X12 rfl rfl (Nat.le_of_ble_eq_true rfl) (fun _ => c_X12_sortTold_e hd h)
theorem c_X12_readRows_j90 {Ω : mO} {d : Nat} (hd : 7 ≤ d) {s1_ : Nat} (hs1 : s1_ < 81) {r : Int × mD} {D : mD} (h : F_X12_readRows_j90 s1_ D = some r) : J Ω M_X12_readRows d 0 0 (rI r.1 r.2) 90 [some (mR 133), none, none, none] [] (SK, D, false) 0 0 := by
  rw [F_X12_readRows_j90] at h
  refine j_aload_n (pc' := 91) dX12_readRows_90 rfl rfl ?_
  refine k_getI (pc' := 94) (sl := 10) (z := D 133 10) kc_11 w_1487 (by decide) dX12_readRows_91 rfl (by decide) sk_133 (by decide) rfl rfl ?_
  refine j_aload_n (pc' := 95) dX12_readRows_94 rfl rfl ?_
  refine k_getI (pc' := 98) (sl := 12) (z := D 133 12) kc_11 w_1489 (by decide) dX12_readRows_95 rfl (by decide) sk_133 (by decide) rfl rfl ?_
  refine j_isub (pc' := 99) dX12_readRows_98 rfl ?_
  refine j_iconst (pc' := 100) dX12_readRows_99 rfl ?_
  obtain ⟨q1, h⟩ := ck_o h
  have hj : J Ω M_X12_readRows d 0 0 (rI r.1 r.2) 108 [none, none, none, none] [mI (if ((D 133 10) - (D 133 12)) = 5 then (1 : Int) else (0 : Int))] (SK, D, false) 0 0 := by
    obtain ⟨q2, h⟩ := ck_o h
    exact j_zret dX12_readRows_108 rfl q2 (by decide) (by decide) (rI_of h)
  refine j_icmp_ne (tgt := 107) (pc' := 103) dX12_readRows_100 rfl rfl q1 (by decide) (fun b1 => ?_) (fun b1 => ?_)
  · refine j_iconst (pc' := 108) dX12_readRows_107 rfl ?_
    have hj := hj
    try simp only [if_neg b1] at hj
    exact j_wk hj (trivial)
  · refine j_iconst (pc' := 104) dX12_readRows_103 rfl ?_
    refine j_goto (tgt := 108) dX12_readRows_104 rfl ?_
    have hj := hj
    try simp only [if_pos b1] at hj
    exact j_wk hj (trivial)
theorem c_X12_readRows_L44 {Ω : mO} {d : Nat} (hd : 7 ≤ d) {s1_ : Nat} (hs1 : s1_ < 81) {r : Int × mD} {x2 : Int} : ∀ (n : Nat) {x3 : Int} {D : mD}, F_X12_readRows_L44 s1_ x2 n x3 D = some r → J Ω M_X12_readRows d 0 0 (rI r.1 r.2) 44 [some (mR 133), none, some (mI x2), some (mI x3)] [] (SK, D, false) 0 0 := by
  intro n
  induction n with
  | zero => intro x3 D h; exact absurd (show (none : Option (Int × mD)) = some r from h) nofun
  | succ n ih =>
    intro x3 D h
    rw [F_X12_readRows_L44] at h
    refine j_iload_n (pc' := 45) dX12_readRows_44 rfl rfl ?_
    refine j_iconst (pc' := 46) dX12_readRows_45 rfl ?_
    obtain ⟨q1, h⟩ := ck_o h
    refine j_icmp_ge (tgt := 90) (pc' := 49) dX12_readRows_46 rfl rfl q1 (by decide) (fun b1 => ?_) (fun b1 => ?_)
    · replace h := ite_t b1 h
      exact j_wk (j_widen (ce := 0) (ke := 0) (by decide) (by decide) (c_X12_readRows_j90 hd hs1 h)) (And.intro rfl trivial)
    · replace h := ite_f b1 h
      refine j_aload_n (pc' := 50) dX12_readRows_49 rfl rfl ?_
      refine k_getI (pc' := 53) (sl := 10) (z := D 133 10) kc_11 w_1487 (by decide) dX12_readRows_50 rfl (by decide) sk_133 (by decide) rfl rfl ?_
      refine j_aload_n (pc' := 54) dX12_readRows_53 rfl rfl ?_
      refine k_getI (pc' := 57) (sl := 12) (z := D 133 12) kc_11 w_1489 (by decide) dX12_readRows_54 rfl (by decide) sk_133 (by decide) rfl rfl ?_
      refine j_isub (pc' := 58) dX12_readRows_57 rfl ?_
      refine j_iconst (pc' := 59) dX12_readRows_58 rfl ?_
      obtain ⟨q2, h⟩ := ck_o h
      refine j_icmp_ne (tgt := 90) (pc' := 62) dX12_readRows_59 rfl rfl q2 (by decide) (fun b2 => ?_) (fun b2 => ?_)
      · replace h := ite_f b2 h
        exact j_wk (j_widen (ce := 0) (ke := 0) (by decide) (by decide) (c_X12_readRows_j90 hd hs1 h)) (And.intro rfl trivial)
      · replace h := ite_t b2 h
        refine j_aload_n (pc' := 63) dX12_readRows_62 rfl rfl ?_
        refine k_getR (pc' := 66) (sl := 1) (r := 134) kc_11 w_1478 (Or.inl rfl) (by decide) dX12_readRows_63 rfl (by decide) sk_133 (by decide) rfl (by decide) ?_
        refine j_iload_n (pc' := 67) dX12_readRows_66 rfl rfl ?_
        refine j_iload_n (pc' := 68) dX12_readRows_67 rfl rfl ?_
        refine j_iadd (pc' := 69) dX12_readRows_68 rfl ?_
        refine j_aload_n (pc' := 70) dX12_readRows_69 rfl rfl ?_
        refine k_getR (pc' := 73) (sl := 8) (r := 139) kc_11 w_1485 (Or.inl rfl) (by decide) dX12_readRows_70 rfl (by decide) sk_133 (by decide) rfl (by decide) ?_
        refine j_aload_n (pc' := 74) dX12_readRows_73 rfl rfl ?_
        refine k_getI (pc' := 77) (sl := 12) (z := D 133 12) kc_11 w_1489 (by decide) dX12_readRows_74 rfl (by decide) sk_133 (by decide) rfl rfl ?_
        refine j_iload_n (pc' := 78) dX12_readRows_77 rfl rfl ?_
        refine j_iadd (pc' := 79) dX12_readRows_78 rfl ?_
        obtain ⟨q3, h⟩ := ck_o h
        refine k_bald (pc' := 80) (z := D 139 ((D 133 12) + x3)) dX12_readRows_79 rfl (by decide) sk_139 (by decide) q3.1 q3.2 rfl ?_
        refine j_bipush (pc' := 82) dX12_readRows_80 rfl rfl ?_
        refine j_isub (pc' := 83) dX12_readRows_82 rfl ?_
        obtain ⟨q4, h⟩ := ck_o h
        refine k_iast (pc' := 84) dX12_readRows_83 rfl (by decide) sk_134 (by decide) q4.1 q4.2 ?_
        refine j_iinc (pc' := 87) (z' := (x3 + 1)) (ls' := [some (mR 133), none, some (mI x2), some (mI (x3 + 1))]) dX12_readRows_84 rfl rfl rfl (by decide) rfl ?_
        refine j_goto (tgt := 44) dX12_readRows_87 rfl ?_
        exact j_wk (j_widen (ce := 0) (ke := 0) (by decide) (by decide) (ih h)) (And.intro rfl (And.intro rfl (And.intro rfl trivial)))
theorem c_X12_readRows_L18 {Ω : mO} {d : Nat} (hd : 7 ≤ d) {s1_ : Nat} (hs1 : s1_ < 81) {r : Int × mD} {x2 : Int} : ∀ (n : Nat) {D : mD}, F_X12_readRows_L18 s1_ x2 n D = some r → J Ω M_X12_readRows d 0 0 (rI r.1 r.2) 18 [some (mR 133), none, some (mI x2), none] [] (SK, D, false) 0 0 := by
  intro n
  induction n with
  | zero => intro D h; exact absurd (show (none : Option (Int × mD)) = some r from h) nofun
  | succ n ih =>
    intro D h
    rw [F_X12_readRows_L18] at h
    refine j_aload_n (pc' := 19) dX12_readRows_18 rfl rfl ?_
    refine j_bipush (pc' := 21) dX12_readRows_19 rfl rfl ?_
    refine j_bipush (pc' := 23) dX12_readRows_21 rfl rfl ?_
    obtain ⟨v1, D1, e1, h⟩ := bI_o h
    refine k_cV (d' := 1) (pc' := 26) [mI 48, mI 57] [] (c_X12_isAt (d := 1) (Nat.le_refl _) e1) cw_X12_110 kc_11 w_1604 ws_46 dX12_readRows_23 rfl (by omega) rfl rfl (by decide) sk_133 rfl rfl (by decide) (by decide) ?_
    obtain ⟨q1, h⟩ := ck_o h
    refine j_if_eq (tgt := 42) (pc' := 29) dX12_readRows_26 rfl rfl q1 (fun b1 => ?_) (fun b1 => ?_)
    · replace h := ite_t b1 h
      refine j_iconst (pc' := 43) dX12_readRows_42 rfl ?_
      refine j_istore_n (pc' := 44) (ls' := [some (mR 133), none, some (mI x2), some (mI 0)]) dX12_readRows_43 rfl (by decide) rfl ?_
      exact j_wk (j_widen (ce := 0) (ke := 0) (by decide) (by decide) (c_X12_readRows_L44 hd hs1 _ h)) (And.intro rfl (And.intro rfl (And.intro rfl trivial)))
    · replace h := ite_f b1 h
      refine j_aload_n (pc' := 30) dX12_readRows_29 rfl rfl ?_
      refine j_dup (pc' := 31) dX12_readRows_30 rfl rfl ?_
      refine k_getI (pc' := 34) (sl := 10) (z := D1 133 10) kc_11 w_1487 (by decide) dX12_readRows_31 rfl (by decide) sk_133 (by decide) rfl rfl ?_
      refine j_iconst (pc' := 35) dX12_readRows_34 rfl ?_
      refine j_iadd (pc' := 36) dX12_readRows_35 rfl ?_
      refine k_putI (pc' := 39) (sl := 10) (i' := 10) kc_11 w_1487 (by decide) (Or.inl rfl) dX12_readRows_36 rfl (by decide) sk_133 (by decide) ⟨rfl, rfl⟩ rfl ?_
      refine j_goto (tgt := 18) dX12_readRows_39 rfl ?_
      exact j_wk (j_widen (ce := 0) (ke := 0) (by decide) (by decide) (ih h)) (And.intro rfl (And.intro rfl trivial))
theorem c_X12_readRows_e {Ω : mO} {d : Nat} (hd : 7 ≤ d) {s1_ : Nat} (hs1 : s1_ < 81) {r : Int × mD} {x2 : Int} {D : mD} (h : F_X12_readRows s1_ x2 D = some r) : J Ω M_X12_readRows d 0 0 (rI r.1 r.2) 0 [some (mR 133), some (mR (1000000 + s1_)), some (mI x2), none] [] (SK, D, false) 0 0 := by
  rw [F_X12_readRows] at h
  refine j_aload_n (pc' := 1) dX12_readRows_0 rfl rfl ?_
  obtain ⟨v1, D1, e1, h⟩ := bI_o h
  refine k_cVv (d' := 3) (pc' := 4) [] [] (c_X12_lettersPass (d := 3) (Nat.le_refl _) e1) cw_X12_129 kc_11 w_1612 ws_48 dX12_readRows_1 rfl (by omega) rfl rfl (by decide) sk_133 rfl rfl (by decide) (by decide) ?_
  refine j_aload_n (pc' := 5) dX12_readRows_4 rfl rfl ?_
  refine j_aload_n (pc' := 6) dX12_readRows_5 rfl rfl ?_
  obtain ⟨v2, D2, e2, h⟩ := bI_o h
  refine k_cV (d' := 6) (pc' := 9) [mR (1000000 + s1_)] [] (c_X12_isWord (d := 6) (Nat.le_refl _) hs1 e2) cw_X12_132 kc_11 w_1621 ws_50 dX12_readRows_6 rfl (by omega) rfl rfl (by decide) sk_133 rfl rfl (by decide) (by decide) ?_
  obtain ⟨q1, h⟩ := ck_o h
  refine j_if_ne (tgt := 14) (pc' := 12) dX12_readRows_9 rfl rfl q1 (fun b1 => ?_) (fun b1 => ?_)
  · replace h := ite_f b1 h
    refine j_aload_n (pc' := 15) dX12_readRows_14 rfl rfl ?_
    obtain ⟨v3, D3, e3, h⟩ := bI_o h
    refine k_cVv (d' := 2) (pc' := 18) [] [] (c_X12_blanks (d := 2) (Nat.le_refl _) e3) cw_X12_117 kc_11 w_1600 ws_45 dX12_readRows_15 rfl (by omega) rfl rfl (by decide) sk_133 rfl rfl (by decide) (by decide) ?_
    exact j_wk (j_widen (ce := 0) (ke := 0) (by decide) (by decide) (c_X12_readRows_L18 hd hs1 _ h)) (And.intro rfl (And.intro rfl trivial))
  · replace h := ite_t b1 h
    refine j_iconst (pc' := 13) dX12_readRows_12 rfl ?_
    exact j_zret dX12_readRows_13 rfl (Or.inl rfl) (by decide) (by decide) (rI_of h)
theorem c_X12_readRows {d : Nat} (hd : 7 ≤ d) {s1_ : Nat} (hs1 : s1_ < 81) {x2 : Int} {D D' : mD} {v : Int} (h : F_X12_readRows s1_ x2 D = some (v, D')) : CM d 0 0 M_X12_readRows [mR 133, mR (1000000 + s1_), mI x2] (SK, D, false) (rI v D') := CM.intro pn_X12 rfl rfl (Nat.le_of_ble_eq_true rfl) (fun _ => c_X12_readRows_e hd hs1 h)
theorem c_X12_readSign_L107 {Ω : mO} {d : Nat} (hd : 8 ≤ d) {r : Int × mD} {x1 : Int} : ∀ (n : Nat) {x3 : Int} {D : mD}, F_X12_readSign_L107 x1 n x3 D = some r → J Ω M_X12_readSign d 0 0 (rI r.1 r.2) 107 [some (mR 133), some (mI x1), none, some (mI x3)] [] (SK, D, false) 0 0 := by
  intro n
  induction n with
  | zero => intro x3 D h; exact absurd (show (none : Option (Int × mD)) = some r from h) nofun
  | succ n ih =>
    intro x3 D h
    rw [F_X12_readSign_L107] at h
    refine j_iload_n (pc' := 108) dX12_readSign_107 rfl rfl ?_
    refine j_iconst (pc' := 109) dX12_readSign_108 rfl ?_
    obtain ⟨q1, h⟩ := ck_o h
    refine j_icmp_ge (tgt := 147) (pc' := 112) dX12_readSign_109 rfl rfl q1 (by decide) (fun b1 => ?_) (fun b1 => ?_)
    · replace h := ite_t b1 h
      refine j_aload_n (pc' := 148) dX12_readSign_147 rfl rfl ?_
      refine k_getR (pc' := 151) (sl := 1) (r := 134) kc_11 w_1478 (Or.inl rfl) (by decide) dX12_readSign_148 rfl (by decide) sk_133 (by decide) rfl (by decide) ?_
      refine j_iconst (pc' := 152) dX12_readSign_151 rfl ?_
      refine j_dup2 (pc' := 153) dX12_readSign_152 rfl rfl rfl ?_
      refine k_iald (pc' := 154) (z := D 134 0) dX12_readSign_153 rfl (by decide) sk_134 (by decide) (by decide) (by decide) rfl ?_
      refine j_iconst (pc' := 155) dX12_readSign_154 rfl ?_
      refine j_iadd (pc' := 156) dX12_readSign_155 rfl ?_
      refine k_iast (pc' := 157) dX12_readSign_156 rfl (by decide) sk_134 (by decide) (by decide) (by decide) ?_
      refine j_iconst (pc' := 158) dX12_readSign_157 rfl ?_
      exact j_zret dX12_readSign_158 rfl (Or.inr rfl) (by decide) (by decide) (rI_of h)
    · replace h := ite_f b1 h
      refine j_aload_n (pc' := 113) dX12_readSign_112 rfl rfl ?_
      refine j_iload_n (pc' := 114) dX12_readSign_113 rfl rfl ?_
      refine j_iconst (pc' := 115) dX12_readSign_114 rfl ?_
      refine j_iload_n (pc' := 116) dX12_readSign_115 rfl rfl ?_
      refine j_iadd (pc' := 117) dX12_readSign_116 rfl ?_
      obtain ⟨v1, D1, e1, h⟩ := bI_o h
      refine k_cV (d' := 1) (pc' := 120) [mI x1, mI (2 + x3)] [] (c_X12_ofSign (d := 1) (Nat.le_refl _) e1) cw_X12_81 kc_11 w_1658 ws_57 dX12_readSign_117 rfl (by omega) rfl rfl (by decide) sk_133 rfl rfl (by decide) (by decide) ?_
      refine j_aload_n (pc' := 121) dX12_readSign_120 rfl rfl ?_
      refine j_iload_n (pc' := 122) dX12_readSign_121 rfl rfl ?_
      refine j_bipush (pc' := 124) dX12_readSign_122 rfl rfl ?_
      refine j_iload_n (pc' := 125) dX12_readSign_124 rfl rfl ?_
      refine j_iadd (pc' := 126) dX12_readSign_125 rfl ?_
      obtain ⟨v2, D2, e2, h⟩ := bI_o h
      refine k_cV (d' := 1) (pc' := 129) [mI x1, mI (7 + x3)] [mI v1] (c_X12_ofSign (d := 1) (Nat.le_refl _) e2) cw_X12_81 kc_11 w_1658 ws_57 dX12_readSign_126 rfl (by omega) rfl rfl (by decide) sk_133 rfl rfl (by decide) (by decide) ?_
      refine j_iadd (pc' := 130) dX12_readSign_129 rfl ?_
      refine j_aload_n (pc' := 131) dX12_readSign_130 rfl rfl ?_
      refine j_iload_n (pc' := 132) dX12_readSign_131 rfl rfl ?_
      refine j_iconst (pc' := 133) dX12_readSign_132 rfl ?_
      obtain ⟨v3, D3, e3, h⟩ := bI_o h
      refine k_cV (d' := 1) (pc' := 136) [mI x1, mI 1] [mI (v1 + v2)] (c_X12_ofSign (d := 1) (Nat.le_refl _) e3) cw_X12_81 kc_11 w_1658 ws_57 dX12_readSign_133 rfl (by omega) rfl rfl (by decide) sk_133 rfl rfl (by decide) (by decide) ?_
      obtain ⟨q2, h⟩ := ck_o h
      obtain ⟨q3, h⟩ := ck_o h
      refine j_icmp_lt (tgt := 141) (pc' := 139) dX12_readSign_136 rfl rfl q2 q3 (fun b2 => ?_) (fun b2 => ?_)
      · replace h := ite_t b2 h
        refine j_iinc (pc' := 144) (z' := (x3 + 1)) (ls' := [some (mR 133), some (mI x1), none, some (mI (x3 + 1))]) dX12_readSign_141 rfl rfl rfl (by decide) rfl ?_
        refine j_goto (tgt := 107) dX12_readSign_144 rfl ?_
        exact j_wk (j_widen (ce := 0) (ke := 0) (by decide) (by decide) (ih h)) (And.intro rfl (And.intro rfl (And.intro rfl trivial)))
      · replace h := ite_f b2 h
        refine j_iconst (pc' := 140) dX12_readSign_139 rfl ?_
        exact j_zret dX12_readSign_140 rfl (Or.inl rfl) (by decide) (by decide) (rI_of h)
theorem c_X12_readSign_e {Ω : mO} {d : Nat} (hd : 8 ≤ d) {r : Int × mD} {D : mD} (h : F_X12_readSign D = some r) : J Ω M_X12_readSign d 0 0 (rI r.1 r.2) 0 [some (mR 133), none, none, none] [] (SK, D, false) 0 0 := by
  rw [F_X12_readSign] at h
  refine j_aload_n (pc' := 1) dX12_readSign_0 rfl rfl ?_
  obtain ⟨v1, D1, e1, h⟩ := bI_o h
  refine k_cV (d' := 1) (pc' := 4) [] [] (c_X12_signs (d := 1) (Nat.le_refl _) e1) cw_X12_87 kc_11 w_1631 ws_52 dX12_readSign_1 rfl (by omega) rfl rfl (by decide) sk_133 rfl rfl (by decide) (by decide) ?_
  refine j_istore_n (pc' := 5) (ls' := [some (mR 133), some (mI v1), none, none]) dX12_readSign_4 rfl (by decide) rfl ?_
  refine j_iload_n (pc' := 6) dX12_readSign_5 rfl rfl ?_
  refine j_bipush (pc' := 8) dX12_readSign_6 rfl rfl ?_
  obtain ⟨q1, h⟩ := ck_o h
  refine j_icmp_ne (tgt := 13) (pc' := 11) dX12_readSign_8 rfl rfl q1 (by decide) (fun b1 => ?_) (fun b1 => ?_)
  · replace h := ite_f b1 h
    refine j_bipush (pc' := 15) dX12_readSign_13 rfl rfl ?_
    refine j_bipush (pc' := 17) dX12_readSign_15 rfl rfl ?_
    refine j_iload_n (pc' := 18) dX12_readSign_17 rfl rfl ?_
    refine j_imul (pc' := 19) dX12_readSign_18 rfl ?_
    refine j_iadd (pc' := 20) dX12_readSign_19 rfl ?_
    refine j_istore_n (pc' := 21) (ls' := [some (mR 133), some (mI v1), some (mI (15 + (12 * v1))), none]) dX12_readSign_20 rfl (by decide) rfl ?_
    refine j_aload_n (pc' := 22) dX12_readSign_21 rfl rfl ?_
    obtain ⟨v2, D2, e2, h⟩ := bI_o h
    refine k_cVv (d' := 3) (pc' := 25) [] [] (c_X12_lettersPass (d := 3) (Nat.le_refl _) e2) cw_X12_129 kc_11 w_1612 ws_48 dX12_readSign_22 rfl (by omega) rfl rfl (by decide) sk_133 rfl rfl (by decide) (by decide) ?_
    refine j_aload_n (pc' := 26) dX12_readSign_25 rfl rfl ?_
    refine k_getR (pc' := 29) (sl := 1) (r := 134) kc_11 w_1478 (Or.inl rfl) (by decide) dX12_readSign_26 rfl (by decide) sk_133 (by decide) rfl (by decide) ?_
    refine j_iload_n (pc' := 30) dX12_readSign_29 rfl rfl ?_
    refine j_iconst (pc' := 31) dX12_readSign_30 rfl ?_
    refine j_iadd (pc' := 32) dX12_readSign_31 rfl ?_
    refine j_aload_n (pc' := 33) dX12_readSign_32 rfl rfl ?_
    obtain ⟨v3, D3, e3, h⟩ := bI_o h
    refine k_cV (d' := 7) (pc' := 36) [] [mI ((15 + (12 * v1)) + 0), mR 134] (c_X12_sortTold (d := 7) (Nat.le_refl _) e3) cw_X12_147 kc_11 w_1635 ws_53 dX12_readSign_33 rfl (by omega) rfl rfl (by decide) sk_133 rfl rfl (by decide) (by decide) ?_
    obtain ⟨q2, h⟩ := ck_o h
    refine k_iast (pc' := 37) dX12_readSign_36 rfl (by decide) sk_134 (by decide) q2.1 q2.2 ?_
    refine j_aload_n (pc' := 38) dX12_readSign_37 rfl rfl ?_
    refine k_getR (pc' := 41) (sl := 1) (r := 134) kc_11 w_1478 (Or.inl rfl) (by decide) dX12_readSign_38 rfl (by decide) sk_133 (by decide) rfl (by decide) ?_
    refine j_iload_n (pc' := 42) dX12_readSign_41 rfl rfl ?_
    refine j_iconst (pc' := 43) dX12_readSign_42 rfl ?_
    refine j_iadd (pc' := 44) dX12_readSign_43 rfl ?_
    refine k_iald (pc' := 45) (z := (pD D3 134 ((15 + (12 * v1)) + 0) v3) 134 ((15 + (12 * v1)) + 0)) dX12_readSign_44 rfl (by decide) sk_134 (by decide) q2.1 q2.2 rfl ?_
    obtain ⟨q3, h⟩ := ck_o h
    refine j_if_ge (tgt := 50) (pc' := 48) dX12_readSign_45 rfl rfl q3 (fun b2 => ?_) (fun b2 => ?_)
    · replace h := ite_t b2 h
      refine j_aload_n (pc' := 51) dX12_readSign_50 rfl rfl ?_
      refine k_getR (pc' := 54) (sl := 1) (r := 134) kc_11 w_1478 (Or.inl rfl) (by decide) dX12_readSign_51 rfl (by decide) sk_133 (by decide) rfl (by decide) ?_
      refine j_iload_n (pc' := 55) dX12_readSign_54 rfl rfl ?_
      refine j_iconst (pc' := 56) dX12_readSign_55 rfl ?_
      refine j_iadd (pc' := 57) dX12_readSign_56 rfl ?_
      refine j_aload_n (pc' := 58) dX12_readSign_57 rfl rfl ?_
      refine j_ldcS (pc' := 60) (si := 59) rfl dX12_readSign_58 rfl ?_
      refine j_iconst (pc' := 61) dX12_readSign_60 rfl ?_
      refine j_bipush (pc' := 63) dX12_readSign_61 rfl rfl ?_
      obtain ⟨v4, D4, e4, h⟩ := bI_o h
      refine k_cV (d' := 7) (pc' := 66) [mR (1000000 + 59), mI 2, mI 12] [mI ((15 + (12 * v1)) + 1), mR 134] (c_X12_after (d := 7) (Nat.le_refl _) ((by decide)) e4) cw_X12_152 kc_11 w_1644 ws_54 dX12_readSign_63 rfl (by omega) rfl rfl (by decide) sk_133 rfl rfl (by decide) (by decide) ?_
      obtain ⟨q4, h⟩ := ck_o h
      refine k_iast (pc' := 67) dX12_readSign_66 rfl (by decide) sk_134 (by decide) q4.1 q4.2 ?_
      refine j_aload_n (pc' := 68) dX12_readSign_67 rfl rfl ?_
      refine k_getR (pc' := 71) (sl := 1) (r := 134) kc_11 w_1478 (Or.inl rfl) (by decide) dX12_readSign_68 rfl (by decide) sk_133 (by decide) rfl (by decide) ?_
      refine j_iload_n (pc' := 72) dX12_readSign_71 rfl rfl ?_
      refine j_iconst (pc' := 73) dX12_readSign_72 rfl ?_
      refine j_iadd (pc' := 74) dX12_readSign_73 rfl ?_
      refine k_iald (pc' := 75) (z := (pD D4 134 ((15 + (12 * v1)) + 1) v4) 134 ((15 + (12 * v1)) + 1)) dX12_readSign_74 rfl (by decide) sk_134 (by decide) q4.1 q4.2 rfl ?_
      obtain ⟨q5, h⟩ := ck_o h
      refine j_if_lt (tgt := 103) (pc' := 78) dX12_readSign_75 rfl rfl q5 (fun b3 => ?_) (fun b3 => ?_)
      · replace h := ite_t b3 h
        refine j_iconst (pc' := 104) dX12_readSign_103 rfl ?_
        exact j_zret dX12_readSign_104 rfl (Or.inl rfl) (by decide) (by decide) (rI_of h)
      · replace h := ite_f b3 h
        refine j_aload_n (pc' := 79) dX12_readSign_78 rfl rfl ?_
        refine j_ldcS (pc' := 81) (si := 60) rfl dX12_readSign_79 rfl ?_
        refine j_iload_n (pc' := 82) dX12_readSign_81 rfl rfl ?_
        refine j_iconst (pc' := 83) dX12_readSign_82 rfl ?_
        refine j_iadd (pc' := 84) dX12_readSign_83 rfl ?_
        obtain ⟨v5, D5, e5, h⟩ := bI_o h
        refine k_cV (d' := 7) (pc' := 87) [mR (1000000 + 60), mI ((15 + (12 * v1)) + 2)] [] (c_X12_readRows (d := 7) (Nat.le_refl _) ((by decide)) e5) cw_X12_158 kc_11 w_1653 ws_56 dX12_readSign_84 rfl (by omega) rfl rfl (by decide) sk_133 rfl rfl (by decide) (by decide) ?_
        obtain ⟨q6, h⟩ := ck_o h
        refine j_if_eq (tgt := 103) (pc' := 90) dX12_readSign_87 rfl rfl q6 (fun b4 => ?_) (fun b4 => ?_)
        · replace h := ite_t b4 h
          refine j_iconst (pc' := 104) dX12_readSign_103 rfl ?_
          exact j_zret dX12_readSign_104 rfl (Or.inl rfl) (by decide) (by decide) (rI_of h)
        · replace h := ite_f b4 h
          refine j_aload_n (pc' := 91) dX12_readSign_90 rfl rfl ?_
          refine j_ldcS (pc' := 93) (si := 61) rfl dX12_readSign_91 rfl ?_
          refine j_iload_n (pc' := 94) dX12_readSign_93 rfl rfl ?_
          refine j_bipush (pc' := 96) dX12_readSign_94 rfl rfl ?_
          refine j_iadd (pc' := 97) dX12_readSign_96 rfl ?_
          obtain ⟨v6, D6, e6, h⟩ := bI_o h
          refine k_cV (d' := 7) (pc' := 100) [mR (1000000 + 61), mI ((15 + (12 * v1)) + 7)] [] (c_X12_readRows (d := 7) (Nat.le_refl _) ((by decide)) e6) cw_X12_158 kc_11 w_1653 ws_56 dX12_readSign_97 rfl (by omega) rfl rfl (by decide) sk_133 rfl rfl (by decide) (by decide) ?_
          obtain ⟨q7, h⟩ := ck_o h
          refine j_if_ne (tgt := 105) (pc' := 103) dX12_readSign_100 rfl rfl q7 (fun b5 => ?_) (fun b5 => ?_)
          · replace h := ite_f b5 h
            refine j_iconst (pc' := 106) dX12_readSign_105 rfl ?_
            refine j_istore_n (pc' := 107) (ls' := [some (mR 133), some (mI v1), some (mI (15 + (12 * v1))), some (mI 0)]) dX12_readSign_106 rfl (by decide) rfl ?_
            exact j_wk (j_widen (ce := 0) (ke := 0) (by decide) (by decide) (c_X12_readSign_L107 hd _ h)) (And.intro rfl (And.intro rfl (And.intro rfl trivial)))
          · replace h := ite_t b5 h
            refine j_iconst (pc' := 104) dX12_readSign_103 rfl ?_
            exact j_zret dX12_readSign_104 rfl (Or.inl rfl) (by decide) (by decide) (rI_of h)
    · replace h := ite_f b2 h
      refine j_iconst (pc' := 49) dX12_readSign_48 rfl ?_
      exact j_zret dX12_readSign_49 rfl (Or.inl rfl) (by decide) (by decide) (rI_of h)
  · replace h := ite_t b1 h
    refine j_iconst (pc' := 12) dX12_readSign_11 rfl ?_
    exact j_zret dX12_readSign_12 rfl (Or.inl rfl) (by decide) (by decide) (rI_of h)
theorem c_X12_readSign {d : Nat} (hd : 8 ≤ d) {D D' : mD} {v : Int} (h : F_X12_readSign D = some (v, D')) : CM d 0 0 M_X12_readSign [mR 133] (SK, D, false) (rI v D') := CM.intro pn_X12 rfl rfl (Nat.le_of_ble_eq_true rfl) (fun _ => c_X12_readSign_e hd h)
theorem c_X12_readBoard_j26 {Ω : mO} {d : Nat} (hd : 8 ≤ d) {r : Int × mD} {x1 s0 : Int} {D : mD} (h : F_X12_readBoard_j26 x1 s0 D = some r) : J Ω M_X12_readBoard d 0 0 (rI r.1 r.2) 26 [some (mR 133), some (mI x1), none] [mI s0] (SK, D, false) 0 0 := by
  rw [F_X12_readBoard_j26] at h
  refine j_istore_n (pc' := 27) (ls' := [some (mR 133), some (mI x1), some (mI s0)]) dX12_readBoard_26 rfl (by decide) rfl ?_
  refine j_iload_n (pc' := 28) dX12_readBoard_27 rfl rfl ?_
  obtain ⟨q1, h⟩ := ck_o h
  refine j_if_ge (tgt := 33) (pc' := 31) dX12_readBoard_28 rfl rfl q1 (fun b1 => ?_) (fun b1 => ?_)
  · replace h := ite_t b1 h
    refine j_aload_n (pc' := 34) dX12_readBoard_33 rfl rfl ?_
    refine k_getR (pc' := 37) (sl := 1) (r := 134) kc_11 w_1478 (Or.inl rfl) (by decide) dX12_readBoard_34 rfl (by decide) sk_133 (by decide) rfl (by decide) ?_
    refine j_iconst (pc' := 38) dX12_readBoard_37 rfl ?_
    refine j_iload_n (pc' := 39) dX12_readBoard_38 rfl rfl ?_
    refine k_iast (pc' := 40) dX12_readBoard_39 rfl (by decide) sk_134 (by decide) (by decide) (by decide) ?_
    refine j_aload_n (pc' := 41) dX12_readBoard_40 rfl rfl ?_
    refine k_getR (pc' := 44) (sl := 1) (r := 134) kc_11 w_1478 (Or.inl rfl) (by decide) dX12_readBoard_41 rfl (by decide) sk_133 (by decide) rfl (by decide) ?_
    refine j_iconst (pc' := 45) dX12_readBoard_44 rfl ?_
    refine j_iload_n (pc' := 46) dX12_readBoard_45 rfl rfl ?_
    refine k_iast (pc' := 47) dX12_readBoard_46 rfl (by decide) sk_134 (by decide) (by decide) (by decide) ?_
    refine j_iconst (pc' := 48) dX12_readBoard_47 rfl ?_
    exact j_zret dX12_readBoard_48 rfl (Or.inr rfl) (by decide) (by decide) (rI_of h)
  · replace h := ite_f b1 h
    refine j_iconst (pc' := 32) dX12_readBoard_31 rfl ?_
    exact j_zret dX12_readBoard_32 rfl (Or.inl rfl) (by decide) (by decide) (rI_of h)
theorem c_X12_readBoard_e {Ω : mO} {d : Nat} (hd : 8 ≤ d) {r : Int × mD} {D : mD} (h : F_X12_readBoard D = some r) : J Ω M_X12_readBoard d 0 0 (rI r.1 r.2) 0 [some (mR 133), none, none] [] (SK, D, false) 0 0 := by
  rw [F_X12_readBoard] at h
  refine j_aload_n (pc' := 1) dX12_readBoard_0 rfl rfl ?_
  refine j_bipush (pc' := 3) dX12_readBoard_1 rfl rfl ?_
  refine j_bipush (pc' := 5) dX12_readBoard_3 rfl rfl ?_
  obtain ⟨v1, D1, e1, h⟩ := bI_o h
  refine k_cV (d' := 3) (pc' := 8) [mI 10, mI 120] [] (c_X12_number (d := 3) (Nat.le_refl _) e1) cw_X12_136 kc_11 w_1648 ws_55 dX12_readBoard_5 rfl (by omega) rfl rfl (by decide) sk_133 rfl rfl (by decide) (by decide) ?_
  refine j_istore_n (pc' := 9) (ls' := [some (mR 133), some (mI v1), none]) dX12_readBoard_8 rfl (by decide) rfl ?_
  refine j_iload_n (pc' := 10) dX12_readBoard_9 rfl rfl ?_
  obtain ⟨q1, h⟩ := ck_o h
  refine j_if_ge (tgt := 17) (pc' := 13) dX12_readBoard_10 rfl rfl q1 (fun b1 => ?_) (fun b1 => ?_)
  · replace h := ite_t b1 h
    refine j_aload_n (pc' := 18) dX12_readBoard_17 rfl rfl ?_
    refine j_ldcS (pc' := 20) (si := 63) rfl dX12_readBoard_18 rfl ?_
    refine j_iconst (pc' := 21) dX12_readBoard_20 rfl ?_
    refine j_bipush (pc' := 23) dX12_readBoard_21 rfl rfl ?_
    obtain ⟨v2, D2, e2, h⟩ := bI_o h
    refine k_cV (d' := 7) (pc' := 26) [mR (1000000 + 63), mI 0, mI 9] [] (c_X12_after (d := 7) (Nat.le_refl _) ((by decide)) e2) cw_X12_152 kc_11 w_1644 ws_54 dX12_readBoard_23 rfl (by omega) rfl rfl (by decide) sk_133 rfl rfl (by decide) (by decide) ?_
    exact j_wk (j_widen (ce := 0) (ke := 0) (by decide) (by decide) (c_X12_readBoard_j26 hd h)) (And.intro rfl (And.intro rfl trivial))
  · replace h := ite_f b1 h
    refine j_iconst (pc' := 14) dX12_readBoard_13 rfl ?_
    refine j_goto (tgt := 26) dX12_readBoard_14 rfl ?_
    exact j_wk (j_widen (ce := 0) (ke := 0) (by decide) (by decide) (c_X12_readBoard_j26 hd h)) (And.intro rfl (And.intro rfl trivial))
theorem c_X12_readBoard {d : Nat} (hd : 8 ≤ d) {D D' : mD} {v : Int} (h : F_X12_readBoard D = some (v, D')) : CM d 0 0 M_X12_readBoard [mR 133] (SK, D, false) (rI v D') := CM.intro pn_X12 rfl rfl (Nat.le_of_ble_eq_true rfl) (fun _ => c_X12_readBoard_e hd h)
theorem c_X12_readWord_j34 {Ω : mO} {d : Nat} (hd : 4 ≤ d) {r : Int × mD} {K2 : Int → mD → RI} {x1 x2 : Int} (hK2 : ∀ {x1 : Int} {D : mD}, K2 x1 D = some r → J Ω M_X12_readWord d 0 0 (rI r.1 r.2) 2 [some (mR 133), some (mI x1), none] [] (SK, D, false) 0 0) {D : mD} (h : F_X12_readWord_j34 K2 x1 x2 D = some r) : J Ω M_X12_readWord d 0 0 (rI r.1 r.2) 34 [some (mR 133), some (mI x1), some (mI x2)] [] (SK, D, false) 0 0 := by
  rw [F_X12_readWord_j34] at h
  refine j_iload_n (pc' := 35) dX12_readWord_34 rfl rfl ?_
  obtain ⟨q1, h⟩ := ck_o h
  refine j_if_ge (tgt := 40) (pc' := 38) dX12_readWord_35 rfl rfl q1 (fun b1 => ?_) (fun b1 => ?_)
  · replace h := ite_t b1 h
    refine j_aload_n (pc' := 41) dX12_readWord_40 rfl rfl ?_
    refine j_iload_n (pc' := 42) dX12_readWord_41 rfl rfl ?_
    refine j_iconst (pc' := 43) dX12_readWord_42 rfl ?_
    refine j_iload_n (pc' := 44) dX12_readWord_43 rfl rfl ?_
    obtain ⟨v1, D1, e1, h⟩ := bI_o h
    refine k_cVv (d' := 1) (pc' := 47) [mI x1, mI 0, mI x2] [] (c_X12_sets (d := 1) (Nat.le_refl _) e1) cw_X12_166 kc_11 w_1679 ws_61 dX12_readWord_44 rfl (by omega) rfl rfl (by decide) sk_133 rfl rfl (by decide) (by decide) ?_
    refine j_aload_n (pc' := 48) dX12_readWord_47 rfl rfl ?_
    refine j_iload_n (pc' := 49) dX12_readWord_48 rfl rfl ?_
    refine j_iconst (pc' := 50) dX12_readWord_49 rfl ?_
    refine j_iconst (pc' := 51) dX12_readWord_50 rfl ?_
    obtain ⟨v2, D2, e2, h⟩ := bI_o h
    refine k_cVv (d' := 1) (pc' := 54) [mI x1, mI 1, mI 0] [] (c_X12_sets (d := 1) (Nat.le_refl _) e2) cw_X12_166 kc_11 w_1679 ws_61 dX12_readWord_51 rfl (by omega) rfl rfl (by decide) sk_133 rfl rfl (by decide) (by decide) ?_
    refine j_aload_n (pc' := 55) dX12_readWord_54 rfl rfl ?_
    refine j_iload_n (pc' := 56) dX12_readWord_55 rfl rfl ?_
    refine j_iconst (pc' := 57) dX12_readWord_56 rfl ?_
    refine j_iconst (pc' := 58) dX12_readWord_57 rfl ?_
    obtain ⟨v3, D3, e3, h⟩ := bI_o h
    refine k_cVv (d' := 1) (pc' := 61) [mI x1, mI 2, mI (-1)] [] (c_X12_sets (d := 1) (Nat.le_refl _) e3) cw_X12_166 kc_11 w_1679 ws_61 dX12_readWord_58 rfl (by omega) rfl rfl (by decide) sk_133 rfl rfl (by decide) (by decide) ?_
    refine j_aload_n (pc' := 62) dX12_readWord_61 rfl rfl ?_
    refine j_iload_n (pc' := 63) dX12_readWord_62 rfl rfl ?_
    refine j_iconst (pc' := 64) dX12_readWord_63 rfl ?_
    refine j_iconst (pc' := 65) dX12_readWord_64 rfl ?_
    obtain ⟨v4, D4, e4, h⟩ := bI_o h
    refine k_cVv (d' := 1) (pc' := 68) [mI x1, mI 3, mI 3] [] (c_X12_sets (d := 1) (Nat.le_refl _) e4) cw_X12_166 kc_11 w_1679 ws_61 dX12_readWord_65 rfl (by omega) rfl rfl (by decide) sk_133 rfl rfl (by decide) (by decide) ?_
    refine j_iinc (pc' := 71) (z' := (x1 + 1)) (ls' := [some (mR 133), some (mI (x1 + 1)), some (mI x2)]) dX12_readWord_68 rfl rfl rfl (by decide) rfl ?_
    refine j_aload_n (pc' := 72) dX12_readWord_71 rfl rfl ?_
    obtain ⟨v5, D5, e5, h⟩ := bI_o h
    refine k_cV (d' := 3) (pc' := 75) [] [] (c_X12_isFigure (d := 3) (Nat.le_refl _) e5) cw_X12_170 kc_11 w_1683 ws_62 dX12_readWord_72 rfl (by omega) rfl rfl (by decide) sk_133 rfl rfl (by decide) (by decide) ?_
    obtain ⟨q2, h⟩ := ck_o h
    refine j_if_ne (tgt := 2) (pc' := 78) dX12_readWord_75 rfl rfl q2 (fun b2 => ?_) (fun b2 => ?_)
    · replace h := ite_f b2 h
      exact j_wk (j_widen (ce := 0) (ke := 0) (by decide) (by decide) (hK2 h)) (And.intro rfl (And.intro rfl trivial))
    · replace h := ite_t b2 h
      refine j_aload_n (pc' := 79) dX12_readWord_78 rfl rfl ?_
      refine k_getR (pc' := 82) (sl := 1) (r := 134) kc_11 w_1478 (Or.inl rfl) (by decide) dX12_readWord_79 rfl (by decide) sk_133 (by decide) rfl (by decide) ?_
      refine j_iconst (pc' := 83) dX12_readWord_82 rfl ?_
      refine j_iload_n (pc' := 84) dX12_readWord_83 rfl rfl ?_
      refine k_iast (pc' := 85) dX12_readWord_84 rfl (by decide) sk_134 (by decide) (by decide) (by decide) ?_
      refine j_aload_n (pc' := 86) dX12_readWord_85 rfl rfl ?_
      refine k_getR (pc' := 89) (sl := 1) (r := 134) kc_11 w_1478 (Or.inl rfl) (by decide) dX12_readWord_86 rfl (by decide) sk_133 (by decide) rfl (by decide) ?_
      refine j_bipush (pc' := 91) dX12_readWord_89 rfl rfl ?_
      refine j_iconst (pc' := 92) dX12_readWord_91 rfl ?_
      refine k_iast (pc' := 93) dX12_readWord_92 rfl (by decide) sk_134 (by decide) (by decide) (by decide) ?_
      refine j_iconst (pc' := 94) dX12_readWord_93 rfl ?_
      exact j_zret dX12_readWord_94 rfl (Or.inr rfl) (by decide) (by decide) (rI_of h)
  · replace h := ite_f b1 h
    refine j_iconst (pc' := 39) dX12_readWord_38 rfl ?_
    exact j_zret dX12_readWord_39 rfl (Or.inl rfl) (by decide) (by decide) (rI_of h)
theorem c_X12_readWord_j23 {Ω : mO} {d : Nat} (hd : 4 ≤ d) {r : Int × mD} {K2 : Int → mD → RI} {x1 s0 : Int} (hK2 : ∀ {x1 : Int} {D : mD}, K2 x1 D = some r → J Ω M_X12_readWord d 0 0 (rI r.1 r.2) 2 [some (mR 133), some (mI x1), none] [] (SK, D, false) 0 0) {D : mD} (h : F_X12_readWord_j23 K2 x1 s0 D = some r) : J Ω M_X12_readWord d 0 0 (rI r.1 r.2) 23 [some (mR 133), some (mI x1), none] [mI s0] (SK, D, false) 0 0 := by
  rw [F_X12_readWord_j23] at h
  refine j_istore_n (pc' := 24) (ls' := [some (mR 133), some (mI x1), some (mI s0)]) dX12_readWord_23 rfl (by decide) rfl ?_
  refine j_iload_n (pc' := 25) dX12_readWord_24 rfl rfl ?_
  refine j_bipush (pc' := 27) dX12_readWord_25 rfl rfl ?_
  obtain ⟨q1, h⟩ := ck_o h
  refine j_icmp_ne (tgt := 34) (pc' := 30) dX12_readWord_27 rfl rfl q1 (by decide) (fun b1 => ?_) (fun b1 => ?_)
  · replace h := ite_f b1 h
    exact j_wk (j_widen (ce := 0) (ke := 0) (by decide) (by decide) (c_X12_readWord_j34 hd hK2 h)) (And.intro rfl (And.intro rfl (And.intro rfl trivial)))
  · replace h := ite_t b1 h
    refine j_aload_n (pc' := 31) dX12_readWord_30 rfl rfl ?_
    obtain ⟨v1, D1, e1, h⟩ := bI_o h
    refine k_cVv (d' := 2) (pc' := 34) [] [] (c_X12_blanks (d := 2) (Nat.le_refl _) e1) cw_X12_117 kc_11 w_1600 ws_45 dX12_readWord_31 rfl (by omega) rfl rfl (by decide) sk_133 rfl rfl (by decide) (by decide) ?_
    exact j_wk (j_widen (ce := 0) (ke := 0) (by decide) (by decide) (c_X12_readWord_j34 hd hK2 h)) (And.intro rfl (And.intro rfl (And.intro rfl trivial)))
theorem c_X12_readWord_L2 {Ω : mO} {d : Nat} (hd : 4 ≤ d) {r : Int × mD} : ∀ (n : Nat) {x1 : Int} {D : mD}, F_X12_readWord_L2 n x1 D = some r → J Ω M_X12_readWord d 0 0 (rI r.1 r.2) 2 [some (mR 133), some (mI x1), none] [] (SK, D, false) 0 0 := by
  intro n
  induction n with
  | zero => intro x1 D h; exact absurd (show (none : Option (Int × mD)) = some r from h) nofun
  | succ n ih =>
    intro x1 D h
    rw [F_X12_readWord_L2] at h
    refine j_iload_n (pc' := 3) dX12_readWord_2 rfl rfl ?_
    refine j_bipush (pc' := 5) dX12_readWord_3 rfl rfl ?_
    obtain ⟨q1, h⟩ := ck_o h
    refine j_icmp_ne (tgt := 12) (pc' := 8) dX12_readWord_5 rfl rfl q1 (by decide) (fun b1 => ?_) (fun b1 => ?_)
    · replace h := ite_f b1 h
      refine j_aload_n (pc' := 13) dX12_readWord_12 rfl rfl ?_
      refine j_iconst (pc' := 14) dX12_readWord_13 rfl ?_
      refine j_aload_n (pc' := 15) dX12_readWord_14 rfl rfl ?_
      obtain ⟨v1, D1, e1, h⟩ := bI_o h
      refine k_cV (d' := 1) (pc' := 18) [] [mI 0, mR 133] (c_X12_signs (d := 1) (Nat.le_refl _) e1) cw_X12_87 kc_11 w_1631 ws_52 dX12_readWord_15 rfl (by omega) rfl rfl (by decide) sk_133 rfl rfl (by decide) (by decide) ?_
      refine j_iconst (pc' := 19) dX12_readWord_18 rfl ?_
      refine j_isub (pc' := 20) dX12_readWord_19 rfl ?_
      obtain ⟨v2, D2, e2, h⟩ := bI_o h
      refine k_cV (d' := 3) (pc' := 23) [mI 0, mI (v1 - 1)] [] (c_X12_number (d := 3) (Nat.le_refl _) e2) cw_X12_136 kc_11 w_1648 ws_55 dX12_readWord_20 rfl (by omega) rfl rfl (by decide) sk_133 rfl rfl (by decide) (by decide) ?_
      exact j_wk (j_widen (ce := 0) (ke := 0) (by decide) (by decide) (c_X12_readWord_j23 hd ih h)) (And.intro rfl (And.intro rfl trivial))
    · replace h := ite_t b1 h
      refine j_iconst (pc' := 9) dX12_readWord_8 rfl ?_
      refine j_goto (tgt := 23) dX12_readWord_9 rfl ?_
      exact j_wk (j_widen (ce := 0) (ke := 0) (by decide) (by decide) (c_X12_readWord_j23 hd ih h)) (And.intro rfl (And.intro rfl trivial))
theorem c_X12_readWord_e {Ω : mO} {d : Nat} (hd : 4 ≤ d) {r : Int × mD} {D : mD} (h : F_X12_readWord D = some r) : J Ω M_X12_readWord d 0 0 (rI r.1 r.2) 0 [some (mR 133), none, none] [] (SK, D, false) 0 0 := by
  rw [F_X12_readWord] at h
  refine j_iconst (pc' := 1) dX12_readWord_0 rfl ?_
  refine j_istore_n (pc' := 2) (ls' := [some (mR 133), some (mI 0), none]) dX12_readWord_1 rfl (by decide) rfl ?_
  exact j_wk (j_widen (ce := 0) (ke := 0) (by decide) (by decide) (c_X12_readWord_L2 hd _ h)) (And.intro rfl (And.intro rfl trivial))
theorem c_X12_readWord {d : Nat} (hd : 4 ≤ d) {D D' : mD} {v : Int} (h : F_X12_readWord D = some (v, D')) : CM d 0 0 M_X12_readWord [mR 133] (SK, D, false) (rI v D') := CM.intro pn_X12 rfl rfl (Nat.le_of_ble_eq_true rfl) (fun _ => c_X12_readWord_e hd h)
theorem c_X12_readWriter_j39 {Ω : mO} {d : Nat} (hd : 8 ≤ d) {r : Int × mD} {x1 s0 : Int} {D : mD} (h : F_X12_readWriter_j39 x1 s0 D = some r) : J Ω M_X12_readWriter d 0 0 (rI r.1 r.2) 39 [some (mR 133), some (mI x1), none] [mI s0] (SK, D, false) 0 0 := by
  rw [F_X12_readWriter_j39] at h
  refine j_istore_n (pc' := 40) (ls' := [some (mR 133), some (mI x1), some (mI s0)]) dX12_readWriter_39 rfl (by decide) rfl ?_
  refine j_iload_n (pc' := 41) dX12_readWriter_40 rfl rfl ?_
  obtain ⟨q1, h⟩ := ck_o h
  refine j_if_ge (tgt := 46) (pc' := 44) dX12_readWriter_41 rfl rfl q1 (fun b1 => ?_) (fun b1 => ?_)
  · replace h := ite_t b1 h
    refine j_aload_n (pc' := 47) dX12_readWriter_46 rfl rfl ?_
    refine k_getR (pc' := 50) (sl := 1) (r := 134) kc_11 w_1478 (Or.inl rfl) (by decide) dX12_readWriter_47 rfl (by decide) sk_133 (by decide) rfl (by decide) ?_
    refine j_sipush (pc' := 53) dX12_readWriter_50 rfl rfl ?_
    refine j_iconst (pc' := 54) dX12_readWriter_53 rfl ?_
    refine j_aload_n (pc' := 55) dX12_readWriter_54 rfl rfl ?_
    obtain ⟨v1, D1, e1, h⟩ := bI_o h
    refine k_cV (d' := 1) (pc' := 58) [] [mI 2, mI 215, mR 134] (c_X12_writers (d := 1) (Nat.le_refl _) e1) cw_X12_97 kc_11 w_1692 ws_64 dX12_readWriter_55 rfl (by omega) rfl rfl (by decide) sk_133 rfl rfl (by decide) (by decide) ?_
    refine j_imul (pc' := 59) dX12_readWriter_58 rfl ?_
    refine j_iadd (pc' := 60) dX12_readWriter_59 rfl ?_
    refine j_iload_n (pc' := 61) dX12_readWriter_60 rfl rfl ?_
    obtain ⟨q2, h⟩ := ck_o h
    refine k_iast (pc' := 62) dX12_readWriter_61 rfl (by decide) sk_134 (by decide) q2.1 q2.2 ?_
    refine j_aload_n (pc' := 63) dX12_readWriter_62 rfl rfl ?_
    refine k_getR (pc' := 66) (sl := 1) (r := 134) kc_11 w_1478 (Or.inl rfl) (by decide) dX12_readWriter_63 rfl (by decide) sk_133 (by decide) rfl (by decide) ?_
    refine j_sipush (pc' := 69) dX12_readWriter_66 rfl rfl ?_
    refine j_iconst (pc' := 70) dX12_readWriter_69 rfl ?_
    refine j_aload_n (pc' := 71) dX12_readWriter_70 rfl rfl ?_
    obtain ⟨v2, D2, e2, h⟩ := bI_o h
    refine k_cV (d' := 1) (pc' := 74) [] [mI 2, mI 215, mR 134] (c_X12_writers (d := 1) (Nat.le_refl _) e2) cw_X12_97 kc_11 w_1692 ws_64 dX12_readWriter_71 rfl (by omega) rfl rfl (by decide) sk_133 rfl rfl (by decide) (by decide) ?_
    refine j_imul (pc' := 75) dX12_readWriter_74 rfl ?_
    refine j_iadd (pc' := 76) dX12_readWriter_75 rfl ?_
    refine j_iconst (pc' := 77) dX12_readWriter_76 rfl ?_
    refine j_iadd (pc' := 78) dX12_readWriter_77 rfl ?_
    refine j_iload_n (pc' := 79) dX12_readWriter_78 rfl rfl ?_
    obtain ⟨q3, h⟩ := ck_o h
    refine k_iast (pc' := 80) dX12_readWriter_79 rfl (by decide) sk_134 (by decide) q3.1 q3.2 ?_
    refine j_aload_n (pc' := 81) dX12_readWriter_80 rfl rfl ?_
    refine k_getR (pc' := 84) (sl := 1) (r := 134) kc_11 w_1478 (Or.inl rfl) (by decide) dX12_readWriter_81 rfl (by decide) sk_133 (by decide) rfl (by decide) ?_
    refine j_bipush (pc' := 86) dX12_readWriter_84 rfl rfl ?_
    refine j_dup2 (pc' := 87) dX12_readWriter_86 rfl rfl rfl ?_
    refine k_iald (pc' := 88) (z := (pD D2 134 ((215 + (2 * v2)) + 1) s0) 134 7) dX12_readWriter_87 rfl (by decide) sk_134 (by decide) (by decide) (by decide) rfl ?_
    refine j_iconst (pc' := 89) dX12_readWriter_88 rfl ?_
    refine j_iadd (pc' := 90) dX12_readWriter_89 rfl ?_
    refine k_iast (pc' := 91) dX12_readWriter_90 rfl (by decide) sk_134 (by decide) (by decide) (by decide) ?_
    refine j_iconst (pc' := 92) dX12_readWriter_91 rfl ?_
    exact j_zret dX12_readWriter_92 rfl (Or.inr rfl) (by decide) (by decide) (rI_of h)
  · replace h := ite_f b1 h
    refine j_iconst (pc' := 45) dX12_readWriter_44 rfl ?_
    exact j_zret dX12_readWriter_45 rfl (Or.inl rfl) (by decide) (by decide) (rI_of h)
theorem c_X12_readWriter_e {Ω : mO} {d : Nat} (hd : 8 ≤ d) {r : Int × mD} {D : mD} (h : F_X12_readWriter D = some r) : J Ω M_X12_readWriter d 0 0 (rI r.1 r.2) 0 [some (mR 133), none, none] [] (SK, D, false) 0 0 := by
  rw [F_X12_readWriter] at h
  refine j_aload_n (pc' := 1) dX12_readWriter_0 rfl rfl ?_
  obtain ⟨v1, D1, e1, h⟩ := bI_o h
  refine k_cV (d' := 1) (pc' := 4) [] [] (c_X12_writers (d := 1) (Nat.le_refl _) e1) cw_X12_97 kc_11 w_1692 ws_64 dX12_readWriter_1 rfl (by omega) rfl rfl (by decide) sk_133 rfl rfl (by decide) (by decide) ?_
  refine j_bipush (pc' := 6) dX12_readWriter_4 rfl rfl ?_
  obtain ⟨q1, h⟩ := ck_o h
  refine j_icmp_ne (tgt := 11) (pc' := 9) dX12_readWriter_6 rfl rfl q1 (by decide) (fun b1 => ?_) (fun b1 => ?_)
  · replace h := ite_f b1 h
    refine j_aload_n (pc' := 12) dX12_readWriter_11 rfl rfl ?_
    refine j_ldcS (pc' := 14) (si := 68) rfl dX12_readWriter_12 rfl ?_
    refine j_iconst (pc' := 15) dX12_readWriter_14 rfl ?_
    refine j_sipush (pc' := 18) dX12_readWriter_15 rfl rfl ?_
    obtain ⟨v2, D2, e2, h⟩ := bI_o h
    refine k_cV (d' := 7) (pc' := 21) [mR (1000000 + 68), mI 0, mI 999] [] (c_X12_after (d := 7) (Nat.le_refl _) ((by decide)) e2) cw_X12_152 kc_11 w_1644 ws_54 dX12_readWriter_18 rfl (by omega) rfl rfl (by decide) sk_133 rfl rfl (by decide) (by decide) ?_
    refine j_istore_n (pc' := 22) (ls' := [some (mR 133), some (mI v2), none]) dX12_readWriter_21 rfl (by decide) rfl ?_
    refine j_iload_n (pc' := 23) dX12_readWriter_22 rfl rfl ?_
    obtain ⟨q2, h⟩ := ck_o h
    refine j_if_ge (tgt := 30) (pc' := 26) dX12_readWriter_23 rfl rfl q2 (fun b2 => ?_) (fun b2 => ?_)
    · replace h := ite_t b2 h
      refine j_aload_n (pc' := 31) dX12_readWriter_30 rfl rfl ?_
      refine j_ldcS (pc' := 33) (si := 69) rfl dX12_readWriter_31 rfl ?_
      refine j_iconst (pc' := 34) dX12_readWriter_33 rfl ?_
      refine j_bipush (pc' := 36) dX12_readWriter_34 rfl rfl ?_
      obtain ⟨v3, D3, e3, h⟩ := bI_o h
      refine k_cV (d' := 7) (pc' := 39) [mR (1000000 + 69), mI 0, mI 100] [] (c_X12_after (d := 7) (Nat.le_refl _) ((by decide)) e3) cw_X12_152 kc_11 w_1644 ws_54 dX12_readWriter_36 rfl (by omega) rfl rfl (by decide) sk_133 rfl rfl (by decide) (by decide) ?_
      exact j_wk (j_widen (ce := 0) (ke := 0) (by decide) (by decide) (c_X12_readWriter_j39 hd h)) (And.intro rfl (And.intro rfl trivial))
    · replace h := ite_f b2 h
      refine j_iconst (pc' := 27) dX12_readWriter_26 rfl ?_
      refine j_goto (tgt := 39) dX12_readWriter_27 rfl ?_
      exact j_wk (j_widen (ce := 0) (ke := 0) (by decide) (by decide) (c_X12_readWriter_j39 hd h)) (And.intro rfl (And.intro rfl trivial))
  · replace h := ite_t b1 h
    refine j_iconst (pc' := 10) dX12_readWriter_9 rfl ?_
    exact j_zret dX12_readWriter_10 rfl (Or.inl rfl) (by decide) (by decide) (rI_of h)
theorem c_X12_readWriter {d : Nat} (hd : 8 ≤ d) {D D' : mD} {v : Int} (h : F_X12_readWriter D = some (v, D')) : CM d 0 0 M_X12_readWriter [mR 133] (SK, D, false) (rI v D') := CM.intro pn_X12 rfl rfl (Nat.le_of_ble_eq_true rfl) (fun _ => c_X12_readWriter_e hd h)
theorem c_X12_readLooker_e {Ω : mO} {d : Nat} (hd : 4 ≤ d) {r : Int × mD} {D : mD} (h : F_X12_readLooker D = some r) : J Ω M_X12_readLooker d 0 0 (rI r.1 r.2) 0 [some (mR 133), none] [] (SK, D, false) 0 0 := by
  rw [F_X12_readLooker] at h
  refine j_aload_n (pc' := 1) dX12_readLooker_0 rfl rfl ?_
  refine k_getR (pc' := 4) (sl := 1) (r := 134) kc_11 w_1478 (Or.inl rfl) (by decide) dX12_readLooker_1 rfl (by decide) sk_133 (by decide) rfl (by decide) ?_
  refine j_bipush (pc' := 6) dX12_readLooker_4 rfl rfl ?_
  refine k_iald (pc' := 7) (z := D 134 8) dX12_readLooker_6 rfl (by decide) sk_134 (by decide) (by decide) (by decide) rfl ?_
  refine j_bipush (pc' := 9) dX12_readLooker_7 rfl rfl ?_
  obtain ⟨q1, h⟩ := ck_o h
  refine j_icmp_ne (tgt := 14) (pc' := 12) dX12_readLooker_9 rfl rfl q1 (by decide) (fun b1 => ?_) (fun b1 => ?_)
  · replace h := ite_f b1 h
    refine j_aload_n (pc' := 15) dX12_readLooker_14 rfl rfl ?_
    refine j_iconst (pc' := 16) dX12_readLooker_15 rfl ?_
    refine j_sipush (pc' := 19) dX12_readLooker_16 rfl rfl ?_
    obtain ⟨v1, D1, e1, h⟩ := bI_o h
    refine k_cV (d' := 3) (pc' := 22) [mI 0, mI 200] [] (c_X12_number (d := 3) (Nat.le_refl _) e1) cw_X12_136 kc_11 w_1648 ws_55 dX12_readLooker_19 rfl (by omega) rfl rfl (by decide) sk_133 rfl rfl (by decide) (by decide) ?_
    refine j_istore_n (pc' := 23) (ls' := [some (mR 133), some (mI v1)]) dX12_readLooker_22 rfl (by decide) rfl ?_
    refine j_iload_n (pc' := 24) dX12_readLooker_23 rfl rfl ?_
    obtain ⟨q2, h⟩ := ck_o h
    refine j_if_ge (tgt := 29) (pc' := 27) dX12_readLooker_24 rfl rfl q2 (fun b2 => ?_) (fun b2 => ?_)
    · replace h := ite_t b2 h
      refine j_aload_n (pc' := 30) dX12_readLooker_29 rfl rfl ?_
      refine k_getR (pc' := 33) (sl := 1) (r := 134) kc_11 w_1478 (Or.inl rfl) (by decide) dX12_readLooker_30 rfl (by decide) sk_133 (by decide) rfl (by decide) ?_
      refine j_sipush (pc' := 36) dX12_readLooker_33 rfl rfl ?_
      refine j_aload_n (pc' := 37) dX12_readLooker_36 rfl rfl ?_
      refine k_getR (pc' := 40) (sl := 1) (r := 134) kc_11 w_1478 (Or.inl rfl) (by decide) dX12_readLooker_37 rfl (by decide) sk_133 (by decide) rfl (by decide) ?_
      refine j_bipush (pc' := 42) dX12_readLooker_40 rfl rfl ?_
      refine k_iald (pc' := 43) (z := D1 134 8) dX12_readLooker_42 rfl (by decide) sk_134 (by decide) (by decide) (by decide) rfl ?_
      refine j_iadd (pc' := 44) dX12_readLooker_43 rfl ?_
      refine j_iload_n (pc' := 45) dX12_readLooker_44 rfl rfl ?_
      obtain ⟨q3, h⟩ := ck_o h
      refine k_iast (pc' := 46) dX12_readLooker_45 rfl (by decide) sk_134 (by decide) q3.1 q3.2 ?_
      refine j_aload_n (pc' := 47) dX12_readLooker_46 rfl rfl ?_
      refine k_getR (pc' := 50) (sl := 1) (r := 134) kc_11 w_1478 (Or.inl rfl) (by decide) dX12_readLooker_47 rfl (by decide) sk_133 (by decide) rfl (by decide) ?_
      refine j_bipush (pc' := 52) dX12_readLooker_50 rfl rfl ?_
      refine j_dup2 (pc' := 53) dX12_readLooker_52 rfl rfl rfl ?_
      refine k_iald (pc' := 54) (z := (pD D1 134 (227 + (D1 134 8)) v1) 134 8) dX12_readLooker_53 rfl (by decide) sk_134 (by decide) (by decide) (by decide) rfl ?_
      refine j_iconst (pc' := 55) dX12_readLooker_54 rfl ?_
      refine j_iadd (pc' := 56) dX12_readLooker_55 rfl ?_
      refine k_iast (pc' := 57) dX12_readLooker_56 rfl (by decide) sk_134 (by decide) (by decide) (by decide) ?_
      refine j_iconst (pc' := 58) dX12_readLooker_57 rfl ?_
      exact j_zret dX12_readLooker_58 rfl (Or.inr rfl) (by decide) (by decide) (rI_of h)
    · replace h := ite_f b2 h
      refine j_iconst (pc' := 28) dX12_readLooker_27 rfl ?_
      exact j_zret dX12_readLooker_28 rfl (Or.inl rfl) (by decide) (by decide) (rI_of h)
  · replace h := ite_t b1 h
    refine j_iconst (pc' := 13) dX12_readLooker_12 rfl ?_
    exact j_zret dX12_readLooker_13 rfl (Or.inl rfl) (by decide) (by decide) (rI_of h)
theorem c_X12_readLooker {d : Nat} (hd : 4 ≤ d) {D D' : mD} {v : Int} (h : F_X12_readLooker D = some (v, D')) : CM d 0 0 M_X12_readLooker [mR 133] (SK, D, false) (rI v D') := CM.intro pn_X12 rfl rfl (Nat.le_of_ble_eq_true rfl) (fun _ => c_X12_readLooker_e hd h)
theorem c_X12_readNumber_e {Ω : mO} {d : Nat} (hd : 4 ≤ d) {r : Int × mD} {x1 : Int} {D : mD} (h : F_X12_readNumber x1 D = some r) : J Ω M_X12_readNumber d 0 0 (rI r.1 r.2) 0 [some (mR 133), some (mI x1), none] [] (SK, D, false) 0 0 := by
  rw [F_X12_readNumber] at h
  refine j_aload_n (pc' := 1) dX12_readNumber_0 rfl rfl ?_
  refine j_iconst (pc' := 2) dX12_readNumber_1 rfl ?_
  refine j_bipush (pc' := 4) dX12_readNumber_2 rfl rfl ?_
  obtain ⟨v1, D1, e1, h⟩ := bI_o h
  refine k_cV (d' := 3) (pc' := 7) [mI 1, mI 99] [] (c_X12_number (d := 3) (Nat.le_refl _) e1) cw_X12_136 kc_11 w_1648 ws_55 dX12_readNumber_4 rfl (by omega) rfl rfl (by decide) sk_133 rfl rfl (by decide) (by decide) ?_
  refine j_istore_n (pc' := 8) (ls' := [some (mR 133), some (mI x1), some (mI v1)]) dX12_readNumber_7 rfl (by decide) rfl ?_
  refine j_aload_n (pc' := 9) dX12_readNumber_8 rfl rfl ?_
  refine k_getR (pc' := 12) (sl := 1) (r := 134) kc_11 w_1478 (Or.inl rfl) (by decide) dX12_readNumber_9 rfl (by decide) sk_133 (by decide) rfl (by decide) ?_
  refine j_iload_n (pc' := 13) dX12_readNumber_12 rfl rfl ?_
  refine j_iload_n (pc' := 14) dX12_readNumber_13 rfl rfl ?_
  obtain ⟨q1, h⟩ := ck_o h
  refine k_iast (pc' := 15) dX12_readNumber_14 rfl (by decide) sk_134 (by decide) q1.1 q1.2 ?_
  refine j_iload_n (pc' := 16) dX12_readNumber_15 rfl rfl ?_
  obtain ⟨q2, h⟩ := ck_o h
  have hj : J Ω M_X12_readNumber d 0 0 (rI r.1 r.2) 24 [none, none, none] [mI (if v1 < 0 then (0 : Int) else (1 : Int))] (SK, (pD D1 134 x1 v1), false) 0 0 := by
    obtain ⟨q3, h⟩ := ck_o h
    exact j_zret dX12_readNumber_24 rfl q3 (by decide) (by decide) (rI_of h)
  refine j_if_lt (tgt := 23) (pc' := 19) dX12_readNumber_16 rfl rfl q2 (fun b1 => ?_) (fun b1 => ?_)
  · refine j_iconst (pc' := 24) dX12_readNumber_23 rfl ?_
    have hj := hj
    try simp only [if_pos b1] at hj
    exact j_wk hj (trivial)
  · refine j_iconst (pc' := 20) dX12_readNumber_19 rfl ?_
    refine j_goto (tgt := 24) dX12_readNumber_20 rfl ?_
    have hj := hj
    try simp only [if_neg b1] at hj
    exact j_wk hj (trivial)
theorem c_X12_readNumber {d : Nat} (hd : 4 ≤ d) {x1 : Int} {D D' : mD} {v : Int} (h : F_X12_readNumber x1 D = some (v, D')) : CM d 0 0 M_X12_readNumber [mR 133, mI x1] (SK, D, false) (rI v D') := CM.intro pn_X12 rfl rfl (Nat.le_of_ble_eq_true rfl) (fun _ => c_X12_readNumber_e hd h)
theorem c_X12_readShopLine_e {Ω : mO} {d : Nat} (hd : 9 ≤ d) {r : Int × mD} {D : mD} (h : F_X12_readShopLine D = some r) : J Ω M_X12_readShopLine d 0 0 (rI r.1 r.2) 0 [some (mR 133)] [] (SK, D, false) 0 0 := by
  rw [F_X12_readShopLine] at h
  refine j_aload_n (pc' := 1) dX12_readShopLine_0 rfl rfl ?_
  refine j_ldcS (pc' := 3) (si := 54) rfl dX12_readShopLine_1 rfl ?_
  obtain ⟨v1, D1, e1, h⟩ := bI_o h
  refine k_cV (d' := 6) (pc' := 6) [mR (1000000 + 54)] [] (c_X12_isWord (d := 6) (Nat.le_refl _) ((by decide)) e1) cw_X12_132 kc_11 w_1621 ws_50 dX12_readShopLine_3 rfl (by omega) rfl rfl (by decide) sk_133 rfl rfl (by decide) (by decide) ?_
  obtain ⟨q1, h⟩ := ck_o h
  refine j_if_eq (tgt := 14) (pc' := 9) dX12_readShopLine_6 rfl rfl q1 (fun b1 => ?_) (fun b1 => ?_)
  · replace h := ite_t b1 h
    refine j_aload_n (pc' := 15) dX12_readShopLine_14 rfl rfl ?_
    refine j_ldcS (pc' := 17) (si := 62) rfl dX12_readShopLine_15 rfl ?_
    obtain ⟨v2, D2, e2, h⟩ := bI_o h
    refine k_cV (d' := 6) (pc' := 20) [mR (1000000 + 62)] [] (c_X12_isWord (d := 6) (Nat.le_refl _) ((by decide)) e2) cw_X12_132 kc_11 w_1621 ws_50 dX12_readShopLine_17 rfl (by omega) rfl rfl (by decide) sk_133 rfl rfl (by decide) (by decide) ?_
    obtain ⟨q2, h⟩ := ck_o h
    refine j_if_eq (tgt := 28) (pc' := 23) dX12_readShopLine_20 rfl rfl q2 (fun b2 => ?_) (fun b2 => ?_)
    · replace h := ite_t b2 h
      refine j_aload_n (pc' := 29) dX12_readShopLine_28 rfl rfl ?_
      refine j_ldcS (pc' := 31) (si := 64) rfl dX12_readShopLine_29 rfl ?_
      obtain ⟨v3, D3, e3, h⟩ := bI_o h
      refine k_cV (d' := 6) (pc' := 34) [mR (1000000 + 64)] [] (c_X12_isWord (d := 6) (Nat.le_refl _) ((by decide)) e3) cw_X12_132 kc_11 w_1621 ws_50 dX12_readShopLine_31 rfl (by omega) rfl rfl (by decide) sk_133 rfl rfl (by decide) (by decide) ?_
      obtain ⟨q3, h⟩ := ck_o h
      refine j_if_eq (tgt := 43) (pc' := 37) dX12_readShopLine_34 rfl rfl q3 (fun b3 => ?_) (fun b3 => ?_)
      · replace h := ite_t b3 h
        refine j_aload_n (pc' := 44) dX12_readShopLine_43 rfl rfl ?_
        refine j_ldcS (pc' := 46) (si := 65) rfl dX12_readShopLine_44 rfl ?_
        obtain ⟨v4, D4, e4, h⟩ := bI_o h
        refine k_cV (d' := 6) (pc' := 49) [mR (1000000 + 65)] [] (c_X12_isWord (d := 6) (Nat.le_refl _) ((by decide)) e4) cw_X12_132 kc_11 w_1621 ws_50 dX12_readShopLine_46 rfl (by omega) rfl rfl (by decide) sk_133 rfl rfl (by decide) (by decide) ?_
        obtain ⟨q4, h⟩ := ck_o h
        refine j_if_eq (tgt := 59) (pc' := 52) dX12_readShopLine_49 rfl rfl q4 (fun b4 => ?_) (fun b4 => ?_)
        · replace h := ite_t b4 h
          refine j_aload_n (pc' := 60) dX12_readShopLine_59 rfl rfl ?_
          refine j_ldcS (pc' := 62) (si := 66) rfl dX12_readShopLine_60 rfl ?_
          obtain ⟨v5, D5, e5, h⟩ := bI_o h
          refine k_cV (d' := 6) (pc' := 65) [mR (1000000 + 66)] [] (c_X12_isWord (d := 6) (Nat.le_refl _) ((by decide)) e5) cw_X12_132 kc_11 w_1621 ws_50 dX12_readShopLine_62 rfl (by omega) rfl rfl (by decide) sk_133 rfl rfl (by decide) (by decide) ?_
          obtain ⟨q5, h⟩ := ck_o h
          refine j_if_eq (tgt := 73) (pc' := 68) dX12_readShopLine_65 rfl rfl q5 (fun b5 => ?_) (fun b5 => ?_)
          · replace h := ite_t b5 h
            refine j_aload_n (pc' := 74) dX12_readShopLine_73 rfl rfl ?_
            refine j_ldcS (pc' := 76) (si := 67) rfl dX12_readShopLine_74 rfl ?_
            obtain ⟨v6, D6, e6, h⟩ := bI_o h
            refine k_cV (d' := 6) (pc' := 79) [mR (1000000 + 67)] [] (c_X12_isWord (d := 6) (Nat.le_refl _) ((by decide)) e6) cw_X12_132 kc_11 w_1621 ws_50 dX12_readShopLine_76 rfl (by omega) rfl rfl (by decide) sk_133 rfl rfl (by decide) (by decide) ?_
            obtain ⟨q6, h⟩ := ck_o h
            refine j_if_eq (tgt := 87) (pc' := 82) dX12_readShopLine_79 rfl rfl q6 (fun b6 => ?_) (fun b6 => ?_)
            · replace h := ite_t b6 h
              refine j_aload_n (pc' := 88) dX12_readShopLine_87 rfl rfl ?_
              refine j_ldcS (pc' := 90) (si := 70) rfl dX12_readShopLine_88 rfl ?_
              obtain ⟨v7, D7, e7, h⟩ := bI_o h
              refine k_cV (d' := 6) (pc' := 93) [mR (1000000 + 70)] [] (c_X12_isWord (d := 6) (Nat.le_refl _) ((by decide)) e7) cw_X12_132 kc_11 w_1621 ws_50 dX12_readShopLine_90 rfl (by omega) rfl rfl (by decide) sk_133 rfl rfl (by decide) (by decide) ?_
              obtain ⟨q7, h⟩ := ck_o h
              refine j_if_eq (tgt := 107) (pc' := 96) dX12_readShopLine_93 rfl rfl q7 (fun b7 => ?_) (fun b7 => ?_)
              · replace h := ite_t b7 h
                refine j_iconst (pc' := 108) dX12_readShopLine_107 rfl ?_
                exact j_zret dX12_readShopLine_108 rfl (Or.inl rfl) (by decide) (by decide) (rI_of h)
              · replace h := ite_f b7 h
                refine j_aload_n (pc' := 97) dX12_readShopLine_96 rfl rfl ?_
                obtain ⟨v8, D8, e8, h⟩ := bI_o h
                refine k_cV (d' := 4) (pc' := 100) [] [] (c_X12_readLooker (d := 4) (Nat.le_refl _) e8) cw_X12_208 kc_11 w_1699 ws_65 dX12_readShopLine_97 rfl (by omega) rfl rfl (by decide) sk_133 rfl rfl (by decide) (by decide) ?_
                obtain ⟨q8, h⟩ := ck_o h
                have hj : J Ω M_X12_readShopLine d 0 0 (rI r.1 r.2) 108 [none] [mI (if v8 = 0 then (0 : Int) else (1 : Int))] (SK, D8, false) 0 0 := by
                  obtain ⟨q9, h⟩ := ck_o h
                  exact j_zret dX12_readShopLine_108 rfl q9 (by decide) (by decide) (rI_of h)
                refine j_if_eq (tgt := 107) (pc' := 103) dX12_readShopLine_100 rfl rfl q8 (fun b8 => ?_) (fun b8 => ?_)
                · refine j_iconst (pc' := 108) dX12_readShopLine_107 rfl ?_
                  have hj := hj
                  try simp only [if_pos b8] at hj
                  exact j_wk hj (trivial)
                · refine j_iconst (pc' := 104) dX12_readShopLine_103 rfl ?_
                  refine j_goto (tgt := 108) dX12_readShopLine_104 rfl ?_
                  have hj := hj
                  try simp only [if_neg b8] at hj
                  exact j_wk hj (trivial)
            · replace h := ite_f b6 h
              refine j_aload_n (pc' := 83) dX12_readShopLine_82 rfl rfl ?_
              obtain ⟨v9, D9, e9, h⟩ := bI_o h
              refine k_cV (d' := 8) (pc' := 86) [] [] (c_X12_readWriter (d := 8) (Nat.le_refl _) e9) cw_X12_203 kc_11 w_1688 ws_63 dX12_readShopLine_83 rfl (by omega) rfl rfl (by decide) sk_133 rfl rfl (by decide) (by decide) ?_
              obtain ⟨q10, h⟩ := ck_o h
              exact j_zret dX12_readShopLine_86 rfl q10 (by decide) (by decide) (rI_of h)
          · replace h := ite_f b5 h
            refine j_aload_n (pc' := 69) dX12_readShopLine_68 rfl rfl ?_
            obtain ⟨v10, D10, e10, h⟩ := bI_o h
            refine k_cV (d' := 4) (pc' := 72) [] [] (c_X12_readWord (d := 4) (Nat.le_refl _) e10) cw_X12_198 kc_11 w_1675 ws_60 dX12_readShopLine_69 rfl (by omega) rfl rfl (by decide) sk_133 rfl rfl (by decide) (by decide) ?_
            obtain ⟨q11, h⟩ := ck_o h
            exact j_zret dX12_readShopLine_72 rfl q11 (by decide) (by decide) (rI_of h)
        · replace h := ite_f b4 h
          refine j_aload_n (pc' := 53) dX12_readShopLine_52 rfl rfl ?_
          refine j_bipush (pc' := 55) dX12_readShopLine_53 rfl rfl ?_
          obtain ⟨v11, D11, e11, h⟩ := bI_o h
          refine k_cV (d' := 4) (pc' := 58) [mI 6] [] (c_X12_readNumber (d := 4) (Nat.le_refl _) e11) cw_X12_190 kc_11 w_1669 ws_59 dX12_readShopLine_55 rfl (by omega) rfl rfl (by decide) sk_133 rfl rfl (by decide) (by decide) ?_
          obtain ⟨q12, h⟩ := ck_o h
          exact j_zret dX12_readShopLine_58 rfl q12 (by decide) (by decide) (rI_of h)
      · replace h := ite_f b3 h
        refine j_aload_n (pc' := 38) dX12_readShopLine_37 rfl rfl ?_
        refine j_iconst (pc' := 39) dX12_readShopLine_38 rfl ?_
        obtain ⟨v12, D12, e12, h⟩ := bI_o h
        refine k_cV (d' := 4) (pc' := 42) [mI 4] [] (c_X12_readNumber (d := 4) (Nat.le_refl _) e12) cw_X12_190 kc_11 w_1669 ws_59 dX12_readShopLine_39 rfl (by omega) rfl rfl (by decide) sk_133 rfl rfl (by decide) (by decide) ?_
        obtain ⟨q13, h⟩ := ck_o h
        exact j_zret dX12_readShopLine_42 rfl q13 (by decide) (by decide) (rI_of h)
    · replace h := ite_f b2 h
      refine j_aload_n (pc' := 24) dX12_readShopLine_23 rfl rfl ?_
      obtain ⟨v13, D13, e13, h⟩ := bI_o h
      refine k_cV (d' := 8) (pc' := 27) [] [] (c_X12_readBoard (d := 8) (Nat.le_refl _) e13) cw_X12_185 kc_11 w_1663 ws_58 dX12_readShopLine_24 rfl (by omega) rfl rfl (by decide) sk_133 rfl rfl (by decide) (by decide) ?_
      obtain ⟨q14, h⟩ := ck_o h
      exact j_zret dX12_readShopLine_27 rfl q14 (by decide) (by decide) (rI_of h)
  · replace h := ite_f b1 h
    refine j_aload_n (pc' := 10) dX12_readShopLine_9 rfl rfl ?_
    obtain ⟨v14, D14, e14, h⟩ := bI_o h
    refine k_cV (d' := 8) (pc' := 13) [] [] (c_X12_readSign (d := 8) (Nat.le_refl _) e14) cw_X12_180 kc_11 w_1627 ws_51 dX12_readShopLine_10 rfl (by omega) rfl rfl (by decide) sk_133 rfl rfl (by decide) (by decide) ?_
    obtain ⟨q15, h⟩ := ck_o h
    exact j_zret dX12_readShopLine_13 rfl q15 (by decide) (by decide) (rI_of h)
theorem c_X12_readShopLine {d : Nat} (hd : 9 ≤ d) {D D' : mD} {v : Int} (h : F_X12_readShopLine D = some (v, D')) : CM d 0 0 M_X12_readShopLine [mR 133] (SK, D, false) (rI v D') := CM.intro pn_X12 rfl rfl (Nat.le_of_ble_eq_true rfl) (fun _ => c_X12_readShopLine_e hd h)
theorem c_X12_emits_e {Ω : mO} {d : Nat} (hd : 1 ≤ d) {r : Int × mD} {x1 x2 : Int} {D : mD} (h : F_X12_emits x1 x2 D = some r) : J Ω M_X12_emits d 0 0 (rV r.2) 0 [some (mR 133), some (mI x1), some (mI x2)] [] (SK, D, false) 0 0 := by
  rw [F_X12_emits] at h
  refine j_aload_n (pc' := 1) dX12_emits_0 rfl rfl ?_
  refine k_getR (pc' := 4) (sl := 1) (r := 134) kc_11 w_1478 (Or.inl rfl) (by decide) dX12_emits_1 rfl (by decide) sk_133 (by decide) rfl (by decide) ?_
  refine j_sipush (pc' := 7) dX12_emits_4 rfl rfl ?_
  refine j_iconst (pc' := 8) dX12_emits_7 rfl ?_
  refine j_aload_n (pc' := 9) dX12_emits_8 rfl rfl ?_
  refine k_getI (pc' := 12) (sl := 16) (z := D 133 16) kc_11 w_1493 (by decide) dX12_emits_9 rfl (by decide) sk_133 (by decide) rfl rfl ?_
  refine j_imul (pc' := 13) dX12_emits_12 rfl ?_
  refine j_iadd (pc' := 14) dX12_emits_13 rfl ?_
  refine j_iload_n (pc' := 15) dX12_emits_14 rfl rfl ?_
  obtain ⟨q1, h⟩ := ck_o h
  refine k_iast (pc' := 16) dX12_emits_15 rfl (by decide) sk_134 (by decide) q1.1 q1.2 ?_
  refine j_aload_n (pc' := 17) dX12_emits_16 rfl rfl ?_
  refine k_getR (pc' := 20) (sl := 1) (r := 134) kc_11 w_1478 (Or.inl rfl) (by decide) dX12_emits_17 rfl (by decide) sk_133 (by decide) rfl (by decide) ?_
  refine j_sipush (pc' := 23) dX12_emits_20 rfl rfl ?_
  refine j_iconst (pc' := 24) dX12_emits_23 rfl ?_
  refine j_aload_n (pc' := 25) dX12_emits_24 rfl rfl ?_
  refine k_getI (pc' := 28) (sl := 16) (z := (pD D 134 (1373 + (2 * (D 133 16))) x1) 133 16) kc_11 w_1493 (by decide) dX12_emits_25 rfl (by decide) sk_133 (by decide) rfl rfl ?_
  refine j_imul (pc' := 29) dX12_emits_28 rfl ?_
  refine j_iadd (pc' := 30) dX12_emits_29 rfl ?_
  refine j_iconst (pc' := 31) dX12_emits_30 rfl ?_
  refine j_iadd (pc' := 32) dX12_emits_31 rfl ?_
  refine j_iload_n (pc' := 33) dX12_emits_32 rfl rfl ?_
  obtain ⟨q2, h⟩ := ck_o h
  refine k_iast (pc' := 34) dX12_emits_33 rfl (by decide) sk_134 (by decide) q2.1 q2.2 ?_
  refine j_aload_n (pc' := 35) dX12_emits_34 rfl rfl ?_
  refine j_dup (pc' := 36) dX12_emits_35 rfl rfl ?_
  refine k_getI (pc' := 39) (sl := 16) (z := (pD (pD D 134 (1373 + (2 * (D 133 16))) x1) 134 ((1373 + (2 * ((pD D 134 (1373 + (2 * (D 133 16))) x1) 133 16))) + 1) x2) 133 16) kc_11 w_1493 (by decide) dX12_emits_36 rfl (by decide) sk_133 (by decide) rfl rfl ?_
  refine j_iconst (pc' := 40) dX12_emits_39 rfl ?_
  refine j_iadd (pc' := 41) dX12_emits_40 rfl ?_
  refine k_putI (pc' := 44) (sl := 16) (i' := 16) kc_11 w_1493 (by decide) (Or.inl rfl) dX12_emits_41 rfl (by decide) sk_133 (by decide) ⟨rfl, rfl⟩ rfl ?_
  exact j_vret dX12_emits_44 rfl (by decide) (by decide) (rV_of h)
theorem c_X12_emits {d : Nat} (hd : 1 ≤ d) {x1 x2 : Int} {D D' : mD} {v : Int} (h : F_X12_emits x1 x2 D = some (v, D')) : CM d 0 0 M_X12_emits [mR 133, mI x1, mI x2] (SK, D, false) (rV D') := CM.intro pn_X12 rfl rfl (Nat.le_of_ble_eq_true rfl) (fun _ => c_X12_emits_e hd h)
theorem c_X12_readPart_j120 {Ω : mO} {d : Nat} (hd : 7 ≤ d) {r : Int × mD} {x1 : Int} {D : mD} (h : F_X12_readPart_j120 x1 D = some r) : J Ω M_X12_readPart d 0 0 (rI r.1 r.2) 120 [none, some (mI x1)] [] (SK, D, false) 0 0 := by
  rw [F_X12_readPart_j120] at h
  refine j_iload_n (pc' := 121) dX12_readPart_120 rfl rfl ?_
  obtain ⟨q1, h⟩ := ck_o h
  have hj : J Ω M_X12_readPart d 0 0 (rI r.1 r.2) 129 [none, none] [mI (if x1 < 0 then (0 : Int) else (1 : Int))] (SK, D, false) 0 0 := by
    obtain ⟨q2, h⟩ := ck_o h
    exact j_zret dX12_readPart_129 rfl q2 (by decide) (by decide) (rI_of h)
  refine j_if_lt (tgt := 128) (pc' := 124) dX12_readPart_121 rfl rfl q1 (fun b1 => ?_) (fun b1 => ?_)
  · refine j_iconst (pc' := 129) dX12_readPart_128 rfl ?_
    have hj := hj
    try simp only [if_pos b1] at hj
    exact j_wk hj (trivial)
  · refine j_iconst (pc' := 125) dX12_readPart_124 rfl ?_
    refine j_goto (tgt := 129) dX12_readPart_125 rfl ?_
    have hj := hj
    try simp only [if_neg b1] at hj
    exact j_wk hj (trivial)
theorem c_X12_readPart_j113 {Ω : mO} {d : Nat} (hd : 7 ≤ d) {r : Int × mD} {s0 : Int} {D : mD} (h : F_X12_readPart_j113 s0 D = some r) : J Ω M_X12_readPart d 0 0 (rI r.1 r.2) 113 [some (mR 133), none] [mI s0] (SK, D, false) 0 0 := by
  rw [F_X12_readPart_j113] at h
  refine j_istore_n (pc' := 114) (ls' := [some (mR 133), some (mI s0)]) dX12_readPart_113 rfl (by decide) rfl ?_
  refine j_aload_n (pc' := 115) dX12_readPart_114 rfl rfl ?_
  refine j_iload_n (pc' := 116) dX12_readPart_115 rfl rfl ?_
  refine j_iconst (pc' := 117) dX12_readPart_116 rfl ?_
  obtain ⟨v1, D1, e1, h⟩ := bI_o h
  refine k_cVv (d' := 1) (pc' := 120) [mI s0, mI 0] [] (c_X12_emits (d := 1) (Nat.le_refl _) e1) cw_X12_214 kc_11 w_1731 ws_72 dX12_readPart_117 rfl (by omega) rfl rfl (by decide) sk_133 rfl rfl (by decide) (by decide) ?_
  exact j_wk (j_widen (ce := 0) (ke := 0) (by decide) (by decide) (c_X12_readPart_j120 hd h)) (And.intro rfl trivial)
theorem c_X12_readPart_e {Ω : mO} {d : Nat} (hd : 7 ≤ d) {r : Int × mD} {D : mD} (h : F_X12_readPart D = some r) : J Ω M_X12_readPart d 0 0 (rI r.1 r.2) 0 [some (mR 133), none] [] (SK, D, false) 0 0 := by
  rw [F_X12_readPart] at h
  refine j_aload_n (pc' := 1) dX12_readPart_0 rfl rfl ?_
  obtain ⟨v1, D1, e1, h⟩ := bI_o h
  refine k_cVv (d' := 3) (pc' := 4) [] [] (c_X12_lettersPass (d := 3) (Nat.le_refl _) e1) cw_X12_129 kc_11 w_1612 ws_48 dX12_readPart_1 rfl (by omega) rfl rfl (by decide) sk_133 rfl rfl (by decide) (by decide) ?_
  refine j_aload_n (pc' := 5) dX12_readPart_4 rfl rfl ?_
  refine k_getI (pc' := 8) (sl := 10) (z := D1 133 10) kc_11 w_1487 (by decide) dX12_readPart_5 rfl (by decide) sk_133 (by decide) rfl rfl ?_
  refine j_aload_n (pc' := 9) dX12_readPart_8 rfl rfl ?_
  refine k_getI (pc' := 12) (sl := 12) (z := D1 133 12) kc_11 w_1489 (by decide) dX12_readPart_9 rfl (by decide) sk_133 (by decide) rfl rfl ?_
  obtain ⟨q1, h⟩ := ck_o h
  obtain ⟨q2, h⟩ := ck_o h
  refine j_icmp_ne (tgt := 34) (pc' := 15) dX12_readPart_12 rfl rfl q1 q2 (fun b1 => ?_) (fun b1 => ?_)
  · replace h := ite_f b1 h
    refine j_aload_n (pc' := 35) dX12_readPart_34 rfl rfl ?_
    refine j_ldcS (pc' := 37) (si := 75) rfl dX12_readPart_35 rfl ?_
    obtain ⟨v2, D2, e2, h⟩ := bI_o h
    refine k_cV (d' := 6) (pc' := 40) [mR (1000000 + 75)] [] (c_X12_isWord (d := 6) (Nat.le_refl _) ((by decide)) e2) cw_X12_132 kc_11 w_1621 ws_50 dX12_readPart_37 rfl (by omega) rfl rfl (by decide) sk_133 rfl rfl (by decide) (by decide) ?_
    obtain ⟨q3, h⟩ := ck_o h
    refine j_if_eq (tgt := 47) (pc' := 43) dX12_readPart_40 rfl rfl q3 (fun b2 => ?_) (fun b2 => ?_)
    · replace h := ite_t b2 h
      refine j_aload_n (pc' := 48) dX12_readPart_47 rfl rfl ?_
      refine j_ldcS (pc' := 50) (si := 76) rfl dX12_readPart_48 rfl ?_
      obtain ⟨v3, D3, e3, h⟩ := bI_o h
      refine k_cV (d' := 6) (pc' := 53) [mR (1000000 + 76)] [] (c_X12_isWord (d := 6) (Nat.le_refl _) ((by decide)) e3) cw_X12_132 kc_11 w_1621 ws_50 dX12_readPart_50 rfl (by omega) rfl rfl (by decide) sk_133 rfl rfl (by decide) (by decide) ?_
      obtain ⟨q4, h⟩ := ck_o h
      refine j_if_eq (tgt := 60) (pc' := 56) dX12_readPart_53 rfl rfl q4 (fun b3 => ?_) (fun b3 => ?_)
      · replace h := ite_t b3 h
        refine j_aload_n (pc' := 61) dX12_readPart_60 rfl rfl ?_
        refine j_ldcS (pc' := 63) (si := 60) rfl dX12_readPart_61 rfl ?_
        obtain ⟨v4, D4, e4, h⟩ := bI_o h
        refine k_cV (d' := 6) (pc' := 66) [mR (1000000 + 60)] [] (c_X12_isWord (d := 6) (Nat.le_refl _) ((by decide)) e4) cw_X12_132 kc_11 w_1621 ws_50 dX12_readPart_63 rfl (by omega) rfl rfl (by decide) sk_133 rfl rfl (by decide) (by decide) ?_
        obtain ⟨q5, h⟩ := ck_o h
        refine j_if_eq (tgt := 73) (pc' := 69) dX12_readPart_66 rfl rfl q5 (fun b4 => ?_) (fun b4 => ?_)
        · replace h := ite_t b4 h
          refine j_aload_n (pc' := 74) dX12_readPart_73 rfl rfl ?_
          refine j_ldcS (pc' := 76) (si := 61) rfl dX12_readPart_74 rfl ?_
          obtain ⟨v5, D5, e5, h⟩ := bI_o h
          refine k_cV (d' := 6) (pc' := 79) [mR (1000000 + 61)] [] (c_X12_isWord (d := 6) (Nat.le_refl _) ((by decide)) e5) cw_X12_132 kc_11 w_1621 ws_50 dX12_readPart_76 rfl (by omega) rfl rfl (by decide) sk_133 rfl rfl (by decide) (by decide) ?_
          obtain ⟨q6, h⟩ := ck_o h
          refine j_if_eq (tgt := 86) (pc' := 82) dX12_readPart_79 rfl rfl q6 (fun b5 => ?_) (fun b5 => ?_)
          · replace h := ite_t b5 h
            refine j_aload_n (pc' := 87) dX12_readPart_86 rfl rfl ?_
            refine j_ldcS (pc' := 89) (si := 77) rfl dX12_readPart_87 rfl ?_
            obtain ⟨v6, D6, e6, h⟩ := bI_o h
            refine k_cV (d' := 6) (pc' := 92) [mR (1000000 + 77)] [] (c_X12_isWord (d := 6) (Nat.le_refl _) ((by decide)) e6) cw_X12_132 kc_11 w_1621 ws_50 dX12_readPart_89 rfl (by omega) rfl rfl (by decide) sk_133 rfl rfl (by decide) (by decide) ?_
            obtain ⟨q7, h⟩ := ck_o h
            refine j_if_eq (tgt := 99) (pc' := 95) dX12_readPart_92 rfl rfl q7 (fun b6 => ?_) (fun b6 => ?_)
            · replace h := ite_t b6 h
              refine j_aload_n (pc' := 100) dX12_readPart_99 rfl rfl ?_
              refine j_ldcS (pc' := 102) (si := 78) rfl dX12_readPart_100 rfl ?_
              obtain ⟨v7, D7, e7, h⟩ := bI_o h
              refine k_cV (d' := 6) (pc' := 105) [mR (1000000 + 78)] [] (c_X12_isWord (d := 6) (Nat.le_refl _) ((by decide)) e7) cw_X12_132 kc_11 w_1621 ws_50 dX12_readPart_102 rfl (by omega) rfl rfl (by decide) sk_133 rfl rfl (by decide) (by decide) ?_
              obtain ⟨q8, h⟩ := ck_o h
              have hj : J Ω M_X12_readPart d 0 0 (rI r.1 r.2) 113 [some (mR 133), none] [mI (if v7 = 0 then (-1 : Int) else (5 : Int))] (SK, D7, false) 0 0 := by
                exact j_wk (j_widen (ce := 0) (ke := 0) (by decide) (by decide) (c_X12_readPart_j113 hd h)) (And.intro rfl trivial)
              refine j_if_eq (tgt := 112) (pc' := 108) dX12_readPart_105 rfl rfl q8 (fun b7 => ?_) (fun b7 => ?_)
              · refine j_iconst (pc' := 113) dX12_readPart_112 rfl ?_
                have hj := hj
                try simp only [if_pos b7] at hj
                exact j_wk hj (And.intro rfl trivial)
              · refine j_iconst (pc' := 109) dX12_readPart_108 rfl ?_
                refine j_goto (tgt := 113) dX12_readPart_109 rfl ?_
                have hj := hj
                try simp only [if_neg b7] at hj
                exact j_wk hj (And.intro rfl trivial)
            · replace h := ite_f b6 h
              refine j_iconst (pc' := 96) dX12_readPart_95 rfl ?_
              refine j_goto (tgt := 113) dX12_readPart_96 rfl ?_
              exact j_wk (j_widen (ce := 0) (ke := 0) (by decide) (by decide) (c_X12_readPart_j113 hd h)) (And.intro rfl trivial)
          · replace h := ite_f b5 h
            refine j_iconst (pc' := 83) dX12_readPart_82 rfl ?_
            refine j_goto (tgt := 113) dX12_readPart_83 rfl ?_
            exact j_wk (j_widen (ce := 0) (ke := 0) (by decide) (by decide) (c_X12_readPart_j113 hd h)) (And.intro rfl trivial)
        · replace h := ite_f b4 h
          refine j_iconst (pc' := 70) dX12_readPart_69 rfl ?_
          refine j_goto (tgt := 113) dX12_readPart_70 rfl ?_
          exact j_wk (j_widen (ce := 0) (ke := 0) (by decide) (by decide) (c_X12_readPart_j113 hd h)) (And.intro rfl trivial)
      · replace h := ite_f b3 h
        refine j_iconst (pc' := 57) dX12_readPart_56 rfl ?_
        refine j_goto (tgt := 113) dX12_readPart_57 rfl ?_
        exact j_wk (j_widen (ce := 0) (ke := 0) (by decide) (by decide) (c_X12_readPart_j113 hd h)) (And.intro rfl trivial)
    · replace h := ite_f b2 h
      refine j_iconst (pc' := 44) dX12_readPart_43 rfl ?_
      refine j_goto (tgt := 113) dX12_readPart_44 rfl ?_
      exact j_wk (j_widen (ce := 0) (ke := 0) (by decide) (by decide) (c_X12_readPart_j113 hd h)) (And.intro rfl trivial)
  · replace h := ite_t b1 h
    refine j_aload_n (pc' := 16) dX12_readPart_15 rfl rfl ?_
    refine j_iconst (pc' := 17) dX12_readPart_16 rfl ?_
    refine j_sipush (pc' := 20) dX12_readPart_17 rfl rfl ?_
    obtain ⟨v8, D8, e8, h⟩ := bI_o h
    refine k_cV (d' := 3) (pc' := 23) [mI 0, mI 999] [] (c_X12_number (d := 3) (Nat.le_refl _) e8) cw_X12_136 kc_11 w_1648 ws_55 dX12_readPart_20 rfl (by omega) rfl rfl (by decide) sk_133 rfl rfl (by decide) (by decide) ?_
    refine j_istore_n (pc' := 24) (ls' := [some (mR 133), some (mI v8)]) dX12_readPart_23 rfl (by decide) rfl ?_
    refine j_aload_n (pc' := 25) dX12_readPart_24 rfl rfl ?_
    refine j_bipush (pc' := 27) dX12_readPart_25 rfl rfl ?_
    refine j_iload_n (pc' := 28) dX12_readPart_27 rfl rfl ?_
    obtain ⟨v9, D9, e9, h⟩ := bI_o h
    refine k_cVv (d' := 1) (pc' := 31) [mI 7, mI v8] [] (c_X12_emits (d := 1) (Nat.le_refl _) e9) cw_X12_214 kc_11 w_1731 ws_72 dX12_readPart_28 rfl (by omega) rfl rfl (by decide) sk_133 rfl rfl (by decide) (by decide) ?_
    refine j_goto (tgt := 120) dX12_readPart_31 rfl ?_
    exact j_wk (j_widen (ce := 0) (ke := 0) (by decide) (by decide) (c_X12_readPart_j120 hd h)) (And.intro rfl trivial)
theorem c_X12_readPart {d : Nat} (hd : 7 ≤ d) {D D' : mD} {v : Int} (h : F_X12_readPart D = some (v, D')) : CM d 0 0 M_X12_readPart [mR 133] (SK, D, false) (rI v D') := CM.intro pn_X12 rfl rfl (Nat.le_of_ble_eq_true rfl) (fun _ => c_X12_readPart_e hd h)
theorem c_X12_readSum_L9 {Ω : mO} {d : Nat} (hd : 8 ≤ d) {r : Int × mD} : ∀ (n : Nat) {D : mD}, F_X12_readSum_L9 n D = some r → J Ω M_X12_readSum d 0 0 (rI r.1 r.2) 9 [some (mR 133)] [] (SK, D, false) 0 0 := by
  intro n
  induction n with
  | zero => intro D h; exact absurd (show (none : Option (Int × mD)) = some r from h) nofun
  | succ n ih =>
    intro D h
    rw [F_X12_readSum_L9] at h
    refine j_aload_n (pc' := 10) dX12_readSum_9 rfl rfl ?_
    refine j_bipush (pc' := 12) dX12_readSum_10 rfl rfl ?_
    obtain ⟨v1, D1, e1, h⟩ := bI_o h
    refine k_cV (d' := 3) (pc' := 15) [mI 43] [] (c_X12_isSign (d := 3) (Nat.le_refl _) e1) cw_X12_229 kc_11 w_1726 ws_71 dX12_readSum_12 rfl (by omega) rfl rfl (by decide) sk_133 rfl rfl (by decide) (by decide) ?_
    obtain ⟨q1, h⟩ := ck_o h
    refine j_if_eq (tgt := 37) (pc' := 18) dX12_readSum_15 rfl rfl q1 (fun b1 => ?_) (fun b1 => ?_)
    · replace h := ite_t b1 h
      refine j_iconst (pc' := 38) dX12_readSum_37 rfl ?_
      exact j_zret dX12_readSum_38 rfl (Or.inr rfl) (by decide) (by decide) (rI_of h)
    · replace h := ite_f b1 h
      refine j_aload_n (pc' := 19) dX12_readSum_18 rfl rfl ?_
      obtain ⟨v2, D2, e2, h⟩ := bI_o h
      refine k_cV (d' := 7) (pc' := 22) [] [] (c_X12_readPart (d := 7) (Nat.le_refl _) e2) cw_X12_226 kc_11 w_1743 ws_75 dX12_readSum_19 rfl (by omega) rfl rfl (by decide) sk_133 rfl rfl (by decide) (by decide) ?_
      obtain ⟨q2, h⟩ := ck_o h
      refine j_if_ne (tgt := 27) (pc' := 25) dX12_readSum_22 rfl rfl q2 (fun b2 => ?_) (fun b2 => ?_)
      · replace h := ite_f b2 h
        refine j_aload_n (pc' := 28) dX12_readSum_27 rfl rfl ?_
        refine j_bipush (pc' := 30) dX12_readSum_28 rfl rfl ?_
        refine j_iconst (pc' := 31) dX12_readSum_30 rfl ?_
        obtain ⟨v3, D3, e3, h⟩ := bI_o h
        refine k_cVv (d' := 1) (pc' := 34) [mI 8, mI 0] [] (c_X12_emits (d := 1) (Nat.le_refl _) e3) cw_X12_214 kc_11 w_1731 ws_72 dX12_readSum_31 rfl (by omega) rfl rfl (by decide) sk_133 rfl rfl (by decide) (by decide) ?_
        refine j_goto (tgt := 9) dX12_readSum_34 rfl ?_
        exact j_wk (j_widen (ce := 0) (ke := 0) (by decide) (by decide) (ih h)) (And.intro rfl trivial)
      · replace h := ite_t b2 h
        refine j_iconst (pc' := 26) dX12_readSum_25 rfl ?_
        exact j_zret dX12_readSum_26 rfl (Or.inl rfl) (by decide) (by decide) (rI_of h)
theorem c_X12_readSum_e {Ω : mO} {d : Nat} (hd : 8 ≤ d) {r : Int × mD} {D : mD} (h : F_X12_readSum D = some r) : J Ω M_X12_readSum d 0 0 (rI r.1 r.2) 0 [some (mR 133)] [] (SK, D, false) 0 0 := by
  rw [F_X12_readSum] at h
  refine j_aload_n (pc' := 1) dX12_readSum_0 rfl rfl ?_
  obtain ⟨v1, D1, e1, h⟩ := bI_o h
  refine k_cV (d' := 7) (pc' := 4) [] [] (c_X12_readPart (d := 7) (Nat.le_refl _) e1) cw_X12_226 kc_11 w_1743 ws_75 dX12_readSum_1 rfl (by omega) rfl rfl (by decide) sk_133 rfl rfl (by decide) (by decide) ?_
  obtain ⟨q1, h⟩ := ck_o h
  refine j_if_ne (tgt := 9) (pc' := 7) dX12_readSum_4 rfl rfl q1 (fun b1 => ?_) (fun b1 => ?_)
  · replace h := ite_f b1 h
    exact j_wk (j_widen (ce := 0) (ke := 0) (by decide) (by decide) (c_X12_readSum_L9 hd _ h)) (And.intro rfl trivial)
  · replace h := ite_t b1 h
    refine j_iconst (pc' := 8) dX12_readSum_7 rfl ?_
    exact j_zret dX12_readSum_8 rfl (Or.inl rfl) (by decide) (by decide) (rI_of h)
theorem c_X12_readSum {d : Nat} (hd : 8 ≤ d) {D D' : mD} {v : Int} (h : F_X12_readSum D = some (v, D')) : CM d 0 0 M_X12_readSum [mR 133] (SK, D, false) (rI v D') := CM.intro pn_X12 rfl rfl (Nat.le_of_ble_eq_true rfl) (fun _ => c_X12_readSum_e hd h)
theorem c_X12_readTag_j31 {Ω : mO} {d : Nat} (hd : 8 ≤ d) {r : Int × mD} {x1 : Int} {D : mD} (h : F_X12_readTag_j31 x1 D = some r) : J Ω M_X12_readTag d 0 0 (rI r.1 r.2) 31 [none, some (mI x1)] [] (SK, D, false) 0 0 := by
  rw [F_X12_readTag_j31] at h
  refine j_iload_n (pc' := 32) dX12_readTag_31 rfl rfl ?_
  obtain ⟨q1, h⟩ := ck_o h
  have hj : J Ω M_X12_readTag d 0 0 (rI r.1 r.2) 40 [none, none] [mI (if x1 ≤ 0 then (0 : Int) else (1 : Int))] (SK, D, false) 0 0 := by
    obtain ⟨q2, h⟩ := ck_o h
    exact j_zret dX12_readTag_40 rfl q2 (by decide) (by decide) (rI_of h)
  refine j_if_le (tgt := 39) (pc' := 35) dX12_readTag_32 rfl rfl q1 (fun b1 => ?_) (fun b1 => ?_)
  · refine j_iconst (pc' := 40) dX12_readTag_39 rfl ?_
    have hj := hj
    try simp only [if_pos b1] at hj
    exact j_wk hj (trivial)
  · refine j_iconst (pc' := 36) dX12_readTag_35 rfl ?_
    refine j_goto (tgt := 40) dX12_readTag_36 rfl ?_
    have hj := hj
    try simp only [if_neg b1] at hj
    exact j_wk hj (trivial)
theorem c_X12_readTag_e {Ω : mO} {d : Nat} (hd : 8 ≤ d) {r : Int × mD} {D : mD} (h : F_X12_readTag D = some r) : J Ω M_X12_readTag d 0 0 (rI r.1 r.2) 0 [some (mR 133), none] [] (SK, D, false) 0 0 := by
  rw [F_X12_readTag] at h
  refine j_aload_n (pc' := 1) dX12_readTag_0 rfl rfl ?_
  obtain ⟨v1, D1, e1, h⟩ := bI_o h
  refine k_cVv (d' := 3) (pc' := 4) [] [] (c_X12_lettersPass (d := 3) (Nat.le_refl _) e1) cw_X12_129 kc_11 w_1612 ws_48 dX12_readTag_1 rfl (by omega) rfl rfl (by decide) sk_133 rfl rfl (by decide) (by decide) ?_
  refine j_aload_n (pc' := 5) dX12_readTag_4 rfl rfl ?_
  obtain ⟨v2, D2, e2, h⟩ := bI_o h
  refine k_cV (d' := 7) (pc' := 8) [] [] (c_X12_sortTold (d := 7) (Nat.le_refl _) e2) cw_X12_147 kc_11 w_1635 ws_53 dX12_readTag_5 rfl (by omega) rfl rfl (by decide) sk_133 rfl rfl (by decide) (by decide) ?_
  refine j_istore_n (pc' := 9) (ls' := [some (mR 133), some (mI v2)]) dX12_readTag_8 rfl (by decide) rfl ?_
  refine j_iload_n (pc' := 10) dX12_readTag_9 rfl rfl ?_
  obtain ⟨q1, h⟩ := ck_o h
  refine j_if_le (tgt := 23) (pc' := 13) dX12_readTag_10 rfl rfl q1 (fun b1 => ?_) (fun b1 => ?_)
  · replace h := ite_t b1 h
    refine j_aload_n (pc' := 24) dX12_readTag_23 rfl rfl ?_
    refine j_aload_n (pc' := 25) dX12_readTag_24 rfl rfl ?_
    refine k_getI (pc' := 28) (sl := 12) (z := D2 133 12) kc_11 w_1489 (by decide) dX12_readTag_25 rfl (by decide) sk_133 (by decide) rfl rfl ?_
    refine k_putI (pc' := 31) (sl := 10) (i' := 10) kc_11 w_1487 (by decide) (Or.inl rfl) dX12_readTag_28 rfl (by decide) sk_133 (by decide) ⟨rfl, rfl⟩ rfl ?_
    exact j_wk (j_widen (ce := 0) (ke := 0) (by decide) (by decide) (c_X12_readTag_j31 hd h)) (And.intro rfl trivial)
  · replace h := ite_f b1 h
    refine j_aload_n (pc' := 14) dX12_readTag_13 rfl rfl ?_
    refine j_bipush (pc' := 16) dX12_readTag_14 rfl rfl ?_
    refine j_iload_n (pc' := 17) dX12_readTag_16 rfl rfl ?_
    obtain ⟨v3, D3, e3, h⟩ := bI_o h
    refine k_cVv (d' := 1) (pc' := 20) [mI 6, mI v2] [] (c_X12_emits (d := 1) (Nat.le_refl _) e3) cw_X12_214 kc_11 w_1731 ws_72 dX12_readTag_17 rfl (by omega) rfl rfl (by decide) sk_133 rfl rfl (by decide) (by decide) ?_
    refine j_goto (tgt := 31) dX12_readTag_20 rfl ?_
    exact j_wk (j_widen (ce := 0) (ke := 0) (by decide) (by decide) (c_X12_readTag_j31 hd h)) (And.intro rfl trivial)
theorem c_X12_readTag {d : Nat} (hd : 8 ≤ d) {D D' : mD} {v : Int} (h : F_X12_readTag D = some (v, D')) : CM d 0 0 M_X12_readTag [mR 133] (SK, D, false) (rI v D') := CM.intro pn_X12 rfl rfl (Nat.le_of_ble_eq_true rfl) (fun _ => c_X12_readTag_e hd h)
theorem c_X12_readAtom_j173 {Ω : mO} {d : Nat} (hd : 9 ≤ d) {d_readAtom : Nat} (hd_readAtom : d_readAtom + 1 ≤ d) {f_readAtom : mD → RI} (h_readAtom : ∀ {D D' : mD} {v : Int}, f_readAtom D = some (v, D') → CM d_readAtom 0 0 M_X12_readAtom [mR 133] (SK, D, false) (rI v D')) {d_readCond : Nat} (hd_readCond : d_readCond + 1 ≤ d) {f_readCond : mD → RI} (h_readCond : ∀ {D D' : mD} {v : Int}, f_readCond D = some (v, D') → CM d_readCond 0 0 M_X12_readCond [mR 133] (SK, D, false) (rI v D')) {r : Int × mD} {s1 : Int} {D : mD} (h : F_X12_readAtom_j173 f_readAtom f_readCond s1 D = some r) : J Ω M_X12_readAtom d 0 0 (rI r.1 r.2) 173 [none, none] [mI s1, mR 133] (SK, D, false) 0 0 := by
  rw [F_X12_readAtom_j173] at h
  refine j_iconst (pc' := 174) dX12_readAtom_173 rfl ?_
  obtain ⟨v1, D1, e1, h⟩ := bI_o h
  refine k_cVv (d' := 1) (pc' := 177) [mI s1, mI 0] [] (c_X12_emits (d := 1) (Nat.le_refl _) e1) cw_X12_214 kc_11 w_1731 ws_72 dX12_readAtom_174 rfl (by omega) rfl rfl (by decide) sk_133 rfl rfl (by decide) (by decide) ?_
  refine j_iconst (pc' := 178) dX12_readAtom_177 rfl ?_
  exact j_zret dX12_readAtom_178 rfl (Or.inr rfl) (by decide) (by decide) (rI_of h)
theorem c_X12_readAtom_j152 {Ω : mO} {d : Nat} (hd : 9 ≤ d) {d_readAtom : Nat} (hd_readAtom : d_readAtom + 1 ≤ d) {f_readAtom : mD → RI} (h_readAtom : ∀ {D D' : mD} {v : Int}, f_readAtom D = some (v, D') → CM d_readAtom 0 0 M_X12_readAtom [mR 133] (SK, D, false) (rI v D')) {d_readCond : Nat} (hd_readCond : d_readCond + 1 ≤ d) {f_readCond : mD → RI} (h_readCond : ∀ {D D' : mD} {v : Int}, f_readCond D = some (v, D') → CM d_readCond 0 0 M_X12_readCond [mR 133] (SK, D, false) (rI v D')) {r : Int × mD} {x1 : Int} {D : mD} (h : F_X12_readAtom_j152 f_readAtom f_readCond x1 D = some r) : J Ω M_X12_readAtom d 0 0 (rI r.1 r.2) 152 [some (mR 133), some (mI x1)] [] (SK, D, false) 0 0 := by
  rw [F_X12_readAtom_j152] at h
  refine j_aload_n (pc' := 153) dX12_readAtom_152 rfl rfl ?_
  obtain ⟨v1, D1, e1, h⟩ := bI_o h
  refine k_cV (d' := 8) (pc' := 156) [] [] (c_X12_readSum (d := 8) (Nat.le_refl _) e1) cw_X12_249 kc_11 w_1739 ws_74 dX12_readAtom_153 rfl (by omega) rfl rfl (by decide) sk_133 rfl rfl (by decide) (by decide) ?_
  obtain ⟨q1, h⟩ := ck_o h
  refine j_if_ne (tgt := 161) (pc' := 159) dX12_readAtom_156 rfl rfl q1 (fun b1 => ?_) (fun b1 => ?_)
  · replace h := ite_f b1 h
    refine j_aload_n (pc' := 162) dX12_readAtom_161 rfl rfl ?_
    refine j_iload_n (pc' := 163) dX12_readAtom_162 rfl rfl ?_
    obtain ⟨q2, h⟩ := ck_o h
    have hj : J Ω M_X12_readAtom d 0 0 (rI r.1 r.2) 173 [none, none] [mI (if x1 = 0 then (10 : Int) else (9 : Int)), mR 133] (SK, D1, false) 0 0 := by
      exact j_wk (j_widen (ce := 0) (ke := 0) (by decide) (by decide) (c_X12_readAtom_j173 hd hd_readAtom h_readAtom hd_readCond h_readCond h)) (trivial)
    refine j_if_eq (tgt := 171) (pc' := 166) dX12_readAtom_163 rfl rfl q2 (fun b2 => ?_) (fun b2 => ?_)
    · refine j_bipush (pc' := 173) dX12_readAtom_171 rfl rfl ?_
      have hj := hj
      try simp only [if_pos b2] at hj
      exact j_wk hj (trivial)
    · refine j_bipush (pc' := 168) dX12_readAtom_166 rfl rfl ?_
      refine j_goto (tgt := 173) dX12_readAtom_168 rfl ?_
      have hj := hj
      try simp only [if_neg b2] at hj
      exact j_wk hj (trivial)
  · replace h := ite_t b1 h
    refine j_iconst (pc' := 160) dX12_readAtom_159 rfl ?_
    exact j_zret dX12_readAtom_160 rfl (Or.inl rfl) (by decide) (by decide) (rI_of h)
theorem c_X12_readAtom_e {Ω : mO} {d : Nat} (hd : 9 ≤ d) {d_readAtom : Nat} (hd_readAtom : d_readAtom + 1 ≤ d) {f_readAtom : mD → RI} (h_readAtom : ∀ {D D' : mD} {v : Int}, f_readAtom D = some (v, D') → CM d_readAtom 0 0 M_X12_readAtom [mR 133] (SK, D, false) (rI v D')) {d_readCond : Nat} (hd_readCond : d_readCond + 1 ≤ d) {f_readCond : mD → RI} (h_readCond : ∀ {D D' : mD} {v : Int}, f_readCond D = some (v, D') → CM d_readCond 0 0 M_X12_readCond [mR 133] (SK, D, false) (rI v D')) {r : Int × mD} {D : mD} (h : F_X12_readAtom f_readAtom f_readCond D = some r) : J Ω M_X12_readAtom d 0 0 (rI r.1 r.2) 0 [some (mR 133), none] [] (SK, D, false) 0 0 := by
  rw [F_X12_readAtom] at h
  refine j_aload_n (pc' := 1) dX12_readAtom_0 rfl rfl ?_
  refine j_bipush (pc' := 3) dX12_readAtom_1 rfl rfl ?_
  obtain ⟨v1, D1, e1, h⟩ := bI_o h
  refine k_cV (d' := 3) (pc' := 6) [mI 40] [] (c_X12_isSign (d := 3) (Nat.le_refl _) e1) cw_X12_229 kc_11 w_1726 ws_71 dX12_readAtom_3 rfl (by omega) rfl rfl (by decide) sk_133 rfl rfl (by decide) (by decide) ?_
  obtain ⟨q1, h⟩ := ck_o h
  refine j_if_eq (tgt := 56) (pc' := 9) dX12_readAtom_6 rfl rfl q1 (fun b1 => ?_) (fun b1 => ?_)
  · replace h := ite_t b1 h
    refine j_aload_n (pc' := 57) dX12_readAtom_56 rfl rfl ?_
    refine j_ldcS (pc' := 59) (si := 74) rfl dX12_readAtom_57 rfl ?_
    obtain ⟨v2, D2, e2, h⟩ := bI_o h
    refine k_cV (d' := 7) (pc' := 62) [mR (1000000 + 74)] [] (c_X12_passes (d := 7) (Nat.le_refl _) ((by decide)) e2) cw_X12_240 kc_11 w_1710 ws_67 dX12_readAtom_59 rfl (by omega) rfl rfl (by decide) sk_133 rfl rfl (by decide) (by decide) ?_
    obtain ⟨q2, h⟩ := ck_o h
    refine j_if_eq (tgt := 114) (pc' := 65) dX12_readAtom_62 rfl rfl q2 (fun b2 => ?_) (fun b2 => ?_)
    · replace h := ite_t b2 h
      refine j_aload_n (pc' := 115) dX12_readAtom_114 rfl rfl ?_
      obtain ⟨v3, D3, e3, h⟩ := bI_o h
      refine k_cV (d' := 8) (pc' := 118) [] [] (c_X12_readTag (d := 8) (Nat.le_refl _) e3) cw_X12_246 kc_11 w_1735 ws_73 dX12_readAtom_115 rfl (by omega) rfl rfl (by decide) sk_133 rfl rfl (by decide) (by decide) ?_
      obtain ⟨q3, h⟩ := ck_o h
      refine j_if_eq (tgt := 123) (pc' := 121) dX12_readAtom_118 rfl rfl q3 (fun b3 => ?_) (fun b3 => ?_)
      · replace h := ite_t b3 h
        refine j_aload_n (pc' := 124) dX12_readAtom_123 rfl rfl ?_
        obtain ⟨v4, D4, e4, h⟩ := bI_o h
        refine k_cV (d' := 8) (pc' := 127) [] [] (c_X12_readSum (d := 8) (Nat.le_refl _) e4) cw_X12_249 kc_11 w_1739 ws_74 dX12_readAtom_124 rfl (by omega) rfl rfl (by decide) sk_133 rfl rfl (by decide) (by decide) ?_
        obtain ⟨q4, h⟩ := ck_o h
        refine j_if_ne (tgt := 132) (pc' := 130) dX12_readAtom_127 rfl rfl q4 (fun b4 => ?_) (fun b4 => ?_)
        · replace h := ite_f b4 h
          refine j_aload_n (pc' := 133) dX12_readAtom_132 rfl rfl ?_
          refine j_bipush (pc' := 135) dX12_readAtom_133 rfl rfl ?_
          obtain ⟨v5, D5, e5, h⟩ := bI_o h
          refine k_cV (d' := 3) (pc' := 138) [mI 60] [] (c_X12_isSign (d := 3) (Nat.le_refl _) e5) cw_X12_229 kc_11 w_1726 ws_71 dX12_readAtom_135 rfl (by omega) rfl rfl (by decide) sk_133 rfl rfl (by decide) (by decide) ?_
          refine j_istore_n (pc' := 139) (ls' := [some (mR 133), some (mI v5)]) dX12_readAtom_138 rfl (by decide) rfl ?_
          refine j_iload_n (pc' := 140) dX12_readAtom_139 rfl rfl ?_
          obtain ⟨q5, h⟩ := ck_o h
          refine j_if_ne (tgt := 152) (pc' := 143) dX12_readAtom_140 rfl rfl q5 (fun b5 => ?_) (fun b5 => ?_)
          · replace h := ite_f b5 h
            exact j_wk (j_widen (ce := 0) (ke := 0) (by decide) (by decide) (c_X12_readAtom_j152 hd hd_readAtom h_readAtom hd_readCond h_readCond h)) (And.intro rfl (And.intro rfl trivial))
          · replace h := ite_t b5 h
            refine j_aload_n (pc' := 144) dX12_readAtom_143 rfl rfl ?_
            refine j_bipush (pc' := 146) dX12_readAtom_144 rfl rfl ?_
            obtain ⟨v6, D6, e6, h⟩ := bI_o h
            refine k_cV (d' := 3) (pc' := 149) [mI 62] [] (c_X12_isSign (d := 3) (Nat.le_refl _) e6) cw_X12_229 kc_11 w_1726 ws_71 dX12_readAtom_146 rfl (by omega) rfl rfl (by decide) sk_133 rfl rfl (by decide) (by decide) ?_
            obtain ⟨q6, h⟩ := ck_o h
            refine j_if_eq (tgt := 159) (pc' := 152) dX12_readAtom_149 rfl rfl q6 (fun b6 => ?_) (fun b6 => ?_)
            · replace h := ite_t b6 h
              refine j_iconst (pc' := 160) dX12_readAtom_159 rfl ?_
              exact j_zret dX12_readAtom_160 rfl (Or.inl rfl) (by decide) (by decide) (rI_of h)
            · replace h := ite_f b6 h
              exact j_wk (j_widen (ce := 0) (ke := 0) (by decide) (by decide) (c_X12_readAtom_j152 hd hd_readAtom h_readAtom hd_readCond h_readCond h)) (And.intro rfl (And.intro rfl trivial))
        · replace h := ite_t b4 h
          refine j_iconst (pc' := 131) dX12_readAtom_130 rfl ?_
          exact j_zret dX12_readAtom_131 rfl (Or.inl rfl) (by decide) (by decide) (rI_of h)
      · replace h := ite_f b3 h
        refine j_iconst (pc' := 122) dX12_readAtom_121 rfl ?_
        exact j_zret dX12_readAtom_122 rfl (Or.inr rfl) (by decide) (by decide) (rI_of h)
    · replace h := ite_f b2 h
      refine j_aload_n (pc' := 66) dX12_readAtom_65 rfl rfl ?_
      refine k_getI (pc' := 69) (sl := 13) (z := D2 133 13) kc_11 w_1490 (by decide) dX12_readAtom_66 rfl (by decide) sk_133 (by decide) rfl rfl ?_
      refine j_bipush (pc' := 71) dX12_readAtom_69 rfl rfl ?_
      obtain ⟨q7, h⟩ := ck_o h
      refine j_icmp_ne (tgt := 76) (pc' := 74) dX12_readAtom_71 rfl rfl q7 (by decide) (fun b7 => ?_) (fun b7 => ?_)
      · replace h := ite_f b7 h
        refine j_aload_n (pc' := 77) dX12_readAtom_76 rfl rfl ?_
        refine j_dup (pc' := 78) dX12_readAtom_77 rfl rfl ?_
        refine k_getI (pc' := 81) (sl := 13) (z := D2 133 13) kc_11 w_1490 (by decide) dX12_readAtom_78 rfl (by decide) sk_133 (by decide) rfl rfl ?_
        refine j_iconst (pc' := 82) dX12_readAtom_81 rfl ?_
        refine j_iadd (pc' := 83) dX12_readAtom_82 rfl ?_
        refine k_putI (pc' := 86) (sl := 13) (i' := 13) kc_11 w_1490 (by decide) (Or.inl rfl) dX12_readAtom_83 rfl (by decide) sk_133 (by decide) ⟨rfl, rfl⟩ rfl ?_
        refine j_aload_n (pc' := 87) dX12_readAtom_86 rfl rfl ?_
        obtain ⟨v7, D7, e7, h⟩ := bI_o h
        refine k_cV (d' := d_readAtom) (pc' := 90) [] [] (h_readAtom e7) cw_X12_243 kc_11 w_1722 ws_70 dX12_readAtom_87 rfl hd_readAtom rfl rfl (by decide) sk_133 rfl rfl (by decide) (by decide) ?_
        obtain ⟨q8, h⟩ := ck_o h
        refine j_if_ne (tgt := 95) (pc' := 93) dX12_readAtom_90 rfl rfl q8 (fun b8 => ?_) (fun b8 => ?_)
        · replace h := ite_f b8 h
          refine j_aload_n (pc' := 96) dX12_readAtom_95 rfl rfl ?_
          refine j_dup (pc' := 97) dX12_readAtom_96 rfl rfl ?_
          refine k_getI (pc' := 100) (sl := 13) (z := D7 133 13) kc_11 w_1490 (by decide) dX12_readAtom_97 rfl (by decide) sk_133 (by decide) rfl rfl ?_
          refine j_iconst (pc' := 101) dX12_readAtom_100 rfl ?_
          refine j_isub (pc' := 102) dX12_readAtom_101 rfl ?_
          refine k_putI (pc' := 105) (sl := 13) (i' := 13) kc_11 w_1490 (by decide) (Or.inl rfl) dX12_readAtom_102 rfl (by decide) sk_133 (by decide) ⟨rfl, rfl⟩ rfl ?_
          refine j_aload_n (pc' := 106) dX12_readAtom_105 rfl rfl ?_
          refine j_bipush (pc' := 108) dX12_readAtom_106 rfl rfl ?_
          refine j_iconst (pc' := 109) dX12_readAtom_108 rfl ?_
          obtain ⟨v8, D8, e8, h⟩ := bI_o h
          refine k_cVv (d' := 1) (pc' := 112) [mI 11, mI 0] [] (c_X12_emits (d := 1) (Nat.le_refl _) e8) cw_X12_214 kc_11 w_1731 ws_72 dX12_readAtom_109 rfl (by omega) rfl rfl (by decide) sk_133 rfl rfl (by decide) (by decide) ?_
          refine j_iconst (pc' := 113) dX12_readAtom_112 rfl ?_
          exact j_zret dX12_readAtom_113 rfl (Or.inr rfl) (by decide) (by decide) (rI_of h)
        · replace h := ite_t b8 h
          refine j_iconst (pc' := 94) dX12_readAtom_93 rfl ?_
          exact j_zret dX12_readAtom_94 rfl (Or.inl rfl) (by decide) (by decide) (rI_of h)
      · replace h := ite_t b7 h
        refine j_iconst (pc' := 75) dX12_readAtom_74 rfl ?_
        exact j_zret dX12_readAtom_75 rfl (Or.inl rfl) (by decide) (by decide) (rI_of h)
  · replace h := ite_f b1 h
    refine j_aload_n (pc' := 10) dX12_readAtom_9 rfl rfl ?_
    refine k_getI (pc' := 13) (sl := 13) (z := D1 133 13) kc_11 w_1490 (by decide) dX12_readAtom_10 rfl (by decide) sk_133 (by decide) rfl rfl ?_
    refine j_bipush (pc' := 15) dX12_readAtom_13 rfl rfl ?_
    obtain ⟨q9, h⟩ := ck_o h
    refine j_icmp_ne (tgt := 20) (pc' := 18) dX12_readAtom_15 rfl rfl q9 (by decide) (fun b9 => ?_) (fun b9 => ?_)
    · replace h := ite_f b9 h
      refine j_aload_n (pc' := 21) dX12_readAtom_20 rfl rfl ?_
      refine j_dup (pc' := 22) dX12_readAtom_21 rfl rfl ?_
      refine k_getI (pc' := 25) (sl := 13) (z := D1 133 13) kc_11 w_1490 (by decide) dX12_readAtom_22 rfl (by decide) sk_133 (by decide) rfl rfl ?_
      refine j_iconst (pc' := 26) dX12_readAtom_25 rfl ?_
      refine j_iadd (pc' := 27) dX12_readAtom_26 rfl ?_
      refine k_putI (pc' := 30) (sl := 13) (i' := 13) kc_11 w_1490 (by decide) (Or.inl rfl) dX12_readAtom_27 rfl (by decide) sk_133 (by decide) ⟨rfl, rfl⟩ rfl ?_
      refine j_aload_n (pc' := 31) dX12_readAtom_30 rfl rfl ?_
      obtain ⟨v9, D9, e9, h⟩ := bI_o h
      refine k_cV (d' := d_readCond) (pc' := 34) [] [] (h_readCond e9) cw_X12_235 kc_11 w_1714 ws_68 dX12_readAtom_31 rfl hd_readCond rfl rfl (by decide) sk_133 rfl rfl (by decide) (by decide) ?_
      obtain ⟨q10, h⟩ := ck_o h
      refine j_if_ne (tgt := 39) (pc' := 37) dX12_readAtom_34 rfl rfl q10 (fun b10 => ?_) (fun b10 => ?_)
      · replace h := ite_f b10 h
        refine j_aload_n (pc' := 40) dX12_readAtom_39 rfl rfl ?_
        refine j_dup (pc' := 41) dX12_readAtom_40 rfl rfl ?_
        refine k_getI (pc' := 44) (sl := 13) (z := D9 133 13) kc_11 w_1490 (by decide) dX12_readAtom_41 rfl (by decide) sk_133 (by decide) rfl rfl ?_
        refine j_iconst (pc' := 45) dX12_readAtom_44 rfl ?_
        refine j_isub (pc' := 46) dX12_readAtom_45 rfl ?_
        refine k_putI (pc' := 49) (sl := 13) (i' := 13) kc_11 w_1490 (by decide) (Or.inl rfl) dX12_readAtom_46 rfl (by decide) sk_133 (by decide) ⟨rfl, rfl⟩ rfl ?_
        refine j_aload_n (pc' := 50) dX12_readAtom_49 rfl rfl ?_
        refine j_bipush (pc' := 52) dX12_readAtom_50 rfl rfl ?_
        obtain ⟨v10, D10, e10, h⟩ := bI_o h
        refine k_cV (d' := 3) (pc' := 55) [mI 41] [] (c_X12_isSign (d := 3) (Nat.le_refl _) e10) cw_X12_229 kc_11 w_1726 ws_71 dX12_readAtom_52 rfl (by omega) rfl rfl (by decide) sk_133 rfl rfl (by decide) (by decide) ?_
        obtain ⟨q11, h⟩ := ck_o h
        exact j_zret dX12_readAtom_55 rfl q11 (by decide) (by decide) (rI_of h)
      · replace h := ite_t b10 h
        refine j_iconst (pc' := 38) dX12_readAtom_37 rfl ?_
        exact j_zret dX12_readAtom_38 rfl (Or.inl rfl) (by decide) (by decide) (rI_of h)
    · replace h := ite_t b9 h
      refine j_iconst (pc' := 19) dX12_readAtom_18 rfl ?_
      exact j_zret dX12_readAtom_19 rfl (Or.inl rfl) (by decide) (by decide) (rI_of h)
theorem c_X12_readAtom {d : Nat} (hd : 9 ≤ d) {d_readAtom : Nat} (hd_readAtom : d_readAtom + 1 ≤ d) {f_readAtom : mD → RI} (h_readAtom : ∀ {D D' : mD} {v : Int}, f_readAtom D = some (v, D') → CM d_readAtom 0 0 M_X12_readAtom [mR 133] (SK, D, false) (rI v D')) {d_readCond : Nat} (hd_readCond : d_readCond + 1 ≤ d) {f_readCond : mD → RI} (h_readCond : ∀ {D D' : mD} {v : Int}, f_readCond D = some (v, D') → CM d_readCond 0 0 M_X12_readCond [mR 133] (SK, D, false) (rI v D')) {D D' : mD} {v : Int} (h : F_X12_readAtom f_readAtom f_readCond D = some (v, D')) : CM d 0 0 M_X12_readAtom [mR 133] (SK, D, false) (rI v D') := CM.intro pn_X12 rfl rfl (Nat.le_of_ble_eq_true rfl) (fun _ => c_X12_readAtom_e hd hd_readAtom h_readAtom hd_readCond h_readCond h)
theorem c_X12_readAllOf_L9 {Ω : mO} {d : Nat} (hd : 8 ≤ d) {d_readAtom : Nat} (hd_readAtom : d_readAtom + 1 ≤ d) {f_readAtom : mD → RI} (h_readAtom : ∀ {D D' : mD} {v : Int}, f_readAtom D = some (v, D') → CM d_readAtom 0 0 M_X12_readAtom [mR 133] (SK, D, false) (rI v D')) {r : Int × mD} : ∀ (n : Nat) {D : mD}, F_X12_readAllOf_L9 f_readAtom n D = some r → J Ω M_X12_readAllOf d 0 0 (rI r.1 r.2) 9 [some (mR 133)] [] (SK, D, false) 0 0 := by
  intro n
  induction n with
  | zero => intro D h; exact absurd (show (none : Option (Int × mD)) = some r from h) nofun
  | succ n ih =>
    intro D h
    rw [F_X12_readAllOf_L9] at h
    refine j_aload_n (pc' := 10) dX12_readAllOf_9 rfl rfl ?_
    refine j_ldcS (pc' := 12) (si := 79) rfl dX12_readAllOf_10 rfl ?_
    obtain ⟨v1, D1, e1, h⟩ := bI_o h
    refine k_cV (d' := 7) (pc' := 15) [mR (1000000 + 79)] [] (c_X12_passes (d := 7) (Nat.le_refl _) ((by decide)) e1) cw_X12_240 kc_11 w_1710 ws_67 dX12_readAllOf_12 rfl (by omega) rfl rfl (by decide) sk_133 rfl rfl (by decide) (by decide) ?_
    obtain ⟨q1, h⟩ := ck_o h
    refine j_if_eq (tgt := 37) (pc' := 18) dX12_readAllOf_15 rfl rfl q1 (fun b1 => ?_) (fun b1 => ?_)
    · replace h := ite_t b1 h
      refine j_iconst (pc' := 38) dX12_readAllOf_37 rfl ?_
      exact j_zret dX12_readAllOf_38 rfl (Or.inr rfl) (by decide) (by decide) (rI_of h)
    · replace h := ite_f b1 h
      refine j_aload_n (pc' := 19) dX12_readAllOf_18 rfl rfl ?_
      obtain ⟨v2, D2, e2, h⟩ := bI_o h
      refine k_cV (d' := d_readAtom) (pc' := 22) [] [] (h_readAtom e2) cw_X12_243 kc_11 w_1722 ws_70 dX12_readAllOf_19 rfl hd_readAtom rfl rfl (by decide) sk_133 rfl rfl (by decide) (by decide) ?_
      obtain ⟨q2, h⟩ := ck_o h
      refine j_if_ne (tgt := 27) (pc' := 25) dX12_readAllOf_22 rfl rfl q2 (fun b2 => ?_) (fun b2 => ?_)
      · replace h := ite_f b2 h
        refine j_aload_n (pc' := 28) dX12_readAllOf_27 rfl rfl ?_
        refine j_bipush (pc' := 30) dX12_readAllOf_28 rfl rfl ?_
        refine j_iconst (pc' := 31) dX12_readAllOf_30 rfl ?_
        obtain ⟨v3, D3, e3, h⟩ := bI_o h
        refine k_cVv (d' := 1) (pc' := 34) [mI 12, mI 0] [] (c_X12_emits (d := 1) (Nat.le_refl _) e3) cw_X12_214 kc_11 w_1731 ws_72 dX12_readAllOf_31 rfl (by omega) rfl rfl (by decide) sk_133 rfl rfl (by decide) (by decide) ?_
        refine j_goto (tgt := 9) dX12_readAllOf_34 rfl ?_
        exact j_wk (j_widen (ce := 0) (ke := 0) (by decide) (by decide) (ih h)) (And.intro rfl trivial)
      · replace h := ite_t b2 h
        refine j_iconst (pc' := 26) dX12_readAllOf_25 rfl ?_
        exact j_zret dX12_readAllOf_26 rfl (Or.inl rfl) (by decide) (by decide) (rI_of h)
theorem c_X12_readAllOf_e {Ω : mO} {d : Nat} (hd : 8 ≤ d) {d_readAtom : Nat} (hd_readAtom : d_readAtom + 1 ≤ d) {f_readAtom : mD → RI} (h_readAtom : ∀ {D D' : mD} {v : Int}, f_readAtom D = some (v, D') → CM d_readAtom 0 0 M_X12_readAtom [mR 133] (SK, D, false) (rI v D')) {r : Int × mD} {D : mD} (h : F_X12_readAllOf f_readAtom D = some r) : J Ω M_X12_readAllOf d 0 0 (rI r.1 r.2) 0 [some (mR 133)] [] (SK, D, false) 0 0 := by
  rw [F_X12_readAllOf] at h
  refine j_aload_n (pc' := 1) dX12_readAllOf_0 rfl rfl ?_
  obtain ⟨v1, D1, e1, h⟩ := bI_o h
  refine k_cV (d' := d_readAtom) (pc' := 4) [] [] (h_readAtom e1) cw_X12_243 kc_11 w_1722 ws_70 dX12_readAllOf_1 rfl hd_readAtom rfl rfl (by decide) sk_133 rfl rfl (by decide) (by decide) ?_
  obtain ⟨q1, h⟩ := ck_o h
  refine j_if_ne (tgt := 9) (pc' := 7) dX12_readAllOf_4 rfl rfl q1 (fun b1 => ?_) (fun b1 => ?_)
  · replace h := ite_f b1 h
    exact j_wk (j_widen (ce := 0) (ke := 0) (by decide) (by decide) (c_X12_readAllOf_L9 hd hd_readAtom h_readAtom _ h)) (And.intro rfl trivial)
  · replace h := ite_t b1 h
    refine j_iconst (pc' := 8) dX12_readAllOf_7 rfl ?_
    exact j_zret dX12_readAllOf_8 rfl (Or.inl rfl) (by decide) (by decide) (rI_of h)
theorem c_X12_readAllOf {d : Nat} (hd : 8 ≤ d) {d_readAtom : Nat} (hd_readAtom : d_readAtom + 1 ≤ d) {f_readAtom : mD → RI} (h_readAtom : ∀ {D D' : mD} {v : Int}, f_readAtom D = some (v, D') → CM d_readAtom 0 0 M_X12_readAtom [mR 133] (SK, D, false) (rI v D')) {D D' : mD} {v : Int} (h : F_X12_readAllOf f_readAtom D = some (v, D')) : CM d 0 0 M_X12_readAllOf [mR 133] (SK, D, false) (rI v D') := CM.intro pn_X12 rfl rfl (Nat.le_of_ble_eq_true rfl) (fun _ => c_X12_readAllOf_e hd hd_readAtom h_readAtom h)
theorem c_X12_readCond_L9 {Ω : mO} {d : Nat} (hd : 8 ≤ d) {d_readAllOf : Nat} (hd_readAllOf : d_readAllOf + 1 ≤ d) {f_readAllOf : mD → RI} (h_readAllOf : ∀ {D D' : mD} {v : Int}, f_readAllOf D = some (v, D') → CM d_readAllOf 0 0 M_X12_readAllOf [mR 133] (SK, D, false) (rI v D')) {r : Int × mD} : ∀ (n : Nat) {D : mD}, F_X12_readCond_L9 f_readAllOf n D = some r → J Ω M_X12_readCond d 0 0 (rI r.1 r.2) 9 [some (mR 133)] [] (SK, D, false) 0 0 := by
  intro n
  induction n with
  | zero => intro D h; exact absurd (show (none : Option (Int × mD)) = some r from h) nofun
  | succ n ih =>
    intro D h
    rw [F_X12_readCond_L9] at h
    refine j_aload_n (pc' := 10) dX12_readCond_9 rfl rfl ?_
    refine j_ldcwS (pc' := 13) (si := 80) rfl dX12_readCond_10 rfl ?_
    obtain ⟨v1, D1, e1, h⟩ := bI_o h
    refine k_cV (d' := 7) (pc' := 16) [mR (1000000 + 80)] [] (c_X12_passes (d := 7) (Nat.le_refl _) ((by decide)) e1) cw_X12_240 kc_11 w_1710 ws_67 dX12_readCond_13 rfl (by omega) rfl rfl (by decide) sk_133 rfl rfl (by decide) (by decide) ?_
    obtain ⟨q1, h⟩ := ck_o h
    refine j_if_eq (tgt := 38) (pc' := 19) dX12_readCond_16 rfl rfl q1 (fun b1 => ?_) (fun b1 => ?_)
    · replace h := ite_t b1 h
      refine j_iconst (pc' := 39) dX12_readCond_38 rfl ?_
      exact j_zret dX12_readCond_39 rfl (Or.inr rfl) (by decide) (by decide) (rI_of h)
    · replace h := ite_f b1 h
      refine j_aload_n (pc' := 20) dX12_readCond_19 rfl rfl ?_
      obtain ⟨v2, D2, e2, h⟩ := bI_o h
      refine k_cV (d' := d_readAllOf) (pc' := 23) [] [] (h_readAllOf e2) cw_X12_254 kc_11 w_1718 ws_69 dX12_readCond_20 rfl hd_readAllOf rfl rfl (by decide) sk_133 rfl rfl (by decide) (by decide) ?_
      obtain ⟨q2, h⟩ := ck_o h
      refine j_if_ne (tgt := 28) (pc' := 26) dX12_readCond_23 rfl rfl q2 (fun b2 => ?_) (fun b2 => ?_)
      · replace h := ite_f b2 h
        refine j_aload_n (pc' := 29) dX12_readCond_28 rfl rfl ?_
        refine j_bipush (pc' := 31) dX12_readCond_29 rfl rfl ?_
        refine j_iconst (pc' := 32) dX12_readCond_31 rfl ?_
        obtain ⟨v3, D3, e3, h⟩ := bI_o h
        refine k_cVv (d' := 1) (pc' := 35) [mI 13, mI 0] [] (c_X12_emits (d := 1) (Nat.le_refl _) e3) cw_X12_214 kc_11 w_1731 ws_72 dX12_readCond_32 rfl (by omega) rfl rfl (by decide) sk_133 rfl rfl (by decide) (by decide) ?_
        refine j_goto (tgt := 9) dX12_readCond_35 rfl ?_
        exact j_wk (j_widen (ce := 0) (ke := 0) (by decide) (by decide) (ih h)) (And.intro rfl trivial)
      · replace h := ite_t b2 h
        refine j_iconst (pc' := 27) dX12_readCond_26 rfl ?_
        exact j_zret dX12_readCond_27 rfl (Or.inl rfl) (by decide) (by decide) (rI_of h)
theorem c_X12_readCond_e {Ω : mO} {d : Nat} (hd : 8 ≤ d) {d_readAllOf : Nat} (hd_readAllOf : d_readAllOf + 1 ≤ d) {f_readAllOf : mD → RI} (h_readAllOf : ∀ {D D' : mD} {v : Int}, f_readAllOf D = some (v, D') → CM d_readAllOf 0 0 M_X12_readAllOf [mR 133] (SK, D, false) (rI v D')) {r : Int × mD} {D : mD} (h : F_X12_readCond f_readAllOf D = some r) : J Ω M_X12_readCond d 0 0 (rI r.1 r.2) 0 [some (mR 133)] [] (SK, D, false) 0 0 := by
  rw [F_X12_readCond] at h
  refine j_aload_n (pc' := 1) dX12_readCond_0 rfl rfl ?_
  obtain ⟨v1, D1, e1, h⟩ := bI_o h
  refine k_cV (d' := d_readAllOf) (pc' := 4) [] [] (h_readAllOf e1) cw_X12_254 kc_11 w_1718 ws_69 dX12_readCond_1 rfl hd_readAllOf rfl rfl (by decide) sk_133 rfl rfl (by decide) (by decide) ?_
  obtain ⟨q1, h⟩ := ck_o h
  refine j_if_ne (tgt := 9) (pc' := 7) dX12_readCond_4 rfl rfl q1 (fun b1 => ?_) (fun b1 => ?_)
  · replace h := ite_f b1 h
    exact j_wk (j_widen (ce := 0) (ke := 0) (by decide) (by decide) (c_X12_readCond_L9 hd hd_readAllOf h_readAllOf _ h)) (And.intro rfl trivial)
  · replace h := ite_t b1 h
    refine j_iconst (pc' := 8) dX12_readCond_7 rfl ?_
    exact j_zret dX12_readCond_8 rfl (Or.inl rfl) (by decide) (by decide) (rI_of h)
theorem c_X12_readCond {d : Nat} (hd : 8 ≤ d) {d_readAllOf : Nat} (hd_readAllOf : d_readAllOf + 1 ≤ d) {f_readAllOf : mD → RI} (h_readAllOf : ∀ {D D' : mD} {v : Int}, f_readAllOf D = some (v, D') → CM d_readAllOf 0 0 M_X12_readAllOf [mR 133] (SK, D, false) (rI v D')) {D D' : mD} {v : Int} (h : F_X12_readCond f_readAllOf D = some (v, D')) : CM d 0 0 M_X12_readCond [mR 133] (SK, D, false) (rI v D') := CM.intro pn_X12 rfl rfl (Nat.le_of_ble_eq_true rfl) (fun _ => c_X12_readCond_e hd hd_readAllOf h_readAllOf h)
theorem cg_atom12 : ∀ (n : Nat) {D D' : mD} {v : Int}, GA12 n D = some (v, D') → CM (12 + 3 * n) 0 0 M_X12_readAtom [mR 133] (SK, D, false) (rI v D') := by
  intro n
  induction n with
  | zero => intro D D' v h; cases h
  | succ n ih =>
    intro D D' v h
    exact c_X12_readAtom (by omega) (d_readAtom := 12 + 3 * n) (by omega) ih (d_readCond := 12 + 3 * n + 2) (by omega) (fun h => c_X12_readCond (by omega) (d_readAllOf := 12 + 3 * n + 1) (by omega) (fun h => c_X12_readAllOf (by omega) (d_readAtom := 12 + 3 * n) (by omega) ih h) h) h
theorem cg_X12_readCond {D D' : mD} {v : Int} (h : G_X12_readCond D = some (v, D')) : CM 50 0 0 M_X12_readCond [mR 133] (SK, D, false) (rI v D') :=
  c_X12_readCond (by omega) (d_readAllOf := 12 + 3 * 8 + 1) (by omega) (fun h => c_X12_readAllOf (by omega) (d_readAtom := 12 + 3 * 8) (by omega) (cg_atom12 8) h) h
theorem c_X12_readLawLine_j120 {Ω : mO} {d : Nat} (hd : 51 ≤ d) {r : Int × mD} {x2 : Int} {D : mD} (h : F_X12_readLawLine_j120 x2 D = some r) : J Ω M_X12_readLawLine d 0 0 (rI r.1 r.2) 120 [some (mR 133), none, some (mI x2), none] [] (SK, D, false) 0 0 := by
  rw [F_X12_readLawLine_j120] at h
  refine j_aload_n (pc' := 121) dX12_readLawLine_120 rfl rfl ?_
  refine k_getR (pc' := 124) (sl := 1) (r := 134) kc_11 w_1478 (Or.inl rfl) (by decide) dX12_readLawLine_121 rfl (by decide) sk_133 (by decide) rfl (by decide) ?_
  refine j_iload_n (pc' := 125) dX12_readLawLine_124 rfl rfl ?_
  refine j_iconst (pc' := 126) dX12_readLawLine_125 rfl ?_
  refine j_iadd (pc' := 127) dX12_readLawLine_126 rfl ?_
  refine j_aload_n (pc' := 128) dX12_readLawLine_127 rfl rfl ?_
  refine k_getI (pc' := 131) (sl := 16) (z := D 133 16) kc_11 w_1493 (by decide) dX12_readLawLine_128 rfl (by decide) sk_133 (by decide) rfl rfl ?_
  obtain ⟨q1, h⟩ := ck_o h
  refine k_iast (pc' := 132) dX12_readLawLine_131 rfl (by decide) sk_134 (by decide) q1.1 q1.2 ?_
  refine j_iconst (pc' := 133) dX12_readLawLine_132 rfl ?_
  exact j_zret dX12_readLawLine_133 rfl (Or.inr rfl) (by decide) (by decide) (rI_of h)
theorem c_X12_readLawLine_j67 {Ω : mO} {d : Nat} (hd : 51 ≤ d) {r : Int × mD} {x2 s1 s3 s4 : Int} {D : mD} (h : F_X12_readLawLine_j67 x2 s1 s3 s4 D = some r) : J Ω M_X12_readLawLine d 0 0 (rI r.1 r.2) 67 [some (mR 133), none, some (mI x2), none] [mI s4, mI s3, mR 133, mI s1, mR 134] (SK, D, false) 0 0 := by
  rw [F_X12_readLawLine_j67] at h
  obtain ⟨v1, D1, e1, h⟩ := bI_o h
  refine k_cV (d' := 3) (pc' := 70) [mI s3, mI s4] [mI s1, mR 134] (c_X12_number (d := 3) (Nat.le_refl _) e1) cw_X12_136 kc_11 w_1648 ws_55 dX12_readLawLine_67 rfl (by omega) rfl rfl (by decide) sk_133 rfl rfl (by decide) (by decide) ?_
  obtain ⟨q1, h⟩ := ck_o h
  refine k_iast (pc' := 71) dX12_readLawLine_70 rfl (by decide) sk_134 (by decide) q1.1 q1.2 ?_
  refine j_aload_n (pc' := 72) dX12_readLawLine_71 rfl rfl ?_
  refine k_getR (pc' := 75) (sl := 1) (r := 134) kc_11 w_1478 (Or.inl rfl) (by decide) dX12_readLawLine_72 rfl (by decide) sk_133 (by decide) rfl (by decide) ?_
  refine j_iload_n (pc' := 76) dX12_readLawLine_75 rfl rfl ?_
  refine j_iconst (pc' := 77) dX12_readLawLine_76 rfl ?_
  refine j_iadd (pc' := 78) dX12_readLawLine_77 rfl ?_
  obtain ⟨q2, h⟩ := ck_o h
  refine k_iald (pc' := 79) (z := (pD D1 134 s1 v1) 134 (x2 + 1)) dX12_readLawLine_78 rfl (by decide) sk_134 (by decide) q2.1 q2.2 rfl ?_
  obtain ⟨q3, h⟩ := ck_o h
  refine j_if_ge (tgt := 84) (pc' := 82) dX12_readLawLine_79 rfl rfl q3 (fun b1 => ?_) (fun b1 => ?_)
  · replace h := ite_t b1 h
    refine j_aload_n (pc' := 85) dX12_readLawLine_84 rfl rfl ?_
    refine k_getR (pc' := 88) (sl := 1) (r := 134) kc_11 w_1478 (Or.inl rfl) (by decide) dX12_readLawLine_85 rfl (by decide) sk_133 (by decide) rfl (by decide) ?_
    refine j_iload_n (pc' := 89) dX12_readLawLine_88 rfl rfl ?_
    refine j_iconst (pc' := 90) dX12_readLawLine_89 rfl ?_
    refine j_iadd (pc' := 91) dX12_readLawLine_90 rfl ?_
    refine j_aload_n (pc' := 92) dX12_readLawLine_91 rfl rfl ?_
    refine k_getI (pc' := 95) (sl := 16) (z := (pD D1 134 s1 v1) 133 16) kc_11 w_1493 (by decide) dX12_readLawLine_92 rfl (by decide) sk_133 (by decide) rfl rfl ?_
    obtain ⟨q4, h⟩ := ck_o h
    refine k_iast (pc' := 96) dX12_readLawLine_95 rfl (by decide) sk_134 (by decide) q4.1 q4.2 ?_
    refine j_aload_n (pc' := 97) dX12_readLawLine_96 rfl rfl ?_
    refine j_iconst (pc' := 98) dX12_readLawLine_97 rfl ?_
    refine k_putI (pc' := 101) (sl := 13) (i' := 13) kc_11 w_1490 (by decide) (Or.inl rfl) dX12_readLawLine_98 rfl (by decide) sk_133 (by decide) ⟨rfl, rfl⟩ rfl ?_
    refine j_aload_n (pc' := 102) dX12_readLawLine_101 rfl rfl ?_
    refine j_ldcwS (pc' := 105) (si := 73) rfl dX12_readLawLine_102 rfl ?_
    obtain ⟨v2, D2, e2, h⟩ := bI_o h
    refine k_cV (d' := 7) (pc' := 108) [mR (1000000 + 73)] [] (c_X12_passes (d := 7) (Nat.le_refl _) ((by decide)) e2) cw_X12_240 kc_11 w_1710 ws_67 dX12_readLawLine_105 rfl (by omega) rfl rfl (by decide) sk_133 rfl rfl (by decide) (by decide) ?_
    obtain ⟨q5, h⟩ := ck_o h
    refine j_if_eq (tgt := 120) (pc' := 111) dX12_readLawLine_108 rfl rfl q5 (fun b2 => ?_) (fun b2 => ?_)
    · replace h := ite_t b2 h
      exact j_wk (j_widen (ce := 0) (ke := 0) (by decide) (by decide) (c_X12_readLawLine_j120 hd h)) (And.intro rfl (And.intro rfl trivial))
    · replace h := ite_f b2 h
      refine j_aload_n (pc' := 112) dX12_readLawLine_111 rfl rfl ?_
      obtain ⟨v3, D3, e3, h⟩ := bI_o h
      refine k_cV (d' := 50) (pc' := 115) [] [] (cg_X12_readCond e3) cw_X12_235 kc_11 w_1714 ws_68 dX12_readLawLine_112 rfl (by omega) rfl rfl (by decide) sk_133 rfl rfl (by decide) (by decide) ?_
      obtain ⟨q6, h⟩ := ck_o h
      refine j_if_ne (tgt := 120) (pc' := 118) dX12_readLawLine_115 rfl rfl q6 (fun b3 => ?_) (fun b3 => ?_)
      · replace h := ite_f b3 h
        exact j_wk (j_widen (ce := 0) (ke := 0) (by decide) (by decide) (c_X12_readLawLine_j120 hd h)) (And.intro rfl (And.intro rfl trivial))
      · replace h := ite_t b3 h
        refine j_iconst (pc' := 119) dX12_readLawLine_118 rfl ?_
        exact j_zret dX12_readLawLine_119 rfl (Or.inl rfl) (by decide) (by decide) (rI_of h)
  · replace h := ite_f b1 h
    refine j_iconst (pc' := 83) dX12_readLawLine_82 rfl ?_
    exact j_zret dX12_readLawLine_83 rfl (Or.inl rfl) (by decide) (by decide) (rI_of h)
theorem c_X12_readLawLine_j46 {Ω : mO} {d : Nat} (hd : 51 ≤ d) {r : Int × mD} {x2 x3 s1 s2 : Int} {D : mD} (h : F_X12_readLawLine_j46 x2 x3 s1 s2 D = some r) : J Ω M_X12_readLawLine d 0 0 (rI r.1 r.2) 46 [some (mR 133), none, some (mI x2), some (mI x3)] [mI s2, mI s1, mR 134] (SK, D, false) 0 0 := by
  rw [F_X12_readLawLine_j46] at h
  obtain ⟨q1, h⟩ := ck_o h
  refine k_iast (pc' := 47) dX12_readLawLine_46 rfl (by decide) sk_134 (by decide) q1.1 q1.2 ?_
  refine j_aload_n (pc' := 48) dX12_readLawLine_47 rfl rfl ?_
  refine k_getR (pc' := 51) (sl := 1) (r := 134) kc_11 w_1478 (Or.inl rfl) (by decide) dX12_readLawLine_48 rfl (by decide) sk_133 (by decide) rfl (by decide) ?_
  refine j_iload_n (pc' := 52) dX12_readLawLine_51 rfl rfl ?_
  refine j_iconst (pc' := 53) dX12_readLawLine_52 rfl ?_
  refine j_iadd (pc' := 54) dX12_readLawLine_53 rfl ?_
  refine j_aload_n (pc' := 55) dX12_readLawLine_54 rfl rfl ?_
  refine j_iconst (pc' := 56) dX12_readLawLine_55 rfl ?_
  refine j_iload_n (pc' := 57) dX12_readLawLine_56 rfl rfl ?_
  obtain ⟨q2, h⟩ := ck_o h
  have hj : J Ω M_X12_readLawLine d 0 0 (rI r.1 r.2) 67 [some (mR 133), none, some (mI x2), none] [mI (if x3 = 0 then (9 : Int) else (99 : Int)), mI 0, mR 133, mI (x2 + 1), mR 134] (SK, (pD D 134 s1 s2), false) 0 0 := by
    exact j_wk (j_widen (ce := 0) (ke := 0) (by decide) (by decide) (c_X12_readLawLine_j67 hd h)) (And.intro rfl (And.intro rfl trivial))
  refine j_if_eq (tgt := 65) (pc' := 60) dX12_readLawLine_57 rfl rfl q2 (fun b1 => ?_) (fun b1 => ?_)
  · refine j_bipush (pc' := 67) dX12_readLawLine_65 rfl rfl ?_
    have hj := hj
    try simp only [if_pos b1] at hj
    exact j_wk hj (And.intro rfl (And.intro rfl trivial))
  · refine j_bipush (pc' := 62) dX12_readLawLine_60 rfl rfl ?_
    refine j_goto (tgt := 67) dX12_readLawLine_62 rfl ?_
    have hj := hj
    try simp only [if_neg b1] at hj
    exact j_wk hj (And.intro rfl (And.intro rfl trivial))
theorem c_X12_readLawLine_j32 {Ω : mO} {d : Nat} (hd : 51 ≤ d) {r : Int × mD} {x2 x3 : Int} {D : mD} (h : F_X12_readLawLine_j32 x2 x3 D = some r) : J Ω M_X12_readLawLine d 0 0 (rI r.1 r.2) 32 [some (mR 133), none, some (mI x2), some (mI x3)] [] (SK, D, false) 0 0 := by
  rw [F_X12_readLawLine_j32] at h
  refine j_aload_n (pc' := 33) dX12_readLawLine_32 rfl rfl ?_
  refine k_getR (pc' := 36) (sl := 1) (r := 134) kc_11 w_1478 (Or.inl rfl) (by decide) dX12_readLawLine_33 rfl (by decide) sk_133 (by decide) rfl (by decide) ?_
  refine j_iload_n (pc' := 37) dX12_readLawLine_36 rfl rfl ?_
  refine j_iload_n (pc' := 38) dX12_readLawLine_37 rfl rfl ?_
  obtain ⟨q1, h⟩ := ck_o h
  have hj : J Ω M_X12_readLawLine d 0 0 (rI r.1 r.2) 46 [some (mR 133), none, some (mI x2), some (mI x3)] [mI (if x3 = 0 then (0 : Int) else (1 : Int)), mI x2, mR 134] (SK, D, false) 0 0 := by
    exact j_wk (j_widen (ce := 0) (ke := 0) (by decide) (by decide) (c_X12_readLawLine_j46 hd h)) (And.intro rfl (And.intro rfl (And.intro rfl trivial)))
  refine j_if_eq (tgt := 45) (pc' := 41) dX12_readLawLine_38 rfl rfl q1 (fun b1 => ?_) (fun b1 => ?_)
  · refine j_iconst (pc' := 46) dX12_readLawLine_45 rfl ?_
    have hj := hj
    try simp only [if_pos b1] at hj
    exact j_wk hj (And.intro rfl (And.intro rfl (And.intro rfl trivial)))
  · refine j_iconst (pc' := 42) dX12_readLawLine_41 rfl ?_
    refine j_goto (tgt := 46) dX12_readLawLine_42 rfl ?_
    have hj := hj
    try simp only [if_neg b1] at hj
    exact j_wk hj (And.intro rfl (And.intro rfl (And.intro rfl trivial)))
theorem c_X12_readLawLine_e {Ω : mO} {d : Nat} (hd : 51 ≤ d) {r : Int × mD} {x1 : Int} {D : mD} (h : F_X12_readLawLine x1 D = some r) : J Ω M_X12_readLawLine d 0 0 (rI r.1 r.2) 0 [some (mR 133), some (mI x1), none, none] [] (SK, D, false) 0 0 := by
  rw [F_X12_readLawLine] at h
  refine j_sipush (pc' := 3) dX12_readLawLine_0 rfl rfl ?_
  refine j_iconst (pc' := 4) dX12_readLawLine_3 rfl ?_
  refine j_iload_n (pc' := 5) dX12_readLawLine_4 rfl rfl ?_
  refine j_imul (pc' := 6) dX12_readLawLine_5 rfl ?_
  refine j_iadd (pc' := 7) dX12_readLawLine_6 rfl ?_
  refine j_istore_n (pc' := 8) (ls' := [some (mR 133), some (mI x1), some (mI (1325 + (4 * x1))), none]) dX12_readLawLine_7 rfl (by decide) rfl ?_
  refine j_aload_n (pc' := 9) dX12_readLawLine_8 rfl rfl ?_
  refine j_ldcwS (pc' := 12) (si := 71) rfl dX12_readLawLine_9 rfl ?_
  obtain ⟨v1, D1, e1, h⟩ := bI_o h
  refine k_cV (d' := 6) (pc' := 15) [mR (1000000 + 71)] [] (c_X12_isWord (d := 6) (Nat.le_refl _) ((by decide)) e1) cw_X12_132 kc_11 w_1621 ws_50 dX12_readLawLine_12 rfl (by omega) rfl rfl (by decide) sk_133 rfl rfl (by decide) (by decide) ?_
  refine j_istore_n (pc' := 16) (ls' := [some (mR 133), some (mI x1), some (mI (1325 + (4 * x1))), some (mI v1)]) dX12_readLawLine_15 rfl (by decide) rfl ?_
  refine j_iload_n (pc' := 17) dX12_readLawLine_16 rfl rfl ?_
  obtain ⟨q1, h⟩ := ck_o h
  refine j_if_ne (tgt := 32) (pc' := 20) dX12_readLawLine_17 rfl rfl q1 (fun b1 => ?_) (fun b1 => ?_)
  · replace h := ite_f b1 h
    exact j_wk (j_widen (ce := 0) (ke := 0) (by decide) (by decide) (c_X12_readLawLine_j32 hd h)) (And.intro rfl (And.intro rfl (And.intro rfl trivial)))
  · replace h := ite_t b1 h
    refine j_aload_n (pc' := 21) dX12_readLawLine_20 rfl rfl ?_
    refine j_ldcwS (pc' := 24) (si := 72) rfl dX12_readLawLine_21 rfl ?_
    obtain ⟨v2, D2, e2, h⟩ := bI_o h
    refine k_cV (d' := 6) (pc' := 27) [mR (1000000 + 72)] [] (c_X12_isWord (d := 6) (Nat.le_refl _) ((by decide)) e2) cw_X12_132 kc_11 w_1621 ws_50 dX12_readLawLine_24 rfl (by omega) rfl rfl (by decide) sk_133 rfl rfl (by decide) (by decide) ?_
    obtain ⟨q2, h⟩ := ck_o h
    refine j_if_ne (tgt := 32) (pc' := 30) dX12_readLawLine_27 rfl rfl q2 (fun b2 => ?_) (fun b2 => ?_)
    · replace h := ite_f b2 h
      exact j_wk (j_widen (ce := 0) (ke := 0) (by decide) (by decide) (c_X12_readLawLine_j32 hd h)) (And.intro rfl (And.intro rfl (And.intro rfl trivial)))
    · replace h := ite_t b2 h
      refine j_iconst (pc' := 31) dX12_readLawLine_30 rfl ?_
      exact j_zret dX12_readLawLine_31 rfl (Or.inl rfl) (by decide) (by decide) (rI_of h)
theorem c_X12_readLawLine {d : Nat} (hd : 51 ≤ d) {x1 : Int} {D D' : mD} {v : Int} (h : F_X12_readLawLine x1 D = some (v, D')) : CM d 0 0 M_X12_readLawLine [mR 133, mI x1] (SK, D, false) (rI v D') := CM.intro pn_X12 rfl rfl (Nat.le_of_ble_eq_true rfl) (fun _ => c_X12_readLawLine_e hd h)
theorem c_X12_readLine_j16 {Ω : mO} {d : Nat} (hd : 52 ≤ d) {r : Int × mD} {x1 x2 s0 s1 : Int} {D : mD} (h : F_X12_readLine_j16 x1 x2 s0 s1 D = some r) : J Ω M_X12_readLine d 0 0 (rI r.1 r.2) 16 [some (mR 133), some (mI x1), some (mI x2)] [mI s1, mI s0] (SK, D, false) 0 0 := by
  rw [F_X12_readLine_j16] at h
  obtain ⟨q1, h⟩ := ck_o h
  obtain ⟨q2, h⟩ := ck_o h
  refine j_icmp_ge (tgt := 45) (pc' := 19) dX12_readLine_16 rfl rfl q1 q2 (fun b1 => ?_) (fun b1 => ?_)
  · replace h := ite_t b1 h
    refine j_iconst (pc' := 46) dX12_readLine_45 rfl ?_
    exact j_zret dX12_readLine_46 rfl (Or.inl rfl) (by decide) (by decide) (rI_of h)
  · replace h := ite_f b1 h
    refine j_iload_n (pc' := 20) dX12_readLine_19 rfl rfl ?_
    obtain ⟨q3, h⟩ := ck_o h
    refine j_if_eq (tgt := 33) (pc' := 23) dX12_readLine_20 rfl rfl q3 (fun b2 => ?_) (fun b2 => ?_)
    · replace h := ite_t b2 h
      refine j_aload_n (pc' := 34) dX12_readLine_33 rfl rfl ?_
      refine j_iload_n (pc' := 35) dX12_readLine_34 rfl rfl ?_
      obtain ⟨v1, D1, e1, h⟩ := bI_o h
      refine k_cV (d' := 51) (pc' := 38) [mI x2] [] (c_X12_readLawLine (d := 51) (Nat.le_refl _) e1) cw_X12_268 kc_11 w_1703 ws_66 dX12_readLine_35 rfl (by omega) rfl rfl (by decide) sk_133 rfl rfl (by decide) (by decide) ?_
      obtain ⟨q4, h⟩ := ck_o h
      have hj : J Ω M_X12_readLine d 0 0 (rI r.1 r.2) 46 [none, none, none] [mI (if v1 = 0 then (0 : Int) else (1 : Int))] (SK, D1, false) 0 0 := by
        obtain ⟨q5, h⟩ := ck_o h
        exact j_zret dX12_readLine_46 rfl q5 (by decide) (by decide) (rI_of h)
      refine j_if_eq (tgt := 45) (pc' := 41) dX12_readLine_38 rfl rfl q4 (fun b3 => ?_) (fun b3 => ?_)
      · refine j_iconst (pc' := 46) dX12_readLine_45 rfl ?_
        have hj := hj
        try simp only [if_pos b3] at hj
        exact j_wk hj (trivial)
      · refine j_iconst (pc' := 42) dX12_readLine_41 rfl ?_
        refine j_goto (tgt := 46) dX12_readLine_42 rfl ?_
        have hj := hj
        try simp only [if_neg b3] at hj
        exact j_wk hj (trivial)
    · replace h := ite_f b2 h
      refine j_aload_n (pc' := 24) dX12_readLine_23 rfl rfl ?_
      obtain ⟨v2, D2, e2, h⟩ := bI_o h
      refine k_cV (d' := 9) (pc' := 27) [] [] (c_X12_readShopLine (d := 9) (Nat.le_refl _) e2) cw_X12_265 kc_11 w_1616 ws_49 dX12_readLine_24 rfl (by omega) rfl rfl (by decide) sk_133 rfl rfl (by decide) (by decide) ?_
      obtain ⟨q6, h⟩ := ck_o h
      have hj : J Ω M_X12_readLine d 0 0 (rI r.1 r.2) 46 [none, none, none] [mI (if v2 = 0 then (0 : Int) else (1 : Int))] (SK, D2, false) 0 0 := by
        obtain ⟨q7, h⟩ := ck_o h
        exact j_zret dX12_readLine_46 rfl q7 (by decide) (by decide) (rI_of h)
      refine j_if_eq (tgt := 45) (pc' := 30) dX12_readLine_27 rfl rfl q6 (fun b4 => ?_) (fun b4 => ?_)
      · refine j_iconst (pc' := 46) dX12_readLine_45 rfl ?_
        have hj := hj
        try simp only [if_pos b4] at hj
        exact j_wk hj (trivial)
      · refine j_goto (tgt := 41) dX12_readLine_30 rfl ?_
        refine j_iconst (pc' := 42) dX12_readLine_41 rfl ?_
        refine j_goto (tgt := 46) dX12_readLine_42 rfl ?_
        have hj := hj
        try simp only [if_neg b4] at hj
        exact j_wk hj (trivial)
theorem c_X12_readLine_e {Ω : mO} {d : Nat} (hd : 52 ≤ d) {r : Int × mD} {x1 x2 : Int} {D : mD} (h : F_X12_readLine x1 x2 D = some r) : J Ω M_X12_readLine d 0 0 (rI r.1 r.2) 0 [some (mR 133), some (mI x1), some (mI x2)] [] (SK, D, false) 0 0 := by
  rw [F_X12_readLine] at h
  refine j_aload_n (pc' := 1) dX12_readLine_0 rfl rfl ?_
  obtain ⟨v1, D1, e1, h⟩ := bI_o h
  refine k_cVv (d' := 3) (pc' := 4) [] [] (c_X12_lettersPass (d := 3) (Nat.le_refl _) e1) cw_X12_129 kc_11 w_1612 ws_48 dX12_readLine_1 rfl (by omega) rfl rfl (by decide) sk_133 rfl rfl (by decide) (by decide) ?_
  refine j_iload_n (pc' := 5) dX12_readLine_4 rfl rfl ?_
  refine j_iload_n (pc' := 6) dX12_readLine_5 rfl rfl ?_
  obtain ⟨q1, h⟩ := ck_o h
  have hj : J Ω M_X12_readLine d 0 0 (rI r.1 r.2) 16 [some (mR 133), some (mI x1), some (mI x2)] [mI (if x1 = 0 then (12 : Int) else (14 : Int)), mI x2] (SK, D1, false) 0 0 := by
    exact j_wk (j_widen (ce := 0) (ke := 0) (by decide) (by decide) (c_X12_readLine_j16 hd h)) (And.intro rfl (And.intro rfl (And.intro rfl trivial)))
  refine j_if_eq (tgt := 14) (pc' := 9) dX12_readLine_6 rfl rfl q1 (fun b1 => ?_) (fun b1 => ?_)
  · refine j_bipush (pc' := 16) dX12_readLine_14 rfl rfl ?_
    have hj := hj
    try simp only [if_pos b1] at hj
    exact j_wk hj (And.intro rfl (And.intro rfl (And.intro rfl trivial)))
  · refine j_bipush (pc' := 11) dX12_readLine_9 rfl rfl ?_
    refine j_goto (tgt := 16) dX12_readLine_11 rfl ?_
    have hj := hj
    try simp only [if_neg b1] at hj
    exact j_wk hj (And.intro rfl (And.intro rfl (And.intro rfl trivial)))
theorem c_X12_readLine {d : Nat} (hd : 52 ≤ d) {x1 x2 : Int} {D D' : mD} {v : Int} (h : F_X12_readLine x1 x2 D = some (v, D')) : CM d 0 0 M_X12_readLine [mR 133, mI x1, mI x2] (SK, D, false) (rI v D') := CM.intro pn_X12 rfl rfl (Nat.le_of_ble_eq_true rfl) (fun _ => c_X12_readLine_e hd h)
