/-! CERTIFICATES: the bytecode does what F says (by program) -/
theorem c_X8_isWord_L28 {Ω : mO} {d : Nat} (hd : 6 ≤ d) {s1_ : Nat} (hs1 : s1_ < 81) {r : Int × mD} : ∀ (n : Nat) {x2 : Int} {D : mD}, F_X8_isWord_L28 s1_ n x2 D = some r → J Ω M_X8_isWord d 0 0 (rI r.1 r.2) 28 [some (mR 1), some (mR (1000000 + s1_)), some (mI x2)] [] (SK, D, false) 0 0 := by
  intro n
  induction n with
  | zero => intro x2 D h; exact absurd (show (none : Option (Int × mD)) = some r from h) nofun
  | succ n ih =>
    intro x2 D h
    rw [F_X8_isWord_L28] at h
    refine j_iload_n (pc' := 29) dX8_isWord_28 rfl rfl ?_
    refine j_aload_n (pc' := 30) dX8_isWord_29 rfl rfl ?_
    refine k_strlen (pc' := 33) hs1 cw_X8_35 dX8_isWord_30 rfl (by omega) rfl rfl (by decide) (by decide) ?_
    obtain ⟨q1, h⟩ := ck_o h
    obtain ⟨q2, h⟩ := ck_o h
    refine j_icmp_ge (tgt := 63) (pc' := 36) dX8_isWord_33 rfl rfl q1 q2 (fun b1 => ?_) (fun b1 => ?_)
    · replace h := ite_t b1 h
      refine j_iconst (pc' := 64) dX8_isWord_63 rfl ?_
      exact j_zret dX8_isWord_64 rfl (Or.inr rfl) (by decide) (by decide) (rI_of h)
    · replace h := ite_f b1 h
      refine j_aload_n (pc' := 37) dX8_isWord_36 rfl rfl ?_
      refine k_getR (pc' := 40) (sl := 0) (r := 2) kc_8 w_44 (Or.inl rfl) (by decide) dX8_isWord_37 rfl (by decide) sk_1 (by decide) rfl (by decide) ?_
      refine j_aload_n (pc' := 41) dX8_isWord_40 rfl rfl ?_
      refine k_getI (pc' := 44) (sl := 3) (z := D 1 3) kc_8 w_50 (by decide) dX8_isWord_41 rfl (by decide) sk_1 (by decide) rfl rfl ?_
      refine j_iload_n (pc' := 45) dX8_isWord_44 rfl rfl ?_
      refine j_iadd (pc' := 46) dX8_isWord_45 rfl ?_
      obtain ⟨q3, h⟩ := ck_o h
      refine k_iald (pc' := 47) (z := D 2 ((D 1 3) + x2)) dX8_isWord_46 rfl (by decide) sk_2 (by decide) q3.1 q3.2 rfl ?_
      refine j_aload_n (pc' := 48) dX8_isWord_47 rfl rfl ?_
      refine j_iload_n (pc' := 49) dX8_isWord_48 rfl rfl ?_
      obtain ⟨q4, h⟩ := ck_o h
      refine k_strchr (pc' := 52) hs1 q4.1 q4.2 cw_X8_40 dX8_isWord_49 rfl (by omega) rfl rfl (by decide) (by decide) ?_
      obtain ⟨q5, h⟩ := ck_o h
      obtain ⟨q6, h⟩ := ck_o h
      refine j_icmp_eq (tgt := 57) (pc' := 55) dX8_isWord_52 rfl rfl q5 q6 (fun b2 => ?_) (fun b2 => ?_)
      · replace h := ite_t b2 h
        refine j_iinc (pc' := 60) (z' := (x2 + 1)) (ls' := [some (mR 1), some (mR (1000000 + s1_)), some (mI (x2 + 1))]) dX8_isWord_57 rfl rfl rfl (by decide) rfl ?_
        refine j_goto (tgt := 28) dX8_isWord_60 rfl ?_
        exact j_wk (j_widen (ce := 0) (ke := 0) (by decide) (by decide) (ih h)) (And.intro rfl (And.intro rfl (And.intro rfl trivial)))
      · replace h := ite_f b2 h
        refine j_iconst (pc' := 56) dX8_isWord_55 rfl ?_
        exact j_zret dX8_isWord_56 rfl (Or.inl rfl) (by decide) (by decide) (rI_of h)
theorem c_X8_isWord_e {Ω : mO} {d : Nat} (hd : 6 ≤ d) {s1_ : Nat} (hs1 : s1_ < 81) {r : Int × mD} {D : mD} (h : F_X8_isWord s1_ D = some r) : J Ω M_X8_isWord d 0 0 (rI r.1 r.2) 0 [some (mR 1), some (mR (1000000 + s1_)), none] [] (SK, D, false) 0 0 := by
  rw [F_X8_isWord] at h
  refine j_aload_n (pc' := 1) dX8_isWord_0 rfl rfl ?_
  refine k_getI (pc' := 4) (sl := 2) (z := D 1 2) kc_8 w_48 (by decide) dX8_isWord_1 rfl (by decide) sk_1 (by decide) rfl rfl ?_
  refine j_iconst (pc' := 5) dX8_isWord_4 rfl ?_
  obtain ⟨q1, h⟩ := ck_o h
  refine j_icmp_ne (tgt := 24) (pc' := 8) dX8_isWord_5 rfl rfl q1 (by decide) (fun b1 => ?_) (fun b1 => ?_)
  · replace h := ite_f b1 h
    refine j_iconst (pc' := 25) dX8_isWord_24 rfl ?_
    exact j_zret dX8_isWord_25 rfl (Or.inl rfl) (by decide) (by decide) (rI_of h)
  · replace h := ite_t b1 h
    refine j_aload_n (pc' := 9) dX8_isWord_8 rfl rfl ?_
    refine k_getI (pc' := 12) (sl := 4) (z := D 1 4) kc_8 w_52 (by decide) dX8_isWord_9 rfl (by decide) sk_1 (by decide) rfl rfl ?_
    refine j_aload_n (pc' := 13) dX8_isWord_12 rfl rfl ?_
    refine k_getI (pc' := 16) (sl := 3) (z := D 1 3) kc_8 w_50 (by decide) dX8_isWord_13 rfl (by decide) sk_1 (by decide) rfl rfl ?_
    refine j_isub (pc' := 17) dX8_isWord_16 rfl ?_
    refine j_aload_n (pc' := 18) dX8_isWord_17 rfl rfl ?_
    refine k_strlen (pc' := 21) hs1 cw_X8_35 dX8_isWord_18 rfl (by omega) rfl rfl (by decide) (by decide) ?_
    obtain ⟨q2, h⟩ := ck_o h
    obtain ⟨q3, h⟩ := ck_o h
    refine j_icmp_eq (tgt := 26) (pc' := 24) dX8_isWord_21 rfl rfl q2 q3 (fun b2 => ?_) (fun b2 => ?_)
    · replace h := ite_t b2 h
      refine j_iconst (pc' := 27) dX8_isWord_26 rfl ?_
      refine j_istore_n (pc' := 28) (ls' := [some (mR 1), some (mR (1000000 + s1_)), some (mI 0)]) dX8_isWord_27 rfl (by decide) rfl ?_
      exact j_wk (j_widen (ce := 0) (ke := 0) (by decide) (by decide) (c_X8_isWord_L28 hd hs1 _ h)) (And.intro rfl (And.intro rfl (And.intro rfl trivial)))
    · replace h := ite_f b2 h
      refine j_iconst (pc' := 25) dX8_isWord_24 rfl ?_
      exact j_zret dX8_isWord_25 rfl (Or.inl rfl) (by decide) (by decide) (rI_of h)
theorem c_X8_isWord {d : Nat} (hd : 6 ≤ d) {s1_ : Nat} (hs1 : s1_ < 81) {D D' : mD} {v : Int} (h : F_X8_isWord s1_ D = some (v, D')) : CM d 0 0 M_X8_isWord [mR 1, mR (1000000 + s1_)] (SK, D, false) (rI v D') := CM.intro pn_X8 rfl rfl (Nat.le_of_ble_eq_true rfl) (fun _ => c_X8_isWord_e hd hs1 h)
theorem c_X8_kindOf_j14 {Ω : mO} {d : Nat} (hd : 1 ≤ d) {r : Int × mD} {x0 : Int} {D : mD} (h : F_X8_kindOf_j14 x0 D = some r) : J Ω M_X8_kindOf d 0 0 (rI r.1 r.2) 14 [some (mI x0)] [] (SK, D, false) 0 0 := by
  rw [F_X8_kindOf_j14] at h
  refine j_iload_n (pc' := 15) dX8_kindOf_14 rfl rfl ?_
  refine j_bipush (pc' := 17) dX8_kindOf_15 rfl rfl ?_
  obtain ⟨q1, h⟩ := ck_o h
  have hj : J Ω M_X8_kindOf d 0 0 (rI r.1 r.2) 31 [none] [mI (if x0 < 48 then (3 : Int) else (if 57 < x0 then (3 : Int) else (2 : Int)))] (SK, D, false) 0 0 := by
    exact j_iret dX8_kindOf_31 rfl (by decide) (by decide) (rI_of h)
  refine j_icmp_lt (tgt := 30) (pc' := 20) dX8_kindOf_17 rfl rfl q1 (by decide) (fun b1 => ?_) (fun b1 => ?_)
  · refine j_iconst (pc' := 31) dX8_kindOf_30 rfl ?_
    have hj := hj
    try simp only [if_pos b1] at hj
    exact j_wk hj (trivial)
  · refine j_iload_n (pc' := 21) dX8_kindOf_20 rfl rfl ?_
    refine j_bipush (pc' := 23) dX8_kindOf_21 rfl rfl ?_
    refine j_icmp_gt (tgt := 30) (pc' := 26) dX8_kindOf_23 rfl rfl q1 (by decide) (fun b2 => ?_) (fun b2 => ?_)
    · refine j_iconst (pc' := 31) dX8_kindOf_30 rfl ?_
      have hj := hj
      try simp only [if_neg b1, if_pos b2] at hj
      exact j_wk hj (trivial)
    · refine j_iconst (pc' := 27) dX8_kindOf_26 rfl ?_
      refine j_goto (tgt := 31) dX8_kindOf_27 rfl ?_
      have hj := hj
      try simp only [if_neg b1, if_neg b2] at hj
      exact j_wk hj (trivial)
theorem c_X8_kindOf_e {Ω : mO} {d : Nat} (hd : 1 ≤ d) {r : Int × mD} {x0 : Int} {D : mD} (h : F_X8_kindOf x0 D = some r) : J Ω M_X8_kindOf d 0 0 (rI r.1 r.2) 0 [some (mI x0)] [] (SK, D, false) 0 0 := by
  rw [F_X8_kindOf] at h
  refine j_iload_n (pc' := 1) dX8_kindOf_0 rfl rfl ?_
  refine j_bipush (pc' := 3) dX8_kindOf_1 rfl rfl ?_
  obtain ⟨q1, h⟩ := ck_o h
  refine j_icmp_lt (tgt := 14) (pc' := 6) dX8_kindOf_3 rfl rfl q1 (by decide) (fun b1 => ?_) (fun b1 => ?_)
  · replace h := ite_t b1 h
    exact j_wk (j_widen (ce := 0) (ke := 0) (by decide) (by decide) (c_X8_kindOf_j14 hd h)) (And.intro rfl trivial)
  · replace h := ite_f b1 h
    refine j_iload_n (pc' := 7) dX8_kindOf_6 rfl rfl ?_
    refine j_bipush (pc' := 9) dX8_kindOf_7 rfl rfl ?_
    refine j_icmp_gt (tgt := 14) (pc' := 12) dX8_kindOf_9 rfl rfl q1 (by decide) (fun b2 => ?_) (fun b2 => ?_)
    · replace h := ite_t b2 h
      exact j_wk (j_widen (ce := 0) (ke := 0) (by decide) (by decide) (c_X8_kindOf_j14 hd h)) (And.intro rfl trivial)
    · replace h := ite_f b2 h
      refine j_iconst (pc' := 13) dX8_kindOf_12 rfl ?_
      exact j_iret dX8_kindOf_13 rfl (by decide) (by decide) (rI_of h)
theorem c_X8_kindOf {d : Nat} (hd : 1 ≤ d) {x0 : Int} {D D' : mD} {v : Int} (h : F_X8_kindOf x0 D = some (v, D')) : CM d 0 0 M_X8_kindOf [mI x0] (SK, D, false) (rI v D') := CM.intro pn_X8 rfl rfl (Nat.le_of_ble_eq_true rfl) (fun _ => c_X8_kindOf_e hd h)
theorem c_X8_step_L74 {Ω : mO} {d : Nat} (hd : 2 ≤ d) {r : Int × mD} : ∀ (n : Nat) {x1 : Int} {D : mD}, F_X8_step_L74 n x1 D = some r → J Ω M_X8_step d 0 0 (rV r.2) 74 [some (mR 1), some (mI x1)] [] (SK, D, false) 0 0 := by
  intro n
  induction n with
  | zero => intro x1 D h; exact absurd (show (none : Option (Int × mD)) = some r from h) nofun
  | succ n ih =>
    intro x1 D h
    rw [F_X8_step_L74] at h
    refine j_iload_n (pc' := 75) dX8_step_74 rfl rfl ?_
    refine j_aload_n (pc' := 76) dX8_step_75 rfl rfl ?_
    refine k_getI (pc' := 79) (sl := 1) (z := D 1 1) kc_8 w_45 (by decide) dX8_step_76 rfl (by decide) sk_1 (by decide) rfl rfl ?_
    obtain ⟨q1, h⟩ := ck_o h
    obtain ⟨q2, h⟩ := ck_o h
    refine j_icmp_ge (tgt := 104) (pc' := 82) dX8_step_79 rfl rfl q1 q2 (fun b1 => ?_) (fun b1 => ?_)
    · replace h := ite_t b1 h
      refine j_aload_n (pc' := 105) dX8_step_104 rfl rfl ?_
      refine j_iload_n (pc' := 106) dX8_step_105 rfl rfl ?_
      refine k_putI (pc' := 109) (sl := 4) (i' := 4) kc_8 w_52 (by decide) (Or.inl rfl) dX8_step_106 rfl (by decide) sk_1 (by decide) ⟨rfl, rfl⟩ rfl ?_
      exact j_vret dX8_step_109 rfl (by decide) (by decide) (rV_of h)
    · replace h := ite_f b1 h
      refine j_aload_n (pc' := 83) dX8_step_82 rfl rfl ?_
      refine k_getR (pc' := 86) (sl := 0) (r := 2) kc_8 w_44 (Or.inl rfl) (by decide) dX8_step_83 rfl (by decide) sk_1 (by decide) rfl (by decide) ?_
      refine j_iload_n (pc' := 87) dX8_step_86 rfl rfl ?_
      obtain ⟨q3, h⟩ := ck_o h
      refine k_iald (pc' := 88) (z := D 2 x1) dX8_step_87 rfl (by decide) sk_2 (by decide) q3.1 q3.2 rfl ?_
      obtain ⟨v1, D1, e1, h⟩ := bI_o h
      refine k_cS (d' := 1) (pc' := 91) [mI (D 2 x1)] [] (c_X8_kindOf (d := 1) (Nat.le_refl _) e1) cw_X8_28 w_730 dX8_step_88 rfl (by omega) rfl rfl rfl rfl (by decide) (by decide) ?_
      refine j_aload_n (pc' := 92) dX8_step_91 rfl rfl ?_
      refine k_getI (pc' := 95) (sl := 2) (z := D1 1 2) kc_8 w_48 (by decide) dX8_step_92 rfl (by decide) sk_1 (by decide) rfl rfl ?_
      obtain ⟨q4, h⟩ := ck_o h
      obtain ⟨q5, h⟩ := ck_o h
      refine j_icmp_ne (tgt := 104) (pc' := 98) dX8_step_95 rfl rfl q4 q5 (fun b2 => ?_) (fun b2 => ?_)
      · replace h := ite_f b2 h
        refine j_aload_n (pc' := 105) dX8_step_104 rfl rfl ?_
        refine j_iload_n (pc' := 106) dX8_step_105 rfl rfl ?_
        refine k_putI (pc' := 109) (sl := 4) (i' := 4) kc_8 w_52 (by decide) (Or.inl rfl) dX8_step_106 rfl (by decide) sk_1 (by decide) ⟨rfl, rfl⟩ rfl ?_
        exact j_vret dX8_step_109 rfl (by decide) (by decide) (rV_of h)
      · replace h := ite_t b2 h
        refine j_iinc (pc' := 101) (z' := (x1 + 1)) (ls' := [some (mR 1), some (mI (x1 + 1))]) dX8_step_98 rfl rfl rfl (by decide) rfl ?_
        refine j_goto (tgt := 74) dX8_step_101 rfl ?_
        exact j_wk (j_widen (ce := 0) (ke := 0) (by decide) (by decide) (ih h)) (And.intro rfl (And.intro rfl trivial))
theorem c_X8_step_j57 {Ω : mO} {d : Nat} (hd : 2 ≤ d) {r : Int × mD} {x1 s1 : Int} {D : mD} (h : F_X8_step_j57 x1 s1 D = some r) : J Ω M_X8_step d 0 0 (rV r.2) 57 [some (mR 1), some (mI x1)] [mI s1, mR 1] (SK, D, false) 0 0 := by
  rw [F_X8_step_j57] at h
  refine k_putI (pc' := 60) (sl := 2) (i' := 2) kc_8 w_48 (by decide) (Or.inl rfl) dX8_step_57 rfl (by decide) sk_1 (by decide) ⟨rfl, rfl⟩ rfl ?_
  refine j_aload_n (pc' := 61) dX8_step_60 rfl rfl ?_
  refine k_getI (pc' := 64) (sl := 2) (z := (pD D 1 2 s1) 1 2) kc_8 w_48 (by decide) dX8_step_61 rfl (by decide) sk_1 (by decide) rfl rfl ?_
  refine j_iconst (pc' := 65) dX8_step_64 rfl ?_
  obtain ⟨q1, h⟩ := ck_o h
  refine j_icmp_ne (tgt := 74) (pc' := 68) dX8_step_65 rfl rfl q1 (by decide) (fun b1 => ?_) (fun b1 => ?_)
  · replace h := ite_f b1 h
    exact j_wk (j_widen (ce := 0) (ke := 0) (by decide) (by decide) (c_X8_step_L74 hd _ h)) (And.intro rfl (And.intro rfl trivial))
  · replace h := ite_t b1 h
    refine j_iinc (pc' := 71) (z' := (x1 + 1)) (ls' := [some (mR 1), some (mI (x1 + 1))]) dX8_step_68 rfl rfl rfl (by decide) rfl ?_
    refine j_goto (tgt := 104) dX8_step_71 rfl ?_
    refine j_aload_n (pc' := 105) dX8_step_104 rfl rfl ?_
    refine j_iload_n (pc' := 106) dX8_step_105 rfl rfl ?_
    refine k_putI (pc' := 109) (sl := 4) (i' := 4) kc_8 w_52 (by decide) (Or.inl rfl) dX8_step_106 rfl (by decide) sk_1 (by decide) ⟨rfl, rfl⟩ rfl ?_
    exact j_vret dX8_step_109 rfl (by decide) (by decide) (rV_of h)
theorem c_X8_step_j30 {Ω : mO} {d : Nat} (hd : 2 ≤ d) {r : Int × mD} {x1 : Int} {D : mD} (h : F_X8_step_j30 x1 D = some r) : J Ω M_X8_step d 0 0 (rV r.2) 30 [some (mR 1), some (mI x1)] [] (SK, D, false) 0 0 := by
  rw [F_X8_step_j30] at h
  refine j_aload_n (pc' := 31) dX8_step_30 rfl rfl ?_
  refine j_iload_n (pc' := 32) dX8_step_31 rfl rfl ?_
  refine k_putI (pc' := 35) (sl := 3) (i' := 3) kc_8 w_50 (by decide) (Or.inl rfl) dX8_step_32 rfl (by decide) sk_1 (by decide) ⟨rfl, rfl⟩ rfl ?_
  refine j_aload_n (pc' := 36) dX8_step_35 rfl rfl ?_
  refine j_iload_n (pc' := 37) dX8_step_36 rfl rfl ?_
  refine j_aload_n (pc' := 38) dX8_step_37 rfl rfl ?_
  refine k_getI (pc' := 41) (sl := 1) (z := (pD D 1 3 x1) 1 1) kc_8 w_45 (by decide) dX8_step_38 rfl (by decide) sk_1 (by decide) rfl rfl ?_
  obtain ⟨q1, h⟩ := ck_o h
  obtain ⟨q2, h⟩ := ck_o h
  refine j_icmp_ge (tgt := 56) (pc' := 44) dX8_step_41 rfl rfl q1 q2 (fun b1 => ?_) (fun b1 => ?_)
  · replace h := ite_t b1 h
    refine j_iconst (pc' := 57) dX8_step_56 rfl ?_
    exact j_wk (j_widen (ce := 0) (ke := 0) (by decide) (by decide) (c_X8_step_j57 hd h)) (And.intro rfl (And.intro rfl trivial))
  · replace h := ite_f b1 h
    refine j_aload_n (pc' := 45) dX8_step_44 rfl rfl ?_
    refine k_getR (pc' := 48) (sl := 0) (r := 2) kc_8 w_44 (Or.inl rfl) (by decide) dX8_step_45 rfl (by decide) sk_1 (by decide) rfl (by decide) ?_
    refine j_iload_n (pc' := 49) dX8_step_48 rfl rfl ?_
    obtain ⟨q3, h⟩ := ck_o h
    refine k_iald (pc' := 50) (z := (pD D 1 3 x1) 2 x1) dX8_step_49 rfl (by decide) sk_2 (by decide) q3.1 q3.2 rfl ?_
    obtain ⟨v1, D1, e1, h⟩ := bI_o h
    refine k_cS (d' := 1) (pc' := 53) [mI ((pD D 1 3 x1) 2 x1)] [mR 1] (c_X8_kindOf (d := 1) (Nat.le_refl _) e1) cw_X8_28 w_730 dX8_step_50 rfl (by omega) rfl rfl rfl rfl (by decide) (by decide) ?_
    refine j_goto (tgt := 57) dX8_step_53 rfl ?_
    exact j_wk (j_widen (ce := 0) (ke := 0) (by decide) (by decide) (c_X8_step_j57 hd h)) (And.intro rfl (And.intro rfl trivial))
theorem c_X8_step_L5 {Ω : mO} {d : Nat} (hd : 2 ≤ d) {r : Int × mD} : ∀ (n : Nat) {x1 : Int} {D : mD}, F_X8_step_L5 n x1 D = some r → J Ω M_X8_step d 0 0 (rV r.2) 5 [some (mR 1), some (mI x1)] [] (SK, D, false) 0 0 := by
  intro n
  induction n with
  | zero => intro x1 D h; exact absurd (show (none : Option (Int × mD)) = some r from h) nofun
  | succ n ih =>
    intro x1 D h
    rw [F_X8_step_L5] at h
    refine j_iload_n (pc' := 6) dX8_step_5 rfl rfl ?_
    refine j_aload_n (pc' := 7) dX8_step_6 rfl rfl ?_
    refine k_getI (pc' := 10) (sl := 1) (z := D 1 1) kc_8 w_45 (by decide) dX8_step_7 rfl (by decide) sk_1 (by decide) rfl rfl ?_
    obtain ⟨q1, h⟩ := ck_o h
    obtain ⟨q2, h⟩ := ck_o h
    refine j_icmp_ge (tgt := 30) (pc' := 13) dX8_step_10 rfl rfl q1 q2 (fun b1 => ?_) (fun b1 => ?_)
    · replace h := ite_t b1 h
      exact j_wk (j_widen (ce := 0) (ke := 0) (by decide) (by decide) (c_X8_step_j30 hd h)) (And.intro rfl (And.intro rfl trivial))
    · replace h := ite_f b1 h
      refine j_aload_n (pc' := 14) dX8_step_13 rfl rfl ?_
      refine k_getR (pc' := 17) (sl := 0) (r := 2) kc_8 w_44 (Or.inl rfl) (by decide) dX8_step_14 rfl (by decide) sk_1 (by decide) rfl (by decide) ?_
      refine j_iload_n (pc' := 18) dX8_step_17 rfl rfl ?_
      obtain ⟨q3, h⟩ := ck_o h
      refine k_iald (pc' := 19) (z := D 2 x1) dX8_step_18 rfl (by decide) sk_2 (by decide) q3.1 q3.2 rfl ?_
      refine j_bipush (pc' := 21) dX8_step_19 rfl rfl ?_
      obtain ⟨q4, h⟩ := ck_o h
      refine j_icmp_ne (tgt := 30) (pc' := 24) dX8_step_21 rfl rfl q4 (by decide) (fun b2 => ?_) (fun b2 => ?_)
      · replace h := ite_f b2 h
        exact j_wk (j_widen (ce := 0) (ke := 0) (by decide) (by decide) (c_X8_step_j30 hd h)) (And.intro rfl (And.intro rfl trivial))
      · replace h := ite_t b2 h
        refine j_iinc (pc' := 27) (z' := (x1 + 1)) (ls' := [some (mR 1), some (mI (x1 + 1))]) dX8_step_24 rfl rfl rfl (by decide) rfl ?_
        refine j_goto (tgt := 5) dX8_step_27 rfl ?_
        exact j_wk (j_widen (ce := 0) (ke := 0) (by decide) (by decide) (ih h)) (And.intro rfl (And.intro rfl trivial))
theorem c_X8_step_e {Ω : mO} {d : Nat} (hd : 2 ≤ d) {r : Int × mD} {D : mD} (h : F_X8_step D = some r) : J Ω M_X8_step d 0 0 (rV r.2) 0 [some (mR 1), none] [] (SK, D, false) 0 0 := by
  rw [F_X8_step] at h
  refine j_aload_n (pc' := 1) dX8_step_0 rfl rfl ?_
  refine k_getI (pc' := 4) (sl := 4) (z := D 1 4) kc_8 w_52 (by decide) dX8_step_1 rfl (by decide) sk_1 (by decide) rfl rfl ?_
  refine j_istore_n (pc' := 5) (ls' := [some (mR 1), some (mI (D 1 4))]) dX8_step_4 rfl (by decide) rfl ?_
  exact j_wk (j_widen (ce := 0) (ke := 0) (by decide) (by decide) (c_X8_step_L5 hd _ h)) (And.intro rfl (And.intro rfl trivial))
theorem c_X8_step {d : Nat} (hd : 2 ≤ d) {D D' : mD} {v : Int} (h : F_X8_step D = some (v, D')) : CM d 0 0 M_X8_step [mR 1] (SK, D, false) (rV D') := CM.intro pn_X8 rfl rfl (Nat.le_of_ble_eq_true rfl) (fun _ => c_X8_step_e hd h)
theorem c_X8_takesWord_e {Ω : mO} {d : Nat} (hd : 7 ≤ d) {s1_ : Nat} (hs1 : s1_ < 81) {r : Int × mD} {D : mD} (h : F_X8_takesWord s1_ D = some r) : J Ω M_X8_takesWord d 0 0 (rI r.1 r.2) 0 [some (mR 1), some (mR (1000000 + s1_))] [] (SK, D, false) 0 0 := by
  rw [F_X8_takesWord] at h
  refine j_aload_n (pc' := 1) dX8_takesWord_0 rfl rfl ?_
  refine j_aload_n (pc' := 2) dX8_takesWord_1 rfl rfl ?_
  obtain ⟨v1, D1, e1, h⟩ := bI_o h
  refine k_cV (d' := 6) (pc' := 5) [mR (1000000 + s1_)] [] (c_X8_isWord (d := 6) (Nat.le_refl _) hs1 e1) cw_X8_44 kc_8 w_740 w_741 dX8_takesWord_2 rfl (by omega) rfl rfl (by decide) sk_1 rfl rfl (by decide) (by decide) ?_
  obtain ⟨q1, h⟩ := ck_o h
  refine j_if_ne (tgt := 10) (pc' := 8) dX8_takesWord_5 rfl rfl q1 (fun b1 => ?_) (fun b1 => ?_)
  · replace h := ite_f b1 h
    refine j_aload_n (pc' := 11) dX8_takesWord_10 rfl rfl ?_
    obtain ⟨v2, D2, e2, h⟩ := bI_o h
    refine k_cVv (d' := 2) (pc' := 14) [] [] (c_X8_step (d := 2) (Nat.le_refl _) e2) cw_X8_22 kc_8 w_726 w_727 dX8_takesWord_11 rfl (by omega) rfl rfl (by decide) sk_1 rfl rfl (by decide) (by decide) ?_
    refine j_iconst (pc' := 15) dX8_takesWord_14 rfl ?_
    exact j_zret dX8_takesWord_15 rfl (Or.inr rfl) (by decide) (by decide) (rI_of h)
  · replace h := ite_t b1 h
    refine j_iconst (pc' := 9) dX8_takesWord_8 rfl ?_
    exact j_zret dX8_takesWord_9 rfl (Or.inl rfl) (by decide) (by decide) (rI_of h)
theorem c_X8_takesWord {d : Nat} (hd : 7 ≤ d) {s1_ : Nat} (hs1 : s1_ < 81) {D D' : mD} {v : Int} (h : F_X8_takesWord s1_ D = some (v, D')) : CM d 0 0 M_X8_takesWord [mR 1, mR (1000000 + s1_)] (SK, D, false) (rI v D') := CM.intro pn_X8 rfl rfl (Nat.le_of_ble_eq_true rfl) (fun _ => c_X8_takesWord_e hd hs1 h)
theorem c_X3_readsCondition_j67 {Ω : mO} {d : Nat} (hd : 8 ≤ d) {d_readsAtom : Nat} (hd_readsAtom : d_readsAtom + 1 ≤ d) {f_readsAtom : Int → mD → RI} (h_readsAtom : ∀ {y0 : Int} {D D' : mD} {v : Int}, f_readsAtom y0 D = some (v, D') → CM d_readsAtom 0 0 M_X3_readsAtom [mR 103, mI y0] (SK, D, false) (rI v D')) {r : Int × mD} {K7 : Int → Int → Int → mD → RI} {x1 x2 x4 : Int} (hK7 : ∀ {x2 x3 x4 : Int} {D : mD}, K7 x2 x3 x4 D = some r → J Ω M_X3_readsCondition d 0 0 (rI r.1 r.2) 7 [some (mR 103), some (mI x1), some (mI x2), some (mI x3), some (mI x4)] [] (SK, D, false) 0 0) {D : mD} (h : F_X3_readsCondition_j67 f_readsAtom K7 x1 x2 x4 D = some r) : J Ω M_X3_readsCondition d 0 0 (rI r.1 r.2) 67 [some (mR 103), some (mI x1), some (mI x2), none, some (mI x4)] [] (SK, D, false) 0 0 := by
  rw [F_X3_readsCondition_j67] at h
  refine j_aload_n (pc' := 68) dX3_readsCondition_67 rfl rfl ?_
  refine k_getR (pc' := 71) (sl := 0) (r := 1) kc_3 w_364 (Or.inr w_365) (by decide) dX3_readsCondition_68 rfl (by decide) sk_103 (by decide) rfl (by decide) ?_
  refine j_ldcS (pc' := 73) (si := 14) rfl dX3_readsCondition_71 rfl ?_
  obtain ⟨v1, D1, e1, h⟩ := bI_o h
  refine k_cV (d' := 7) (pc' := 76) [mR (1000000 + 14)] [] (c_X8_takesWord (d := 7) (Nat.le_refl _) ((by decide)) e1) cw_X3_43 kc_8 w_806 w_807 dX3_readsCondition_73 rfl (by omega) rfl rfl (by decide) sk_1 rfl rfl (by decide) (by decide) ?_
  refine j_istore_n (pc' := 77) (ls' := [some (mR 103), some (mI x1), some (mI x2), some (mI v1), some (mI x4)]) dX3_readsCondition_76 rfl (by decide) rfl ?_
  refine j_iload_n (pc' := 78) dX3_readsCondition_77 rfl rfl ?_
  obtain ⟨q1, h⟩ := ck_o h
  refine j_if_ne (tgt := 83) (pc' := 81) dX3_readsCondition_78 rfl rfl q1 (fun b1 => ?_) (fun b1 => ?_)
  · replace h := ite_f b1 h
    refine j_iinc (pc' := 86) (z' := (x4 + 1)) (ls' := [some (mR 103), some (mI x1), some (mI x2), some (mI v1), some (mI (x4 + 1))]) dX3_readsCondition_83 rfl rfl rfl (by decide) rfl ?_
    refine j_goto (tgt := 7) dX3_readsCondition_86 rfl ?_
    exact j_wk (j_widen (ce := 0) (ke := 0) (by decide) (by decide) (hK7 h)) (And.intro rfl (And.intro rfl (And.intro rfl (And.intro rfl (And.intro rfl trivial)))))
  · replace h := ite_t b1 h
    refine j_iconst (pc' := 82) dX3_readsCondition_81 rfl ?_
    exact j_zret dX3_readsCondition_82 rfl (Or.inr rfl) (by decide) (by decide) (rI_of h)
theorem c_X3_readsCondition_j39 {Ω : mO} {d : Nat} (hd : 8 ≤ d) {d_readsAtom : Nat} (hd_readsAtom : d_readsAtom + 1 ≤ d) {f_readsAtom : Int → mD → RI} (h_readsAtom : ∀ {y0 : Int} {D D' : mD} {v : Int}, f_readsAtom y0 D = some (v, D') → CM d_readsAtom 0 0 M_X3_readsAtom [mR 103, mI y0] (SK, D, false) (rI v D')) {r : Int × mD} {K7 : Int → Int → Int → mD → RI} {x1 x3 x4 : Int} (hK7 : ∀ {x2 x3 x4 : Int} {D : mD}, K7 x2 x3 x4 D = some r → J Ω M_X3_readsCondition d 0 0 (rI r.1 r.2) 7 [some (mR 103), some (mI x1), some (mI x2), some (mI x3), some (mI x4)] [] (SK, D, false) 0 0) {D : mD} (h : F_X3_readsCondition_j39 f_readsAtom K7 x1 x3 x4 D = some r) : J Ω M_X3_readsCondition d 0 0 (rI r.1 r.2) 39 [some (mR 103), some (mI x1), none, some (mI x3), some (mI x4)] [] (SK, D, false) 0 0 := by
  rw [F_X3_readsCondition_j39] at h
  refine j_aload_n (pc' := 40) dX3_readsCondition_39 rfl rfl ?_
  refine k_getR (pc' := 43) (sl := 0) (r := 1) kc_3 w_364 (Or.inr w_365) (by decide) dX3_readsCondition_40 rfl (by decide) sk_103 (by decide) rfl (by decide) ?_
  refine j_ldcS (pc' := 45) (si := 13) rfl dX3_readsCondition_43 rfl ?_
  obtain ⟨v1, D1, e1, h⟩ := bI_o h
  refine k_cV (d' := 7) (pc' := 48) [mR (1000000 + 13)] [] (c_X8_takesWord (d := 7) (Nat.le_refl _) ((by decide)) e1) cw_X3_43 kc_8 w_806 w_807 dX3_readsCondition_45 rfl (by omega) rfl rfl (by decide) sk_1 rfl rfl (by decide) (by decide) ?_
  refine j_istore_n (pc' := 49) (ls' := [some (mR 103), some (mI x1), some (mI v1), some (mI x3), some (mI x4)]) dX3_readsCondition_48 rfl (by decide) rfl ?_
  refine j_iload_n (pc' := 50) dX3_readsCondition_49 rfl rfl ?_
  obtain ⟨q1, h⟩ := ck_o h
  refine j_if_ne (tgt := 83) (pc' := 53) dX3_readsCondition_50 rfl rfl q1 (fun b1 => ?_) (fun b1 => ?_)
  · replace h := ite_f b1 h
    refine j_iinc (pc' := 86) (z' := (x4 + 1)) (ls' := [some (mR 103), some (mI x1), some (mI v1), some (mI x3), some (mI (x4 + 1))]) dX3_readsCondition_83 rfl rfl rfl (by decide) rfl ?_
    refine j_goto (tgt := 7) dX3_readsCondition_86 rfl ?_
    exact j_wk (j_widen (ce := 0) (ke := 0) (by decide) (by decide) (hK7 h)) (And.intro rfl (And.intro rfl (And.intro rfl (And.intro rfl (And.intro rfl trivial)))))
  · replace h := ite_t b1 h
    refine j_iload_n (pc' := 54) dX3_readsCondition_53 rfl rfl ?_
    obtain ⟨q2, h⟩ := ck_o h
    refine j_if_eq (tgt := 67) (pc' := 57) dX3_readsCondition_54 rfl rfl q2 (fun b2 => ?_) (fun b2 => ?_)
    · replace h := ite_t b2 h
      exact j_wk (j_widen (ce := 0) (ke := 0) (by decide) (by decide) (c_X3_readsCondition_j67 hd hd_readsAtom h_readsAtom hK7 h)) (And.intro rfl (And.intro rfl (And.intro rfl (And.intro rfl trivial))))
    · replace h := ite_f b2 h
      refine j_aload_n (pc' := 58) dX3_readsCondition_57 rfl rfl ?_
      refine k_getR (pc' := 61) (sl := 2) (r := 104) kc_3 w_386 (Or.inl rfl) (by decide) dX3_readsCondition_58 rfl (by decide) sk_103 (by decide) rfl (by decide) ?_
      refine j_sipush (pc' := 64) dX3_readsCondition_61 rfl rfl ?_
      obtain ⟨v2, D2, e2, h⟩ := bI_o h
      refine k_cVv (d' := 1) (pc' := 67) [mI 1013] [] (c_X2_put (d := 1) (Nat.le_refl _) law_104 e2) cw_X3_57 kc_2 w_828 w_829 dX3_readsCondition_64 rfl (by omega) rfl rfl (by decide) sk_104 rfl rfl (by decide) (by decide) ?_
      exact j_wk (j_widen (ce := 0) (ke := 0) (by decide) (by decide) (c_X3_readsCondition_j67 hd hd_readsAtom h_readsAtom hK7 h)) (And.intro rfl (And.intro rfl (And.intro rfl (And.intro rfl trivial))))
theorem c_X3_readsCondition_L7 {Ω : mO} {d : Nat} (hd : 8 ≤ d) {d_readsAtom : Nat} (hd_readsAtom : d_readsAtom + 1 ≤ d) {f_readsAtom : Int → mD → RI} (h_readsAtom : ∀ {y0 : Int} {D D' : mD} {v : Int}, f_readsAtom y0 D = some (v, D') → CM d_readsAtom 0 0 M_X3_readsAtom [mR 103, mI y0] (SK, D, false) (rI v D')) {r : Int × mD} {x1 : Int} : ∀ (n : Nat) {x2 x3 x4 : Int} {D : mD}, F_X3_readsCondition_L7 f_readsAtom x1 n x2 x3 x4 D = some r → J Ω M_X3_readsCondition d 0 0 (rI r.1 r.2) 7 [some (mR 103), some (mI x1), some (mI x2), some (mI x3), some (mI x4)] [] (SK, D, false) 0 0 := by
  intro n
  induction n with
  | zero => intro x2 x3 x4 D h; exact absurd (show (none : Option (Int × mD)) = some r from h) nofun
  | succ n ih =>
    intro x2 x3 x4 D h
    rw [F_X3_readsCondition_L7] at h
    refine j_iload (pc' := 9) dX3_readsCondition_7 rfl rfl ?_
    refine j_sipush (pc' := 12) dX3_readsCondition_9 rfl rfl ?_
    obtain ⟨q1, h⟩ := ck_o h
    refine j_icmp_ge (tgt := 89) (pc' := 15) dX3_readsCondition_12 rfl rfl q1 (by decide) (fun b1 => ?_) (fun b1 => ?_)
    · replace h := ite_t b1 h
      refine j_iconst (pc' := 90) dX3_readsCondition_89 rfl ?_
      exact j_zret dX3_readsCondition_90 rfl (Or.inl rfl) (by decide) (by decide) (rI_of h)
    · replace h := ite_f b1 h
      refine j_aload_n (pc' := 16) dX3_readsCondition_15 rfl rfl ?_
      refine j_iload_n (pc' := 17) dX3_readsCondition_16 rfl rfl ?_
      obtain ⟨v1, D1, e1, h⟩ := bI_o h
      refine k_cV (d' := d_readsAtom) (pc' := 20) [mI x1] [] (h_readsAtom e1) cw_X3_54 kc_3 w_816 ws_9 dX3_readsCondition_17 rfl hd_readsAtom rfl rfl (by decide) sk_103 rfl rfl (by decide) (by decide) ?_
      obtain ⟨q2, h⟩ := ck_o h
      refine j_if_ne (tgt := 25) (pc' := 23) dX3_readsCondition_20 rfl rfl q2 (fun b2 => ?_) (fun b2 => ?_)
      · replace h := ite_f b2 h
        refine j_iload_n (pc' := 26) dX3_readsCondition_25 rfl rfl ?_
        obtain ⟨q3, h⟩ := ck_o h
        refine j_if_eq (tgt := 39) (pc' := 29) dX3_readsCondition_26 rfl rfl q3 (fun b3 => ?_) (fun b3 => ?_)
        · replace h := ite_t b3 h
          exact j_wk (j_widen (ce := 0) (ke := 0) (by decide) (by decide) (c_X3_readsCondition_j39 hd hd_readsAtom h_readsAtom ih h)) (And.intro rfl (And.intro rfl (And.intro rfl (And.intro rfl trivial))))
        · replace h := ite_f b3 h
          refine j_aload_n (pc' := 30) dX3_readsCondition_29 rfl rfl ?_
          refine k_getR (pc' := 33) (sl := 2) (r := 104) kc_3 w_386 (Or.inl rfl) (by decide) dX3_readsCondition_30 rfl (by decide) sk_103 (by decide) rfl (by decide) ?_
          refine j_sipush (pc' := 36) dX3_readsCondition_33 rfl rfl ?_
          obtain ⟨v2, D2, e2, h⟩ := bI_o h
          refine k_cVv (d' := 1) (pc' := 39) [mI 1012] [] (c_X2_put (d := 1) (Nat.le_refl _) law_104 e2) cw_X3_57 kc_2 w_828 w_829 dX3_readsCondition_36 rfl (by omega) rfl rfl (by decide) sk_104 rfl rfl (by decide) (by decide) ?_
          exact j_wk (j_widen (ce := 0) (ke := 0) (by decide) (by decide) (c_X3_readsCondition_j39 hd hd_readsAtom h_readsAtom ih h)) (And.intro rfl (And.intro rfl (And.intro rfl (And.intro rfl trivial))))
      · replace h := ite_t b2 h
        refine j_iconst (pc' := 24) dX3_readsCondition_23 rfl ?_
        exact j_zret dX3_readsCondition_24 rfl (Or.inl rfl) (by decide) (by decide) (rI_of h)
theorem c_X3_readsCondition_e {Ω : mO} {d : Nat} (hd : 8 ≤ d) {d_readsAtom : Nat} (hd_readsAtom : d_readsAtom + 1 ≤ d) {f_readsAtom : Int → mD → RI} (h_readsAtom : ∀ {y0 : Int} {D D' : mD} {v : Int}, f_readsAtom y0 D = some (v, D') → CM d_readsAtom 0 0 M_X3_readsAtom [mR 103, mI y0] (SK, D, false) (rI v D')) {r : Int × mD} {x1 : Int} {D : mD} (h : F_X3_readsCondition f_readsAtom x1 D = some r) : J Ω M_X3_readsCondition d 0 0 (rI r.1 r.2) 0 [some (mR 103), some (mI x1), none, none, none] [] (SK, D, false) 0 0 := by
  rw [F_X3_readsCondition] at h
  refine j_iconst (pc' := 1) dX3_readsCondition_0 rfl ?_
  refine j_istore_n (pc' := 2) (ls' := [some (mR 103), some (mI x1), some (mI 0), none, none]) dX3_readsCondition_1 rfl (by decide) rfl ?_
  refine j_iconst (pc' := 3) dX3_readsCondition_2 rfl ?_
  refine j_istore_n (pc' := 4) (ls' := [some (mR 103), some (mI x1), some (mI 0), some (mI 0), none]) dX3_readsCondition_3 rfl (by decide) rfl ?_
  refine j_iconst (pc' := 5) dX3_readsCondition_4 rfl ?_
  refine j_istore (pc' := 7) (ls' := [some (mR 103), some (mI x1), some (mI 0), some (mI 0), some (mI 0)]) dX3_readsCondition_5 rfl (by decide) rfl ?_
  exact j_wk (j_widen (ce := 0) (ke := 0) (by decide) (by decide) (c_X3_readsCondition_L7 hd hd_readsAtom h_readsAtom _ h)) (And.intro rfl (And.intro rfl (And.intro rfl (And.intro rfl (And.intro rfl trivial)))))
theorem c_X3_readsCondition {d : Nat} (hd : 8 ≤ d) {d_readsAtom : Nat} (hd_readsAtom : d_readsAtom + 1 ≤ d) {f_readsAtom : Int → mD → RI} (h_readsAtom : ∀ {y0 : Int} {D D' : mD} {v : Int}, f_readsAtom y0 D = some (v, D') → CM d_readsAtom 0 0 M_X3_readsAtom [mR 103, mI y0] (SK, D, false) (rI v D')) {x1 : Int} {D D' : mD} {v : Int} (h : F_X3_readsCondition f_readsAtom x1 D = some (v, D')) : CM d 0 0 M_X3_readsCondition [mR 103, mI x1] (SK, D, false) (rI v D') := CM.intro pn_X3 rfl rfl (Nat.le_of_ble_eq_true rfl) (fun _ => c_X3_readsCondition_e hd hd_readsAtom h_readsAtom h)
theorem c_X8_numberWithin_L31 {Ω : mO} {d : Nat} (hd : 1 ≤ d) {r : Int × mD} {x1 x2 : Int} : ∀ (n : Nat) {x3 x4 : Int} {D : mD}, F_X8_numberWithin_L31 x1 x2 n x3 x4 D = some r → J Ω M_X8_numberWithin d 0 0 (rI r.1 r.2) 31 [some (mR 1), some (mI x1), some (mI x2), some (mI x3), some (mI x4)] [] (SK, D, false) 0 0 := by
  intro n
  induction n with
  | zero => intro x3 x4 D h; exact absurd (show (none : Option (Int × mD)) = some r from h) nofun
  | succ n ih =>
    intro x3 x4 D h
    rw [F_X8_numberWithin_L31] at h
    refine j_iload (pc' := 33) dX8_numberWithin_31 rfl rfl ?_
    refine j_aload_n (pc' := 34) dX8_numberWithin_33 rfl rfl ?_
    refine k_getI (pc' := 37) (sl := 4) (z := D 1 4) kc_8 w_52 (by decide) dX8_numberWithin_34 rfl (by decide) sk_1 (by decide) rfl rfl ?_
    obtain ⟨q1, h⟩ := ck_o h
    obtain ⟨q2, h⟩ := ck_o h
    refine j_icmp_ge (tgt := 62) (pc' := 40) dX8_numberWithin_37 rfl rfl q1 q2 (fun b1 => ?_) (fun b1 => ?_)
    · replace h := ite_t b1 h
      refine j_iload_n (pc' := 63) dX8_numberWithin_62 rfl rfl ?_
      refine j_iload_n (pc' := 64) dX8_numberWithin_63 rfl rfl ?_
      obtain ⟨q3, h⟩ := ck_o h
      obtain ⟨q4, h⟩ := ck_o h
      obtain ⟨q5, h⟩ := ck_o h
      have hj : J Ω M_X8_numberWithin d 0 0 (rI r.1 r.2) 77 [none, none, none, none, none] [mI (if x3 < x1 then (-1 : Int) else (if x3 ≤ x2 then x3 else (-1 : Int)))] (SK, D, false) 0 0 := by
        exact j_iret dX8_numberWithin_77 rfl (by decide) (by decide) (rI_of h)
      refine j_icmp_lt (tgt := 72) (pc' := 67) dX8_numberWithin_64 rfl rfl q3 q4 (fun b2 => ?_) (fun b2 => ?_)
      · refine j_iconst (pc' := 73) dX8_numberWithin_72 rfl ?_
        refine j_goto (tgt := 77) dX8_numberWithin_73 rfl ?_
        have hj := hj
        try simp only [if_pos b2] at hj
        exact j_wk hj (trivial)
      · refine j_iload_n (pc' := 68) dX8_numberWithin_67 rfl rfl ?_
        refine j_iload_n (pc' := 69) dX8_numberWithin_68 rfl rfl ?_
        refine j_icmp_le (tgt := 76) (pc' := 72) dX8_numberWithin_69 rfl rfl q3 (q5 b2) (fun b3 => ?_) (fun b3 => ?_)
        · refine j_iload_n (pc' := 77) dX8_numberWithin_76 rfl rfl ?_
          have hj := hj
          try simp only [if_neg b2, if_pos b3] at hj
          exact j_wk hj (trivial)
        · refine j_iconst (pc' := 73) dX8_numberWithin_72 rfl ?_
          refine j_goto (tgt := 77) dX8_numberWithin_73 rfl ?_
          have hj := hj
          try simp only [if_neg b2, if_neg b3] at hj
          exact j_wk hj (trivial)
    · replace h := ite_f b1 h
      refine j_iload_n (pc' := 41) dX8_numberWithin_40 rfl rfl ?_
      refine j_bipush (pc' := 43) dX8_numberWithin_41 rfl rfl ?_
      refine j_imul (pc' := 44) dX8_numberWithin_43 rfl ?_
      refine j_aload_n (pc' := 45) dX8_numberWithin_44 rfl rfl ?_
      refine k_getR (pc' := 48) (sl := 0) (r := 2) kc_8 w_44 (Or.inl rfl) (by decide) dX8_numberWithin_45 rfl (by decide) sk_1 (by decide) rfl (by decide) ?_
      refine j_iload (pc' := 50) dX8_numberWithin_48 rfl rfl ?_
      obtain ⟨q6, h⟩ := ck_o h
      refine k_iald (pc' := 51) (z := D 2 x4) dX8_numberWithin_50 rfl (by decide) sk_2 (by decide) q6.1 q6.2 rfl ?_
      refine j_iadd (pc' := 52) dX8_numberWithin_51 rfl ?_
      refine j_bipush (pc' := 54) dX8_numberWithin_52 rfl rfl ?_
      refine j_isub (pc' := 55) dX8_numberWithin_54 rfl ?_
      refine j_istore_n (pc' := 56) (ls' := [some (mR 1), some (mI x1), some (mI x2), some (mI (((x3 * 10) + (D 2 x4)) - 48)), some (mI x4)]) dX8_numberWithin_55 rfl (by decide) rfl ?_
      refine j_iinc (pc' := 59) (z' := (x4 + 1)) (ls' := [some (mR 1), some (mI x1), some (mI x2), some (mI (((x3 * 10) + (D 2 x4)) - 48)), some (mI (x4 + 1))]) dX8_numberWithin_56 rfl rfl rfl (by decide) rfl ?_
      refine j_goto (tgt := 31) dX8_numberWithin_59 rfl ?_
      exact j_wk (j_widen (ce := 0) (ke := 0) (by decide) (by decide) (ih h)) (And.intro rfl (And.intro rfl (And.intro rfl (And.intro rfl (And.intro rfl trivial)))))
theorem c_X8_numberWithin_e {Ω : mO} {d : Nat} (hd : 1 ≤ d) {r : Int × mD} {x1 x2 : Int} {D : mD} (h : F_X8_numberWithin x1 x2 D = some r) : J Ω M_X8_numberWithin d 0 0 (rI r.1 r.2) 0 [some (mR 1), some (mI x1), some (mI x2), none, none] [] (SK, D, false) 0 0 := by
  rw [F_X8_numberWithin] at h
  refine j_aload_n (pc' := 1) dX8_numberWithin_0 rfl rfl ?_
  refine k_getI (pc' := 4) (sl := 2) (z := D 1 2) kc_8 w_48 (by decide) dX8_numberWithin_1 rfl (by decide) sk_1 (by decide) rfl rfl ?_
  refine j_iconst (pc' := 5) dX8_numberWithin_4 rfl ?_
  obtain ⟨q1, h⟩ := ck_o h
  refine j_icmp_ne (tgt := 21) (pc' := 8) dX8_numberWithin_5 rfl rfl q1 (by decide) (fun b1 => ?_) (fun b1 => ?_)
  · replace h := ite_f b1 h
    refine j_iconst (pc' := 22) dX8_numberWithin_21 rfl ?_
    exact j_iret dX8_numberWithin_22 rfl (by decide) (by decide) (rI_of h)
  · replace h := ite_t b1 h
    refine j_aload_n (pc' := 9) dX8_numberWithin_8 rfl rfl ?_
    refine k_getI (pc' := 12) (sl := 4) (z := D 1 4) kc_8 w_52 (by decide) dX8_numberWithin_9 rfl (by decide) sk_1 (by decide) rfl rfl ?_
    refine j_aload_n (pc' := 13) dX8_numberWithin_12 rfl rfl ?_
    refine k_getI (pc' := 16) (sl := 3) (z := D 1 3) kc_8 w_50 (by decide) dX8_numberWithin_13 rfl (by decide) sk_1 (by decide) rfl rfl ?_
    refine j_isub (pc' := 17) dX8_numberWithin_16 rfl ?_
    refine j_iconst (pc' := 18) dX8_numberWithin_17 rfl ?_
    obtain ⟨q2, h⟩ := ck_o h
    refine j_icmp_le (tgt := 23) (pc' := 21) dX8_numberWithin_18 rfl rfl q2 (by decide) (fun b2 => ?_) (fun b2 => ?_)
    · replace h := ite_t b2 h
      refine j_iconst (pc' := 24) dX8_numberWithin_23 rfl ?_
      refine j_istore_n (pc' := 25) (ls' := [some (mR 1), some (mI x1), some (mI x2), some (mI 0), none]) dX8_numberWithin_24 rfl (by decide) rfl ?_
      refine j_aload_n (pc' := 26) dX8_numberWithin_25 rfl rfl ?_
      refine k_getI (pc' := 29) (sl := 3) (z := D 1 3) kc_8 w_50 (by decide) dX8_numberWithin_26 rfl (by decide) sk_1 (by decide) rfl rfl ?_
      refine j_istore (pc' := 31) (ls' := [some (mR 1), some (mI x1), some (mI x2), some (mI 0), some (mI (D 1 3))]) dX8_numberWithin_29 rfl (by decide) rfl ?_
      exact j_wk (j_widen (ce := 0) (ke := 0) (by decide) (by decide) (c_X8_numberWithin_L31 hd _ h)) (And.intro rfl (And.intro rfl (And.intro rfl (And.intro rfl (And.intro rfl trivial)))))
    · replace h := ite_f b2 h
      refine j_iconst (pc' := 22) dX8_numberWithin_21 rfl ?_
      exact j_iret dX8_numberWithin_22 rfl (by decide) (by decide) (rI_of h)
theorem c_X8_numberWithin {d : Nat} (hd : 1 ≤ d) {x1 x2 : Int} {D D' : mD} {v : Int} (h : F_X8_numberWithin x1 x2 D = some (v, D')) : CM d 0 0 M_X8_numberWithin [mR 1, mI x1, mI x2] (SK, D, false) (rI v D') := CM.intro pn_X8 rfl rfl (Nat.le_of_ble_eq_true rfl) (fun _ => c_X8_numberWithin_e hd h)
theorem c_X3_partHere_e {Ω : mO} {d : Nat} (hd : 7 ≤ d) {r : Int × mD} {D : mD} (h : F_X3_partHere D = some r) : J Ω M_X3_partHere d 0 0 (rI r.1 r.2) 0 [some (mR 103)] [] (SK, D, false) 0 0 := by
  rw [F_X3_partHere] at h
  refine j_aload_n (pc' := 1) dX3_partHere_0 rfl rfl ?_
  refine k_getR (pc' := 4) (sl := 0) (r := 1) kc_3 w_364 (Or.inr w_365) (by decide) dX3_partHere_1 rfl (by decide) sk_103 (by decide) rfl (by decide) ?_
  refine j_ldcS (pc' := 6) (si := 7) rfl dX3_partHere_4 rfl ?_
  obtain ⟨v1, D1, e1, h⟩ := bI_o h
  refine k_cV (d' := 6) (pc' := 9) [mR (1000000 + 7)] [] (c_X8_isWord (d := 6) (Nat.le_refl _) ((by decide)) e1) cw_X3_26 kc_8 w_740 w_741 dX3_partHere_6 rfl (by omega) rfl rfl (by decide) sk_1 rfl rfl (by decide) (by decide) ?_
  obtain ⟨q1, h⟩ := ck_o h
  refine j_if_eq (tgt := 16) (pc' := 12) dX3_partHere_9 rfl rfl q1 (fun b1 => ?_) (fun b1 => ?_)
  · replace h := ite_t b1 h
    refine j_aload_n (pc' := 17) dX3_partHere_16 rfl rfl ?_
    refine k_getR (pc' := 20) (sl := 0) (r := 1) kc_3 w_364 (Or.inr w_365) (by decide) dX3_partHere_17 rfl (by decide) sk_103 (by decide) rfl (by decide) ?_
    refine j_ldcS (pc' := 22) (si := 8) rfl dX3_partHere_20 rfl ?_
    obtain ⟨v2, D2, e2, h⟩ := bI_o h
    refine k_cV (d' := 6) (pc' := 25) [mR (1000000 + 8)] [] (c_X8_isWord (d := 6) (Nat.le_refl _) ((by decide)) e2) cw_X3_26 kc_8 w_740 w_741 dX3_partHere_22 rfl (by omega) rfl rfl (by decide) sk_1 rfl rfl (by decide) (by decide) ?_
    obtain ⟨q2, h⟩ := ck_o h
    refine j_if_eq (tgt := 32) (pc' := 28) dX3_partHere_25 rfl rfl q2 (fun b2 => ?_) (fun b2 => ?_)
    · replace h := ite_t b2 h
      refine j_aload_n (pc' := 33) dX3_partHere_32 rfl rfl ?_
      refine k_getR (pc' := 36) (sl := 0) (r := 1) kc_3 w_364 (Or.inr w_365) (by decide) dX3_partHere_33 rfl (by decide) sk_103 (by decide) rfl (by decide) ?_
      refine j_ldcS (pc' := 38) (si := 9) rfl dX3_partHere_36 rfl ?_
      obtain ⟨v3, D3, e3, h⟩ := bI_o h
      refine k_cV (d' := 6) (pc' := 41) [mR (1000000 + 9)] [] (c_X8_isWord (d := 6) (Nat.le_refl _) ((by decide)) e3) cw_X3_26 kc_8 w_740 w_741 dX3_partHere_38 rfl (by omega) rfl rfl (by decide) sk_1 rfl rfl (by decide) (by decide) ?_
      obtain ⟨q3, h⟩ := ck_o h
      refine j_if_eq (tgt := 48) (pc' := 44) dX3_partHere_41 rfl rfl q3 (fun b3 => ?_) (fun b3 => ?_)
      · replace h := ite_t b3 h
        refine j_aload_n (pc' := 49) dX3_partHere_48 rfl rfl ?_
        refine k_getR (pc' := 52) (sl := 0) (r := 1) kc_3 w_364 (Or.inr w_365) (by decide) dX3_partHere_49 rfl (by decide) sk_103 (by decide) rfl (by decide) ?_
        refine j_ldcS (pc' := 54) (si := 10) rfl dX3_partHere_52 rfl ?_
        obtain ⟨v4, D4, e4, h⟩ := bI_o h
        refine k_cV (d' := 6) (pc' := 57) [mR (1000000 + 10)] [] (c_X8_isWord (d := 6) (Nat.le_refl _) ((by decide)) e4) cw_X3_26 kc_8 w_740 w_741 dX3_partHere_54 rfl (by omega) rfl rfl (by decide) sk_1 rfl rfl (by decide) (by decide) ?_
        obtain ⟨q4, h⟩ := ck_o h
        refine j_if_eq (tgt := 64) (pc' := 60) dX3_partHere_57 rfl rfl q4 (fun b4 => ?_) (fun b4 => ?_)
        · replace h := ite_t b4 h
          refine j_aload_n (pc' := 65) dX3_partHere_64 rfl rfl ?_
          refine k_getR (pc' := 68) (sl := 0) (r := 1) kc_3 w_364 (Or.inr w_365) (by decide) dX3_partHere_65 rfl (by decide) sk_103 (by decide) rfl (by decide) ?_
          refine j_ldcS (pc' := 70) (si := 11) rfl dX3_partHere_68 rfl ?_
          obtain ⟨v5, D5, e5, h⟩ := bI_o h
          refine k_cV (d' := 6) (pc' := 73) [mR (1000000 + 11)] [] (c_X8_isWord (d := 6) (Nat.le_refl _) ((by decide)) e5) cw_X3_26 kc_8 w_740 w_741 dX3_partHere_70 rfl (by omega) rfl rfl (by decide) sk_1 rfl rfl (by decide) (by decide) ?_
          obtain ⟨q5, h⟩ := ck_o h
          refine j_if_eq (tgt := 80) (pc' := 76) dX3_partHere_73 rfl rfl q5 (fun b5 => ?_) (fun b5 => ?_)
          · replace h := ite_t b5 h
            refine j_aload_n (pc' := 81) dX3_partHere_80 rfl rfl ?_
            refine k_getR (pc' := 84) (sl := 0) (r := 1) kc_3 w_364 (Or.inr w_365) (by decide) dX3_partHere_81 rfl (by decide) sk_103 (by decide) rfl (by decide) ?_
            refine j_ldcS (pc' := 86) (si := 12) rfl dX3_partHere_84 rfl ?_
            obtain ⟨v6, D6, e6, h⟩ := bI_o h
            refine k_cV (d' := 6) (pc' := 89) [mR (1000000 + 12)] [] (c_X8_isWord (d := 6) (Nat.le_refl _) ((by decide)) e6) cw_X3_26 kc_8 w_740 w_741 dX3_partHere_86 rfl (by omega) rfl rfl (by decide) sk_1 rfl rfl (by decide) (by decide) ?_
            obtain ⟨q6, h⟩ := ck_o h
            refine j_if_eq (tgt := 96) (pc' := 92) dX3_partHere_89 rfl rfl q6 (fun b6 => ?_) (fun b6 => ?_)
            · replace h := ite_t b6 h
              refine j_aload_n (pc' := 97) dX3_partHere_96 rfl rfl ?_
              refine k_getR (pc' := 100) (sl := 0) (r := 1) kc_3 w_364 (Or.inr w_365) (by decide) dX3_partHere_97 rfl (by decide) sk_103 (by decide) rfl (by decide) ?_
              refine j_iconst (pc' := 101) dX3_partHere_100 rfl ?_
              refine j_sipush (pc' := 104) dX3_partHere_101 rfl rfl ?_
              obtain ⟨v7, D7, e7, h⟩ := bI_o h
              refine k_cV (d' := 1) (pc' := 107) [mI 0, mI 999] [] (c_X8_numberWithin (d := 1) (Nat.le_refl _) e7) cw_X3_104 kc_8 w_800 w_801 dX3_partHere_104 rfl (by omega) rfl rfl (by decide) sk_1 rfl rfl (by decide) (by decide) ?_
              exact j_iret dX3_partHere_107 rfl (by decide) (by decide) (rI_of h)
            · replace h := ite_f b6 h
              refine j_sipush (pc' := 95) dX3_partHere_92 rfl rfl ?_
              exact j_iret dX3_partHere_95 rfl (by decide) (by decide) (rI_of h)
          · replace h := ite_f b5 h
            refine j_sipush (pc' := 79) dX3_partHere_76 rfl rfl ?_
            exact j_iret dX3_partHere_79 rfl (by decide) (by decide) (rI_of h)
        · replace h := ite_f b4 h
          refine j_sipush (pc' := 63) dX3_partHere_60 rfl rfl ?_
          exact j_iret dX3_partHere_63 rfl (by decide) (by decide) (rI_of h)
      · replace h := ite_f b3 h
        refine j_sipush (pc' := 47) dX3_partHere_44 rfl rfl ?_
        exact j_iret dX3_partHere_47 rfl (by decide) (by decide) (rI_of h)
    · replace h := ite_f b2 h
      refine j_sipush (pc' := 31) dX3_partHere_28 rfl rfl ?_
      exact j_iret dX3_partHere_31 rfl (by decide) (by decide) (rI_of h)
  · replace h := ite_f b1 h
    refine j_sipush (pc' := 15) dX3_partHere_12 rfl rfl ?_
    exact j_iret dX3_partHere_15 rfl (by decide) (by decide) (rI_of h)
theorem c_X3_partHere {d : Nat} (hd : 7 ≤ d) {D D' : mD} {v : Int} (h : F_X3_partHere D = some (v, D')) : CM d 0 0 M_X3_partHere [mR 103] (SK, D, false) (rI v D') := CM.intro pn_X3 rfl rfl (Nat.le_of_ble_eq_true rfl) (fun _ => c_X3_partHere_e hd h)
theorem c_X8_isMark_e {Ω : mO} {d : Nat} (hd : 1 ≤ d) {r : Int × mD} {x1 : Int} {D : mD} (h : F_X8_isMark x1 D = some r) : J Ω M_X8_isMark d 0 0 (rI r.1 r.2) 0 [some (mR 1), some (mI x1)] [] (SK, D, false) 0 0 := by
  rw [F_X8_isMark] at h
  refine j_aload_n (pc' := 1) dX8_isMark_0 rfl rfl ?_
  refine k_getI (pc' := 4) (sl := 2) (z := D 1 2) kc_8 w_48 (by decide) dX8_isMark_1 rfl (by decide) sk_1 (by decide) rfl rfl ?_
  refine j_iconst (pc' := 5) dX8_isMark_4 rfl ?_
  obtain ⟨q1, h⟩ := ck_o h
  obtain ⟨q2, h⟩ := ck_o h
  obtain ⟨q3, h⟩ := ck_o h
  obtain ⟨q4, h⟩ := ck_o h
  have hj : J Ω M_X8_isMark d 0 0 (rI r.1 r.2) 26 [none, none] [mI (if (D 1 2) = 3 then (if (D 2 (D 1 3)) = x1 then (1 : Int) else (0 : Int)) else (0 : Int))] (SK, D, false) 0 0 := by
    obtain ⟨q5, h⟩ := ck_o h
    exact j_zret dX8_isMark_26 rfl q5 (by decide) (by decide) (rI_of h)
  refine j_icmp_ne (tgt := 25) (pc' := 8) dX8_isMark_5 rfl rfl q1 (by decide) (fun b1 => ?_) (fun b1 => ?_)
  · refine j_iconst (pc' := 26) dX8_isMark_25 rfl ?_
    have hj := hj
    try simp only [if_neg b1] at hj
    exact j_wk hj (trivial)
  · refine j_aload_n (pc' := 9) dX8_isMark_8 rfl rfl ?_
    refine k_getR (pc' := 12) (sl := 0) (r := 2) kc_8 w_44 (Or.inl rfl) (by decide) dX8_isMark_9 rfl (by decide) sk_1 (by decide) rfl (by decide) ?_
    refine j_aload_n (pc' := 13) dX8_isMark_12 rfl rfl ?_
    refine k_getI (pc' := 16) (sl := 3) (z := D 1 3) kc_8 w_50 (by decide) dX8_isMark_13 rfl (by decide) sk_1 (by decide) rfl rfl ?_
    refine k_iald (pc' := 17) (z := D 2 (D 1 3)) dX8_isMark_16 rfl (by decide) sk_2 (by decide) (q2 b1).1 (q2 b1).2 rfl ?_
    refine j_iload_n (pc' := 18) dX8_isMark_17 rfl rfl ?_
    refine j_icmp_ne (tgt := 25) (pc' := 21) dX8_isMark_18 rfl rfl (q3 b1) (q4 b1) (fun b2 => ?_) (fun b2 => ?_)
    · refine j_iconst (pc' := 26) dX8_isMark_25 rfl ?_
      have hj := hj
      try simp only [if_pos b1, if_neg b2] at hj
      exact j_wk hj (trivial)
    · refine j_iconst (pc' := 22) dX8_isMark_21 rfl ?_
      refine j_goto (tgt := 26) dX8_isMark_22 rfl ?_
      have hj := hj
      try simp only [if_pos b1, if_pos b2] at hj
      exact j_wk hj (trivial)
theorem c_X8_isMark {d : Nat} (hd : 1 ≤ d) {x1 : Int} {D D' : mD} {v : Int} (h : F_X8_isMark x1 D = some (v, D')) : CM d 0 0 M_X8_isMark [mR 1, mI x1] (SK, D, false) (rI v D') := CM.intro pn_X8 rfl rfl (Nat.le_of_ble_eq_true rfl) (fun _ => c_X8_isMark_e hd h)
theorem c_X3_readsSum_j43 {Ω : mO} {d : Nat} (hd : 8 ≤ d) {r : Int × mD} {K2 : Int → mD → RI} {x1 : Int} (hK2 : ∀ {x1 : Int} {D : mD}, K2 x1 D = some r → J Ω M_X3_readsSum d 0 0 (rI r.1 r.2) 2 [some (mR 103), some (mI x1), none] [] (SK, D, false) 0 0) {D : mD} (h : F_X3_readsSum_j43 K2 x1 D = some r) : J Ω M_X3_readsSum d 0 0 (rI r.1 r.2) 43 [some (mR 103), some (mI x1), none] [] (SK, D, false) 0 0 := by
  rw [F_X3_readsSum_j43] at h
  refine j_aload_n (pc' := 44) dX3_readsSum_43 rfl rfl ?_
  refine k_getR (pc' := 47) (sl := 0) (r := 1) kc_3 w_364 (Or.inr w_365) (by decide) dX3_readsSum_44 rfl (by decide) sk_103 (by decide) rfl (by decide) ?_
  obtain ⟨v1, D1, e1, h⟩ := bI_o h
  refine k_cVv (d' := 2) (pc' := 50) [] [] (c_X8_step (d := 2) (Nat.le_refl _) e1) cw_X3_34 kc_8 w_726 w_727 dX3_readsSum_47 rfl (by omega) rfl rfl (by decide) sk_1 rfl rfl (by decide) (by decide) ?_
  refine j_aload_n (pc' := 51) dX3_readsSum_50 rfl rfl ?_
  refine k_getR (pc' := 54) (sl := 0) (r := 1) kc_3 w_364 (Or.inr w_365) (by decide) dX3_readsSum_51 rfl (by decide) sk_103 (by decide) rfl (by decide) ?_
  refine j_bipush (pc' := 56) dX3_readsSum_54 rfl rfl ?_
  obtain ⟨v2, D2, e2, h⟩ := bI_o h
  refine k_cV (d' := 1) (pc' := 59) [mI 43] [] (c_X8_isMark (d := 1) (Nat.le_refl _) e2) cw_X3_67 kc_8 w_820 w_821 dX3_readsSum_56 rfl (by omega) rfl rfl (by decide) sk_1 rfl rfl (by decide) (by decide) ?_
  obtain ⟨q1, h⟩ := ck_o h
  refine j_if_ne (tgt := 64) (pc' := 62) dX3_readsSum_59 rfl rfl q1 (fun b1 => ?_) (fun b1 => ?_)
  · replace h := ite_f b1 h
    refine j_aload_n (pc' := 65) dX3_readsSum_64 rfl rfl ?_
    refine k_getR (pc' := 68) (sl := 0) (r := 1) kc_3 w_364 (Or.inr w_365) (by decide) dX3_readsSum_65 rfl (by decide) sk_103 (by decide) rfl (by decide) ?_
    obtain ⟨v3, D3, e3, h⟩ := bI_o h
    refine k_cVv (d' := 2) (pc' := 71) [] [] (c_X8_step (d := 2) (Nat.le_refl _) e3) cw_X3_34 kc_8 w_726 w_727 dX3_readsSum_68 rfl (by omega) rfl rfl (by decide) sk_1 rfl rfl (by decide) (by decide) ?_
    refine j_iinc (pc' := 74) (z' := (x1 + 1)) (ls' := [some (mR 103), some (mI (x1 + 1)), none]) dX3_readsSum_71 rfl rfl rfl (by decide) rfl ?_
    refine j_goto (tgt := 2) dX3_readsSum_74 rfl ?_
    exact j_wk (j_widen (ce := 0) (ke := 0) (by decide) (by decide) (hK2 h)) (And.intro rfl (And.intro rfl trivial))
  · replace h := ite_t b1 h
    refine j_iconst (pc' := 63) dX3_readsSum_62 rfl ?_
    exact j_zret dX3_readsSum_63 rfl (Or.inr rfl) (by decide) (by decide) (rI_of h)
theorem c_X3_readsSum_L2 {Ω : mO} {d : Nat} (hd : 8 ≤ d) {r : Int × mD} : ∀ (n : Nat) {x1 : Int} {D : mD}, F_X3_readsSum_L2 n x1 D = some r → J Ω M_X3_readsSum d 0 0 (rI r.1 r.2) 2 [some (mR 103), some (mI x1), none] [] (SK, D, false) 0 0 := by
  intro n
  induction n with
  | zero => intro x1 D h; exact absurd (show (none : Option (Int × mD)) = some r from h) nofun
  | succ n ih =>
    intro x1 D h
    rw [F_X3_readsSum_L2] at h
    refine j_iload_n (pc' := 3) dX3_readsSum_2 rfl rfl ?_
    refine j_sipush (pc' := 6) dX3_readsSum_3 rfl rfl ?_
    obtain ⟨q1, h⟩ := ck_o h
    refine j_icmp_ge (tgt := 77) (pc' := 9) dX3_readsSum_6 rfl rfl q1 (by decide) (fun b1 => ?_) (fun b1 => ?_)
    · replace h := ite_t b1 h
      refine j_iconst (pc' := 78) dX3_readsSum_77 rfl ?_
      exact j_zret dX3_readsSum_78 rfl (Or.inl rfl) (by decide) (by decide) (rI_of h)
    · replace h := ite_f b1 h
      refine j_aload_n (pc' := 10) dX3_readsSum_9 rfl rfl ?_
      obtain ⟨v1, D1, e1, h⟩ := bI_o h
      refine k_cV (d' := 7) (pc' := 13) [] [] (c_X3_partHere (d := 7) (Nat.le_refl _) e1) cw_X3_89 kc_3 w_844 ws_13 dX3_readsSum_10 rfl (by omega) rfl rfl (by decide) sk_103 rfl rfl (by decide) (by decide) ?_
      refine j_istore_n (pc' := 14) (ls' := [some (mR 103), some (mI x1), some (mI v1)]) dX3_readsSum_13 rfl (by decide) rfl ?_
      refine j_iload_n (pc' := 15) dX3_readsSum_14 rfl rfl ?_
      refine j_iconst (pc' := 16) dX3_readsSum_15 rfl ?_
      obtain ⟨q2, h⟩ := ck_o h
      refine j_icmp_ne (tgt := 21) (pc' := 19) dX3_readsSum_16 rfl rfl q2 (by decide) (fun b2 => ?_) (fun b2 => ?_)
      · replace h := ite_f b2 h
        refine j_aload_n (pc' := 22) dX3_readsSum_21 rfl rfl ?_
        refine k_getR (pc' := 25) (sl := 2) (r := 104) kc_3 w_386 (Or.inl rfl) (by decide) dX3_readsSum_22 rfl (by decide) sk_103 (by decide) rfl (by decide) ?_
        refine j_iload_n (pc' := 26) dX3_readsSum_25 rfl rfl ?_
        obtain ⟨v2, D2, e2, h⟩ := bI_o h
        refine k_cVv (d' := 1) (pc' := 29) [mI v1] [] (c_X2_put (d := 1) (Nat.le_refl _) law_104 e2) cw_X3_57 kc_2 w_828 w_829 dX3_readsSum_26 rfl (by omega) rfl rfl (by decide) sk_104 rfl rfl (by decide) (by decide) ?_
        refine j_iload_n (pc' := 30) dX3_readsSum_29 rfl rfl ?_
        refine j_if_le (tgt := 43) (pc' := 33) dX3_readsSum_30 rfl rfl q1 (fun b3 => ?_) (fun b3 => ?_)
        · replace h := ite_t b3 h
          exact j_wk (j_widen (ce := 0) (ke := 0) (by decide) (by decide) (c_X3_readsSum_j43 hd ih h)) (And.intro rfl (And.intro rfl trivial))
        · replace h := ite_f b3 h
          refine j_aload_n (pc' := 34) dX3_readsSum_33 rfl rfl ?_
          refine k_getR (pc' := 37) (sl := 2) (r := 104) kc_3 w_386 (Or.inl rfl) (by decide) dX3_readsSum_34 rfl (by decide) sk_103 (by decide) rfl (by decide) ?_
          refine j_sipush (pc' := 40) dX3_readsSum_37 rfl rfl ?_
          obtain ⟨v3, D3, e3, h⟩ := bI_o h
          refine k_cVv (d' := 1) (pc' := 43) [mI 1009] [] (c_X2_put (d := 1) (Nat.le_refl _) law_104 e3) cw_X3_57 kc_2 w_828 w_829 dX3_readsSum_40 rfl (by omega) rfl rfl (by decide) sk_104 rfl rfl (by decide) (by decide) ?_
          exact j_wk (j_widen (ce := 0) (ke := 0) (by decide) (by decide) (c_X3_readsSum_j43 hd ih h)) (And.intro rfl (And.intro rfl trivial))
      · replace h := ite_t b2 h
        refine j_iconst (pc' := 20) dX3_readsSum_19 rfl ?_
        exact j_zret dX3_readsSum_20 rfl (Or.inl rfl) (by decide) (by decide) (rI_of h)
theorem c_X3_readsSum_e {Ω : mO} {d : Nat} (hd : 8 ≤ d) {r : Int × mD} {D : mD} (h : F_X3_readsSum D = some r) : J Ω M_X3_readsSum d 0 0 (rI r.1 r.2) 0 [some (mR 103), none, none] [] (SK, D, false) 0 0 := by
  rw [F_X3_readsSum] at h
  refine j_iconst (pc' := 1) dX3_readsSum_0 rfl ?_
  refine j_istore_n (pc' := 2) (ls' := [some (mR 103), some (mI 0), none]) dX3_readsSum_1 rfl (by decide) rfl ?_
  exact j_wk (j_widen (ce := 0) (ke := 0) (by decide) (by decide) (c_X3_readsSum_L2 hd _ h)) (And.intro rfl (And.intro rfl trivial))
theorem c_X3_readsSum {d : Nat} (hd : 8 ≤ d) {D D' : mD} {v : Int} (h : F_X3_readsSum D = some (v, D')) : CM d 0 0 M_X3_readsSum [mR 103] (SK, D, false) (rI v D') := CM.intro pn_X3 rfl rfl (Nat.le_of_ble_eq_true rfl) (fun _ => c_X3_readsSum_e hd h)
theorem c_X3_sortHere_e {Ω : mO} {d : Nat} (hd : 7 ≤ d) {r : Int × mD} {D : mD} (h : F_X3_sortHere D = some r) : J Ω M_X3_sortHere d 0 0 (rI r.1 r.2) 0 [some (mR 103)] [] (SK, D, false) 0 0 := by
  rw [F_X3_sortHere] at h
  refine j_aload_n (pc' := 1) dX3_sortHere_0 rfl rfl ?_
  refine k_getR (pc' := 4) (sl := 0) (r := 1) kc_3 w_364 (Or.inr w_365) (by decide) dX3_sortHere_1 rfl (by decide) sk_103 (by decide) rfl (by decide) ?_
  refine j_ldcS (pc' := 6) (si := 4) rfl dX3_sortHere_4 rfl ?_
  obtain ⟨v1, D1, e1, h⟩ := bI_o h
  refine k_cV (d' := 6) (pc' := 9) [mR (1000000 + 4)] [] (c_X8_isWord (d := 6) (Nat.le_refl _) ((by decide)) e1) cw_X3_26 kc_8 w_740 w_741 dX3_sortHere_6 rfl (by omega) rfl rfl (by decide) sk_1 rfl rfl (by decide) (by decide) ?_
  obtain ⟨q1, h⟩ := ck_o h
  refine j_if_eq (tgt := 15) (pc' := 12) dX3_sortHere_9 rfl rfl q1 (fun b1 => ?_) (fun b1 => ?_)
  · replace h := ite_t b1 h
    refine j_aload_n (pc' := 16) dX3_sortHere_15 rfl rfl ?_
    refine k_getR (pc' := 19) (sl := 0) (r := 1) kc_3 w_364 (Or.inr w_365) (by decide) dX3_sortHere_16 rfl (by decide) sk_103 (by decide) rfl (by decide) ?_
    refine j_ldcS (pc' := 21) (si := 5) rfl dX3_sortHere_19 rfl ?_
    obtain ⟨v2, D2, e2, h⟩ := bI_o h
    refine k_cV (d' := 6) (pc' := 24) [mR (1000000 + 5)] [] (c_X8_isWord (d := 6) (Nat.le_refl _) ((by decide)) e2) cw_X3_26 kc_8 w_740 w_741 dX3_sortHere_21 rfl (by omega) rfl rfl (by decide) sk_1 rfl rfl (by decide) (by decide) ?_
    obtain ⟨q2, h⟩ := ck_o h
    refine j_if_eq (tgt := 30) (pc' := 27) dX3_sortHere_24 rfl rfl q2 (fun b2 => ?_) (fun b2 => ?_)
    · replace h := ite_t b2 h
      refine j_aload_n (pc' := 31) dX3_sortHere_30 rfl rfl ?_
      refine k_getR (pc' := 34) (sl := 0) (r := 1) kc_3 w_364 (Or.inr w_365) (by decide) dX3_sortHere_31 rfl (by decide) sk_103 (by decide) rfl (by decide) ?_
      refine j_ldcS (pc' := 36) (si := 6) rfl dX3_sortHere_34 rfl ?_
      obtain ⟨v3, D3, e3, h⟩ := bI_o h
      refine k_cV (d' := 6) (pc' := 39) [mR (1000000 + 6)] [] (c_X8_isWord (d := 6) (Nat.le_refl _) ((by decide)) e3) cw_X3_26 kc_8 w_740 w_741 dX3_sortHere_36 rfl (by omega) rfl rfl (by decide) sk_1 rfl rfl (by decide) (by decide) ?_
      obtain ⟨q3, h⟩ := ck_o h
      have hj : J Ω M_X3_sortHere d 0 0 (rI r.1 r.2) 48 [none] [mI (if v3 = 0 then (-1 : Int) else (8 : Int))] (SK, D3, false) 0 0 := by
        exact j_iret dX3_sortHere_48 rfl (by decide) (by decide) (rI_of h)
      refine j_if_eq (tgt := 47) (pc' := 42) dX3_sortHere_39 rfl rfl q3 (fun b3 => ?_) (fun b3 => ?_)
      · refine j_iconst (pc' := 48) dX3_sortHere_47 rfl ?_
        have hj := hj
        try simp only [if_pos b3] at hj
        exact j_wk hj (trivial)
      · refine j_bipush (pc' := 44) dX3_sortHere_42 rfl rfl ?_
        refine j_goto (tgt := 48) dX3_sortHere_44 rfl ?_
        have hj := hj
        try simp only [if_neg b3] at hj
        exact j_wk hj (trivial)
    · replace h := ite_f b2 h
      refine j_bipush (pc' := 29) dX3_sortHere_27 rfl rfl ?_
      exact j_iret dX3_sortHere_29 rfl (by decide) (by decide) (rI_of h)
  · replace h := ite_f b1 h
    refine j_bipush (pc' := 14) dX3_sortHere_12 rfl rfl ?_
    exact j_iret dX3_sortHere_14 rfl (by decide) (by decide) (rI_of h)
theorem c_X3_sortHere {d : Nat} (hd : 7 ≤ d) {D D' : mD} {v : Int} (h : F_X3_sortHere D = some (v, D')) : CM d 0 0 M_X3_sortHere [mR 103] (SK, D, false) (rI v D') := CM.intro pn_X3 rfl rfl (Nat.le_of_ble_eq_true rfl) (fun _ => c_X3_sortHere_e hd h)
theorem c_X3_readsAtom_j26 {Ω : mO} {d : Nat} (hd : 9 ≤ d) {d_readsDeeper : Nat} (hd_readsDeeper : d_readsDeeper + 1 ≤ d) {f_readsDeeper : Int → Int → mD → RI} (h_readsDeeper : ∀ {y0 y1 : Int} {D D' : mD} {v : Int}, f_readsDeeper y0 y1 D = some (v, D') → CM d_readsDeeper 0 0 M_X3_readsDeeper [mR 103, mI y0, mI y1] (SK, D, false) (rI v D')) {r : Int × mD} {x1 x2 : Int} {D : mD} (h : F_X3_readsAtom_j26 f_readsDeeper x1 x2 D = some r) : J Ω M_X3_readsAtom d 0 0 (rI r.1 r.2) 26 [some (mR 103), some (mI x1), some (mI x2), none, none] [] (SK, D, false) 0 0 := by
  rw [F_X3_readsAtom_j26] at h
  refine j_iload_n (pc' := 27) dX3_readsAtom_26 rfl rfl ?_
  refine j_bipush (pc' := 29) dX3_readsAtom_27 rfl rfl ?_
  obtain ⟨q1, h⟩ := ck_o h
  refine j_icmp_ge (tgt := 47) (pc' := 32) dX3_readsAtom_29 rfl rfl q1 (by decide) (fun b1 => ?_) (fun b1 => ?_)
  · replace h := ite_t b1 h
    refine j_iconst (pc' := 48) dX3_readsAtom_47 rfl ?_
    exact j_zret dX3_readsAtom_48 rfl (Or.inl rfl) (by decide) (by decide) (rI_of h)
  · replace h := ite_f b1 h
    refine j_aload_n (pc' := 33) dX3_readsAtom_32 rfl rfl ?_
    refine j_iload_n (pc' := 34) dX3_readsAtom_33 rfl rfl ?_
    refine j_iload_n (pc' := 35) dX3_readsAtom_34 rfl rfl ?_
    refine j_iconst (pc' := 36) dX3_readsAtom_35 rfl ?_
    refine j_iadd (pc' := 37) dX3_readsAtom_36 rfl ?_
    obtain ⟨v1, D1, e1, h⟩ := bI_o h
    refine k_cV (d' := d_readsDeeper) (pc' := 40) [mI x2, mI (x1 + 1)] [] (h_readsDeeper e1) cw_X3_71 kc_3 w_825 ws_10 dX3_readsAtom_37 rfl hd_readsDeeper rfl rfl (by decide) sk_103 rfl rfl (by decide) (by decide) ?_
    obtain ⟨q2, h⟩ := ck_o h
    have hj : J Ω M_X3_readsAtom d 0 0 (rI r.1 r.2) 48 [none, none, none, none, none] [mI (if v1 = 0 then (0 : Int) else (1 : Int))] (SK, D1, false) 0 0 := by
      obtain ⟨q3, h⟩ := ck_o h
      exact j_zret dX3_readsAtom_48 rfl q3 (by decide) (by decide) (rI_of h)
    refine j_if_eq (tgt := 47) (pc' := 43) dX3_readsAtom_40 rfl rfl q2 (fun b2 => ?_) (fun b2 => ?_)
    · refine j_iconst (pc' := 48) dX3_readsAtom_47 rfl ?_
      have hj := hj
      try simp only [if_pos b2] at hj
      exact j_wk hj (trivial)
    · refine j_iconst (pc' := 44) dX3_readsAtom_43 rfl ?_
      refine j_goto (tgt := 48) dX3_readsAtom_44 rfl ?_
      have hj := hj
      try simp only [if_neg b2] at hj
      exact j_wk hj (trivial)
theorem c_X3_readsAtom_j153 {Ω : mO} {d : Nat} (hd : 9 ≤ d) {d_readsDeeper : Nat} (hd_readsDeeper : d_readsDeeper + 1 ≤ d) {f_readsDeeper : Int → Int → mD → RI} (h_readsDeeper : ∀ {y0 y1 : Int} {D D' : mD} {v : Int}, f_readsDeeper y0 y1 D = some (v, D') → CM d_readsDeeper 0 0 M_X3_readsDeeper [mR 103, mI y0, mI y1] (SK, D, false) (rI v D')) {r : Int × mD} {s1 : Int} {D : mD} (h : F_X3_readsAtom_j153 f_readsDeeper s1 D = some r) : J Ω M_X3_readsAtom d 0 0 (rI r.1 r.2) 153 [none, none, none, none, none] [mI s1, mR 104] (SK, D, false) 0 0 := by
  rw [F_X3_readsAtom_j153] at h
  obtain ⟨v1, D1, e1, h⟩ := bI_o h
  refine k_cVv (d' := 1) (pc' := 156) [mI s1] [] (c_X2_put (d := 1) (Nat.le_refl _) law_104 e1) cw_X3_57 kc_2 w_828 w_829 dX3_readsAtom_153 rfl (by omega) rfl rfl (by decide) sk_104 rfl rfl (by decide) (by decide) ?_
  refine j_iconst (pc' := 157) dX3_readsAtom_156 rfl ?_
  exact j_zret dX3_readsAtom_157 rfl (Or.inr rfl) (by decide) (by decide) (rI_of h)
theorem c_X3_readsAtom_j119 {Ω : mO} {d : Nat} (hd : 9 ≤ d) {d_readsDeeper : Nat} (hd_readsDeeper : d_readsDeeper + 1 ≤ d) {f_readsDeeper : Int → Int → mD → RI} (h_readsDeeper : ∀ {y0 y1 : Int} {D D' : mD} {v : Int}, f_readsDeeper y0 y1 D = some (v, D') → CM d_readsDeeper 0 0 M_X3_readsDeeper [mR 103, mI y0, mI y1] (SK, D, false) (rI v D')) {r : Int × mD} {x4 : Int} {D : mD} (h : F_X3_readsAtom_j119 f_readsDeeper x4 D = some r) : J Ω M_X3_readsAtom d 0 0 (rI r.1 r.2) 119 [some (mR 103), none, none, none, some (mI x4)] [] (SK, D, false) 0 0 := by
  rw [F_X3_readsAtom_j119] at h
  refine j_aload_n (pc' := 120) dX3_readsAtom_119 rfl rfl ?_
  refine k_getR (pc' := 123) (sl := 0) (r := 1) kc_3 w_364 (Or.inr w_365) (by decide) dX3_readsAtom_120 rfl (by decide) sk_103 (by decide) rfl (by decide) ?_
  obtain ⟨v1, D1, e1, h⟩ := bI_o h
  refine k_cVv (d' := 2) (pc' := 126) [] [] (c_X8_step (d := 2) (Nat.le_refl _) e1) cw_X3_34 kc_8 w_726 w_727 dX3_readsAtom_123 rfl (by omega) rfl rfl (by decide) sk_1 rfl rfl (by decide) (by decide) ?_
  refine j_aload_n (pc' := 127) dX3_readsAtom_126 rfl rfl ?_
  obtain ⟨v2, D2, e2, h⟩ := bI_o h
  refine k_cV (d' := 8) (pc' := 130) [] [] (c_X3_readsSum (d := 8) (Nat.le_refl _) e2) cw_X3_79 kc_3 w_840 ws_12 dX3_readsAtom_127 rfl (by omega) rfl rfl (by decide) sk_103 rfl rfl (by decide) (by decide) ?_
  obtain ⟨q1, h⟩ := ck_o h
  refine j_if_ne (tgt := 135) (pc' := 133) dX3_readsAtom_130 rfl rfl q1 (fun b1 => ?_) (fun b1 => ?_)
  · replace h := ite_f b1 h
    refine j_aload_n (pc' := 136) dX3_readsAtom_135 rfl rfl ?_
    refine k_getR (pc' := 139) (sl := 2) (r := 104) kc_3 w_386 (Or.inl rfl) (by decide) dX3_readsAtom_136 rfl (by decide) sk_103 (by decide) rfl (by decide) ?_
    refine j_iload (pc' := 141) dX3_readsAtom_139 rfl rfl ?_
    obtain ⟨q2, h⟩ := ck_o h
    have hj : J Ω M_X3_readsAtom d 0 0 (rI r.1 r.2) 153 [none, none, none, none, none] [mI (if x4 = 0 then (1011 : Int) else (1010 : Int)), mR 104] (SK, D2, false) 0 0 := by
      exact j_wk (j_widen (ce := 0) (ke := 0) (by decide) (by decide) (c_X3_readsAtom_j153 hd hd_readsDeeper h_readsDeeper h)) (trivial)
    refine j_if_eq (tgt := 150) (pc' := 144) dX3_readsAtom_141 rfl rfl q2 (fun b2 => ?_) (fun b2 => ?_)
    · refine j_sipush (pc' := 153) dX3_readsAtom_150 rfl rfl ?_
      have hj := hj
      try simp only [if_pos b2] at hj
      exact j_wk hj (trivial)
    · refine j_sipush (pc' := 147) dX3_readsAtom_144 rfl rfl ?_
      refine j_goto (tgt := 153) dX3_readsAtom_147 rfl ?_
      have hj := hj
      try simp only [if_neg b2] at hj
      exact j_wk hj (trivial)
  · replace h := ite_t b1 h
    refine j_iconst (pc' := 134) dX3_readsAtom_133 rfl ?_
    exact j_zret dX3_readsAtom_134 rfl (Or.inl rfl) (by decide) (by decide) (rI_of h)
theorem c_X3_readsAtom_e {Ω : mO} {d : Nat} (hd : 9 ≤ d) {d_readsDeeper : Nat} (hd_readsDeeper : d_readsDeeper + 1 ≤ d) {f_readsDeeper : Int → Int → mD → RI} (h_readsDeeper : ∀ {y0 y1 : Int} {D D' : mD} {v : Int}, f_readsDeeper y0 y1 D = some (v, D') → CM d_readsDeeper 0 0 M_X3_readsDeeper [mR 103, mI y0, mI y1] (SK, D, false) (rI v D')) {r : Int × mD} {x1 : Int} {D : mD} (h : F_X3_readsAtom f_readsDeeper x1 D = some r) : J Ω M_X3_readsAtom d 0 0 (rI r.1 r.2) 0 [some (mR 103), some (mI x1), none, none, none] [] (SK, D, false) 0 0 := by
  rw [F_X3_readsAtom] at h
  refine j_aload_n (pc' := 1) dX3_readsAtom_0 rfl rfl ?_
  refine k_getR (pc' := 4) (sl := 0) (r := 1) kc_3 w_364 (Or.inr w_365) (by decide) dX3_readsAtom_1 rfl (by decide) sk_103 (by decide) rfl (by decide) ?_
  refine j_ldcS (pc' := 6) (si := 3) rfl dX3_readsAtom_4 rfl ?_
  obtain ⟨v1, D1, e1, h⟩ := bI_o h
  refine k_cV (d' := 6) (pc' := 9) [mR (1000000 + 3)] [] (c_X8_isWord (d := 6) (Nat.le_refl _) ((by decide)) e1) cw_X3_26 kc_8 w_740 w_741 dX3_readsAtom_6 rfl (by omega) rfl rfl (by decide) sk_1 rfl rfl (by decide) (by decide) ?_
  refine j_istore_n (pc' := 10) (ls' := [some (mR 103), some (mI x1), some (mI v1), none, none]) dX3_readsAtom_9 rfl (by decide) rfl ?_
  refine j_iload_n (pc' := 11) dX3_readsAtom_10 rfl rfl ?_
  obtain ⟨q1, h⟩ := ck_o h
  refine j_if_ne (tgt := 26) (pc' := 14) dX3_readsAtom_11 rfl rfl q1 (fun b1 => ?_) (fun b1 => ?_)
  · replace h := ite_f b1 h
    exact j_wk (j_widen (ce := 0) (ke := 0) (by decide) (by decide) (c_X3_readsAtom_j26 hd hd_readsDeeper h_readsDeeper h)) (And.intro rfl (And.intro rfl (And.intro rfl trivial)))
  · replace h := ite_t b1 h
    refine j_aload_n (pc' := 15) dX3_readsAtom_14 rfl rfl ?_
    refine k_getR (pc' := 18) (sl := 0) (r := 1) kc_3 w_364 (Or.inr w_365) (by decide) dX3_readsAtom_15 rfl (by decide) sk_103 (by decide) rfl (by decide) ?_
    refine j_bipush (pc' := 20) dX3_readsAtom_18 rfl rfl ?_
    obtain ⟨v2, D2, e2, h⟩ := bI_o h
    refine k_cV (d' := 1) (pc' := 23) [mI 40] [] (c_X8_isMark (d := 1) (Nat.le_refl _) e2) cw_X3_67 kc_8 w_820 w_821 dX3_readsAtom_20 rfl (by omega) rfl rfl (by decide) sk_1 rfl rfl (by decide) (by decide) ?_
    obtain ⟨q2, h⟩ := ck_o h
    refine j_if_eq (tgt := 49) (pc' := 26) dX3_readsAtom_23 rfl rfl q2 (fun b2 => ?_) (fun b2 => ?_)
    · replace h := ite_t b2 h
      refine j_aload_n (pc' := 50) dX3_readsAtom_49 rfl rfl ?_
      obtain ⟨v3, D3, e3, h⟩ := bI_o h
      refine k_cV (d' := 7) (pc' := 53) [] [] (c_X3_sortHere (d := 7) (Nat.le_refl _) e3) cw_X3_75 kc_3 w_833 ws_11 dX3_readsAtom_50 rfl (by omega) rfl rfl (by decide) sk_103 rfl rfl (by decide) (by decide) ?_
      refine j_istore_n (pc' := 54) (ls' := [some (mR 103), some (mI x1), some (mI v1), some (mI v3), none]) dX3_readsAtom_53 rfl (by decide) rfl ?_
      refine j_iload_n (pc' := 55) dX3_readsAtom_54 rfl rfl ?_
      refine j_iconst (pc' := 56) dX3_readsAtom_55 rfl ?_
      obtain ⟨q3, h⟩ := ck_o h
      refine j_icmp_eq (tgt := 80) (pc' := 59) dX3_readsAtom_56 rfl rfl q3 (by decide) (fun b3 => ?_) (fun b3 => ?_)
      · replace h := ite_t b3 h
        refine j_aload_n (pc' := 81) dX3_readsAtom_80 rfl rfl ?_
        obtain ⟨v4, D4, e4, h⟩ := bI_o h
        refine k_cV (d' := 8) (pc' := 84) [] [] (c_X3_readsSum (d := 8) (Nat.le_refl _) e4) cw_X3_79 kc_3 w_840 ws_12 dX3_readsAtom_81 rfl (by omega) rfl rfl (by decide) sk_103 rfl rfl (by decide) (by decide) ?_
        obtain ⟨q4, h⟩ := ck_o h
        refine j_if_ne (tgt := 89) (pc' := 87) dX3_readsAtom_84 rfl rfl q4 (fun b4 => ?_) (fun b4 => ?_)
        · replace h := ite_f b4 h
          refine j_aload_n (pc' := 90) dX3_readsAtom_89 rfl rfl ?_
          refine k_getR (pc' := 93) (sl := 0) (r := 1) kc_3 w_364 (Or.inr w_365) (by decide) dX3_readsAtom_90 rfl (by decide) sk_103 (by decide) rfl (by decide) ?_
          refine j_bipush (pc' := 95) dX3_readsAtom_93 rfl rfl ?_
          obtain ⟨v5, D5, e5, h⟩ := bI_o h
          refine k_cV (d' := 1) (pc' := 98) [mI 60] [] (c_X8_isMark (d := 1) (Nat.le_refl _) e5) cw_X3_67 kc_8 w_820 w_821 dX3_readsAtom_95 rfl (by omega) rfl rfl (by decide) sk_1 rfl rfl (by decide) (by decide) ?_
          refine j_istore (pc' := 100) (ls' := [some (mR 103), some (mI x1), some (mI v1), some (mI v3), some (mI v5)]) dX3_readsAtom_98 rfl (by decide) rfl ?_
          refine j_iload (pc' := 102) dX3_readsAtom_100 rfl rfl ?_
          obtain ⟨q5, h⟩ := ck_o h
          refine j_if_ne (tgt := 119) (pc' := 105) dX3_readsAtom_102 rfl rfl q5 (fun b5 => ?_) (fun b5 => ?_)
          · replace h := ite_f b5 h
            exact j_wk (j_widen (ce := 0) (ke := 0) (by decide) (by decide) (c_X3_readsAtom_j119 hd hd_readsDeeper h_readsDeeper h)) (And.intro rfl (And.intro rfl trivial))
          · replace h := ite_t b5 h
            refine j_aload_n (pc' := 106) dX3_readsAtom_105 rfl rfl ?_
            refine k_getR (pc' := 109) (sl := 0) (r := 1) kc_3 w_364 (Or.inr w_365) (by decide) dX3_readsAtom_106 rfl (by decide) sk_103 (by decide) rfl (by decide) ?_
            refine j_bipush (pc' := 111) dX3_readsAtom_109 rfl rfl ?_
            obtain ⟨v6, D6, e6, h⟩ := bI_o h
            refine k_cV (d' := 1) (pc' := 114) [mI 62] [] (c_X8_isMark (d := 1) (Nat.le_refl _) e6) cw_X3_67 kc_8 w_820 w_821 dX3_readsAtom_111 rfl (by omega) rfl rfl (by decide) sk_1 rfl rfl (by decide) (by decide) ?_
            obtain ⟨q6, h⟩ := ck_o h
            refine j_if_ne (tgt := 119) (pc' := 117) dX3_readsAtom_114 rfl rfl q6 (fun b6 => ?_) (fun b6 => ?_)
            · replace h := ite_f b6 h
              exact j_wk (j_widen (ce := 0) (ke := 0) (by decide) (by decide) (c_X3_readsAtom_j119 hd hd_readsDeeper h_readsDeeper h)) (And.intro rfl (And.intro rfl trivial))
            · replace h := ite_t b6 h
              refine j_iconst (pc' := 118) dX3_readsAtom_117 rfl ?_
              exact j_zret dX3_readsAtom_118 rfl (Or.inl rfl) (by decide) (by decide) (rI_of h)
        · replace h := ite_t b4 h
          refine j_iconst (pc' := 88) dX3_readsAtom_87 rfl ?_
          exact j_zret dX3_readsAtom_88 rfl (Or.inl rfl) (by decide) (by decide) (rI_of h)
      · replace h := ite_f b3 h
        refine j_aload_n (pc' := 60) dX3_readsAtom_59 rfl rfl ?_
        refine k_getR (pc' := 63) (sl := 2) (r := 104) kc_3 w_386 (Or.inl rfl) (by decide) dX3_readsAtom_60 rfl (by decide) sk_103 (by decide) rfl (by decide) ?_
        refine j_sipush (pc' := 66) dX3_readsAtom_63 rfl rfl ?_
        refine j_iload_n (pc' := 67) dX3_readsAtom_66 rfl rfl ?_
        refine j_iadd (pc' := 68) dX3_readsAtom_67 rfl ?_
        obtain ⟨v7, D7, e7, h⟩ := bI_o h
        refine k_cVv (d' := 1) (pc' := 71) [mI (1000 + v3)] [] (c_X2_put (d := 1) (Nat.le_refl _) law_104 e7) cw_X3_57 kc_2 w_828 w_829 dX3_readsAtom_68 rfl (by omega) rfl rfl (by decide) sk_104 rfl rfl (by decide) (by decide) ?_
        refine j_aload_n (pc' := 72) dX3_readsAtom_71 rfl rfl ?_
        refine k_getR (pc' := 75) (sl := 0) (r := 1) kc_3 w_364 (Or.inr w_365) (by decide) dX3_readsAtom_72 rfl (by decide) sk_103 (by decide) rfl (by decide) ?_
        obtain ⟨v8, D8, e8, h⟩ := bI_o h
        refine k_cVv (d' := 2) (pc' := 78) [] [] (c_X8_step (d := 2) (Nat.le_refl _) e8) cw_X3_34 kc_8 w_726 w_727 dX3_readsAtom_75 rfl (by omega) rfl rfl (by decide) sk_1 rfl rfl (by decide) (by decide) ?_
        refine j_iconst (pc' := 79) dX3_readsAtom_78 rfl ?_
        exact j_zret dX3_readsAtom_79 rfl (Or.inr rfl) (by decide) (by decide) (rI_of h)
    · replace h := ite_f b2 h
      exact j_wk (j_widen (ce := 0) (ke := 0) (by decide) (by decide) (c_X3_readsAtom_j26 hd hd_readsDeeper h_readsDeeper h)) (And.intro rfl (And.intro rfl (And.intro rfl trivial)))
theorem c_X3_readsAtom {d : Nat} (hd : 9 ≤ d) {d_readsDeeper : Nat} (hd_readsDeeper : d_readsDeeper + 1 ≤ d) {f_readsDeeper : Int → Int → mD → RI} (h_readsDeeper : ∀ {y0 y1 : Int} {D D' : mD} {v : Int}, f_readsDeeper y0 y1 D = some (v, D') → CM d_readsDeeper 0 0 M_X3_readsDeeper [mR 103, mI y0, mI y1] (SK, D, false) (rI v D')) {x1 : Int} {D D' : mD} {v : Int} (h : F_X3_readsAtom f_readsDeeper x1 D = some (v, D')) : CM d 0 0 M_X3_readsAtom [mR 103, mI x1] (SK, D, false) (rI v D') := CM.intro pn_X3 rfl rfl (Nat.le_of_ble_eq_true rfl) (fun _ => c_X3_readsAtom_e hd hd_readsDeeper h_readsDeeper h)
theorem c_X3_readsDeeper_e {Ω : mO} {d : Nat} (hd : 3 ≤ d) {d_readsAtom : Nat} (hd_readsAtom : d_readsAtom + 1 ≤ d) {f_readsAtom : Int → mD → RI} (h_readsAtom : ∀ {y0 : Int} {D D' : mD} {v : Int}, f_readsAtom y0 D = some (v, D') → CM d_readsAtom 0 0 M_X3_readsAtom [mR 103, mI y0] (SK, D, false) (rI v D')) {d_readsCondition : Nat} (hd_readsCondition : d_readsCondition + 1 ≤ d) {f_readsCondition : Int → mD → RI} (h_readsCondition : ∀ {y0 : Int} {D D' : mD} {v : Int}, f_readsCondition y0 D = some (v, D') → CM d_readsCondition 0 0 M_X3_readsCondition [mR 103, mI y0] (SK, D, false) (rI v D')) {r : Int × mD} {x1 x2 : Int} {D : mD} (h : F_X3_readsDeeper f_readsAtom f_readsCondition x1 x2 D = some r) : J Ω M_X3_readsDeeper d 0 0 (rI r.1 r.2) 0 [some (mR 103), some (mI x1), some (mI x2), none] [] (SK, D, false) 0 0 := by
  rw [F_X3_readsDeeper] at h
  refine j_aload_n (pc' := 1) dX3_readsDeeper_0 rfl rfl ?_
  refine k_getR (pc' := 4) (sl := 0) (r := 1) kc_3 w_364 (Or.inr w_365) (by decide) dX3_readsDeeper_1 rfl (by decide) sk_103 (by decide) rfl (by decide) ?_
  obtain ⟨v1, D1, e1, h⟩ := bI_o h
  refine k_cVv (d' := 2) (pc' := 7) [] [] (c_X8_step (d := 2) (Nat.le_refl _) e1) cw_X3_34 kc_8 w_726 w_727 dX3_readsDeeper_4 rfl (by omega) rfl rfl (by decide) sk_1 rfl rfl (by decide) (by decide) ?_
  refine j_iload_n (pc' := 8) dX3_readsDeeper_7 rfl rfl ?_
  obtain ⟨q1, h⟩ := ck_o h
  refine j_if_eq (tgt := 29) (pc' := 11) dX3_readsDeeper_8 rfl rfl q1 (fun b1 => ?_) (fun b1 => ?_)
  · replace h := ite_t b1 h
    refine j_aload_n (pc' := 30) dX3_readsDeeper_29 rfl rfl ?_
    refine j_iload_n (pc' := 31) dX3_readsDeeper_30 rfl rfl ?_
    obtain ⟨v2, D2, e2, h⟩ := bI_o h
    refine k_cV (d' := d_readsCondition) (pc' := 34) [mI x2] [] (h_readsCondition e2) cw_X3_46 kc_3 w_812 ws_8 dX3_readsDeeper_31 rfl hd_readsCondition rfl rfl (by decide) sk_103 rfl rfl (by decide) (by decide) ?_
    obtain ⟨q2, h⟩ := ck_o h
    refine j_if_eq (tgt := 49) (pc' := 37) dX3_readsDeeper_34 rfl rfl q2 (fun b2 => ?_) (fun b2 => ?_)
    · replace h := ite_t b2 h
      refine j_iconst (pc' := 50) dX3_readsDeeper_49 rfl ?_
      exact j_zret dX3_readsDeeper_50 rfl (Or.inl rfl) (by decide) (by decide) (rI_of h)
    · replace h := ite_f b2 h
      refine j_aload_n (pc' := 38) dX3_readsDeeper_37 rfl rfl ?_
      refine k_getR (pc' := 41) (sl := 0) (r := 1) kc_3 w_364 (Or.inr w_365) (by decide) dX3_readsDeeper_38 rfl (by decide) sk_103 (by decide) rfl (by decide) ?_
      refine j_bipush (pc' := 43) dX3_readsDeeper_41 rfl rfl ?_
      obtain ⟨v3, D3, e3, h⟩ := bI_o h
      refine k_cV (d' := 1) (pc' := 46) [mI 41] [] (c_X8_isMark (d := 1) (Nat.le_refl _) e3) cw_X3_67 kc_8 w_820 w_821 dX3_readsDeeper_43 rfl (by omega) rfl rfl (by decide) sk_1 rfl rfl (by decide) (by decide) ?_
      obtain ⟨q3, h⟩ := ck_o h
      refine j_if_ne (tgt := 51) (pc' := 49) dX3_readsDeeper_46 rfl rfl q3 (fun b3 => ?_) (fun b3 => ?_)
      · replace h := ite_f b3 h
        refine j_aload_n (pc' := 52) dX3_readsDeeper_51 rfl rfl ?_
        refine k_getR (pc' := 55) (sl := 0) (r := 1) kc_3 w_364 (Or.inr w_365) (by decide) dX3_readsDeeper_52 rfl (by decide) sk_103 (by decide) rfl (by decide) ?_
        obtain ⟨v4, D4, e4, h⟩ := bI_o h
        refine k_cVv (d' := 2) (pc' := 58) [] [] (c_X8_step (d := 2) (Nat.le_refl _) e4) cw_X3_34 kc_8 w_726 w_727 dX3_readsDeeper_55 rfl (by omega) rfl rfl (by decide) sk_1 rfl rfl (by decide) (by decide) ?_
        refine j_iconst (pc' := 59) dX3_readsDeeper_58 rfl ?_
        exact j_zret dX3_readsDeeper_59 rfl (Or.inr rfl) (by decide) (by decide) (rI_of h)
      · replace h := ite_t b3 h
        refine j_iconst (pc' := 50) dX3_readsDeeper_49 rfl ?_
        exact j_zret dX3_readsDeeper_50 rfl (Or.inl rfl) (by decide) (by decide) (rI_of h)
  · replace h := ite_f b1 h
    refine j_aload_n (pc' := 12) dX3_readsDeeper_11 rfl rfl ?_
    refine j_iload_n (pc' := 13) dX3_readsDeeper_12 rfl rfl ?_
    obtain ⟨v5, D5, e5, h⟩ := bI_o h
    refine k_cV (d' := d_readsAtom) (pc' := 16) [mI x2] [] (h_readsAtom e5) cw_X3_54 kc_3 w_816 ws_9 dX3_readsDeeper_13 rfl hd_readsAtom rfl rfl (by decide) sk_103 rfl rfl (by decide) (by decide) ?_
    refine j_istore_n (pc' := 17) (ls' := [some (mR 103), some (mI x1), some (mI x2), some (mI v5)]) dX3_readsDeeper_16 rfl (by decide) rfl ?_
    refine j_aload_n (pc' := 18) dX3_readsDeeper_17 rfl rfl ?_
    refine k_getR (pc' := 21) (sl := 2) (r := 104) kc_3 w_386 (Or.inl rfl) (by decide) dX3_readsDeeper_18 rfl (by decide) sk_103 (by decide) rfl (by decide) ?_
    refine j_sipush (pc' := 24) dX3_readsDeeper_21 rfl rfl ?_
    obtain ⟨v6, D6, e6, h⟩ := bI_o h
    refine k_cVv (d' := 1) (pc' := 27) [mI 1014] [] (c_X2_put (d := 1) (Nat.le_refl _) law_104 e6) cw_X3_57 kc_2 w_828 w_829 dX3_readsDeeper_24 rfl (by omega) rfl rfl (by decide) sk_104 rfl rfl (by decide) (by decide) ?_
    refine j_iload_n (pc' := 28) dX3_readsDeeper_27 rfl rfl ?_
    obtain ⟨q4, h⟩ := ck_o h
    exact j_zret dX3_readsDeeper_28 rfl q4 (by decide) (by decide) (rI_of h)
theorem c_X3_readsDeeper {d : Nat} (hd : 3 ≤ d) {d_readsAtom : Nat} (hd_readsAtom : d_readsAtom + 1 ≤ d) {f_readsAtom : Int → mD → RI} (h_readsAtom : ∀ {y0 : Int} {D D' : mD} {v : Int}, f_readsAtom y0 D = some (v, D') → CM d_readsAtom 0 0 M_X3_readsAtom [mR 103, mI y0] (SK, D, false) (rI v D')) {d_readsCondition : Nat} (hd_readsCondition : d_readsCondition + 1 ≤ d) {f_readsCondition : Int → mD → RI} (h_readsCondition : ∀ {y0 : Int} {D D' : mD} {v : Int}, f_readsCondition y0 D = some (v, D') → CM d_readsCondition 0 0 M_X3_readsCondition [mR 103, mI y0] (SK, D, false) (rI v D')) {x1 x2 : Int} {D D' : mD} {v : Int} (h : F_X3_readsDeeper f_readsAtom f_readsCondition x1 x2 D = some (v, D')) : CM d 0 0 M_X3_readsDeeper [mR 103, mI x1, mI x2] (SK, D, false) (rI v D') := CM.intro pn_X3 rfl rfl (Nat.le_of_ble_eq_true rfl) (fun _ => c_X3_readsDeeper_e hd hd_readsAtom h_readsAtom hd_readsCondition h_readsCondition h)
theorem c_X9_readNumber_L_e {Ω : mO} {d : Nat} (hd : 3 ≤ d) {r : Int × mD} {x1 x2 : Int} {D : mD} (h : F_X9_readNumber_L x1 x2 D = some r) : J Ω M_X9_readNumber d 0 0 (rI r.1 r.2) 0 [some (mR 103), some (mI x1), some (mI x2), none] [] (SK, D, false) 0 0 := by
  rw [F_X9_readNumber_L] at h
  refine j_aload_n (pc' := 1) dX9_readNumber_0 rfl rfl ?_
  refine k_getR (pc' := 4) (sl := 0) (r := 1) kc_3 w_363 (Or.inl rfl) (by decide) dX9_readNumber_1 rfl (by decide) sk_103 (by decide) rfl (by decide) ?_
  refine j_iload_n (pc' := 5) dX9_readNumber_4 rfl rfl ?_
  refine j_iload_n (pc' := 6) dX9_readNumber_5 rfl rfl ?_
  obtain ⟨v1, D1, e1, h⟩ := bI_o h
  refine k_cV (d' := 1) (pc' := 9) [mI x1, mI x2] [] (c_X8_numberWithin (d := 1) (Nat.le_refl _) e1) cw_X9_35 kc_8 w_800 w_801 dX9_readNumber_6 rfl (by omega) rfl rfl (by decide) sk_1 rfl rfl (by decide) (by decide) ?_
  refine j_istore_n (pc' := 10) (ls' := [some (mR 103), some (mI x1), some (mI x2), some (mI v1)]) dX9_readNumber_9 rfl (by decide) rfl ?_
  refine j_iload_n (pc' := 11) dX9_readNumber_10 rfl rfl ?_
  refine j_iconst (pc' := 12) dX9_readNumber_11 rfl ?_
  obtain ⟨q1, h⟩ := ck_o h
  refine j_icmp_eq (tgt := 22) (pc' := 15) dX9_readNumber_12 rfl rfl q1 (by decide) (fun b1 => ?_) (fun b1 => ?_)
  · replace h := ite_t b1 h
    refine j_iload_n (pc' := 23) dX9_readNumber_22 rfl rfl ?_
    exact j_iret dX9_readNumber_23 rfl (by decide) (by decide) (rI_of h)
  · replace h := ite_f b1 h
    refine j_aload_n (pc' := 16) dX9_readNumber_15 rfl rfl ?_
    refine k_getR (pc' := 19) (sl := 0) (r := 1) kc_3 w_363 (Or.inl rfl) (by decide) dX9_readNumber_16 rfl (by decide) sk_103 (by decide) rfl (by decide) ?_
    obtain ⟨v2, D2, e2, h⟩ := bI_o h
    refine k_cVv (d' := 2) (pc' := 22) [] [] (c_X8_step (d := 2) (Nat.le_refl _) e2) cw_X9_39 kc_8 w_726 w_727 dX9_readNumber_19 rfl (by omega) rfl rfl (by decide) sk_1 rfl rfl (by decide) (by decide) ?_
    refine j_iload_n (pc' := 23) dX9_readNumber_22 rfl rfl ?_
    exact j_iret dX9_readNumber_23 rfl (by decide) (by decide) (rI_of h)
theorem c_X9_readNumber_L {d : Nat} (hd : 3 ≤ d) {x1 x2 : Int} {D D' : mD} {v : Int} (h : F_X9_readNumber_L x1 x2 D = some (v, D')) : CM d 0 0 M_X9_readNumber [mR 103, mI x1, mI x2] (SK, D, false) (rI v D') := CM.intro pn_X9 rfl rfl (Nat.le_of_ble_eq_true rfl) (fun _ => c_X9_readNumber_L_e hd h)
theorem cg_atom3 : ∀ (n : Nat) {y0 : Int} {D D' : mD} {v : Int}, GA3 n y0 D = some (v, D') → CM (12 + 3 * n) 0 0 M_X3_readsAtom [mR 103, mI y0] (SK, D, false) (rI v D') := by
  intro n
  induction n with
  | zero => intro y0 D D' v h; cases h
  | succ n ih =>
    intro y0 D D' v h
    exact c_X3_readsAtom (by omega) (d_readsDeeper := 12 + 3 * n + 2) (by omega) (fun h => c_X3_readsDeeper (by omega) (d_readsAtom := 12 + 3 * n) (by omega) ih (d_readsCondition := 12 + 3 * n + 1) (by omega) (fun h => c_X3_readsCondition (by omega) (d_readsAtom := 12 + 3 * n) (by omega) ih h) h) h
theorem cg_X3_readsCondition {y0 : Int} {D D' : mD} {v : Int} (h : G_X3_readsCondition y0 D = some (v, D')) : CM 50 0 0 M_X3_readsCondition [mR 103, mI y0] (SK, D, false) (rI v D') :=
  c_X3_readsCondition (by omega) (d_readsAtom := 12 + 3 * 8) (by omega) (cg_atom3 8) h
theorem c_X3_readsLine_j94 {Ω : mO} {d : Nat} (hd : 51 ≤ d) {r : Int × mD} {x2 s1 : Int} {D : mD} (h : F_X3_readsLine_j94 x2 s1 D = some r) : J Ω M_X3_readsLine d 0 0 (rI r.1 r.2) 94 [none, none, some (mI x2)] [mI s1, mR 104] (SK, D, false) 0 0 := by
  rw [F_X3_readsLine_j94] at h
  refine j_iload_n (pc' := 95) dX3_readsLine_94 rfl rfl ?_
  obtain ⟨v1, D1, e1, h⟩ := bI_o h
  refine k_cVv (d' := 1) (pc' := 98) [mI s1, mI x2] [] (c_X2_endLine (d := 1) (Nat.le_refl _) law_104 e1) cw_X3_50 kc_2 w_856 w_857 dX3_readsLine_95 rfl (by omega) rfl rfl (by decide) sk_104 rfl rfl (by decide) (by decide) ?_
  refine j_iconst (pc' := 99) dX3_readsLine_98 rfl ?_
  exact j_zret dX3_readsLine_99 rfl (Or.inr rfl) (by decide) (by decide) (rI_of h)
theorem c_X3_readsLine_j81 {Ω : mO} {d : Nat} (hd : 51 ≤ d) {r : Int × mD} {x1 x2 : Int} {D : mD} (h : F_X3_readsLine_j81 x1 x2 D = some r) : J Ω M_X3_readsLine d 0 0 (rI r.1 r.2) 81 [some (mR 103), some (mI x1), some (mI x2)] [] (SK, D, false) 0 0 := by
  rw [F_X3_readsLine_j81] at h
  refine j_aload_n (pc' := 82) dX3_readsLine_81 rfl rfl ?_
  refine k_getR (pc' := 85) (sl := 2) (r := 104) kc_3 w_386 (Or.inl rfl) (by decide) dX3_readsLine_82 rfl (by decide) sk_103 (by decide) rfl (by decide) ?_
  refine j_iload_n (pc' := 86) dX3_readsLine_85 rfl rfl ?_
  obtain ⟨q1, h⟩ := ck_o h
  have hj : J Ω M_X3_readsLine d 0 0 (rI r.1 r.2) 94 [none, none, some (mI x2)] [mI (if x1 = 0 then (0 : Int) else (1 : Int)), mR 104] (SK, D, false) 0 0 := by
    exact j_wk (j_widen (ce := 0) (ke := 0) (by decide) (by decide) (c_X3_readsLine_j94 hd h)) (And.intro rfl trivial)
  refine j_if_eq (tgt := 93) (pc' := 89) dX3_readsLine_86 rfl rfl q1 (fun b1 => ?_) (fun b1 => ?_)
  · refine j_iconst (pc' := 94) dX3_readsLine_93 rfl ?_
    have hj := hj
    try simp only [if_pos b1] at hj
    exact j_wk hj (And.intro rfl trivial)
  · refine j_iconst (pc' := 90) dX3_readsLine_89 rfl ?_
    refine j_goto (tgt := 94) dX3_readsLine_90 rfl ?_
    have hj := hj
    try simp only [if_neg b1] at hj
    exact j_wk hj (And.intro rfl trivial)
theorem c_X3_readsLine_j48 {Ω : mO} {d : Nat} (hd : 51 ≤ d) {r : Int × mD} {x1 s1 s2 : Int} {D : mD} (h : F_X3_readsLine_j48 x1 s1 s2 D = some r) : J Ω M_X3_readsLine d 0 0 (rI r.1 r.2) 48 [some (mR 103), some (mI x1), none] [mI s2, mI s1, mR 103] (SK, D, false) 0 0 := by
  rw [F_X3_readsLine_j48] at h
  obtain ⟨v1, D1, e1, h⟩ := bI_o h
  refine k_cU (d' := 3) (pc' := 51) [mI s1, mI s2] [] (c_X9_readNumber_L (d := 3) (Nat.le_refl _) e1) cu_X3_37_L kc_3 dX3_readsLine_48 rfl (by omega) rfl rfl (by decide) sk_103 rfl rfl (by decide) (by decide) ?_
  refine j_istore_n (pc' := 52) (ls' := [some (mR 103), some (mI x1), some (mI v1)]) dX3_readsLine_51 rfl (by decide) rfl ?_
  refine j_iload_n (pc' := 53) dX3_readsLine_52 rfl rfl ?_
  refine j_iconst (pc' := 54) dX3_readsLine_53 rfl ?_
  obtain ⟨q1, h⟩ := ck_o h
  refine j_icmp_ne (tgt := 59) (pc' := 57) dX3_readsLine_54 rfl rfl q1 (by decide) (fun b1 => ?_) (fun b1 => ?_)
  · replace h := ite_f b1 h
    refine j_aload_n (pc' := 60) dX3_readsLine_59 rfl rfl ?_
    refine k_getR (pc' := 63) (sl := 0) (r := 1) kc_3 w_364 (Or.inr w_365) (by decide) dX3_readsLine_60 rfl (by decide) sk_103 (by decide) rfl (by decide) ?_
    refine j_ldcS (pc' := 65) (si := 2) rfl dX3_readsLine_63 rfl ?_
    obtain ⟨v2, D2, e2, h⟩ := bI_o h
    refine k_cV (d' := 7) (pc' := 68) [mR (1000000 + 2)] [] (c_X8_takesWord (d := 7) (Nat.le_refl _) ((by decide)) e2) cw_X3_43 kc_8 w_806 w_807 dX3_readsLine_65 rfl (by omega) rfl rfl (by decide) sk_1 rfl rfl (by decide) (by decide) ?_
    obtain ⟨q2, h⟩ := ck_o h
    refine j_if_eq (tgt := 81) (pc' := 71) dX3_readsLine_68 rfl rfl q2 (fun b2 => ?_) (fun b2 => ?_)
    · replace h := ite_t b2 h
      exact j_wk (j_widen (ce := 0) (ke := 0) (by decide) (by decide) (c_X3_readsLine_j81 hd h)) (And.intro rfl (And.intro rfl (And.intro rfl trivial)))
    · replace h := ite_f b2 h
      refine j_aload_n (pc' := 72) dX3_readsLine_71 rfl rfl ?_
      refine j_iconst (pc' := 73) dX3_readsLine_72 rfl ?_
      obtain ⟨v3, D3, e3, h⟩ := bI_o h
      refine k_cV (d' := 50) (pc' := 76) [mI 0] [] (cg_X3_readsCondition e3) cw_X3_46 kc_3 w_812 ws_8 dX3_readsLine_73 rfl (by omega) rfl rfl (by decide) sk_103 rfl rfl (by decide) (by decide) ?_
      obtain ⟨q3, h⟩ := ck_o h
      refine j_if_ne (tgt := 81) (pc' := 79) dX3_readsLine_76 rfl rfl q3 (fun b3 => ?_) (fun b3 => ?_)
      · replace h := ite_f b3 h
        exact j_wk (j_widen (ce := 0) (ke := 0) (by decide) (by decide) (c_X3_readsLine_j81 hd h)) (And.intro rfl (And.intro rfl (And.intro rfl trivial)))
      · replace h := ite_t b3 h
        refine j_iconst (pc' := 80) dX3_readsLine_79 rfl ?_
        exact j_zret dX3_readsLine_80 rfl (Or.inl rfl) (by decide) (by decide) (rI_of h)
  · replace h := ite_t b1 h
    refine j_iconst (pc' := 58) dX3_readsLine_57 rfl ?_
    exact j_zret dX3_readsLine_58 rfl (Or.inl rfl) (by decide) (by decide) (rI_of h)
theorem c_X3_readsLine_j28 {Ω : mO} {d : Nat} (hd : 51 ≤ d) {r : Int × mD} {x1 : Int} {D : mD} (h : F_X3_readsLine_j28 x1 D = some r) : J Ω M_X3_readsLine d 0 0 (rI r.1 r.2) 28 [some (mR 103), some (mI x1), none] [] (SK, D, false) 0 0 := by
  rw [F_X3_readsLine_j28] at h
  refine j_aload_n (pc' := 29) dX3_readsLine_28 rfl rfl ?_
  refine k_getR (pc' := 32) (sl := 0) (r := 1) kc_3 w_364 (Or.inr w_365) (by decide) dX3_readsLine_29 rfl (by decide) sk_103 (by decide) rfl (by decide) ?_
  obtain ⟨v1, D1, e1, h⟩ := bI_o h
  refine k_cVv (d' := 2) (pc' := 35) [] [] (c_X8_step (d := 2) (Nat.le_refl _) e1) cw_X3_34 kc_8 w_726 w_727 dX3_readsLine_32 rfl (by omega) rfl rfl (by decide) sk_1 rfl rfl (by decide) (by decide) ?_
  refine j_aload_n (pc' := 36) dX3_readsLine_35 rfl rfl ?_
  refine j_iconst (pc' := 37) dX3_readsLine_36 rfl ?_
  refine j_iload_n (pc' := 38) dX3_readsLine_37 rfl rfl ?_
  obtain ⟨q1, h⟩ := ck_o h
  have hj : J Ω M_X3_readsLine d 0 0 (rI r.1 r.2) 48 [some (mR 103), some (mI x1), none] [mI (if x1 = 0 then (9 : Int) else (99 : Int)), mI 0, mR 103] (SK, D1, false) 0 0 := by
    exact j_wk (j_widen (ce := 0) (ke := 0) (by decide) (by decide) (c_X3_readsLine_j48 hd h)) (And.intro rfl (And.intro rfl trivial))
  refine j_if_eq (tgt := 46) (pc' := 41) dX3_readsLine_38 rfl rfl q1 (fun b1 => ?_) (fun b1 => ?_)
  · refine j_bipush (pc' := 48) dX3_readsLine_46 rfl rfl ?_
    have hj := hj
    try simp only [if_pos b1] at hj
    exact j_wk hj (And.intro rfl (And.intro rfl trivial))
  · refine j_bipush (pc' := 43) dX3_readsLine_41 rfl rfl ?_
    refine j_goto (tgt := 48) dX3_readsLine_43 rfl ?_
    have hj := hj
    try simp only [if_neg b1] at hj
    exact j_wk hj (And.intro rfl (And.intro rfl trivial))
theorem c_X3_readsLine_e {Ω : mO} {d : Nat} (hd : 51 ≤ d) {r : Int × mD} {D : mD} (h : F_X3_readsLine D = some r) : J Ω M_X3_readsLine d 0 0 (rI r.1 r.2) 0 [some (mR 103), none, none] [] (SK, D, false) 0 0 := by
  rw [F_X3_readsLine] at h
  refine j_aload_n (pc' := 1) dX3_readsLine_0 rfl rfl ?_
  refine k_getR (pc' := 4) (sl := 0) (r := 1) kc_3 w_364 (Or.inr w_365) (by decide) dX3_readsLine_1 rfl (by decide) sk_103 (by decide) rfl (by decide) ?_
  refine j_ldcS (pc' := 6) (si := 0) rfl dX3_readsLine_4 rfl ?_
  obtain ⟨v1, D1, e1, h⟩ := bI_o h
  refine k_cV (d' := 6) (pc' := 9) [mR (1000000 + 0)] [] (c_X8_isWord (d := 6) (Nat.le_refl _) ((by decide)) e1) cw_X3_26 kc_8 w_740 w_741 dX3_readsLine_6 rfl (by omega) rfl rfl (by decide) sk_1 rfl rfl (by decide) (by decide) ?_
  refine j_istore_n (pc' := 10) (ls' := [some (mR 103), some (mI v1), none]) dX3_readsLine_9 rfl (by decide) rfl ?_
  refine j_iload_n (pc' := 11) dX3_readsLine_10 rfl rfl ?_
  obtain ⟨q1, h⟩ := ck_o h
  refine j_if_ne (tgt := 28) (pc' := 14) dX3_readsLine_11 rfl rfl q1 (fun b1 => ?_) (fun b1 => ?_)
  · replace h := ite_f b1 h
    exact j_wk (j_widen (ce := 0) (ke := 0) (by decide) (by decide) (c_X3_readsLine_j28 hd h)) (And.intro rfl (And.intro rfl trivial))
  · replace h := ite_t b1 h
    refine j_aload_n (pc' := 15) dX3_readsLine_14 rfl rfl ?_
    refine k_getR (pc' := 18) (sl := 0) (r := 1) kc_3 w_364 (Or.inr w_365) (by decide) dX3_readsLine_15 rfl (by decide) sk_103 (by decide) rfl (by decide) ?_
    refine j_ldcS (pc' := 20) (si := 1) rfl dX3_readsLine_18 rfl ?_
    obtain ⟨v2, D2, e2, h⟩ := bI_o h
    refine k_cV (d' := 6) (pc' := 23) [mR (1000000 + 1)] [] (c_X8_isWord (d := 6) (Nat.le_refl _) ((by decide)) e2) cw_X3_26 kc_8 w_740 w_741 dX3_readsLine_20 rfl (by omega) rfl rfl (by decide) sk_1 rfl rfl (by decide) (by decide) ?_
    obtain ⟨q2, h⟩ := ck_o h
    refine j_if_ne (tgt := 28) (pc' := 26) dX3_readsLine_23 rfl rfl q2 (fun b2 => ?_) (fun b2 => ?_)
    · replace h := ite_f b2 h
      exact j_wk (j_widen (ce := 0) (ke := 0) (by decide) (by decide) (c_X3_readsLine_j28 hd h)) (And.intro rfl (And.intro rfl trivial))
    · replace h := ite_t b2 h
      refine j_iconst (pc' := 27) dX3_readsLine_26 rfl ?_
      exact j_zret dX3_readsLine_27 rfl (Or.inl rfl) (by decide) (by decide) (rI_of h)
theorem c_X3_readsLine {d : Nat} (hd : 51 ≤ d) {D D' : mD} {v : Int} (h : F_X3_readsLine D = some (v, D')) : CM d 0 0 M_X3_readsLine [mR 103] (SK, D, false) (rI v D') := CM.intro pn_X3 rfl rfl (Nat.le_of_ble_eq_true rfl) (fun _ => c_X3_readsLine_e hd h)
theorem c_X4_fillFrom_L109 {Ω : mO} {d : Nat} (hd : 8 ≤ d) {r : Int × mD} {K67 : Int → mD → RI} {x1 x2 x4 x5 x6 x7 : Int} (hK67 : ∀ {x5 : Int} {D : mD}, K67 x5 D = some r → J Ω M_X4_fillFrom d 0 0 (rV r.2) 67 [some (mR 26), some (mI x1), some (mI x2), none, some (mI x4), some (mI x5), none, none, none, none, none] [] (SK, D, false) 0 0) : ∀ (n : Nat) {x8 x9 : Int} {D : mD}, F_X4_fillFrom_L109 K67 x1 x2 x4 x5 x6 x7 n x8 x9 D = some r → J Ω M_X4_fillFrom d 0 0 (rV r.2) 109 [some (mR 26), some (mI x1), some (mI x2), none, some (mI x4), some (mI x5), some (mI x6), some (mI x7), some (mI x8), some (mI x9), none] [] (SK, D, false) 0 0 := by
  intro n
  induction n with
  | zero => intro x8 x9 D h; exact absurd (show (none : Option (Int × mD)) = some r from h) nofun
  | succ n ih =>
    intro x8 x9 D h
    rw [F_X4_fillFrom_L109] at h
    refine j_iload (pc' := 111) dX4_fillFrom_109 rfl rfl ?_
    refine j_iload (pc' := 113) dX4_fillFrom_111 rfl rfl ?_
    obtain ⟨q1, h⟩ := ck_o h
    obtain ⟨q2, h⟩ := ck_o h
    refine j_icmp_gt (tgt := 153) (pc' := 116) dX4_fillFrom_113 rfl rfl q1 q2 (fun b1 => ?_) (fun b1 => ?_)
    · replace h := ite_t b1 h
      refine j_aload_n (pc' := 154) dX4_fillFrom_153 rfl rfl ?_
      refine k_getR (pc' := 157) (sl := 2) (r := 27) kc_4 w_289 (Or.inl rfl) (by decide) dX4_fillFrom_154 rfl (by decide) sk_26 (by decide) rfl (by decide) ?_
      refine j_iload_n (pc' := 158) dX4_fillFrom_157 rfl rfl ?_
      refine j_sipush (pc' := 161) dX4_fillFrom_158 rfl rfl ?_
      refine j_imul (pc' := 162) dX4_fillFrom_161 rfl ?_
      refine j_iload (pc' := 164) dX4_fillFrom_162 rfl rfl ?_
      refine j_iadd (pc' := 165) dX4_fillFrom_164 rfl ?_
      refine j_iload (pc' := 167) dX4_fillFrom_165 rfl rfl ?_
      obtain ⟨q3, h⟩ := ck_o h
      refine k_iast (pc' := 168) dX4_fillFrom_167 rfl (by decide) sk_27 (by decide) q3.1 q3.2 ?_
      refine j_iinc (pc' := 171) (z' := (x5 + 1)) (ls' := [some (mR 26), some (mI x1), some (mI x2), none, some (mI x4), some (mI (x5 + 1)), some (mI x6), some (mI x7), some (mI x8), some (mI x9), none]) dX4_fillFrom_168 rfl rfl rfl (by decide) rfl ?_
      refine j_goto (tgt := 67) dX4_fillFrom_171 rfl ?_
      exact j_wk (j_widen (ce := 0) (ke := 0) (by decide) (by decide) (hK67 h)) (And.intro rfl (And.intro rfl (And.intro rfl (And.intro rfl (And.intro rfl trivial)))))
    · replace h := ite_f b1 h
      refine j_aload_n (pc' := 117) dX4_fillFrom_116 rfl rfl ?_
      refine k_getR (pc' := 120) (sl := 2) (r := 27) kc_4 w_289 (Or.inl rfl) (by decide) dX4_fillFrom_117 rfl (by decide) sk_26 (by decide) rfl (by decide) ?_
      refine j_iload (pc' := 122) dX4_fillFrom_120 rfl rfl ?_
      refine j_iload (pc' := 124) dX4_fillFrom_122 rfl rfl ?_
      refine j_isub (pc' := 125) dX4_fillFrom_124 rfl ?_
      obtain ⟨q4, h⟩ := ck_o h
      refine k_iald (pc' := 126) (z := D 27 (x6 - x9)) dX4_fillFrom_125 rfl (by decide) sk_27 (by decide) q4.1 q4.2 rfl ?_
      refine j_aload_n (pc' := 127) dX4_fillFrom_126 rfl rfl ?_
      refine k_getR (pc' := 130) (sl := 3) (r := 28) kc_4 w_290 (Or.inl rfl) (by decide) dX4_fillFrom_127 rfl (by decide) sk_26 (by decide) rfl (by decide) ?_
      refine j_iload (pc' := 132) dX4_fillFrom_130 rfl rfl ?_
      obtain ⟨q5, h⟩ := ck_o h
      refine k_iald (pc' := 133) (z := D 28 x9) dX4_fillFrom_132 rfl (by decide) sk_28 (by decide) q5.1 q5.2 rfl ?_
      refine j_iadd (pc' := 134) dX4_fillFrom_133 rfl ?_
      refine j_istore (pc' := 136) (ls' := [some (mR 26), some (mI x1), some (mI x2), none, some (mI x4), some (mI x5), some (mI x6), some (mI x7), some (mI x8), some (mI x9), some (mI ((D 27 (x6 - x9)) + (D 28 x9)))]) dX4_fillFrom_134 rfl (by decide) rfl ?_
      refine j_iload (pc' := 138) dX4_fillFrom_136 rfl rfl ?_
      refine j_iload (pc' := 140) dX4_fillFrom_138 rfl rfl ?_
      obtain ⟨q6, h⟩ := ck_o h
      obtain ⟨q7, h⟩ := ck_o h
      have hj : J Ω M_X4_fillFrom d 0 0 (rV r.2) 147 [some (mR 26), some (mI x1), some (mI x2), none, some (mI x4), some (mI x5), some (mI x6), some (mI x7), some (mI (if x8 ≤ ((D 27 (x6 - x9)) + (D 28 x9)) then x8 else ((D 27 (x6 - x9)) + (D 28 x9)))), some (mI x9), none] [] (SK, D, false) 0 0 := by
        refine j_iinc (pc' := 150) (z' := (x9 + 1)) (ls' := [some (mR 26), some (mI x1), some (mI x2), none, some (mI x4), some (mI x5), some (mI x6), some (mI x7), some (mI (if x8 ≤ ((D 27 (x6 - x9)) + (D 28 x9)) then x8 else ((D 27 (x6 - x9)) + (D 28 x9)))), some (mI (x9 + 1)), none]) dX4_fillFrom_147 rfl rfl rfl (by decide) rfl ?_
        refine j_goto (tgt := 109) dX4_fillFrom_150 rfl ?_
        exact j_wk (j_widen (ce := 0) (ke := 0) (by decide) (by decide) (ih h)) (And.intro rfl (And.intro rfl (And.intro rfl (And.intro rfl (And.intro rfl (And.intro rfl (And.intro rfl (And.intro rfl (And.intro rfl trivial)))))))))
      refine j_icmp_ge (tgt := 147) (pc' := 143) dX4_fillFrom_140 rfl rfl q6 q7 (fun b2 => ?_) (fun b2 => ?_)
      · have hj := hj
        try simp only [if_pos b2] at hj
        exact j_wk hj (And.intro rfl (And.intro rfl (And.intro rfl (And.intro rfl (And.intro rfl (And.intro rfl (And.intro rfl (And.intro rfl (And.intro rfl trivial)))))))))
      · refine j_iload (pc' := 145) dX4_fillFrom_143 rfl rfl ?_
        refine j_istore (pc' := 147) (ls' := [some (mR 26), some (mI x1), some (mI x2), none, some (mI x4), some (mI x5), some (mI x6), some (mI x7), some (mI ((D 27 (x6 - x9)) + (D 28 x9))), some (mI x9), some (mI ((D 27 (x6 - x9)) + (D 28 x9)))]) dX4_fillFrom_145 rfl (by decide) rfl ?_
        have hj := hj
        try simp only [if_neg b2] at hj
        exact j_wk hj (And.intro rfl (And.intro rfl (And.intro rfl (And.intro rfl (And.intro rfl (And.intro rfl (And.intro rfl (And.intro rfl (And.intro rfl trivial)))))))))
theorem c_X4_fillFrom_L67 {Ω : mO} {d : Nat} (hd : 8 ≤ d) {r : Int × mD} {x1 x2 x4 : Int} : ∀ (n : Nat) {x5 : Int} {D : mD}, F_X4_fillFrom_L67 x1 x2 x4 n x5 D = some r → J Ω M_X4_fillFrom d 0 0 (rV r.2) 67 [some (mR 26), some (mI x1), some (mI x2), none, some (mI x4), some (mI x5), none, none, none, none, none] [] (SK, D, false) 0 0 := by
  intro n
  induction n with
  | zero => intro x5 D h; exact absurd (show (none : Option (Int × mD)) = some r from h) nofun
  | succ n ih =>
    intro x5 D h
    rw [F_X4_fillFrom_L67] at h
    refine j_iload (pc' := 69) dX4_fillFrom_67 rfl rfl ?_
    refine j_iload (pc' := 71) dX4_fillFrom_69 rfl rfl ?_
    obtain ⟨q1, h⟩ := ck_o h
    obtain ⟨q2, h⟩ := ck_o h
    refine j_icmp_gt (tgt := 174) (pc' := 74) dX4_fillFrom_71 rfl rfl q1 q2 (fun b1 => ?_) (fun b1 => ?_)
    · replace h := ite_t b1 h
      exact j_vret dX4_fillFrom_174 rfl (by decide) (by decide) (rV_of h)
    · replace h := ite_f b1 h
      refine j_iload_n (pc' := 75) dX4_fillFrom_74 rfl rfl ?_
      refine j_iconst (pc' := 76) dX4_fillFrom_75 rfl ?_
      refine j_iadd (pc' := 77) dX4_fillFrom_76 rfl ?_
      refine j_sipush (pc' := 80) dX4_fillFrom_77 rfl rfl ?_
      refine j_imul (pc' := 81) dX4_fillFrom_80 rfl ?_
      refine j_iload (pc' := 83) dX4_fillFrom_81 rfl rfl ?_
      refine j_iadd (pc' := 84) dX4_fillFrom_83 rfl ?_
      refine j_istore (pc' := 86) (ls' := [some (mR 26), some (mI x1), some (mI x2), none, some (mI x4), some (mI x5), some (mI (((x1 + 1) * 133) + x5)), none, none, none, none]) dX4_fillFrom_84 rfl (by decide) rfl ?_
      refine j_bipush (pc' := 88) dX4_fillFrom_86 rfl rfl ?_
      refine j_iload (pc' := 90) dX4_fillFrom_88 rfl rfl ?_
      refine k_min (pc' := 93) cw_X4_64 w_560 dX4_fillFrom_90 rfl (by omega) (by decide) q1 rfl (by decide) (by decide) ?_
      refine j_istore (pc' := 95) (ls' := [some (mR 26), some (mI x1), some (mI x2), none, some (mI x4), some (mI x5), some (mI (((x1 + 1) * 133) + x5)), some (mI (min 30 x5)), none, none, none]) dX4_fillFrom_93 rfl (by decide) rfl ?_
      refine j_ldcI (pc' := 97) (n := 1000000000) w_618 dX4_fillFrom_95 rfl ?_
      refine j_istore (pc' := 99) (ls' := [some (mR 26), some (mI x1), some (mI x2), none, some (mI x4), some (mI x5), some (mI (((x1 + 1) * 133) + x5)), some (mI (min 30 x5)), some (mI 1000000000), none, none]) dX4_fillFrom_97 rfl (by decide) rfl ?_
      refine j_iconst (pc' := 100) dX4_fillFrom_99 rfl ?_
      refine j_iload (pc' := 102) dX4_fillFrom_100 rfl rfl ?_
      refine j_iload_n (pc' := 103) dX4_fillFrom_102 rfl rfl ?_
      refine j_isub (pc' := 104) dX4_fillFrom_103 rfl ?_
      obtain ⟨q3, h⟩ := ck_o h
      refine k_max (pc' := 107) cw_X4_61 w_541 dX4_fillFrom_104 rfl (by omega) (by decide) q3 rfl (by decide) (by decide) ?_
      refine j_istore (pc' := 109) (ls' := [some (mR 26), some (mI x1), some (mI x2), none, some (mI x4), some (mI x5), some (mI (((x1 + 1) * 133) + x5)), some (mI (min 30 x5)), some (mI 1000000000), some (mI (max 0 (x5 - x2))), none]) dX4_fillFrom_107 rfl (by decide) rfl ?_
      exact j_wk (j_widen (ce := 0) (ke := 0) (by decide) (by decide) (c_X4_fillFrom_L109 hd ih _ h)) (And.intro rfl (And.intro rfl (And.intro rfl (And.intro rfl (And.intro rfl (And.intro rfl (And.intro rfl (And.intro rfl (And.intro rfl trivial)))))))))
theorem c_X4_fillFrom_L2 {Ω : mO} {d : Nat} (hd : 8 ≤ d) {r : Int × mD} {x1 x2 : Int} : ∀ (n : Nat) {x3 : Int} {D : mD}, F_X4_fillFrom_L2 x1 x2 n x3 D = some r → J Ω M_X4_fillFrom d 0 0 (rV r.2) 2 [some (mR 26), some (mI x1), some (mI x2), some (mI x3), none, none, none, none, none, none, none] [] (SK, D, false) 0 0 := by
  intro n
  induction n with
  | zero => intro x3 D h; exact absurd (show (none : Option (Int × mD)) = some r from h) nofun
  | succ n ih =>
    intro x3 D h
    rw [F_X4_fillFrom_L2] at h
    refine j_iload_n (pc' := 3) dX4_fillFrom_2 rfl rfl ?_
    refine j_bipush (pc' := 5) dX4_fillFrom_3 rfl rfl ?_
    obtain ⟨q1, h⟩ := ck_o h
    refine j_icmp_gt (tgt := 37) (pc' := 8) dX4_fillFrom_5 rfl rfl q1 (by decide) (fun b1 => ?_) (fun b1 => ?_)
    · replace h := ite_t b1 h
      refine j_iconst (pc' := 38) dX4_fillFrom_37 rfl ?_
      refine j_aload_n (pc' := 39) dX4_fillFrom_38 rfl rfl ?_
      refine k_getI (pc' := 42) (sl := 5) (z := D 26 5) kc_4 w_292 (by decide) dX4_fillFrom_39 rfl (by decide) sk_26 (by decide) rfl rfl ?_
      refine j_bipush (pc' := 44) dX4_fillFrom_42 rfl rfl ?_
      refine j_iload_n (pc' := 45) dX4_fillFrom_44 rfl rfl ?_
      refine j_imul (pc' := 46) dX4_fillFrom_45 rfl ?_
      refine j_isub (pc' := 47) dX4_fillFrom_46 rfl ?_
      obtain ⟨q2, h⟩ := ck_o h
      refine k_max (pc' := 50) cw_X4_61 w_541 dX4_fillFrom_47 rfl (by omega) (by decide) q2 rfl (by decide) (by decide) ?_
      refine j_istore_n (pc' := 51) (ls' := [some (mR 26), some (mI x1), some (mI x2), some (mI (max 0 ((D 26 5) - (30 * x1)))), none, none, none, none, none, none, none]) dX4_fillFrom_50 rfl (by decide) rfl ?_
      refine j_aload_n (pc' := 52) dX4_fillFrom_51 rfl rfl ?_
      refine k_getI (pc' := 55) (sl := 5) (z := D 26 5) kc_4 w_292 (by decide) dX4_fillFrom_52 rfl (by decide) sk_26 (by decide) rfl rfl ?_
      refine j_iload_n (pc' := 56) dX4_fillFrom_55 rfl rfl ?_
      refine j_bipush (pc' := 58) dX4_fillFrom_56 rfl rfl ?_
      refine j_iadd (pc' := 59) dX4_fillFrom_58 rfl ?_
      obtain ⟨q3, h⟩ := ck_o h
      obtain ⟨q4, h⟩ := ck_o h
      refine k_min (pc' := 62) cw_X4_64 w_560 dX4_fillFrom_59 rfl (by omega) q3 q4 rfl (by decide) (by decide) ?_
      refine j_istore (pc' := 64) (ls' := [some (mR 26), some (mI x1), some (mI x2), some (mI (max 0 ((D 26 5) - (30 * x1)))), some (mI (min (D 26 5) (x2 + 30))), none, none, none, none, none, none]) dX4_fillFrom_62 rfl (by decide) rfl ?_
      refine j_iload_n (pc' := 65) dX4_fillFrom_64 rfl rfl ?_
      refine j_istore (pc' := 67) (ls' := [some (mR 26), some (mI x1), some (mI x2), some (mI (max 0 ((D 26 5) - (30 * x1)))), some (mI (min (D 26 5) (x2 + 30))), some (mI (max 0 ((D 26 5) - (30 * x1)))), none, none, none, none, none]) dX4_fillFrom_65 rfl (by decide) rfl ?_
      exact j_wk (j_widen (ce := 0) (ke := 0) (by decide) (by decide) (c_X4_fillFrom_L67 hd _ h)) (And.intro rfl (And.intro rfl (And.intro rfl (And.intro rfl (And.intro rfl trivial)))))
    · replace h := ite_f b1 h
      refine j_aload_n (pc' := 9) dX4_fillFrom_8 rfl rfl ?_
      refine k_getR (pc' := 12) (sl := 3) (r := 28) kc_4 w_290 (Or.inl rfl) (by decide) dX4_fillFrom_9 rfl (by decide) sk_26 (by decide) rfl (by decide) ?_
      refine j_iload_n (pc' := 13) dX4_fillFrom_12 rfl rfl ?_
      refine j_aload_n (pc' := 14) dX4_fillFrom_13 rfl rfl ?_
      refine k_getR (pc' := 17) (sl := 1) (r := 22) kc_4 w_288 (Or.inl rfl) (by decide) dX4_fillFrom_14 rfl (by decide) sk_26 (by decide) rfl (by decide) ?_
      refine j_iload_n (pc' := 18) dX4_fillFrom_17 rfl rfl ?_
      refine j_iload_n (pc' := 19) dX4_fillFrom_18 rfl rfl ?_
      obtain ⟨v1, D1, e1, h⟩ := bI_o h
      refine k_cV (d' := 7) (pc' := 22) [mI x1, mI x3] [mI x3, mR 28] (c_X0_whiteOf (d := 7) (Nat.le_refl _) e1) cw_X4_52 kc_0 w_544 w_545 dX4_fillFrom_19 rfl (by omega) rfl rfl (by decide) sk_22 rfl rfl (by decide) (by decide) ?_
      refine j_aload_n (pc' := 23) dX4_fillFrom_22 rfl rfl ?_
      refine k_getI (pc' := 26) (sl := 4) (z := D1 26 4) kc_4 w_291 (by decide) dX4_fillFrom_23 rfl (by decide) sk_26 (by decide) rfl rfl ?_
      refine j_isub (pc' := 27) dX4_fillFrom_26 rfl ?_
      obtain ⟨q5, h⟩ := ck_o h
      refine k_abs (pc' := 30) cw_X4_56 w_614 dX4_fillFrom_27 rfl (by omega) q5 rfl (by decide) (by decide) ?_
      obtain ⟨q6, h⟩ := ck_o h
      refine k_iast (pc' := 31) dX4_fillFrom_30 rfl (by decide) sk_28 (by decide) q6.1 q6.2 ?_
      refine j_iinc (pc' := 34) (z' := (x3 + 1)) (ls' := [some (mR 26), some (mI x1), some (mI x2), some (mI (x3 + 1)), none, none, none, none, none, none, none]) dX4_fillFrom_31 rfl rfl rfl (by decide) rfl ?_
      refine j_goto (tgt := 2) dX4_fillFrom_34 rfl ?_
      exact j_wk (j_widen (ce := 0) (ke := 0) (by decide) (by decide) (ih h)) (And.intro rfl (And.intro rfl (And.intro rfl (And.intro rfl trivial))))
theorem c_X4_fillFrom_e {Ω : mO} {d : Nat} (hd : 8 ≤ d) {r : Int × mD} {x1 x2 : Int} {D : mD} (h : F_X4_fillFrom x1 x2 D = some r) : J Ω M_X4_fillFrom d 0 0 (rV r.2) 0 [some (mR 26), some (mI x1), some (mI x2), none, none, none, none, none, none, none, none] [] (SK, D, false) 0 0 := by
  rw [F_X4_fillFrom] at h
  refine j_iconst (pc' := 1) dX4_fillFrom_0 rfl ?_
  refine j_istore_n (pc' := 2) (ls' := [some (mR 26), some (mI x1), some (mI x2), some (mI 0), none, none, none, none, none, none, none]) dX4_fillFrom_1 rfl (by decide) rfl ?_
  exact j_wk (j_widen (ce := 0) (ke := 0) (by decide) (by decide) (c_X4_fillFrom_L2 hd _ h)) (And.intro rfl (And.intro rfl (And.intro rfl (And.intro rfl trivial))))
theorem c_X4_fillFrom {d : Nat} (hd : 8 ≤ d) {x1 x2 : Int} {D D' : mD} {v : Int} (h : F_X4_fillFrom x1 x2 D = some (v, D')) : CM d 0 0 M_X4_fillFrom [mR 26, mI x1, mI x2] (SK, D, false) (rV D') := CM.intro pn_X4 rfl rfl (Nat.le_of_ble_eq_true rfl) (fun _ => c_X4_fillFrom_e hd h)
theorem c_X4_leastOff_L81 {Ω : mO} {d : Nat} (hd : 9 ≤ d) {r : Int × mD} {x3 : Int} : ∀ (n : Nat) {x4 : Int} {D : mD}, F_X4_leastOff_L81 x3 n x4 D = some r → J Ω M_X4_leastOff d 0 0 (rI r.1 r.2) 81 [some (mR 26), none, none, some (mI x3), some (mI x4)] [] (SK, D, false) 0 0 := by
  intro n
  induction n with
  | zero => intro x4 D h; exact absurd (show (none : Option (Int × mD)) = some r from h) nofun
  | succ n ih =>
    intro x4 D h
    rw [F_X4_leastOff_L81] at h
    refine j_iload (pc' := 83) dX4_leastOff_81 rfl rfl ?_
    obtain ⟨q1, h⟩ := ck_o h
    refine j_if_lt (tgt := 107) (pc' := 86) dX4_leastOff_83 rfl rfl q1 (fun b1 => ?_) (fun b1 => ?_)
    · replace h := ite_t b1 h
      refine j_aload_n (pc' := 108) dX4_leastOff_107 rfl rfl ?_
      refine k_getR (pc' := 111) (sl := 2) (r := 27) kc_4 w_289 (Or.inl rfl) (by decide) dX4_leastOff_108 rfl (by decide) sk_26 (by decide) rfl (by decide) ?_
      refine j_aload_n (pc' := 112) dX4_leastOff_111 rfl rfl ?_
      refine k_getI (pc' := 115) (sl := 5) (z := D 26 5) kc_4 w_292 (by decide) dX4_leastOff_112 rfl (by decide) sk_26 (by decide) rfl rfl ?_
      obtain ⟨q2, h⟩ := ck_o h
      refine k_iald (pc' := 116) (z := D 27 (D 26 5)) dX4_leastOff_115 rfl (by decide) sk_27 (by decide) q2.1 q2.2 rfl ?_
      exact j_iret dX4_leastOff_116 rfl (by decide) (by decide) (rI_of h)
    · replace h := ite_f b1 h
      refine j_aload_n (pc' := 87) dX4_leastOff_86 rfl rfl ?_
      refine j_iload (pc' := 89) dX4_leastOff_87 rfl rfl ?_
      refine j_bipush (pc' := 91) dX4_leastOff_89 rfl rfl ?_
      refine j_iload_n (pc' := 92) dX4_leastOff_91 rfl rfl ?_
      refine j_iload (pc' := 94) dX4_leastOff_92 rfl rfl ?_
      refine j_isub (pc' := 95) dX4_leastOff_94 rfl ?_
      refine j_iconst (pc' := 96) dX4_leastOff_95 rfl ?_
      refine j_isub (pc' := 97) dX4_leastOff_96 rfl ?_
      refine j_imul (pc' := 98) dX4_leastOff_97 rfl ?_
      obtain ⟨v1, D1, e1, h⟩ := bI_o h
      refine k_cVv (d' := 8) (pc' := 101) [mI x4, mI (30 * ((x3 - x4) - 1))] [] (c_X4_fillFrom (d := 8) (Nat.le_refl _) e1) cw_X4_48 kc_4 w_610 ws_5 dX4_leastOff_98 rfl (by omega) rfl rfl (by decide) sk_26 rfl rfl (by decide) (by decide) ?_
      refine j_iinc (pc' := 104) (z' := (x4 - 1)) (ls' := [some (mR 26), none, none, some (mI x3), some (mI (x4 - 1))]) dX4_leastOff_101 rfl rfl (by omega) (by decide) rfl ?_
      refine j_goto (tgt := 81) dX4_leastOff_104 rfl ?_
      exact j_wk (j_widen (ce := 0) (ke := 0) (by decide) (by decide) (ih h)) (And.intro rfl (And.intro rfl (And.intro rfl trivial)))
theorem c_X4_leastOff_e {Ω : mO} {d : Nat} (hd : 9 ≤ d) {r : Int × mD} {x1 x2 : Int} {D : mD} (h : F_X4_leastOff x1 x2 D = some r) : J Ω M_X4_leastOff d 0 0 (rI r.1 r.2) 0 [some (mR 26), some (mI x1), some (mI x2), none, none] [] (SK, D, false) 0 0 := by
  rw [F_X4_leastOff] at h
  refine j_aload_n (pc' := 1) dX4_leastOff_0 rfl rfl ?_
  refine k_getR (pc' := 4) (sl := 0) (r := 3) kc_4 w_287 (Or.inl rfl) (by decide) dX4_leastOff_1 rfl (by decide) sk_26 (by decide) rfl (by decide) ?_
  obtain ⟨v1, D1, e1, h⟩ := bI_o h
  refine k_cV (d' := 1) (pc' := 7) [] [] (c_X6_gapCount (d := 1) (Nat.le_refl _) shop_3 e1) cw_X4_26 kc_6 w_537 w_538 dX4_leastOff_4 rfl (by omega) rfl rfl (by decide) sk_3 rfl rfl (by decide) (by decide) ?_
  refine j_istore_n (pc' := 8) (ls' := [some (mR 26), some (mI x1), some (mI x2), some (mI v1), none]) dX4_leastOff_7 rfl (by decide) rfl ?_
  refine j_aload_n (pc' := 9) dX4_leastOff_8 rfl rfl ?_
  refine j_iload_n (pc' := 10) dX4_leastOff_9 rfl rfl ?_
  refine k_putI (pc' := 13) (sl := 4) (i' := 4) kc_4 w_291 (by decide) (Or.inl rfl) dX4_leastOff_10 rfl (by decide) sk_26 (by decide) ⟨rfl, rfl⟩ rfl ?_
  refine j_aload_n (pc' := 14) dX4_leastOff_13 rfl rfl ?_
  refine j_aload_n (pc' := 15) dX4_leastOff_14 rfl rfl ?_
  refine k_getR (pc' := 18) (sl := 1) (r := 22) kc_4 w_288 (Or.inl rfl) (by decide) dX4_leastOff_15 rfl (by decide) sk_26 (by decide) rfl (by decide) ?_
  refine j_iload_n (pc' := 19) dX4_leastOff_18 rfl rfl ?_
  obtain ⟨v2, D2, e2, h⟩ := bI_o h
  refine k_cV (d' := 2) (pc' := 22) [mI x2] [mR 26] (c_X0_freeHairs (d := 2) (Nat.le_refl _) e2) cw_X4_36 kc_0 w_605 w_606 dX4_leastOff_19 rfl (by omega) rfl rfl (by decide) sk_22 rfl rfl (by decide) (by decide) ?_
  refine k_putI (pc' := 25) (sl := 5) (i' := 5) kc_4 w_292 (by decide) (Or.inl rfl) dX4_leastOff_22 rfl (by decide) sk_26 (by decide) ⟨rfl, rfl⟩ rfl ?_
  refine j_aload_n (pc' := 26) dX4_leastOff_25 rfl rfl ?_
  refine k_getR (pc' := 29) (sl := 0) (r := 3) kc_4 w_287 (Or.inl rfl) (by decide) dX4_leastOff_26 rfl (by decide) sk_26 (by decide) rfl (by decide) ?_
  refine k_getI (pc' := 32) (sl := 5) (z := (pD D2 26 5 v2) 3 5) kc_6 w_87 (by decide) dX4_leastOff_29 rfl (by decide) sk_3 (by decide) rfl rfl ?_
  obtain ⟨q1, h⟩ := ck_o h
  refine j_if_eq (tgt := 63) (pc' := 35) dX4_leastOff_32 rfl rfl q1 (fun b1 => ?_) (fun b1 => ?_)
  · replace h := ite_t b1 h
    refine j_iconst (pc' := 64) dX4_leastOff_63 rfl ?_
    exact j_iret dX4_leastOff_64 rfl (by decide) (by decide) (rI_of h)
  · replace h := ite_f b1 h
    refine j_aload_n (pc' := 36) dX4_leastOff_35 rfl rfl ?_
    refine k_getI (pc' := 39) (sl := 5) (z := (pD D2 26 5 v2) 26 5) kc_4 w_292 (by decide) dX4_leastOff_36 rfl (by decide) sk_26 (by decide) rfl rfl ?_
    obtain ⟨q2, h⟩ := ck_o h
    refine j_if_lt (tgt := 63) (pc' := 42) dX4_leastOff_39 rfl rfl q2 (fun b2 => ?_) (fun b2 => ?_)
    · replace h := ite_t b2 h
      refine j_iconst (pc' := 64) dX4_leastOff_63 rfl ?_
      exact j_iret dX4_leastOff_64 rfl (by decide) (by decide) (rI_of h)
    · replace h := ite_f b2 h
      refine j_aload_n (pc' := 43) dX4_leastOff_42 rfl rfl ?_
      refine k_getI (pc' := 46) (sl := 5) (z := (pD D2 26 5 v2) 26 5) kc_4 w_292 (by decide) dX4_leastOff_43 rfl (by decide) sk_26 (by decide) rfl rfl ?_
      refine j_bipush (pc' := 48) dX4_leastOff_46 rfl rfl ?_
      refine j_iload_n (pc' := 49) dX4_leastOff_48 rfl rfl ?_
      refine j_imul (pc' := 50) dX4_leastOff_49 rfl ?_
      obtain ⟨q3, h⟩ := ck_o h
      refine j_icmp_gt (tgt := 63) (pc' := 53) dX4_leastOff_50 rfl rfl q2 q3 (fun b3 => ?_) (fun b3 => ?_)
      · replace h := ite_t b3 h
        refine j_iconst (pc' := 64) dX4_leastOff_63 rfl ?_
        exact j_iret dX4_leastOff_64 rfl (by decide) (by decide) (rI_of h)
      · replace h := ite_f b3 h
        refine j_aload_n (pc' := 54) dX4_leastOff_53 rfl rfl ?_
        refine k_getI (pc' := 57) (sl := 5) (z := (pD D2 26 5 v2) 26 5) kc_4 w_292 (by decide) dX4_leastOff_54 rfl (by decide) sk_26 (by decide) rfl rfl ?_
        refine j_sipush (pc' := 60) dX4_leastOff_57 rfl rfl ?_
        refine j_icmp_lt (tgt := 65) (pc' := 63) dX4_leastOff_60 rfl rfl q2 (by decide) (fun b4 => ?_) (fun b4 => ?_)
        · replace h := ite_t b4 h
          refine j_aload_n (pc' := 66) dX4_leastOff_65 rfl rfl ?_
          refine k_getR (pc' := 69) (sl := 2) (r := 27) kc_4 w_289 (Or.inl rfl) (by decide) dX4_leastOff_66 rfl (by decide) sk_26 (by decide) rfl (by decide) ?_
          refine j_iload_n (pc' := 70) dX4_leastOff_69 rfl rfl ?_
          refine j_sipush (pc' := 73) dX4_leastOff_70 rfl rfl ?_
          refine j_imul (pc' := 74) dX4_leastOff_73 rfl ?_
          refine j_iconst (pc' := 75) dX4_leastOff_74 rfl ?_
          obtain ⟨q4, h⟩ := ck_o h
          refine k_iast (pc' := 76) dX4_leastOff_75 rfl (by decide) sk_27 (by decide) q4.1 q4.2 ?_
          refine j_iload_n (pc' := 77) dX4_leastOff_76 rfl rfl ?_
          refine j_iconst (pc' := 78) dX4_leastOff_77 rfl ?_
          refine j_isub (pc' := 79) dX4_leastOff_78 rfl ?_
          refine j_istore (pc' := 81) (ls' := [some (mR 26), some (mI x1), some (mI x2), some (mI v1), some (mI (v1 - 1))]) dX4_leastOff_79 rfl (by decide) rfl ?_
          exact j_wk (j_widen (ce := 0) (ke := 0) (by decide) (by decide) (c_X4_leastOff_L81 hd _ h)) (And.intro rfl (And.intro rfl (And.intro rfl trivial)))
        · replace h := ite_f b4 h
          refine j_iconst (pc' := 64) dX4_leastOff_63 rfl ?_
          exact j_iret dX4_leastOff_64 rfl (by decide) (by decide) (rI_of h)
theorem c_X4_leastOff {d : Nat} (hd : 9 ≤ d) {x1 x2 : Int} {D D' : mD} {v : Int} (h : F_X4_leastOff x1 x2 D = some (v, D')) : CM d 0 0 M_X4_leastOff [mR 26, mI x1, mI x2] (SK, D, false) (rI v D') := CM.intro pn_X4 rfl rfl (Nat.le_of_ble_eq_true rfl) (fun _ => c_X4_leastOff_e hd h)
theorem c_X4_firstDistance_L46 {Ω : mO} {d : Nat} (hd : 8 ≤ d) {r : Int × mD} {x1 x2 x4 x5 : Int} : ∀ (n : Nat) {x6 : Int} {D : mD}, F_X4_firstDistance_L46 x1 x2 x4 x5 n x6 D = some r → J Ω M_X4_firstDistance d 0 0 (rI r.1 r.2) 46 [some (mR 26), some (mI x1), some (mI x2), none, some (mI x4), some (mI x5), some (mI x6), none] [] (SK, D, false) 0 0 := by
  intro n
  induction n with
  | zero => intro x6 D h; exact absurd (show (none : Option (Int × mD)) = some r from h) nofun
  | succ n ih =>
    intro x6 D h
    rw [F_X4_firstDistance_L46] at h
    refine j_iload (pc' := 48) dX4_firstDistance_46 rfl rfl ?_
    refine j_iload (pc' := 50) dX4_firstDistance_48 rfl rfl ?_
    obtain ⟨q1, h⟩ := ck_o h
    obtain ⟨q2, h⟩ := ck_o h
    refine j_icmp_ge (tgt := 107) (pc' := 53) dX4_firstDistance_50 rfl rfl q1 q2 (fun b1 => ?_) (fun b1 => ?_)
    · replace h := ite_t b1 h
      refine j_iload (pc' := 109) dX4_firstDistance_107 rfl rfl ?_
      exact j_iret dX4_firstDistance_109 rfl (by decide) (by decide) (rI_of h)
    · replace h := ite_f b1 h
      refine j_aload_n (pc' := 54) dX4_firstDistance_53 rfl rfl ?_
      refine k_getR (pc' := 57) (sl := 2) (r := 27) kc_4 w_289 (Or.inl rfl) (by decide) dX4_firstDistance_54 rfl (by decide) sk_26 (by decide) rfl (by decide) ?_
      refine j_iload_n (pc' := 58) dX4_firstDistance_57 rfl rfl ?_
      refine j_iconst (pc' := 59) dX4_firstDistance_58 rfl ?_
      refine j_iadd (pc' := 60) dX4_firstDistance_59 rfl ?_
      refine j_sipush (pc' := 63) dX4_firstDistance_60 rfl rfl ?_
      refine j_imul (pc' := 64) dX4_firstDistance_63 rfl ?_
      refine j_iload_n (pc' := 65) dX4_firstDistance_64 rfl rfl ?_
      refine j_iadd (pc' := 66) dX4_firstDistance_65 rfl ?_
      refine j_iload (pc' := 68) dX4_firstDistance_66 rfl rfl ?_
      refine j_isub (pc' := 69) dX4_firstDistance_68 rfl ?_
      obtain ⟨q3, h⟩ := ck_o h
      refine k_iald (pc' := 70) (z := D 27 ((((x1 + 1) * 133) + x2) - x6)) dX4_firstDistance_69 rfl (by decide) sk_27 (by decide) q3.1 q3.2 rfl ?_
      refine j_istore (pc' := 72) (ls' := [some (mR 26), some (mI x1), some (mI x2), none, some (mI x4), some (mI x5), some (mI x6), some (mI (D 27 ((((x1 + 1) * 133) + x2) - x6)))]) dX4_firstDistance_70 rfl (by decide) rfl ?_
      refine j_iload (pc' := 74) dX4_firstDistance_72 rfl rfl ?_
      refine j_aload_n (pc' := 75) dX4_firstDistance_74 rfl rfl ?_
      refine k_getR (pc' := 78) (sl := 1) (r := 22) kc_4 w_288 (Or.inl rfl) (by decide) dX4_firstDistance_75 rfl (by decide) sk_26 (by decide) rfl (by decide) ?_
      refine j_iload_n (pc' := 79) dX4_firstDistance_78 rfl rfl ?_
      refine j_iload (pc' := 81) dX4_firstDistance_79 rfl rfl ?_
      obtain ⟨v1, D1, e1, h⟩ := bI_o h
      refine k_cV (d' := 7) (pc' := 84) [mI x1, mI x6] [mI (D 27 ((((x1 + 1) * 133) + x2) - x6))] (c_X0_whiteOf (d := 7) (Nat.le_refl _) e1) cw_X4_52 kc_0 w_544 w_545 dX4_firstDistance_81 rfl (by omega) rfl rfl (by decide) sk_22 rfl rfl (by decide) (by decide) ?_
      refine j_aload_n (pc' := 85) dX4_firstDistance_84 rfl rfl ?_
      refine k_getI (pc' := 88) (sl := 4) (z := D1 26 4) kc_4 w_291 (by decide) dX4_firstDistance_85 rfl (by decide) sk_26 (by decide) rfl rfl ?_
      refine j_isub (pc' := 89) dX4_firstDistance_88 rfl ?_
      obtain ⟨q4, h⟩ := ck_o h
      refine k_abs (pc' := 92) cw_X4_56 w_614 dX4_firstDistance_89 rfl (by omega) q4 rfl (by decide) (by decide) ?_
      refine j_iadd (pc' := 93) dX4_firstDistance_92 rfl ?_
      refine j_iload (pc' := 95) dX4_firstDistance_93 rfl rfl ?_
      obtain ⟨q5, h⟩ := ck_o h
      obtain ⟨q6, h⟩ := ck_o h
      refine j_icmp_ne (tgt := 101) (pc' := 98) dX4_firstDistance_95 rfl rfl q5 q6 (fun b2 => ?_) (fun b2 => ?_)
      · replace h := ite_f b2 h
        refine j_iinc (pc' := 104) (z' := (x6 + 1)) (ls' := [some (mR 26), some (mI x1), some (mI x2), none, some (mI x4), some (mI x5), some (mI (x6 + 1)), some (mI (D 27 ((((x1 + 1) * 133) + x2) - x6)))]) dX4_firstDistance_101 rfl rfl rfl (by decide) rfl ?_
        refine j_goto (tgt := 46) dX4_firstDistance_104 rfl ?_
        exact j_wk (j_widen (ce := 0) (ke := 0) (by decide) (by decide) (ih h)) (And.intro rfl (And.intro rfl (And.intro rfl (And.intro rfl (And.intro rfl (And.intro rfl trivial))))))
      · replace h := ite_t b2 h
        refine j_iload (pc' := 100) dX4_firstDistance_98 rfl rfl ?_
        exact j_iret dX4_firstDistance_100 rfl (by decide) (by decide) (rI_of h)
theorem c_X4_firstDistance_e {Ω : mO} {d : Nat} (hd : 8 ≤ d) {r : Int × mD} {x1 x2 : Int} {D : mD} (h : F_X4_firstDistance x1 x2 D = some r) : J Ω M_X4_firstDistance d 0 0 (rI r.1 r.2) 0 [some (mR 26), some (mI x1), some (mI x2), none, none, none, none, none] [] (SK, D, false) 0 0 := by
  rw [F_X4_firstDistance] at h
  refine j_bipush (pc' := 2) dX4_firstDistance_0 rfl rfl ?_
  refine j_aload_n (pc' := 3) dX4_firstDistance_2 rfl rfl ?_
  refine k_getR (pc' := 6) (sl := 0) (r := 3) kc_4 w_287 (Or.inl rfl) (by decide) dX4_firstDistance_3 rfl (by decide) sk_26 (by decide) rfl (by decide) ?_
  obtain ⟨v1, D1, e1, h⟩ := bI_o h
  refine k_cV (d' := 1) (pc' := 9) [] [mI 30] (c_X6_gapCount (d := 1) (Nat.le_refl _) shop_3 e1) cw_X4_26 kc_6 w_537 w_538 dX4_firstDistance_6 rfl (by omega) rfl rfl (by decide) sk_3 rfl rfl (by decide) (by decide) ?_
  refine j_iload_n (pc' := 10) dX4_firstDistance_9 rfl rfl ?_
  refine j_isub (pc' := 11) dX4_firstDistance_10 rfl ?_
  refine j_iconst (pc' := 12) dX4_firstDistance_11 rfl ?_
  refine j_isub (pc' := 13) dX4_firstDistance_12 rfl ?_
  refine j_imul (pc' := 14) dX4_firstDistance_13 rfl ?_
  refine j_istore_n (pc' := 15) (ls' := [some (mR 26), some (mI x1), some (mI x2), some (mI (30 * ((v1 - x1) - 1))), none, none, none, none]) dX4_firstDistance_14 rfl (by decide) rfl ?_
  refine j_bipush (pc' := 17) dX4_firstDistance_15 rfl rfl ?_
  refine j_iload_n (pc' := 18) dX4_firstDistance_17 rfl rfl ?_
  obtain ⟨q1, h⟩ := ck_o h
  refine k_min (pc' := 21) cw_X4_64 w_560 dX4_firstDistance_18 rfl (by omega) (by decide) q1 rfl (by decide) (by decide) ?_
  refine j_istore (pc' := 23) (ls' := [some (mR 26), some (mI x1), some (mI x2), some (mI (30 * ((v1 - x1) - 1))), some (mI (min 30 x2)), none, none, none]) dX4_firstDistance_21 rfl (by decide) rfl ?_
  refine j_aload_n (pc' := 24) dX4_firstDistance_23 rfl rfl ?_
  refine k_getR (pc' := 27) (sl := 2) (r := 27) kc_4 w_289 (Or.inl rfl) (by decide) dX4_firstDistance_24 rfl (by decide) sk_26 (by decide) rfl (by decide) ?_
  refine j_iload_n (pc' := 28) dX4_firstDistance_27 rfl rfl ?_
  refine j_sipush (pc' := 31) dX4_firstDistance_28 rfl rfl ?_
  refine j_imul (pc' := 32) dX4_firstDistance_31 rfl ?_
  refine j_iload_n (pc' := 33) dX4_firstDistance_32 rfl rfl ?_
  refine j_iadd (pc' := 34) dX4_firstDistance_33 rfl ?_
  obtain ⟨q2, h⟩ := ck_o h
  refine k_iald (pc' := 35) (z := D1 27 ((x1 * 133) + x2)) dX4_firstDistance_34 rfl (by decide) sk_27 (by decide) q2.1 q2.2 rfl ?_
  refine j_istore (pc' := 37) (ls' := [some (mR 26), some (mI x1), some (mI x2), some (mI (30 * ((v1 - x1) - 1))), some (mI (min 30 x2)), some (mI (D1 27 ((x1 * 133) + x2))), none, none]) dX4_firstDistance_35 rfl (by decide) rfl ?_
  refine j_iconst (pc' := 38) dX4_firstDistance_37 rfl ?_
  refine j_iload_n (pc' := 39) dX4_firstDistance_38 rfl rfl ?_
  refine j_iload_n (pc' := 40) dX4_firstDistance_39 rfl rfl ?_
  refine j_isub (pc' := 41) dX4_firstDistance_40 rfl ?_
  obtain ⟨q3, h⟩ := ck_o h
  refine k_max (pc' := 44) cw_X4_61 w_541 dX4_firstDistance_41 rfl (by omega) (by decide) q3 rfl (by decide) (by decide) ?_
  refine j_istore (pc' := 46) (ls' := [some (mR 26), some (mI x1), some (mI x2), some (mI (30 * ((v1 - x1) - 1))), some (mI (min 30 x2)), some (mI (D1 27 ((x1 * 133) + x2))), some (mI (max 0 (x2 - (30 * ((v1 - x1) - 1))))), none]) dX4_firstDistance_44 rfl (by decide) rfl ?_
  exact j_wk (j_widen (ce := 0) (ke := 0) (by decide) (by decide) (c_X4_firstDistance_L46 hd _ h)) (And.intro rfl (And.intro rfl (And.intro rfl (And.intro rfl (And.intro rfl (And.intro rfl trivial))))))
theorem c_X4_firstDistance {d : Nat} (hd : 8 ≤ d) {x1 x2 : Int} {D D' : mD} {v : Int} (h : F_X4_firstDistance x1 x2 D = some (v, D')) : CM d 0 0 M_X4_firstDistance [mR 26, mI x1, mI x2] (SK, D, false) (rI v D') := CM.intro pn_X4 rfl rfl (Nat.le_of_ble_eq_true rfl) (fun _ => c_X4_firstDistance_e hd h)
theorem c_X4_putDistances_L7 {Ω : mO} {d : Nat} (hd : 9 ≤ d) {a1 : Nat} (hT1 : IsArr a1) {r : Int × mD} : ∀ (n : Nat) {x2 x3 : Int} {D : mD}, F_X4_putDistances_L7 a1 n x2 x3 D = some r → J Ω M_X4_putDistances d 0 0 (rV r.2) 7 [some (mR 26), some (mR a1), some (mI x2), some (mI x3)] [] (SK, D, false) 0 0 := by
  intro n
  induction n with
  | zero => intro x2 x3 D h; exact absurd (show (none : Option (Int × mD)) = some r from h) nofun
  | succ n ih =>
    intro x2 x3 D h
    rw [F_X4_putDistances_L7] at h
    refine j_iload_n (pc' := 8) dX4_putDistances_7 rfl rfl ?_
    refine j_aload_n (pc' := 9) dX4_putDistances_8 rfl rfl ?_
    refine k_getR (pc' := 12) (sl := 0) (r := 3) kc_4 w_287 (Or.inl rfl) (by decide) dX4_putDistances_9 rfl (by decide) sk_26 (by decide) rfl (by decide) ?_
    obtain ⟨v1, D1, e1, h⟩ := bI_o h
    refine k_cV (d' := 1) (pc' := 15) [] [mI x3] (c_X6_gapCount (d := 1) (Nat.le_refl _) shop_3 e1) cw_X4_26 kc_6 w_537 w_538 dX4_putDistances_12 rfl (by omega) rfl rfl (by decide) sk_3 rfl rfl (by decide) (by decide) ?_
    obtain ⟨q1, h⟩ := ck_o h
    obtain ⟨q2, h⟩ := ck_o h
    refine j_icmp_ge (tgt := 39) (pc' := 18) dX4_putDistances_15 rfl rfl q1 q2 (fun b1 => ?_) (fun b1 => ?_)
    · replace h := ite_t b1 h
      exact j_vret dX4_putDistances_39 rfl (by decide) (by decide) (rV_of h)
    · replace h := ite_f b1 h
      refine j_aload_n (pc' := 19) dX4_putDistances_18 rfl rfl ?_
      refine j_iload_n (pc' := 20) dX4_putDistances_19 rfl rfl ?_
      refine j_aload_n (pc' := 21) dX4_putDistances_20 rfl rfl ?_
      refine j_iload_n (pc' := 22) dX4_putDistances_21 rfl rfl ?_
      refine j_iload_n (pc' := 23) dX4_putDistances_22 rfl rfl ?_
      obtain ⟨v2, D2, e2, h⟩ := bI_o h
      refine k_cV (d' := 8) (pc' := 26) [mI x3, mI x2] [mI x3, mR a1] (c_X4_firstDistance (d := 8) (Nat.le_refl _) e2) cw_X4_68 kc_4 w_1223 ws_31 dX4_putDistances_23 rfl (by omega) rfl rfl (by decide) sk_26 rfl rfl (by decide) (by decide) ?_
      obtain ⟨q3, h⟩ := ck_o h
      refine k_iast (pc' := 27) dX4_putDistances_26 rfl (arr_lt hT1) (hT1.2) (by decide) q3.1 q3.2 ?_
      refine j_iload_n (pc' := 28) dX4_putDistances_27 rfl rfl ?_
      refine j_aload_n (pc' := 29) dX4_putDistances_28 rfl rfl ?_
      refine j_iload_n (pc' := 30) dX4_putDistances_29 rfl rfl ?_
      refine k_iald (pc' := 31) (z := (pD D2 a1 x3 v2) a1 x3) dX4_putDistances_30 rfl (arr_lt hT1) (hT1.2) (by decide) q3.1 q3.2 rfl ?_
      refine j_isub (pc' := 32) dX4_putDistances_31 rfl ?_
      refine j_istore_n (pc' := 33) (ls' := [some (mR 26), some (mR a1), some (mI (x2 - ((pD D2 a1 x3 v2) a1 x3))), some (mI x3)]) dX4_putDistances_32 rfl (by decide) rfl ?_
      refine j_iinc (pc' := 36) (z' := (x3 + 1)) (ls' := [some (mR 26), some (mR a1), some (mI (x2 - ((pD D2 a1 x3 v2) a1 x3))), some (mI (x3 + 1))]) dX4_putDistances_33 rfl rfl rfl (by decide) rfl ?_
      refine j_goto (tgt := 7) dX4_putDistances_36 rfl ?_
      exact j_wk (j_widen (ce := 0) (ke := 0) (by decide) (by decide) (ih h)) (And.intro rfl (And.intro rfl (And.intro rfl (And.intro rfl trivial))))
theorem c_X4_putDistances_e {Ω : mO} {d : Nat} (hd : 9 ≤ d) {a1 : Nat} (hT1 : IsArr a1) {r : Int × mD} {D : mD} (h : F_X4_putDistances a1 D = some r) : J Ω M_X4_putDistances d 0 0 (rV r.2) 0 [some (mR 26), some (mR a1), none, none] [] (SK, D, false) 0 0 := by
  rw [F_X4_putDistances] at h
  refine j_aload_n (pc' := 1) dX4_putDistances_0 rfl rfl ?_
  refine k_getI (pc' := 4) (sl := 5) (z := D 26 5) kc_4 w_292 (by decide) dX4_putDistances_1 rfl (by decide) sk_26 (by decide) rfl rfl ?_
  refine j_istore_n (pc' := 5) (ls' := [some (mR 26), some (mR a1), some (mI (D 26 5)), none]) dX4_putDistances_4 rfl (by decide) rfl ?_
  refine j_iconst (pc' := 6) dX4_putDistances_5 rfl ?_
  refine j_istore_n (pc' := 7) (ls' := [some (mR 26), some (mR a1), some (mI (D 26 5)), some (mI 0)]) dX4_putDistances_6 rfl (by decide) rfl ?_
  exact j_wk (j_widen (ce := 0) (ke := 0) (by decide) (by decide) (c_X4_putDistances_L7 hd hT1 _ h)) (And.intro rfl (And.intro rfl (And.intro rfl (And.intro rfl trivial))))
theorem c_X4_putDistances {d : Nat} (hd : 9 ≤ d) {a1 : Nat} (hT1 : IsArr a1) {D D' : mD} {v : Int} (h : F_X4_putDistances a1 D = some (v, D')) : CM d 0 0 M_X4_putDistances [mR 26, mR a1] (SK, D, false) (rV D') := CM.intro pn_X4 rfl rfl (Nat.le_of_ble_eq_true rfl) (fun _ => c_X4_putDistances_e hd hT1 h)
theorem c_X4_distanceOf_L10 {Ω : mO} {d : Nat} (hd : 9 ≤ d) {r : Int × mD} {x1 : Int} : ∀ (n : Nat) {x2 x3 x4 : Int} {D : mD}, F_X4_distanceOf_L10 x1 n x2 x3 x4 D = some r → J Ω M_X4_distanceOf d 0 0 (rI r.1 r.2) 10 [some (mR 26), some (mI x1), some (mI x2), some (mI x3), some (mI x4)] [] (SK, D, false) 0 0 := by
  intro n
  induction n with
  | zero => intro x2 x3 x4 D h; exact absurd (show (none : Option (Int × mD)) = some r from h) nofun
  | succ n ih =>
    intro x2 x3 x4 D h
    rw [F_X4_distanceOf_L10] at h
    refine j_iload (pc' := 12) dX4_distanceOf_10 rfl rfl ?_
    refine j_iload_n (pc' := 13) dX4_distanceOf_12 rfl rfl ?_
    obtain ⟨q1, h⟩ := ck_o h
    obtain ⟨q2, h⟩ := ck_o h
    refine j_icmp_gt (tgt := 34) (pc' := 16) dX4_distanceOf_13 rfl rfl q1 q2 (fun b1 => ?_) (fun b1 => ?_)
    · replace h := ite_t b1 h
      refine j_iload_n (pc' := 35) dX4_distanceOf_34 rfl rfl ?_
      exact j_iret dX4_distanceOf_35 rfl (by decide) (by decide) (rI_of h)
    · replace h := ite_f b1 h
      refine j_aload_n (pc' := 17) dX4_distanceOf_16 rfl rfl ?_
      refine j_iload (pc' := 19) dX4_distanceOf_17 rfl rfl ?_
      refine j_iload_n (pc' := 20) dX4_distanceOf_19 rfl rfl ?_
      obtain ⟨v1, D1, e1, h⟩ := bI_o h
      refine k_cV (d' := 8) (pc' := 23) [mI x4, mI x2] [] (c_X4_firstDistance (d := 8) (Nat.le_refl _) e1) cw_X4_68 kc_4 w_1223 ws_31 dX4_distanceOf_20 rfl (by omega) rfl rfl (by decide) sk_26 rfl rfl (by decide) (by decide) ?_
      refine j_istore_n (pc' := 24) (ls' := [some (mR 26), some (mI x1), some (mI x2), some (mI v1), some (mI x4)]) dX4_distanceOf_23 rfl (by decide) rfl ?_
      refine j_iload_n (pc' := 25) dX4_distanceOf_24 rfl rfl ?_
      refine j_iload_n (pc' := 26) dX4_distanceOf_25 rfl rfl ?_
      refine j_isub (pc' := 27) dX4_distanceOf_26 rfl ?_
      refine j_istore_n (pc' := 28) (ls' := [some (mR 26), some (mI x1), some (mI (x2 - v1)), some (mI v1), some (mI x4)]) dX4_distanceOf_27 rfl (by decide) rfl ?_
      refine j_iinc (pc' := 31) (z' := (x4 + 1)) (ls' := [some (mR 26), some (mI x1), some (mI (x2 - v1)), some (mI v1), some (mI (x4 + 1))]) dX4_distanceOf_28 rfl rfl rfl (by decide) rfl ?_
      refine j_goto (tgt := 10) dX4_distanceOf_31 rfl ?_
      exact j_wk (j_widen (ce := 0) (ke := 0) (by decide) (by decide) (ih h)) (And.intro rfl (And.intro rfl (And.intro rfl (And.intro rfl (And.intro rfl trivial)))))
theorem c_X4_distanceOf_e {Ω : mO} {d : Nat} (hd : 9 ≤ d) {r : Int × mD} {x1 : Int} {D : mD} (h : F_X4_distanceOf x1 D = some r) : J Ω M_X4_distanceOf d 0 0 (rI r.1 r.2) 0 [some (mR 26), some (mI x1), none, none, none] [] (SK, D, false) 0 0 := by
  rw [F_X4_distanceOf] at h
  refine j_aload_n (pc' := 1) dX4_distanceOf_0 rfl rfl ?_
  refine k_getI (pc' := 4) (sl := 5) (z := D 26 5) kc_4 w_292 (by decide) dX4_distanceOf_1 rfl (by decide) sk_26 (by decide) rfl rfl ?_
  refine j_istore_n (pc' := 5) (ls' := [some (mR 26), some (mI x1), some (mI (D 26 5)), none, none]) dX4_distanceOf_4 rfl (by decide) rfl ?_
  refine j_iconst (pc' := 6) dX4_distanceOf_5 rfl ?_
  refine j_istore_n (pc' := 7) (ls' := [some (mR 26), some (mI x1), some (mI (D 26 5)), some (mI 0), none]) dX4_distanceOf_6 rfl (by decide) rfl ?_
  refine j_iconst (pc' := 8) dX4_distanceOf_7 rfl ?_
  refine j_istore (pc' := 10) (ls' := [some (mR 26), some (mI x1), some (mI (D 26 5)), some (mI 0), some (mI 0)]) dX4_distanceOf_8 rfl (by decide) rfl ?_
  exact j_wk (j_widen (ce := 0) (ke := 0) (by decide) (by decide) (c_X4_distanceOf_L10 hd _ h)) (And.intro rfl (And.intro rfl (And.intro rfl (And.intro rfl (And.intro rfl trivial)))))
theorem c_X4_distanceOf {d : Nat} (hd : 9 ≤ d) {x1 : Int} {D D' : mD} {v : Int} (h : F_X4_distanceOf x1 D = some (v, D')) : CM d 0 0 M_X4_distanceOf [mR 26, mI x1] (SK, D, false) (rI v D') := CM.intro pn_X4 rfl rfl (Nat.le_of_ble_eq_true rfl) (fun _ => c_X4_distanceOf_e hd h)
theorem c_X6_inkOf_L4 {Ω : mO} {d : Nat} (hd : 2 ≤ d) {t0 : Nat} (hT0 : IsShop t0) {r : Int × mD} {x1 : Int} : ∀ (n : Nat) {x2 x3 : Int} {D : mD}, F_X6_inkOf_L4 t0 x1 n x2 x3 D = some r → J Ω M_X6_inkOf d 0 0 (rI r.1 r.2) 4 [some (mR t0), some (mI x1), some (mI x2), some (mI x3)] [] (SK, D, false) 0 0 := by
  intro n
  induction n with
  | zero => intro x2 x3 D h; exact absurd (show (none : Option (Int × mD)) = some r from h) nofun
  | succ n ih =>
    intro x2 x3 D h
    rw [F_X6_inkOf_L4] at h
    refine j_iload_n (pc' := 5) dX6_inkOf_4 rfl rfl ?_
    refine j_iconst (pc' := 6) dX6_inkOf_5 rfl ?_
    obtain ⟨q1, h⟩ := ck_o h
    refine j_icmp_ge (tgt := 38) (pc' := 9) dX6_inkOf_6 rfl rfl q1 (by decide) (fun b1 => ?_) (fun b1 => ?_)
    · replace h := ite_t b1 h
      refine j_iload_n (pc' := 39) dX6_inkOf_38 rfl rfl ?_
      exact j_iret dX6_inkOf_39 rfl (by decide) (by decide) (rI_of h)
    · replace h := ite_f b1 h
      refine j_iload_n (pc' := 10) dX6_inkOf_9 rfl rfl ?_
      refine j_aload_n (pc' := 11) dX6_inkOf_10 rfl rfl ?_
      refine k_getR (pc' := 14) (sl := 2) (r := (t0 + 2)) kc_6 w_78 (Or.inl rfl) (by decide) dX6_inkOf_11 rfl (shop_lt hT0) (shopA_0 hT0) (by decide) rfl (shopL_2 hT0) ?_
      refine j_iload_n (pc' := 15) dX6_inkOf_14 rfl rfl ?_
      obtain ⟨q2, h⟩ := ck_o h
      refine k_iald (pc' := 16) (z := D (t0 + 2) x1) dX6_inkOf_15 rfl (shopL_2 hT0) (shopA_2 hT0) (by decide) q2.1 q2.2 rfl ?_
      refine j_aload_n (pc' := 17) dX6_inkOf_16 rfl rfl ?_
      refine j_iload_n (pc' := 18) dX6_inkOf_17 rfl rfl ?_
      refine j_iload_n (pc' := 19) dX6_inkOf_18 rfl rfl ?_
      obtain ⟨v1, D1, e1, h⟩ := bI_o h
      refine k_cV (d' := 1) (pc' := 22) [mI x1, mI x3] [mI (D (t0 + 2) x1), mI x2] (c_X6_leftOf (d := 1) (Nat.le_refl _) hT0 e1) cw_X6_70 kc_6 w_556 w_557 dX6_inkOf_19 rfl (by omega) rfl rfl (shop_lt hT0) (shopA_0 hT0) rfl rfl (by decide) (by decide) ?_
      refine j_isub (pc' := 23) dX6_inkOf_22 rfl ?_
      refine j_aload_n (pc' := 24) dX6_inkOf_23 rfl rfl ?_
      refine j_iload_n (pc' := 25) dX6_inkOf_24 rfl rfl ?_
      refine j_iload_n (pc' := 26) dX6_inkOf_25 rfl rfl ?_
      obtain ⟨v2, D2, e2, h⟩ := bI_o h
      refine k_cV (d' := 1) (pc' := 29) [mI x1, mI x3] [mI ((D (t0 + 2) x1) - v1), mI x2] (c_X6_rightOf (d := 1) (Nat.le_refl _) hT0 e2) cw_X6_74 kc_6 w_552 w_553 dX6_inkOf_26 rfl (by omega) rfl rfl (shop_lt hT0) (shopA_0 hT0) rfl rfl (by decide) (by decide) ?_
      refine j_isub (pc' := 30) dX6_inkOf_29 rfl ?_
      refine j_iadd (pc' := 31) dX6_inkOf_30 rfl ?_
      refine j_istore_n (pc' := 32) (ls' := [some (mR t0), some (mI x1), some (mI (x2 + (((D (t0 + 2) x1) - v1) - v2))), some (mI x3)]) dX6_inkOf_31 rfl (by decide) rfl ?_
      refine j_iinc (pc' := 35) (z' := (x3 + 1)) (ls' := [some (mR t0), some (mI x1), some (mI (x2 + (((D (t0 + 2) x1) - v1) - v2))), some (mI (x3 + 1))]) dX6_inkOf_32 rfl rfl rfl (by decide) rfl ?_
      refine j_goto (tgt := 4) dX6_inkOf_35 rfl ?_
      exact j_wk (j_widen (ce := 0) (ke := 0) (by decide) (by decide) (ih h)) (And.intro rfl (And.intro rfl (And.intro rfl (And.intro rfl trivial))))
theorem c_X6_inkOf_e {Ω : mO} {d : Nat} (hd : 2 ≤ d) {t0 : Nat} (hT0 : IsShop t0) {r : Int × mD} {x1 : Int} {D : mD} (h : F_X6_inkOf t0 x1 D = some r) : J Ω M_X6_inkOf d 0 0 (rI r.1 r.2) 0 [some (mR t0), some (mI x1), none, none] [] (SK, D, false) 0 0 := by
  rw [F_X6_inkOf] at h
  refine j_iconst (pc' := 1) dX6_inkOf_0 rfl ?_
  refine j_istore_n (pc' := 2) (ls' := [some (mR t0), some (mI x1), some (mI 0), none]) dX6_inkOf_1 rfl (by decide) rfl ?_
  refine j_iconst (pc' := 3) dX6_inkOf_2 rfl ?_
  refine j_istore_n (pc' := 4) (ls' := [some (mR t0), some (mI x1), some (mI 0), some (mI 0)]) dX6_inkOf_3 rfl (by decide) rfl ?_
  exact j_wk (j_widen (ce := 0) (ke := 0) (by decide) (by decide) (c_X6_inkOf_L4 hd hT0 _ h)) (And.intro rfl (And.intro rfl (And.intro rfl (And.intro rfl trivial))))
theorem c_X6_inkOf {d : Nat} (hd : 2 ≤ d) {t0 : Nat} (hT0 : IsShop t0) {x1 : Int} {D D' : mD} {v : Int} (h : F_X6_inkOf t0 x1 D = some (v, D')) : CM d 0 0 M_X6_inkOf [mR t0, mI x1] (SK, D, false) (rI v D') := CM.intro pn_X6 rfl rfl (Nat.le_of_ble_eq_true rfl) (fun _ => c_X6_inkOf_e hd hT0 h)
theorem c_X5_harmWith_e {Ω : mO} {d : Nat} (hd : 6 ≤ d) {r : Int × mD} {x1 x2 x3 : Int} {D : mD} (h : F_X5_harmWith x1 x2 x3 D = some r) : J Ω M_X5_harmWith d 0 0 (rI r.1 r.2) 0 [some (mR 29), some (mI x1), some (mI x2), some (mI x3), none] [] (SK, D, false) 0 0 := by
  rw [F_X5_harmWith] at h
  refine j_iconst (pc' := 1) dX5_harmWith_0 rfl ?_
  refine j_iload_n (pc' := 2) dX5_harmWith_1 rfl rfl ?_
  refine j_iload_n (pc' := 3) dX5_harmWith_2 rfl rfl ?_
  refine j_isub (pc' := 4) dX5_harmWith_3 rfl ?_
  obtain ⟨q1, h⟩ := ck_o h
  refine k_max (pc' := 7) cw_X5_27 w_541 dX5_harmWith_4 rfl (by omega) (by decide) q1 rfl (by decide) (by decide) ?_
  refine j_istore (pc' := 9) (ls' := [some (mR 29), some (mI x1), some (mI x2), some (mI x3), some (mI (max 0 (x2 - x3)))]) dX5_harmWith_7 rfl (by decide) rfl ?_
  refine j_iload_n (pc' := 10) dX5_harmWith_9 rfl rfl ?_
  refine j_iload_n (pc' := 11) dX5_harmWith_10 rfl rfl ?_
  refine j_imul (pc' := 12) dX5_harmWith_11 rfl ?_
  refine j_aload_n (pc' := 13) dX5_harmWith_12 rfl rfl ?_
  refine k_getR (pc' := 16) (sl := 0) (r := 3) kc_5 w_312 (Or.inl rfl) (by decide) dX5_harmWith_13 rfl (by decide) sk_29 (by decide) rfl (by decide) ?_
  refine j_aload_n (pc' := 17) dX5_harmWith_16 rfl rfl ?_
  refine k_getR (pc' := 20) (sl := 0) (r := 3) kc_5 w_312 (Or.inl rfl) (by decide) dX5_harmWith_17 rfl (by decide) sk_29 (by decide) rfl (by decide) ?_
  refine k_getR (pc' := 23) (sl := 6) (r := 8) kc_6 w_94 (Or.inl rfl) (by decide) dX5_harmWith_20 rfl (by decide) sk_3 (by decide) rfl (by decide) ?_
  refine j_iload_n (pc' := 24) dX5_harmWith_23 rfl rfl ?_
  obtain ⟨q2, h⟩ := ck_o h
  refine k_iald (pc' := 25) (z := D 8 x1) dX5_harmWith_24 rfl (by decide) sk_8 (by decide) q2.1 q2.2 rfl ?_
  obtain ⟨v1, D1, e1, h⟩ := bI_o h
  refine k_cV (d' := 2) (pc' := 28) [mI (D 8 x1)] [mI (x3 * x3)] (c_X6_inkOf (d := 2) (Nat.le_refl _) shop_3 e1) cw_X5_60 kc_6 w_1063 w_1064 dX5_harmWith_25 rfl (by omega) rfl rfl (by decide) sk_3 rfl rfl (by decide) (by decide) ?_
  refine j_imul (pc' := 29) dX5_harmWith_28 rfl ?_
  refine j_aload_n (pc' := 30) dX5_harmWith_29 rfl rfl ?_
  refine k_getR (pc' := 33) (sl := 3) (r := 30) kc_5 w_315 (Or.inl rfl) (by decide) dX5_harmWith_30 rfl (by decide) sk_29 (by decide) rfl (by decide) ?_
  refine j_iload_n (pc' := 34) dX5_harmWith_33 rfl rfl ?_
  refine j_iconst (pc' := 35) dX5_harmWith_34 rfl ?_
  refine j_iadd (pc' := 36) dX5_harmWith_35 rfl ?_
  refine j_bipush (pc' := 38) dX5_harmWith_36 rfl rfl ?_
  refine j_imul (pc' := 39) dX5_harmWith_38 rfl ?_
  refine j_iload (pc' := 41) dX5_harmWith_39 rfl rfl ?_
  refine j_iadd (pc' := 42) dX5_harmWith_41 rfl ?_
  obtain ⟨q3, h⟩ := ck_o h
  refine k_iald (pc' := 43) (z := D1 30 (((x1 + 1) * 43) + (max 0 (x2 - x3)))) dX5_harmWith_42 rfl (by decide) sk_30 (by decide) q3.1 q3.2 rfl ?_
  refine j_iadd (pc' := 44) dX5_harmWith_43 rfl ?_
  exact j_iret dX5_harmWith_44 rfl (by decide) (by decide) (rI_of h)
theorem c_X5_harmWith {d : Nat} (hd : 6 ≤ d) {x1 x2 x3 : Int} {D D' : mD} {v : Int} (h : F_X5_harmWith x1 x2 x3 D = some (v, D')) : CM d 0 0 M_X5_harmWith [mR 29, mI x1, mI x2, mI x3] (SK, D, false) (rI v D') := CM.intro pn_X5 rfl rfl (Nat.le_of_ble_eq_true rfl) (fun _ => c_X5_harmWith_e hd h)
theorem c_X5_mostOf_e {Ω : mO} {d : Nat} (hd : 6 ≤ d) {r : Int × mD} {x1 : Int} {D : mD} (h : F_X5_mostOf x1 D = some r) : J Ω M_X5_mostOf d 0 0 (rI r.1 r.2) 0 [some (mR 29), some (mI x1)] [] (SK, D, false) 0 0 := by
  rw [F_X5_mostOf] at h
  refine j_aload_n (pc' := 1) dX5_mostOf_0 rfl rfl ?_
  refine k_getR (pc' := 4) (sl := 1) (r := 17) kc_5 w_313 (Or.inl rfl) (by decide) dX5_mostOf_1 rfl (by decide) sk_29 (by decide) rfl (by decide) ?_
  refine k_getR (pc' := 7) (sl := 1) (r := 19) kc_9 w_214 (Or.inl rfl) (by decide) dX5_mostOf_4 rfl (by decide) sk_17 (by decide) rfl (by decide) ?_
  refine j_iload_n (pc' := 8) dX5_mostOf_7 rfl rfl ?_
  obtain ⟨q1, h⟩ := ck_o h
  refine k_iald (pc' := 9) (z := D 19 x1) dX5_mostOf_8 rfl (by decide) sk_19 (by decide) q1.1 q1.2 rfl ?_
  obtain ⟨q2, h⟩ := ck_o h
  refine j_if_le (tgt := 16) (pc' := 12) dX5_mostOf_9 rfl rfl q2 (fun b1 => ?_) (fun b1 => ?_)
  · replace h := ite_t b1 h
    refine j_iconst (pc' := 17) dX5_mostOf_16 rfl ?_
    refine j_aload_n (pc' := 18) dX5_mostOf_17 rfl rfl ?_
    refine k_getR (pc' := 21) (sl := 2) (r := 22) kc_5 w_314 (Or.inl rfl) (by decide) dX5_mostOf_18 rfl (by decide) sk_29 (by decide) rfl (by decide) ?_
    refine j_iload_n (pc' := 22) dX5_mostOf_21 rfl rfl ?_
    obtain ⟨v1, D1, e1, h⟩ := bI_o h
    refine k_cV (d' := 1) (pc' := 25) [mI x1] [mI 3] (c_X0_widthOf (d := 1) (Nat.le_refl _) e1) cw_X5_68 kc_0 w_475 w_476 dX5_mostOf_22 rfl (by omega) rfl rfl (by decide) sk_22 rfl rfl (by decide) (by decide) ?_
    refine j_iconst (pc' := 26) dX5_mostOf_25 rfl ?_
    refine j_isub (pc' := 27) dX5_mostOf_26 rfl ?_
    obtain ⟨q3, h⟩ := ck_o h
    refine k_min (pc' := 30) cw_X5_54 w_560 dX5_mostOf_27 rfl (by omega) (by decide) q3 rfl (by decide) (by decide) ?_
    exact j_iret dX5_mostOf_30 rfl (by decide) (by decide) (rI_of h)
  · replace h := ite_f b1 h
    refine j_iconst (pc' := 13) dX5_mostOf_12 rfl ?_
    refine j_goto (tgt := 30) dX5_mostOf_13 rfl ?_
    exact j_iret dX5_mostOf_30 rfl (by decide) (by decide) (rI_of h)
theorem c_X5_mostOf {d : Nat} (hd : 6 ≤ d) {x1 : Int} {D D' : mD} {v : Int} (h : F_X5_mostOf x1 D = some (v, D')) : CM d 0 0 M_X5_mostOf [mR 29, mI x1] (SK, D, false) (rI v D') := CM.intro pn_X5 rfl rfl (Nat.le_of_ble_eq_true rfl) (fun _ => c_X5_mostOf_e hd h)
theorem c_X5_leastFrom_L6 {Ω : mO} {d : Nat} (hd : 7 ≤ d) {r : Int × mD} {x1 x2 : Int} : ∀ (n : Nat) {x3 x4 : Int} {D : mD}, F_X5_leastFrom_L6 x1 x2 n x3 x4 D = some r → J Ω M_X5_leastFrom d 0 0 (rI r.1 r.2) 6 [some (mR 29), some (mI x1), some (mI x2), some (mI x3), some (mI x4)] [] (SK, D, false) 0 0 := by
  intro n
  induction n with
  | zero => intro x3 x4 D h; exact absurd (show (none : Option (Int × mD)) = some r from h) nofun
  | succ n ih =>
    intro x3 x4 D h
    rw [F_X5_leastFrom_L6] at h
    refine j_iload (pc' := 8) dX5_leastFrom_6 rfl rfl ?_
    refine j_aload_n (pc' := 9) dX5_leastFrom_8 rfl rfl ?_
    refine j_iload_n (pc' := 10) dX5_leastFrom_9 rfl rfl ?_
    obtain ⟨v1, D1, e1, h⟩ := bI_o h
    refine k_cV (d' := 6) (pc' := 13) [mI x1] [mI x4] (c_X5_mostOf (d := 6) (Nat.le_refl _) e1) cw_X5_46 kc_5 w_1323 ws_38 dX5_leastFrom_10 rfl (by omega) rfl rfl (by decide) sk_29 rfl rfl (by decide) (by decide) ?_
    obtain ⟨q1, h⟩ := ck_o h
    obtain ⟨q2, h⟩ := ck_o h
    refine j_icmp_gt (tgt := 35) (pc' := 16) dX5_leastFrom_13 rfl rfl q1 q2 (fun b1 => ?_) (fun b1 => ?_)
    · replace h := ite_t b1 h
      refine j_iload_n (pc' := 36) dX5_leastFrom_35 rfl rfl ?_
      exact j_iret dX5_leastFrom_36 rfl (by decide) (by decide) (rI_of h)
    · replace h := ite_f b1 h
      refine j_iload_n (pc' := 17) dX5_leastFrom_16 rfl rfl ?_
      refine j_aload_n (pc' := 18) dX5_leastFrom_17 rfl rfl ?_
      refine j_iload_n (pc' := 19) dX5_leastFrom_18 rfl rfl ?_
      refine j_iload_n (pc' := 20) dX5_leastFrom_19 rfl rfl ?_
      refine j_iload (pc' := 22) dX5_leastFrom_20 rfl rfl ?_
      obtain ⟨v2, D2, e2, h⟩ := bI_o h
      refine k_cV (d' := 6) (pc' := 25) [mI x1, mI x2, mI x4] [mI x3] (c_X5_harmWith (d := 6) (Nat.le_refl _) e2) cw_X5_50 kc_5 w_1329 ws_39 dX5_leastFrom_22 rfl (by omega) rfl rfl (by decide) sk_29 rfl rfl (by decide) (by decide) ?_
      obtain ⟨q3, h⟩ := ck_o h
      obtain ⟨q4, h⟩ := ck_o h
      refine k_min (pc' := 28) cw_X5_54 w_560 dX5_leastFrom_25 rfl (by omega) q3 q4 rfl (by decide) (by decide) ?_
      refine j_istore_n (pc' := 29) (ls' := [some (mR 29), some (mI x1), some (mI x2), some (mI (min x3 v2)), some (mI x4)]) dX5_leastFrom_28 rfl (by decide) rfl ?_
      refine j_iinc (pc' := 32) (z' := (x4 + 1)) (ls' := [some (mR 29), some (mI x1), some (mI x2), some (mI (min x3 v2)), some (mI (x4 + 1))]) dX5_leastFrom_29 rfl rfl rfl (by decide) rfl ?_
      refine j_goto (tgt := 6) dX5_leastFrom_32 rfl ?_
      exact j_wk (j_widen (ce := 0) (ke := 0) (by decide) (by decide) (ih h)) (And.intro rfl (And.intro rfl (And.intro rfl (And.intro rfl (And.intro rfl trivial)))))
theorem c_X5_leastFrom_e {Ω : mO} {d : Nat} (hd : 7 ≤ d) {r : Int × mD} {x1 x2 : Int} {D : mD} (h : F_X5_leastFrom x1 x2 D = some r) : J Ω M_X5_leastFrom d 0 0 (rI r.1 r.2) 0 [some (mR 29), some (mI x1), some (mI x2), none, none] [] (SK, D, false) 0 0 := by
  rw [F_X5_leastFrom] at h
  refine j_ldcI (pc' := 2) (n := 1000000) w_1316 dX5_leastFrom_0 rfl ?_
  refine j_istore_n (pc' := 3) (ls' := [some (mR 29), some (mI x1), some (mI x2), some (mI 1000000), none]) dX5_leastFrom_2 rfl (by decide) rfl ?_
  refine j_iconst (pc' := 4) dX5_leastFrom_3 rfl ?_
  refine j_istore (pc' := 6) (ls' := [some (mR 29), some (mI x1), some (mI x2), some (mI 1000000), some (mI 0)]) dX5_leastFrom_4 rfl (by decide) rfl ?_
  exact j_wk (j_widen (ce := 0) (ke := 0) (by decide) (by decide) (c_X5_leastFrom_L6 hd _ h)) (And.intro rfl (And.intro rfl (And.intro rfl (And.intro rfl (And.intro rfl trivial)))))
theorem c_X5_leastFrom {d : Nat} (hd : 7 ≤ d) {x1 x2 : Int} {D D' : mD} {v : Int} (h : F_X5_leastFrom x1 x2 D = some (v, D')) : CM d 0 0 M_X5_leastFrom [mR 29, mI x1, mI x2] (SK, D, false) (rI v D') := CM.intro pn_X5 rfl rfl (Nat.le_of_ble_eq_true rfl) (fun _ => c_X5_leastFrom_e hd h)
theorem c_X5_leastHarm_L81 {Ω : mO} {d : Nat} (hd : 8 ≤ d) {r : Int × mD} {K74 : Int → mD → RI} {x3 : Int} (hK74 : ∀ {x3 : Int} {D : mD}, K74 x3 D = some r → J Ω M_X5_leastHarm d 0 0 (rI r.1 r.2) 74 [some (mR 29), none, none, some (mI x3), none] [] (SK, D, false) 0 0) : ∀ (n : Nat) {x4 : Int} {D : mD}, F_X5_leastHarm_L81 K74 x3 n x4 D = some r → J Ω M_X5_leastHarm d 0 0 (rI r.1 r.2) 81 [some (mR 29), none, none, some (mI x3), some (mI x4)] [] (SK, D, false) 0 0 := by
  intro n
  induction n with
  | zero => intro x4 D h; exact absurd (show (none : Option (Int × mD)) = some r from h) nofun
  | succ n ih =>
    intro x4 D h
    rw [F_X5_leastHarm_L81] at h
    refine j_iload (pc' := 83) dX5_leastHarm_81 rfl rfl ?_
    refine j_aload_n (pc' := 84) dX5_leastHarm_83 rfl rfl ?_
    refine k_getI (pc' := 87) (sl := 4) (z := D 29 4) kc_5 w_316 (by decide) dX5_leastHarm_84 rfl (by decide) sk_29 (by decide) rfl rfl ?_
    obtain ⟨q1, h⟩ := ck_o h
    obtain ⟨q2, h⟩ := ck_o h
    refine j_icmp_gt (tgt := 115) (pc' := 90) dX5_leastHarm_87 rfl rfl q1 q2 (fun b1 => ?_) (fun b1 => ?_)
    · replace h := ite_t b1 h
      refine j_iinc (pc' := 118) (z' := (x3 - 1)) (ls' := [some (mR 29), none, none, some (mI (x3 - 1)), some (mI x4)]) dX5_leastHarm_115 rfl rfl (by omega) (by decide) rfl ?_
      refine j_goto (tgt := 74) dX5_leastHarm_118 rfl ?_
      exact j_wk (j_widen (ce := 0) (ke := 0) (by decide) (by decide) (hK74 h)) (And.intro rfl (And.intro rfl trivial))
    · replace h := ite_f b1 h
      refine j_aload_n (pc' := 91) dX5_leastHarm_90 rfl rfl ?_
      refine k_getR (pc' := 94) (sl := 3) (r := 30) kc_5 w_315 (Or.inl rfl) (by decide) dX5_leastHarm_91 rfl (by decide) sk_29 (by decide) rfl (by decide) ?_
      refine j_iload_n (pc' := 95) dX5_leastHarm_94 rfl rfl ?_
      refine j_bipush (pc' := 97) dX5_leastHarm_95 rfl rfl ?_
      refine j_imul (pc' := 98) dX5_leastHarm_97 rfl ?_
      refine j_iload (pc' := 100) dX5_leastHarm_98 rfl rfl ?_
      refine j_iadd (pc' := 101) dX5_leastHarm_100 rfl ?_
      refine j_aload_n (pc' := 102) dX5_leastHarm_101 rfl rfl ?_
      refine j_iload_n (pc' := 103) dX5_leastHarm_102 rfl rfl ?_
      refine j_iload (pc' := 105) dX5_leastHarm_103 rfl rfl ?_
      obtain ⟨v1, D1, e1, h⟩ := bI_o h
      refine k_cV (d' := 7) (pc' := 108) [mI x3, mI x4] [mI ((x3 * 43) + x4), mR 30] (c_X5_leastFrom (d := 7) (Nat.le_refl _) e1) cw_X5_43 kc_5 w_1319 ws_37 dX5_leastHarm_105 rfl (by omega) rfl rfl (by decide) sk_29 rfl rfl (by decide) (by decide) ?_
      obtain ⟨q3, h⟩ := ck_o h
      refine k_iast (pc' := 109) dX5_leastHarm_108 rfl (by decide) sk_30 (by decide) q3.1 q3.2 ?_
      refine j_iinc (pc' := 112) (z' := (x4 + 1)) (ls' := [some (mR 29), none, none, some (mI x3), some (mI (x4 + 1))]) dX5_leastHarm_109 rfl rfl rfl (by decide) rfl ?_
      refine j_goto (tgt := 81) dX5_leastHarm_112 rfl ?_
      exact j_wk (j_widen (ce := 0) (ke := 0) (by decide) (by decide) (ih h)) (And.intro rfl (And.intro rfl (And.intro rfl trivial)))
theorem c_X5_leastHarm_L74 {Ω : mO} {d : Nat} (hd : 8 ≤ d) {r : Int × mD} : ∀ (n : Nat) {x3 : Int} {D : mD}, F_X5_leastHarm_L74 n x3 D = some r → J Ω M_X5_leastHarm d 0 0 (rI r.1 r.2) 74 [some (mR 29), none, none, some (mI x3), none] [] (SK, D, false) 0 0 := by
  intro n
  induction n with
  | zero => intro x3 D h; exact absurd (show (none : Option (Int × mD)) = some r from h) nofun
  | succ n ih =>
    intro x3 D h
    rw [F_X5_leastHarm_L74] at h
    refine j_iload_n (pc' := 75) dX5_leastHarm_74 rfl rfl ?_
    obtain ⟨q1, h⟩ := ck_o h
    refine j_if_lt (tgt := 121) (pc' := 78) dX5_leastHarm_75 rfl rfl q1 (fun b1 => ?_) (fun b1 => ?_)
    · replace h := ite_t b1 h
      refine j_aload_n (pc' := 122) dX5_leastHarm_121 rfl rfl ?_
      refine k_getR (pc' := 125) (sl := 3) (r := 30) kc_5 w_315 (Or.inl rfl) (by decide) dX5_leastHarm_122 rfl (by decide) sk_29 (by decide) rfl (by decide) ?_
      refine j_aload_n (pc' := 126) dX5_leastHarm_125 rfl rfl ?_
      refine k_getI (pc' := 129) (sl := 4) (z := D 29 4) kc_5 w_316 (by decide) dX5_leastHarm_126 rfl (by decide) sk_29 (by decide) rfl rfl ?_
      obtain ⟨q2, h⟩ := ck_o h
      refine k_iald (pc' := 130) (z := D 30 (D 29 4)) dX5_leastHarm_129 rfl (by decide) sk_30 (by decide) q2.1 q2.2 rfl ?_
      refine j_ldcI (pc' := 132) (n := 1000000) w_1316 dX5_leastHarm_130 rfl ?_
      obtain ⟨q3, h⟩ := ck_o h
      have hj : J Ω M_X5_leastHarm d 0 0 (rI r.1 r.2) 148 [none, none, none, none, none] [mI (if (D 30 (D 29 4)) < 1000000 then (D 30 (D 29 4)) else (-1 : Int))] (SK, D, false) 0 0 := by
        exact j_iret dX5_leastHarm_148 rfl (by decide) (by decide) (rI_of h)
      refine j_icmp_lt (tgt := 139) (pc' := 135) dX5_leastHarm_132 rfl rfl q3 (by decide) (fun b2 => ?_) (fun b2 => ?_)
      · refine j_aload_n (pc' := 140) dX5_leastHarm_139 rfl rfl ?_
        refine k_getR (pc' := 143) (sl := 3) (r := 30) kc_5 w_315 (Or.inl rfl) (by decide) dX5_leastHarm_140 rfl (by decide) sk_29 (by decide) rfl (by decide) ?_
        refine j_aload_n (pc' := 144) dX5_leastHarm_143 rfl rfl ?_
        refine k_getI (pc' := 147) (sl := 4) (z := D 29 4) kc_5 w_316 (by decide) dX5_leastHarm_144 rfl (by decide) sk_29 (by decide) rfl rfl ?_
        refine k_iald (pc' := 148) (z := D 30 (D 29 4)) dX5_leastHarm_147 rfl (by decide) sk_30 (by decide) q2.1 q2.2 rfl ?_
        have hj := hj
        try simp only [if_pos b2] at hj
        exact j_wk hj (trivial)
      · refine j_iconst (pc' := 136) dX5_leastHarm_135 rfl ?_
        refine j_goto (tgt := 148) dX5_leastHarm_136 rfl ?_
        have hj := hj
        try simp only [if_neg b2] at hj
        exact j_wk hj (trivial)
    · replace h := ite_f b1 h
      refine j_iconst (pc' := 79) dX5_leastHarm_78 rfl ?_
      refine j_istore (pc' := 81) (ls' := [some (mR 29), none, none, some (mI x3), some (mI 0)]) dX5_leastHarm_79 rfl (by decide) rfl ?_
      exact j_wk (j_widen (ce := 0) (ke := 0) (by decide) (by decide) (c_X5_leastHarm_L81 hd ih _ h)) (And.intro rfl (And.intro rfl (And.intro rfl trivial)))
theorem c_X5_leastHarm_L40 {Ω : mO} {d : Nat} (hd : 8 ≤ d) {r : Int × mD} {x2 : Int} : ∀ (n : Nat) {x3 : Int} {D : mD}, F_X5_leastHarm_L40 x2 n x3 D = some r → J Ω M_X5_leastHarm d 0 0 (rI r.1 r.2) 40 [some (mR 29), none, some (mI x2), some (mI x3), none] [] (SK, D, false) 0 0 := by
  intro n
  induction n with
  | zero => intro x3 D h; exact absurd (show (none : Option (Int × mD)) = some r from h) nofun
  | succ n ih =>
    intro x3 D h
    rw [F_X5_leastHarm_L40] at h
    refine j_iload_n (pc' := 41) dX5_leastHarm_40 rfl rfl ?_
    refine j_aload_n (pc' := 42) dX5_leastHarm_41 rfl rfl ?_
    refine k_getI (pc' := 45) (sl := 4) (z := D 29 4) kc_5 w_316 (by decide) dX5_leastHarm_42 rfl (by decide) sk_29 (by decide) rfl rfl ?_
    obtain ⟨q1, h⟩ := ck_o h
    obtain ⟨q2, h⟩ := ck_o h
    refine j_icmp_gt (tgt := 64) (pc' := 48) dX5_leastHarm_45 rfl rfl q1 q2 (fun b1 => ?_) (fun b1 => ?_)
    · replace h := ite_t b1 h
      refine j_aload_n (pc' := 65) dX5_leastHarm_64 rfl rfl ?_
      refine k_getR (pc' := 68) (sl := 0) (r := 3) kc_5 w_312 (Or.inl rfl) (by decide) dX5_leastHarm_65 rfl (by decide) sk_29 (by decide) rfl (by decide) ?_
      refine k_getI (pc' := 71) (sl := 5) (z := D 3 5) kc_6 w_86 (by decide) dX5_leastHarm_68 rfl (by decide) sk_3 (by decide) rfl rfl ?_
      refine j_iconst (pc' := 72) dX5_leastHarm_71 rfl ?_
      refine j_isub (pc' := 73) dX5_leastHarm_72 rfl ?_
      refine j_istore_n (pc' := 74) (ls' := [some (mR 29), none, some (mI x2), some (mI ((D 3 5) - 1)), none]) dX5_leastHarm_73 rfl (by decide) rfl ?_
      exact j_wk (j_widen (ce := 0) (ke := 0) (by decide) (by decide) (c_X5_leastHarm_L74 hd _ h)) (And.intro rfl (And.intro rfl trivial))
    · replace h := ite_f b1 h
      refine j_aload_n (pc' := 49) dX5_leastHarm_48 rfl rfl ?_
      refine k_getR (pc' := 52) (sl := 3) (r := 30) kc_5 w_315 (Or.inl rfl) (by decide) dX5_leastHarm_49 rfl (by decide) sk_29 (by decide) rfl (by decide) ?_
      refine j_iload_n (pc' := 53) dX5_leastHarm_52 rfl rfl ?_
      refine j_iload_n (pc' := 54) dX5_leastHarm_53 rfl rfl ?_
      refine j_iadd (pc' := 55) dX5_leastHarm_54 rfl ?_
      refine j_ldcI (pc' := 57) (n := 1000000) w_1316 dX5_leastHarm_55 rfl ?_
      obtain ⟨q3, h⟩ := ck_o h
      refine k_iast (pc' := 58) dX5_leastHarm_57 rfl (by decide) sk_30 (by decide) q3.1 q3.2 ?_
      refine j_iinc (pc' := 61) (z' := (x3 + 1)) (ls' := [some (mR 29), none, some (mI x2), some (mI (x3 + 1)), none]) dX5_leastHarm_58 rfl rfl rfl (by decide) rfl ?_
      refine j_goto (tgt := 40) dX5_leastHarm_61 rfl ?_
      exact j_wk (j_widen (ce := 0) (ke := 0) (by decide) (by decide) (ih h)) (And.intro rfl (And.intro rfl (And.intro rfl trivial)))
theorem c_X5_leastHarm_e {Ω : mO} {d : Nat} (hd : 8 ≤ d) {r : Int × mD} {x1 : Int} {D : mD} (h : F_X5_leastHarm x1 D = some r) : J Ω M_X5_leastHarm d 0 0 (rI r.1 r.2) 0 [some (mR 29), some (mI x1), none, none, none] [] (SK, D, false) 0 0 := by
  rw [F_X5_leastHarm] at h
  refine j_aload_n (pc' := 1) dX5_leastHarm_0 rfl rfl ?_
  refine j_iconst (pc' := 2) dX5_leastHarm_1 rfl ?_
  refine j_iload_n (pc' := 3) dX5_leastHarm_2 rfl rfl ?_
  obtain ⟨q1, h⟩ := ck_o h
  refine k_max (pc' := 6) cw_X5_27 w_541 dX5_leastHarm_3 rfl (by omega) (by decide) q1 rfl (by decide) (by decide) ?_
  refine k_putI (pc' := 9) (sl := 4) (i' := 4) kc_5 w_316 (by decide) (Or.inl rfl) dX5_leastHarm_6 rfl (by decide) sk_29 (by decide) ⟨rfl, rfl⟩ rfl ?_
  refine j_aload_n (pc' := 10) dX5_leastHarm_9 rfl rfl ?_
  refine k_getI (pc' := 13) (sl := 4) (z := (pD D 29 4 (max 0 x1)) 29 4) kc_5 w_316 (by decide) dX5_leastHarm_10 rfl (by decide) sk_29 (by decide) rfl rfl ?_
  refine j_bipush (pc' := 15) dX5_leastHarm_13 rfl rfl ?_
  obtain ⟨q2, h⟩ := ck_o h
  refine j_icmp_lt (tgt := 20) (pc' := 18) dX5_leastHarm_15 rfl rfl q2 (by decide) (fun b1 => ?_) (fun b1 => ?_)
  · replace h := ite_t b1 h
    refine j_aload_n (pc' := 21) dX5_leastHarm_20 rfl rfl ?_
    refine k_getR (pc' := 24) (sl := 0) (r := 3) kc_5 w_312 (Or.inl rfl) (by decide) dX5_leastHarm_21 rfl (by decide) sk_29 (by decide) rfl (by decide) ?_
    refine k_getI (pc' := 27) (sl := 5) (z := (pD D 29 4 (max 0 x1)) 3 5) kc_6 w_86 (by decide) dX5_leastHarm_24 rfl (by decide) sk_3 (by decide) rfl rfl ?_
    refine j_bipush (pc' := 29) dX5_leastHarm_27 rfl rfl ?_
    refine j_imul (pc' := 30) dX5_leastHarm_29 rfl ?_
    refine j_istore_n (pc' := 31) (ls' := [some (mR 29), some (mI x1), some (mI (((pD D 29 4 (max 0 x1)) 3 5) * 43)), none, none]) dX5_leastHarm_30 rfl (by decide) rfl ?_
    refine j_aload_n (pc' := 32) dX5_leastHarm_31 rfl rfl ?_
    refine k_getR (pc' := 35) (sl := 3) (r := 30) kc_5 w_315 (Or.inl rfl) (by decide) dX5_leastHarm_32 rfl (by decide) sk_29 (by decide) rfl (by decide) ?_
    refine j_iload_n (pc' := 36) dX5_leastHarm_35 rfl rfl ?_
    refine j_iconst (pc' := 37) dX5_leastHarm_36 rfl ?_
    obtain ⟨q3, h⟩ := ck_o h
    refine k_iast (pc' := 38) dX5_leastHarm_37 rfl (by decide) sk_30 (by decide) q3.1 q3.2 ?_
    refine j_iconst (pc' := 39) dX5_leastHarm_38 rfl ?_
    refine j_istore_n (pc' := 40) (ls' := [some (mR 29), some (mI x1), some (mI (((pD D 29 4 (max 0 x1)) 3 5) * 43)), some (mI 1), none]) dX5_leastHarm_39 rfl (by decide) rfl ?_
    exact j_wk (j_widen (ce := 0) (ke := 0) (by decide) (by decide) (c_X5_leastHarm_L40 hd _ h)) (And.intro rfl (And.intro rfl (And.intro rfl trivial)))
  · replace h := ite_f b1 h
    refine j_iconst (pc' := 19) dX5_leastHarm_18 rfl ?_
    exact j_iret dX5_leastHarm_19 rfl (by decide) (by decide) (rI_of h)
theorem c_X5_leastHarm {d : Nat} (hd : 8 ≤ d) {x1 : Int} {D D' : mD} {v : Int} (h : F_X5_leastHarm x1 D = some (v, D')) : CM d 0 0 M_X5_leastHarm [mR 29, mI x1] (SK, D, false) (rI v D') := CM.intro pn_X5 rfl rfl (Nat.le_of_ble_eq_true rfl) (fun _ => c_X5_leastHarm_e hd h)
theorem c_X5_squeezedBits_j72 {Ω : mO} {d : Nat} (hd : 7 ≤ d) {r : Int × mD} {K9 : Int → Int → Int → mD → RI} {x1 x2 x3 x4 : Int} (hK9 : ∀ {x1 x2 x3 : Int} {D : mD}, K9 x1 x2 x3 D = some r → J Ω M_X5_squeezedBits d 0 0 (rI r.1 r.2) 9 [some (mR 29), some (mI x1), some (mI x2), some (mI x3), none] [] (SK, D, false) 0 0) {D : mD} (h : F_X5_squeezedBits_j72 K9 x1 x2 x3 x4 D = some r) : J Ω M_X5_squeezedBits d 0 0 (rI r.1 r.2) 72 [some (mR 29), some (mI x1), some (mI x2), some (mI x3), some (mI x4)] [] (SK, D, false) 0 0 := by
  rw [F_X5_squeezedBits_j72] at h
  refine j_iconst (pc' := 73) dX5_squeezedBits_72 rfl ?_
  refine j_iload_n (pc' := 74) dX5_squeezedBits_73 rfl rfl ?_
  refine j_iload (pc' := 76) dX5_squeezedBits_74 rfl rfl ?_
  refine j_isub (pc' := 77) dX5_squeezedBits_76 rfl ?_
  obtain ⟨q1, h⟩ := ck_o h
  refine k_max (pc' := 80) cw_X5_27 w_541 dX5_squeezedBits_77 rfl (by omega) (by decide) q1 rfl (by decide) (by decide) ?_
  refine j_istore_n (pc' := 81) (ls' := [some (mR 29), some (mI x1), some (mI (max 0 (x2 - x4))), some (mI x3), some (mI x4)]) dX5_squeezedBits_80 rfl (by decide) rfl ?_
  refine j_iinc (pc' := 84) (z' := (x3 + 1)) (ls' := [some (mR 29), some (mI x1), some (mI (max 0 (x2 - x4))), some (mI (x3 + 1)), some (mI x4)]) dX5_squeezedBits_81 rfl rfl rfl (by decide) rfl ?_
  refine j_goto (tgt := 9) dX5_squeezedBits_84 rfl ?_
  exact j_wk (j_widen (ce := 0) (ke := 0) (by decide) (by decide) (hK9 h)) (And.intro rfl (And.intro rfl (And.intro rfl (And.intro rfl trivial))))
theorem c_X5_squeezedBits_j61 {Ω : mO} {d : Nat} (hd : 7 ≤ d) {r : Int × mD} {K9 : Int → Int → Int → mD → RI} {x1 x2 x3 x4 : Int} (hK9 : ∀ {x1 x2 x3 : Int} {D : mD}, K9 x1 x2 x3 D = some r → J Ω M_X5_squeezedBits d 0 0 (rI r.1 r.2) 9 [some (mR 29), some (mI x1), some (mI x2), some (mI x3), none] [] (SK, D, false) 0 0) {D : mD} (h : F_X5_squeezedBits_j61 K9 x1 x2 x3 x4 D = some r) : J Ω M_X5_squeezedBits d 0 0 (rI r.1 r.2) 61 [some (mR 29), some (mI x1), some (mI x2), some (mI x3), some (mI x4)] [] (SK, D, false) 0 0 := by
  rw [F_X5_squeezedBits_j61] at h
  refine j_iload (pc' := 63) dX5_squeezedBits_61 rfl rfl ?_
  obtain ⟨q1, h⟩ := ck_o h
  have hj : J Ω M_X5_squeezedBits d 0 0 (rI r.1 r.2) 72 [some (mR 29), some (mI (if x4 ≤ 0 then x1 else (bOr x1 (bShl 1 x3)))), some (mI x2), some (mI x3), some (mI x4)] [] (SK, D, false) 0 0 := by
    exact j_wk (j_widen (ce := 0) (ke := 0) (by decide) (by decide) (c_X5_squeezedBits_j72 hd hK9 h)) (And.intro rfl (And.intro rfl (And.intro rfl (And.intro rfl (And.intro rfl trivial)))))
  refine j_if_le (tgt := 72) (pc' := 66) dX5_squeezedBits_63 rfl rfl q1 (fun b1 => ?_) (fun b1 => ?_)
  · have hj := hj
    try simp only [if_pos b1] at hj
    exact j_wk hj (And.intro rfl (And.intro rfl (And.intro rfl (And.intro rfl (And.intro rfl trivial)))))
  · refine j_iload_n (pc' := 67) dX5_squeezedBits_66 rfl rfl ?_
    refine j_iconst (pc' := 68) dX5_squeezedBits_67 rfl ?_
    refine j_iload_n (pc' := 69) dX5_squeezedBits_68 rfl rfl ?_
    refine j_ishl (pc' := 70) dX5_squeezedBits_69 rfl ?_
    refine j_ior (pc' := 71) dX5_squeezedBits_70 rfl ?_
    refine j_istore_n (pc' := 72) (ls' := [some (mR 29), some (mI (bOr x1 (bShl 1 x3))), some (mI x2), some (mI x3), some (mI x4)]) dX5_squeezedBits_71 rfl (by decide) rfl ?_
    have hj := hj
    try simp only [if_neg b1] at hj
    exact j_wk hj (And.intro rfl (And.intro rfl (And.intro rfl (And.intro rfl (And.intro rfl trivial)))))
theorem c_X5_squeezedBits_L23 {Ω : mO} {d : Nat} (hd : 7 ≤ d) {r : Int × mD} {K9 : Int → Int → Int → mD → RI} {x1 x2 x3 : Int} (hK9 : ∀ {x1 x2 x3 : Int} {D : mD}, K9 x1 x2 x3 D = some r → J Ω M_X5_squeezedBits d 0 0 (rI r.1 r.2) 9 [some (mR 29), some (mI x1), some (mI x2), some (mI x3), none] [] (SK, D, false) 0 0) : ∀ (n : Nat) {x4 : Int} {D : mD}, F_X5_squeezedBits_L23 K9 x1 x2 x3 n x4 D = some r → J Ω M_X5_squeezedBits d 0 0 (rI r.1 r.2) 23 [some (mR 29), some (mI x1), some (mI x2), some (mI x3), some (mI x4)] [] (SK, D, false) 0 0 := by
  intro n
  induction n with
  | zero => intro x4 D h; exact absurd (show (none : Option (Int × mD)) = some r from h) nofun
  | succ n ih =>
    intro x4 D h
    rw [F_X5_squeezedBits_L23] at h
    refine j_iload (pc' := 25) dX5_squeezedBits_23 rfl rfl ?_
    refine j_aload_n (pc' := 26) dX5_squeezedBits_25 rfl rfl ?_
    refine j_iload_n (pc' := 27) dX5_squeezedBits_26 rfl rfl ?_
    obtain ⟨v1, D1, e1, h⟩ := bI_o h
    refine k_cV (d' := 6) (pc' := 30) [mI x3] [mI x4] (c_X5_mostOf (d := 6) (Nat.le_refl _) e1) cw_X5_46 kc_5 w_1323 ws_38 dX5_squeezedBits_27 rfl (by omega) rfl rfl (by decide) sk_29 rfl rfl (by decide) (by decide) ?_
    obtain ⟨q1, h⟩ := ck_o h
    obtain ⟨q2, h⟩ := ck_o h
    refine j_icmp_ge (tgt := 61) (pc' := 33) dX5_squeezedBits_30 rfl rfl q1 q2 (fun b1 => ?_) (fun b1 => ?_)
    · replace h := ite_t b1 h
      exact j_wk (j_widen (ce := 0) (ke := 0) (by decide) (by decide) (c_X5_squeezedBits_j61 hd hK9 h)) (And.intro rfl (And.intro rfl (And.intro rfl (And.intro rfl (And.intro rfl trivial)))))
    · replace h := ite_f b1 h
      refine j_aload_n (pc' := 34) dX5_squeezedBits_33 rfl rfl ?_
      refine j_iload_n (pc' := 35) dX5_squeezedBits_34 rfl rfl ?_
      refine j_iload_n (pc' := 36) dX5_squeezedBits_35 rfl rfl ?_
      refine j_iload (pc' := 38) dX5_squeezedBits_36 rfl rfl ?_
      obtain ⟨v2, D2, e2, h⟩ := bI_o h
      refine k_cV (d' := 6) (pc' := 41) [mI x3, mI x2, mI x4] [] (c_X5_harmWith (d := 6) (Nat.le_refl _) e2) cw_X5_50 kc_5 w_1329 ws_39 dX5_squeezedBits_38 rfl (by omega) rfl rfl (by decide) sk_29 rfl rfl (by decide) (by decide) ?_
      refine j_aload_n (pc' := 42) dX5_squeezedBits_41 rfl rfl ?_
      refine k_getR (pc' := 45) (sl := 3) (r := 30) kc_5 w_315 (Or.inl rfl) (by decide) dX5_squeezedBits_42 rfl (by decide) sk_29 (by decide) rfl (by decide) ?_
      refine j_iload_n (pc' := 46) dX5_squeezedBits_45 rfl rfl ?_
      refine j_bipush (pc' := 48) dX5_squeezedBits_46 rfl rfl ?_
      refine j_imul (pc' := 49) dX5_squeezedBits_48 rfl ?_
      refine j_iload_n (pc' := 50) dX5_squeezedBits_49 rfl rfl ?_
      refine j_iadd (pc' := 51) dX5_squeezedBits_50 rfl ?_
      obtain ⟨q3, h⟩ := ck_o h
      refine k_iald (pc' := 52) (z := D2 30 ((x3 * 43) + x2)) dX5_squeezedBits_51 rfl (by decide) sk_30 (by decide) q3.1 q3.2 rfl ?_
      obtain ⟨q4, h⟩ := ck_o h
      obtain ⟨q5, h⟩ := ck_o h
      refine j_icmp_eq (tgt := 61) (pc' := 55) dX5_squeezedBits_52 rfl rfl q4 q5 (fun b2 => ?_) (fun b2 => ?_)
      · replace h := ite_t b2 h
        exact j_wk (j_widen (ce := 0) (ke := 0) (by decide) (by decide) (c_X5_squeezedBits_j61 hd hK9 h)) (And.intro rfl (And.intro rfl (And.intro rfl (And.intro rfl (And.intro rfl trivial)))))
      · replace h := ite_f b2 h
        refine j_iinc (pc' := 58) (z' := (x4 + 1)) (ls' := [some (mR 29), some (mI x1), some (mI x2), some (mI x3), some (mI (x4 + 1))]) dX5_squeezedBits_55 rfl rfl rfl (by decide) rfl ?_
        refine j_goto (tgt := 23) dX5_squeezedBits_58 rfl ?_
        exact j_wk (j_widen (ce := 0) (ke := 0) (by decide) (by decide) (ih h)) (And.intro rfl (And.intro rfl (And.intro rfl (And.intro rfl (And.intro rfl trivial)))))
theorem c_X5_squeezedBits_L9 {Ω : mO} {d : Nat} (hd : 7 ≤ d) {r : Int × mD} : ∀ (n : Nat) {x1 x2 x3 : Int} {D : mD}, F_X5_squeezedBits_L9 n x1 x2 x3 D = some r → J Ω M_X5_squeezedBits d 0 0 (rI r.1 r.2) 9 [some (mR 29), some (mI x1), some (mI x2), some (mI x3), none] [] (SK, D, false) 0 0 := by
  intro n
  induction n with
  | zero => intro x1 x2 x3 D h; exact absurd (show (none : Option (Int × mD)) = some r from h) nofun
  | succ n ih =>
    intro x1 x2 x3 D h
    rw [F_X5_squeezedBits_L9] at h
    refine j_iload_n (pc' := 10) dX5_squeezedBits_9 rfl rfl ?_
    refine j_aload_n (pc' := 11) dX5_squeezedBits_10 rfl rfl ?_
    refine k_getR (pc' := 14) (sl := 0) (r := 3) kc_5 w_312 (Or.inl rfl) (by decide) dX5_squeezedBits_11 rfl (by decide) sk_29 (by decide) rfl (by decide) ?_
    refine k_getI (pc' := 17) (sl := 5) (z := D 3 5) kc_6 w_86 (by decide) dX5_squeezedBits_14 rfl (by decide) sk_3 (by decide) rfl rfl ?_
    obtain ⟨q1, h⟩ := ck_o h
    obtain ⟨q2, h⟩ := ck_o h
    refine j_icmp_ge (tgt := 87) (pc' := 20) dX5_squeezedBits_17 rfl rfl q1 q2 (fun b1 => ?_) (fun b1 => ?_)
    · replace h := ite_t b1 h
      refine j_iload_n (pc' := 88) dX5_squeezedBits_87 rfl rfl ?_
      exact j_iret dX5_squeezedBits_88 rfl (by decide) (by decide) (rI_of h)
    · replace h := ite_f b1 h
      refine j_iconst (pc' := 21) dX5_squeezedBits_20 rfl ?_
      refine j_istore (pc' := 23) (ls' := [some (mR 29), some (mI x1), some (mI x2), some (mI x3), some (mI 0)]) dX5_squeezedBits_21 rfl (by decide) rfl ?_
      exact j_wk (j_widen (ce := 0) (ke := 0) (by decide) (by decide) (c_X5_squeezedBits_L23 hd ih _ h)) (And.intro rfl (And.intro rfl (And.intro rfl (And.intro rfl (And.intro rfl trivial)))))
theorem c_X5_squeezedBits_e {Ω : mO} {d : Nat} (hd : 7 ≤ d) {r : Int × mD} {D : mD} (h : F_X5_squeezedBits D = some r) : J Ω M_X5_squeezedBits d 0 0 (rI r.1 r.2) 0 [some (mR 29), none, none, none, none] [] (SK, D, false) 0 0 := by
  rw [F_X5_squeezedBits] at h
  refine j_iconst (pc' := 1) dX5_squeezedBits_0 rfl ?_
  refine j_istore_n (pc' := 2) (ls' := [some (mR 29), some (mI 0), none, none, none]) dX5_squeezedBits_1 rfl (by decide) rfl ?_
  refine j_aload_n (pc' := 3) dX5_squeezedBits_2 rfl rfl ?_
  refine k_getI (pc' := 6) (sl := 4) (z := D 29 4) kc_5 w_316 (by decide) dX5_squeezedBits_3 rfl (by decide) sk_29 (by decide) rfl rfl ?_
  refine j_istore_n (pc' := 7) (ls' := [some (mR 29), some (mI 0), some (mI (D 29 4)), none, none]) dX5_squeezedBits_6 rfl (by decide) rfl ?_
  refine j_iconst (pc' := 8) dX5_squeezedBits_7 rfl ?_
  refine j_istore_n (pc' := 9) (ls' := [some (mR 29), some (mI 0), some (mI (D 29 4)), some (mI 0), none]) dX5_squeezedBits_8 rfl (by decide) rfl ?_
  exact j_wk (j_widen (ce := 0) (ke := 0) (by decide) (by decide) (c_X5_squeezedBits_L9 hd _ h)) (And.intro rfl (And.intro rfl (And.intro rfl (And.intro rfl trivial))))
theorem c_X5_squeezedBits {d : Nat} (hd : 7 ≤ d) {D D' : mD} {v : Int} (h : F_X5_squeezedBits D = some (v, D')) : CM d 0 0 M_X5_squeezedBits [mR 29] (SK, D, false) (rI v D') := CM.intro pn_X5 rfl rfl (Nat.le_of_ble_eq_true rfl) (fun _ => c_X5_squeezedBits_e hd h)
