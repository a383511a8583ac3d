/-! CERTIFICATES: the bytecode does what F says (by program) -/
theorem c_X12_readAll_L28 {Ω : mO} {d : Nat} (hd : 53 ≤ d) {r : Int × mD} {x1 : Int} : ∀ (n : Nat) {x2 : Int} {D : mD}, F_X12_readAll_L28 x1 n x2 D = some r → J Ω M_X12_readAll d 0 0 (rI r.1 r.2) 28 [some (mR 133), some (mI x1), some (mI x2)] [] (SK, D, false) 0 0 := by
  intro n
  induction n with
  | zero => intro x2 D h; exact absurd (show (none : Option (Int × mD)) = some r from h) nofun
  | succ n ih =>
    intro x2 D h
    rw [F_X12_readAll_L28] at h
    refine j_aload_n (pc' := 29) dX12_readAll_28 rfl rfl ?_
    refine j_iload_n (pc' := 30) dX12_readAll_29 rfl rfl ?_
    refine j_iload_n (pc' := 31) dX12_readAll_30 rfl rfl ?_
    obtain ⟨v1, D1, e1, h⟩ := bI_o h
    refine k_cV (d' := 52) (pc' := 34) [mI x1, mI x2] [] (c_X12_readLine (d := 52) (Nat.le_refl _) e1) cw_X12_274 kc_11 w_1608 ws_47 dX12_readAll_31 rfl (by omega) rfl rfl (by decide) sk_133 rfl rfl (by decide) (by decide) ?_
    obtain ⟨q1, h⟩ := ck_o h
    refine j_if_ne (tgt := 39) (pc' := 37) dX12_readAll_34 rfl rfl q1 (fun b1 => ?_) (fun b1 => ?_)
    · replace h := ite_f b1 h
      refine j_aload_n (pc' := 40) dX12_readAll_39 rfl rfl ?_
      obtain ⟨v2, D2, e2, h⟩ := bI_o h
      refine k_cVv (d' := 2) (pc' := 43) [] [] (c_X12_blanks (d := 2) (Nat.le_refl _) e2) cw_X12_117 kc_11 w_1600 ws_45 dX12_readAll_40 rfl (by omega) rfl rfl (by decide) sk_133 rfl rfl (by decide) (by decide) ?_
      refine j_aload_n (pc' := 44) dX12_readAll_43 rfl rfl ?_
      refine k_getI (pc' := 47) (sl := 10) (z := D2 133 10) kc_11 w_1487 (by decide) dX12_readAll_44 rfl (by decide) sk_133 (by decide) rfl rfl ?_
      refine j_aload_n (pc' := 48) dX12_readAll_47 rfl rfl ?_
      refine k_getI (pc' := 51) (sl := 11) (z := D2 133 11) kc_11 w_1488 (by decide) dX12_readAll_48 rfl (by decide) sk_133 (by decide) rfl rfl ?_
      obtain ⟨q2, h⟩ := ck_o h
      obtain ⟨q3, h⟩ := ck_o h
      refine j_icmp_ne (tgt := 58) (pc' := 54) dX12_readAll_51 rfl rfl q2 q3 (fun b2 => ?_) (fun b2 => ?_)
      · replace h := ite_f b2 h
        refine j_aload_n (pc' := 59) dX12_readAll_58 rfl rfl ?_
        refine j_bipush (pc' := 61) dX12_readAll_59 rfl rfl ?_
        refine j_bipush (pc' := 63) dX12_readAll_61 rfl rfl ?_
        obtain ⟨v3, D3, e3, h⟩ := bI_o h
        refine k_cV (d' := 1) (pc' := 66) [mI 59, mI 59] [] (c_X12_isAt (d := 1) (Nat.le_refl _) e3) cw_X12_110 kc_11 w_1604 ws_46 dX12_readAll_63 rfl (by omega) rfl rfl (by decide) sk_133 rfl rfl (by decide) (by decide) ?_
        obtain ⟨q4, h⟩ := ck_o h
        refine j_if_ne (tgt := 71) (pc' := 69) dX12_readAll_66 rfl rfl q4 (fun b3 => ?_) (fun b3 => ?_)
        · replace h := ite_f b3 h
          refine j_aload_n (pc' := 72) dX12_readAll_71 rfl rfl ?_
          refine j_dup (pc' := 73) dX12_readAll_72 rfl rfl ?_
          refine k_getI (pc' := 76) (sl := 10) (z := D3 133 10) kc_11 w_1487 (by decide) dX12_readAll_73 rfl (by decide) sk_133 (by decide) rfl rfl ?_
          refine j_iconst (pc' := 77) dX12_readAll_76 rfl ?_
          refine j_iadd (pc' := 78) dX12_readAll_77 rfl ?_
          refine k_putI (pc' := 81) (sl := 10) (i' := 10) kc_11 w_1487 (by decide) (Or.inl rfl) dX12_readAll_78 rfl (by decide) sk_133 (by decide) ⟨rfl, rfl⟩ rfl ?_
          refine j_iinc (pc' := 84) (z' := (x2 + 1)) (ls' := [some (mR 133), some (mI x1), some (mI (x2 + 1))]) dX12_readAll_81 rfl rfl rfl (by decide) rfl ?_
          refine j_goto (tgt := 28) dX12_readAll_84 rfl ?_
          exact j_wk (j_widen (ce := 0) (ke := 0) (by decide) (by decide) (ih h)) (And.intro rfl (And.intro rfl (And.intro rfl trivial)))
        · replace h := ite_t b3 h
          refine j_iconst (pc' := 70) dX12_readAll_69 rfl ?_
          exact j_iret dX12_readAll_70 rfl (by decide) (by decide) (rI_of h)
      · replace h := ite_t b2 h
        refine j_iload_n (pc' := 55) dX12_readAll_54 rfl rfl ?_
        refine j_iconst (pc' := 56) dX12_readAll_55 rfl ?_
        refine j_iadd (pc' := 57) dX12_readAll_56 rfl ?_
        exact j_iret dX12_readAll_57 rfl (by decide) (by decide) (rI_of h)
    · replace h := ite_t b1 h
      refine j_iconst (pc' := 38) dX12_readAll_37 rfl ?_
      exact j_iret dX12_readAll_38 rfl (by decide) (by decide) (rI_of h)
theorem c_X12_readAll_e {Ω : mO} {d : Nat} (hd : 53 ≤ d) {r : Int × mD} {x1 : Int} {D : mD} (h : F_X12_readAll x1 D = some r) : J Ω M_X12_readAll d 0 0 (rI r.1 r.2) 0 [some (mR 133), some (mI x1), none] [] (SK, D, false) 0 0 := by
  rw [F_X12_readAll] at h
  refine j_aload_n (pc' := 1) dX12_readAll_0 rfl rfl ?_
  obtain ⟨v1, D1, e1, h⟩ := bI_o h
  refine k_cVv (d' := 1) (pc' := 4) [] [] (c_X12_uses (d := 1) (Nat.le_refl _) e1) cw_X12_271 kc_11 w_1596 ws_44 dX12_readAll_1 rfl (by omega) rfl rfl (by decide) sk_133 rfl rfl (by decide) (by decide) ?_
  refine j_aload_n (pc' := 5) dX12_readAll_4 rfl rfl ?_
  refine j_iconst (pc' := 6) dX12_readAll_5 rfl ?_
  refine k_putI (pc' := 9) (sl := 16) (i' := 16) kc_11 w_1493 (by decide) (Or.inl rfl) dX12_readAll_6 rfl (by decide) sk_133 (by decide) ⟨rfl, rfl⟩ rfl ?_
  refine j_aload_n (pc' := 10) dX12_readAll_9 rfl rfl ?_
  obtain ⟨v2, D2, e2, h⟩ := bI_o h
  refine k_cVv (d' := 2) (pc' := 13) [] [] (c_X12_blanks (d := 2) (Nat.le_refl _) e2) cw_X12_117 kc_11 w_1600 ws_45 dX12_readAll_10 rfl (by omega) rfl rfl (by decide) sk_133 rfl rfl (by decide) (by decide) ?_
  refine j_aload_n (pc' := 14) dX12_readAll_13 rfl rfl ?_
  refine k_getI (pc' := 17) (sl := 10) (z := D2 133 10) kc_11 w_1487 (by decide) dX12_readAll_14 rfl (by decide) sk_133 (by decide) rfl rfl ?_
  refine j_aload_n (pc' := 18) dX12_readAll_17 rfl rfl ?_
  refine k_getI (pc' := 21) (sl := 11) (z := D2 133 11) kc_11 w_1488 (by decide) dX12_readAll_18 rfl (by decide) sk_133 (by decide) rfl rfl ?_
  obtain ⟨q1, h⟩ := ck_o h
  obtain ⟨q2, h⟩ := ck_o h
  refine j_icmp_ne (tgt := 26) (pc' := 24) dX12_readAll_21 rfl rfl q1 q2 (fun b1 => ?_) (fun b1 => ?_)
  · replace h := ite_f b1 h
    refine j_iconst (pc' := 27) dX12_readAll_26 rfl ?_
    refine j_istore_n (pc' := 28) (ls' := [some (mR 133), some (mI x1), some (mI 0)]) dX12_readAll_27 rfl (by decide) rfl ?_
    exact j_wk (j_widen (ce := 0) (ke := 0) (by decide) (by decide) (c_X12_readAll_L28 hd _ h)) (And.intro rfl (And.intro rfl (And.intro rfl trivial)))
  · replace h := ite_t b1 h
    refine j_iconst (pc' := 25) dX12_readAll_24 rfl ?_
    exact j_iret dX12_readAll_25 rfl (by decide) (by decide) (rI_of h)
theorem c_X12_readAll {d : Nat} (hd : 53 ≤ d) {x1 : Int} {D D' : mD} {v : Int} (h : F_X12_readAll x1 D = some (v, D')) : CM d 0 0 M_X12_readAll [mR 133, mI x1] (SK, D, false) (rI v D') := CM.intro pn_X12 rfl rfl (Nat.le_of_ble_eq_true rfl) (fun _ => c_X12_readAll_e hd h)
theorem c_X12_shop_L93 {Ω : mO} {d : Nat} (hd : 54 ≤ d) {r : Int × mD} : ∀ (n : Nat) {x2 : Int} {D : mD}, F_X12_shop_L93 n x2 D = some r → J Ω M_X12_shop d 0 0 (rI r.1 r.2) 93 [some (mR 133), none, some (mI x2)] [] (SK, D, false) 0 0 := by
  intro n
  induction n with
  | zero => intro x2 D h; exact absurd (show (none : Option (Int × mD)) = some r from h) nofun
  | succ n ih =>
    intro x2 D h
    rw [F_X12_shop_L93] at h
    refine j_iload_n (pc' := 94) dX12_shop_93 rfl rfl ?_
    refine j_sipush (pc' := 97) dX12_shop_94 rfl rfl ?_
    obtain ⟨q1, h⟩ := ck_o h
    refine j_icmp_ge (tgt := 118) (pc' := 100) dX12_shop_97 rfl rfl q1 (by decide) (fun b1 => ?_) (fun b1 => ?_)
    · replace h := ite_t b1 h
      refine j_iconst (pc' := 119) dX12_shop_118 rfl ?_
      exact j_iret dX12_shop_119 rfl (by decide) (by decide) (rI_of h)
    · replace h := ite_f b1 h
      refine j_aload_n (pc' := 101) dX12_shop_100 rfl rfl ?_
      refine k_getR (pc' := 104) (sl := 1) (r := 134) kc_11 w_1478 (Or.inl rfl) (by decide) dX12_shop_101 rfl (by decide) sk_133 (by decide) rfl (by decide) ?_
      refine j_iload_n (pc' := 105) dX12_shop_104 rfl rfl ?_
      refine j_aload_n (pc' := 106) dX12_shop_105 rfl rfl ?_
      refine k_getR (pc' := 109) (sl := 3) (r := 136) kc_11 w_1480 (Or.inl rfl) (by decide) dX12_shop_106 rfl (by decide) sk_133 (by decide) rfl (by decide) ?_
      refine j_iload_n (pc' := 110) dX12_shop_109 rfl rfl ?_
      obtain ⟨q2, h⟩ := ck_o h
      refine k_iald (pc' := 111) (z := D 136 x2) dX12_shop_110 rfl (by decide) sk_136 (by decide) q2.1 q2.2 rfl ?_
      obtain ⟨q3, h⟩ := ck_o h
      refine k_iast (pc' := 112) dX12_shop_111 rfl (by decide) sk_134 (by decide) q3.1 q3.2 ?_
      refine j_iinc (pc' := 115) (z' := (x2 + 1)) (ls' := [some (mR 133), none, some (mI (x2 + 1))]) dX12_shop_112 rfl rfl rfl (by decide) rfl ?_
      refine j_goto (tgt := 93) dX12_shop_115 rfl ?_
      exact j_wk (j_widen (ce := 0) (ke := 0) (by decide) (by decide) (ih h)) (And.intro rfl (And.intro rfl trivial))
theorem c_X12_shop_j84 {Ω : mO} {d : Nat} (hd : 54 ≤ d) {r : Int × mD} {s1 : Int} {D : mD} (h : F_X12_shop_j84 s1 D = some r) : J Ω M_X12_shop d 0 0 (rI r.1 r.2) 84 [some (mR 133), none, none] [mI s1, mR 133] (SK, D, false) 0 0 := by
  rw [F_X12_shop_j84] at h
  refine j_iconst (pc' := 85) dX12_shop_84 rfl ?_
  obtain ⟨v1, D1, e1, h⟩ := bI_o h
  refine k_cV (d' := 1) (pc' := 88) [mI s1, mI 2] [] (c_X12_throwsIf (d := 1) (Nat.le_refl _) e1) cw_X12_282 kc_11 w_1753 ws_76 dX12_shop_85 rfl (by omega) rfl rfl (by decide) sk_133 rfl rfl (by decide) (by decide) ?_
  obtain ⟨q1, h⟩ := ck_o h
  refine j_if_eq (tgt := 120) (pc' := 91) dX12_shop_88 rfl rfl q1 (fun b1 => ?_) (fun b1 => ?_)
  · replace h := ite_t b1 h
    refine j_aload_n (pc' := 121) dX12_shop_120 rfl rfl ?_
    refine k_getR (pc' := 124) (sl := 1) (r := 134) kc_11 w_1478 (Or.inl rfl) (by decide) dX12_shop_121 rfl (by decide) sk_133 (by decide) rfl (by decide) ?_
    refine j_bipush (pc' := 126) dX12_shop_124 rfl rfl ?_
    refine j_dup2 (pc' := 127) dX12_shop_126 rfl rfl rfl ?_
    refine k_iald (pc' := 128) (z := D1 134 9) dX12_shop_127 rfl (by decide) sk_134 (by decide) (by decide) (by decide) rfl ?_
    refine j_iconst (pc' := 129) dX12_shop_128 rfl ?_
    refine j_iadd (pc' := 130) dX12_shop_129 rfl ?_
    refine k_iast (pc' := 131) dX12_shop_130 rfl (by decide) sk_134 (by decide) (by decide) (by decide) ?_
    refine j_aload_n (pc' := 132) dX12_shop_131 rfl rfl ?_
    refine j_iconst (pc' := 133) dX12_shop_132 rfl ?_
    refine k_putI (pc' := 136) (sl := 7) (i' := 7) kc_11 w_1484 (by decide) (Or.inl rfl) dX12_shop_133 rfl (by decide) sk_133 (by decide) ⟨rfl, rfl⟩ rfl ?_
    refine j_aload_n (pc' := 137) dX12_shop_136 rfl rfl ?_
    refine k_getR (pc' := 140) (sl := 1) (r := 134) kc_11 w_1478 (Or.inl rfl) (by decide) dX12_shop_137 rfl (by decide) sk_133 (by decide) rfl (by decide) ?_
    refine j_bipush (pc' := 142) dX12_shop_140 rfl rfl ?_
    refine k_iald (pc' := 143) (z := (pD (pD D1 134 9 ((D1 134 9) + 1)) 133 7 0) 134 9) dX12_shop_142 rfl (by decide) sk_134 (by decide) (by decide) (by decide) rfl ?_
    exact j_iret dX12_shop_143 rfl (by decide) (by decide) (rI_of h)
  · replace h := ite_f b1 h
    refine j_iconst (pc' := 92) dX12_shop_91 rfl ?_
    refine j_istore_n (pc' := 93) (ls' := [some (mR 133), none, some (mI 0)]) dX12_shop_92 rfl (by decide) rfl ?_
    exact j_wk (j_widen (ce := 0) (ke := 0) (by decide) (by decide) (c_X12_shop_L93 hd _ h)) (And.intro rfl (And.intro rfl trivial))
theorem c_X12_shop_j59 {Ω : mO} {d : Nat} (hd : 54 ≤ d) {r : Int × mD} {s1 : Int} {D : mD} (h : F_X12_shop_j59 s1 D = some r) : J Ω M_X12_shop d 0 0 (rI r.1 r.2) 59 [some (mR 133), none, none] [mI s1, mR 133] (SK, D, false) 0 0 := by
  rw [F_X12_shop_j59] at h
  refine j_iconst (pc' := 60) dX12_shop_59 rfl ?_
  obtain ⟨v1, D1, e1, h⟩ := bI_o h
  refine k_cV (d' := 1) (pc' := 63) [mI s1, mI 1] [] (c_X12_throwsIf (d := 1) (Nat.le_refl _) e1) cw_X12_282 kc_11 w_1753 ws_76 dX12_shop_60 rfl (by omega) rfl rfl (by decide) sk_133 rfl rfl (by decide) (by decide) ?_
  obtain ⟨q1, h⟩ := ck_o h
  refine j_if_ne (tgt := 91) (pc' := 66) dX12_shop_63 rfl rfl q1 (fun b1 => ?_) (fun b1 => ?_)
  · replace h := ite_f b1 h
    refine j_iconst (pc' := 92) dX12_shop_91 rfl ?_
    refine j_istore_n (pc' := 93) (ls' := [some (mR 133), none, some (mI 0)]) dX12_shop_92 rfl (by decide) rfl ?_
    exact j_wk (j_widen (ce := 0) (ke := 0) (by decide) (by decide) (c_X12_shop_L93 hd _ h)) (And.intro rfl (And.intro rfl trivial))
  · replace h := ite_t b1 h
    refine j_aload_n (pc' := 67) dX12_shop_66 rfl rfl ?_
    refine j_aload_n (pc' := 68) dX12_shop_67 rfl rfl ?_
    refine k_getR (pc' := 71) (sl := 1) (r := 134) kc_11 w_1478 (Or.inl rfl) (by decide) dX12_shop_68 rfl (by decide) sk_133 (by decide) rfl (by decide) ?_
    refine j_bipush (pc' := 73) dX12_shop_71 rfl rfl ?_
    refine k_iald (pc' := 74) (z := D1 134 9) dX12_shop_73 rfl (by decide) sk_134 (by decide) (by decide) (by decide) rfl ?_
    refine j_bipush (pc' := 76) dX12_shop_74 rfl rfl ?_
    obtain ⟨q2, h⟩ := ck_o h
    have hj : J Ω M_X12_shop d 0 0 (rI r.1 r.2) 84 [some (mR 133), none, none] [mI (if (D1 134 9) = 12 then (1 : Int) else (0 : Int)), mR 133] (SK, D1, false) 0 0 := by
      exact j_wk (j_widen (ce := 0) (ke := 0) (by decide) (by decide) (c_X12_shop_j84 hd h)) (And.intro rfl trivial)
    refine j_icmp_ne (tgt := 83) (pc' := 79) dX12_shop_76 rfl rfl q2 (by decide) (fun b2 => ?_) (fun b2 => ?_)
    · refine j_iconst (pc' := 84) dX12_shop_83 rfl ?_
      have hj := hj
      try simp only [if_neg b2] at hj
      exact j_wk hj (And.intro rfl trivial)
    · refine j_iconst (pc' := 80) dX12_shop_79 rfl ?_
      refine j_goto (tgt := 84) dX12_shop_80 rfl ?_
      have hj := hj
      try simp only [if_pos b2] at hj
      exact j_wk hj (And.intro rfl trivial)
theorem c_X12_shop_j46 {Ω : mO} {d : Nat} (hd : 54 ≤ d) {r : Int × mD} {x1 s1 : Int} {D : mD} (h : F_X12_shop_j46 x1 s1 D = some r) : J Ω M_X12_shop d 0 0 (rI r.1 r.2) 46 [some (mR 133), some (mI x1), none] [mI s1, mR 133] (SK, D, false) 0 0 := by
  rw [F_X12_shop_j46] at h
  refine k_putI (pc' := 49) (sl := 14) (i' := 14) kc_11 w_1491 (by decide) (Or.inl rfl) dX12_shop_46 rfl (by decide) sk_133 (by decide) ⟨rfl, rfl⟩ rfl ?_
  refine j_aload_n (pc' := 50) dX12_shop_49 rfl rfl ?_
  refine j_iload_n (pc' := 51) dX12_shop_50 rfl rfl ?_
  obtain ⟨q1, h⟩ := ck_o h
  have hj : J Ω M_X12_shop d 0 0 (rI r.1 r.2) 59 [some (mR 133), none, none] [mI (if 0 ≤ x1 then (0 : Int) else (1 : Int)), mR 133] (SK, (pD D 133 14 s1), false) 0 0 := by
    exact j_wk (j_widen (ce := 0) (ke := 0) (by decide) (by decide) (c_X12_shop_j59 hd h)) (And.intro rfl trivial)
  refine j_if_ge (tgt := 58) (pc' := 54) dX12_shop_51 rfl rfl q1 (fun b1 => ?_) (fun b1 => ?_)
  · refine j_iconst (pc' := 59) dX12_shop_58 rfl ?_
    have hj := hj
    try simp only [if_pos b1] at hj
    exact j_wk hj (And.intro rfl trivial)
  · refine j_iconst (pc' := 55) dX12_shop_54 rfl ?_
    refine j_goto (tgt := 59) dX12_shop_55 rfl ?_
    have hj := hj
    try simp only [if_neg b1] at hj
    exact j_wk hj (And.intro rfl trivial)
theorem c_X12_shop_L2 {Ω : mO} {d : Nat} (hd : 54 ≤ d) {r : Int × mD} : ∀ (n : Nat) {x1 : Int} {D : mD}, F_X12_shop_L2 n x1 D = some r → J Ω M_X12_shop d 0 0 (rI r.1 r.2) 2 [some (mR 133), some (mI x1), none] [] (SK, D, false) 0 0 := by
  intro n
  induction n with
  | zero => intro x1 D h; exact absurd (show (none : Option (Int × mD)) = some r from h) nofun
  | succ n ih =>
    intro x1 D h
    rw [F_X12_shop_L2] at h
    refine j_iload_n (pc' := 3) dX12_shop_2 rfl rfl ?_
    refine j_sipush (pc' := 6) dX12_shop_3 rfl rfl ?_
    obtain ⟨q1, h⟩ := ck_o h
    refine j_icmp_ge (tgt := 27) (pc' := 9) dX12_shop_6 rfl rfl q1 (by decide) (fun b1 => ?_) (fun b1 => ?_)
    · replace h := ite_t b1 h
      refine j_aload_n (pc' := 28) dX12_shop_27 rfl rfl ?_
      refine j_iconst (pc' := 29) dX12_shop_28 rfl ?_
      obtain ⟨v1, D1, e1, h⟩ := bI_o h
      refine k_cV (d' := 53) (pc' := 32) [mI 1] [] (c_X12_readAll (d := 53) (Nat.le_refl _) e1) cw_X12_278 kc_11 w_1592 ws_43 dX12_shop_29 rfl (by omega) rfl rfl (by decide) sk_133 rfl rfl (by decide) (by decide) ?_
      refine j_istore_n (pc' := 33) (ls' := [some (mR 133), some (mI v1), none]) dX12_shop_32 rfl (by decide) rfl ?_
      refine j_aload_n (pc' := 34) dX12_shop_33 rfl rfl ?_
      refine j_iload_n (pc' := 35) dX12_shop_34 rfl rfl ?_
      obtain ⟨q2, h⟩ := ck_o h
      have hj : J Ω M_X12_shop d 0 0 (rI r.1 r.2) 46 [some (mR 133), some (mI v1), none] [mI (if 0 ≤ v1 then (-1 : Int) else (D1 133 12)), mR 133] (SK, D1, false) 0 0 := by
        exact j_wk (j_widen (ce := 0) (ke := 0) (by decide) (by decide) (c_X12_shop_j46 hd h)) (And.intro rfl (And.intro rfl trivial))
      refine j_if_ge (tgt := 45) (pc' := 38) dX12_shop_35 rfl rfl q2 (fun b2 => ?_) (fun b2 => ?_)
      · refine j_iconst (pc' := 46) dX12_shop_45 rfl ?_
        have hj := hj
        try simp only [if_pos b2] at hj
        exact j_wk hj (And.intro rfl (And.intro rfl trivial))
      · refine j_aload_n (pc' := 39) dX12_shop_38 rfl rfl ?_
        refine k_getI (pc' := 42) (sl := 12) (z := D1 133 12) kc_11 w_1489 (by decide) dX12_shop_39 rfl (by decide) sk_133 (by decide) rfl rfl ?_
        refine j_goto (tgt := 46) dX12_shop_42 rfl ?_
        have hj := hj
        try simp only [if_neg b2] at hj
        exact j_wk hj (And.intro rfl (And.intro rfl trivial))
    · replace h := ite_f b1 h
      refine j_aload_n (pc' := 10) dX12_shop_9 rfl rfl ?_
      refine k_getR (pc' := 13) (sl := 3) (r := 136) kc_11 w_1480 (Or.inl rfl) (by decide) dX12_shop_10 rfl (by decide) sk_133 (by decide) rfl (by decide) ?_
      refine j_iload_n (pc' := 14) dX12_shop_13 rfl rfl ?_
      refine j_aload_n (pc' := 15) dX12_shop_14 rfl rfl ?_
      refine k_getR (pc' := 18) (sl := 1) (r := 134) kc_11 w_1478 (Or.inl rfl) (by decide) dX12_shop_15 rfl (by decide) sk_133 (by decide) rfl (by decide) ?_
      refine j_iload_n (pc' := 19) dX12_shop_18 rfl rfl ?_
      obtain ⟨q3, h⟩ := ck_o h
      refine k_iald (pc' := 20) (z := D 134 x1) dX12_shop_19 rfl (by decide) sk_134 (by decide) q3.1 q3.2 rfl ?_
      obtain ⟨q4, h⟩ := ck_o h
      refine k_iast (pc' := 21) dX12_shop_20 rfl (by decide) sk_136 (by decide) q4.1 q4.2 ?_
      refine j_iinc (pc' := 24) (z' := (x1 + 1)) (ls' := [some (mR 133), some (mI (x1 + 1)), none]) dX12_shop_21 rfl rfl rfl (by decide) rfl ?_
      refine j_goto (tgt := 2) dX12_shop_24 rfl ?_
      exact j_wk (j_widen (ce := 0) (ke := 0) (by decide) (by decide) (ih h)) (And.intro rfl (And.intro rfl trivial))
theorem c_X12_shop_e {Ω : mO} {d : Nat} (hd : 54 ≤ d) {r : Int × mD} {D : mD} (h : F_X12_shop D = some r) : J Ω M_X12_shop d 0 0 (rI r.1 r.2) 0 [some (mR 133), none, none] [] (SK, D, false) 0 0 := by
  rw [F_X12_shop] at h
  refine j_iconst (pc' := 1) dX12_shop_0 rfl ?_
  refine j_istore_n (pc' := 2) (ls' := [some (mR 133), some (mI 0), none]) dX12_shop_1 rfl (by decide) rfl ?_
  exact j_wk (j_widen (ce := 0) (ke := 0) (by decide) (by decide) (c_X12_shop_L2 hd _ h)) (And.intro rfl (And.intro rfl trivial))
theorem c_X12_shop {d : Nat} (hd : 54 ≤ d) {D D' : mD} {v : Int} (h : F_X12_shop D = some (v, D')) : CM d 0 0 M_X12_shop [mR 133] (SK, D, false) (rI v D') := CM.intro pn_X12 rfl rfl (Nat.le_of_ble_eq_true rfl) (fun _ => c_X12_shop_e hd h)
theorem c_X12_law_L52 {Ω : mO} {d : Nat} (hd : 54 ≤ d) {r : Int × mD} {x1 : Int} : ∀ (n : Nat) {x2 : Int} {D : mD}, F_X12_law_L52 x1 n x2 D = some r → J Ω M_X12_law d 0 0 (rI r.1 r.2) 52 [some (mR 133), some (mI x1), some (mI x2)] [] (SK, D, false) 0 0 := by
  intro n
  induction n with
  | zero => intro x2 D h; exact absurd (show (none : Option (Int × mD)) = some r from h) nofun
  | succ n ih =>
    intro x2 D h
    rw [F_X12_law_L52] at h
    refine j_iload_n (pc' := 53) dX12_law_52 rfl rfl ?_
    refine j_sipush (pc' := 56) dX12_law_53 rfl rfl ?_
    obtain ⟨q1, h⟩ := ck_o h
    refine j_icmp_ge (tgt := 85) (pc' := 59) dX12_law_56 rfl rfl q1 (by decide) (fun b1 => ?_) (fun b1 => ?_)
    · replace h := ite_t b1 h
      refine j_aload_n (pc' := 86) dX12_law_85 rfl rfl ?_
      refine k_getR (pc' := 89) (sl := 1) (r := 134) kc_11 w_1478 (Or.inl rfl) (by decide) dX12_law_86 rfl (by decide) sk_133 (by decide) rfl (by decide) ?_
      refine j_bipush (pc' := 91) dX12_law_89 rfl rfl ?_
      refine j_iconst (pc' := 92) dX12_law_91 rfl ?_
      refine k_iast (pc' := 93) dX12_law_92 rfl (by decide) sk_134 (by decide) (by decide) (by decide) ?_
      refine j_aload_n (pc' := 94) dX12_law_93 rfl rfl ?_
      refine j_iconst (pc' := 95) dX12_law_94 rfl ?_
      refine k_putI (pc' := 98) (sl := 7) (i' := 7) kc_11 w_1484 (by decide) (Or.inl rfl) dX12_law_95 rfl (by decide) sk_133 (by decide) ⟨rfl, rfl⟩ rfl ?_
      refine j_iload_n (pc' := 99) dX12_law_98 rfl rfl ?_
      exact j_iret dX12_law_99 rfl (by decide) (by decide) (rI_of h)
    · replace h := ite_f b1 h
      refine j_aload_n (pc' := 60) dX12_law_59 rfl rfl ?_
      refine k_getR (pc' := 63) (sl := 1) (r := 134) kc_11 w_1478 (Or.inl rfl) (by decide) dX12_law_60 rfl (by decide) sk_133 (by decide) rfl (by decide) ?_
      refine j_sipush (pc' := 66) dX12_law_63 rfl rfl ?_
      refine j_iload_n (pc' := 67) dX12_law_66 rfl rfl ?_
      refine j_iadd (pc' := 68) dX12_law_67 rfl ?_
      refine j_aload_n (pc' := 69) dX12_law_68 rfl rfl ?_
      refine k_getR (pc' := 72) (sl := 1) (r := 134) kc_11 w_1478 (Or.inl rfl) (by decide) dX12_law_69 rfl (by decide) sk_133 (by decide) rfl (by decide) ?_
      refine j_sipush (pc' := 75) dX12_law_72 rfl rfl ?_
      refine j_iload_n (pc' := 76) dX12_law_75 rfl rfl ?_
      refine j_iadd (pc' := 77) dX12_law_76 rfl ?_
      obtain ⟨q2, h⟩ := ck_o h
      refine k_iald (pc' := 78) (z := D 134 (1324 + x2)) dX12_law_77 rfl (by decide) sk_134 (by decide) q2.1 q2.2 rfl ?_
      obtain ⟨q3, h⟩ := ck_o h
      refine k_iast (pc' := 79) dX12_law_78 rfl (by decide) sk_134 (by decide) q3.1 q3.2 ?_
      refine j_iinc (pc' := 82) (z' := (x2 + 1)) (ls' := [some (mR 133), some (mI x1), some (mI (x2 + 1))]) dX12_law_79 rfl rfl rfl (by decide) rfl ?_
      refine j_goto (tgt := 52) dX12_law_82 rfl ?_
      exact j_wk (j_widen (ce := 0) (ke := 0) (by decide) (by decide) (ih h)) (And.intro rfl (And.intro rfl (And.intro rfl trivial)))
theorem c_X12_law_j32 {Ω : mO} {d : Nat} (hd : 54 ≤ d) {r : Int × mD} {x1 s1 : Int} {D : mD} (h : F_X12_law_j32 x1 s1 D = some r) : J Ω M_X12_law d 0 0 (rI r.1 r.2) 32 [some (mR 133), some (mI x1), none] [mI s1, mR 133] (SK, D, false) 0 0 := by
  rw [F_X12_law_j32] at h
  refine j_iconst (pc' := 33) dX12_law_32 rfl ?_
  obtain ⟨v1, D1, e1, h⟩ := bI_o h
  refine k_cV (d' := 1) (pc' := 36) [mI s1, mI 1] [] (c_X12_throwsIf (d := 1) (Nat.le_refl _) e1) cw_X12_282 kc_11 w_1753 ws_76 dX12_law_33 rfl (by omega) rfl rfl (by decide) sk_133 rfl rfl (by decide) (by decide) ?_
  obtain ⟨q1, h⟩ := ck_o h
  refine j_if_eq (tgt := 41) (pc' := 39) dX12_law_36 rfl rfl q1 (fun b1 => ?_) (fun b1 => ?_)
  · replace h := ite_t b1 h
    refine j_aload_n (pc' := 42) dX12_law_41 rfl rfl ?_
    refine k_getR (pc' := 45) (sl := 1) (r := 134) kc_11 w_1478 (Or.inl rfl) (by decide) dX12_law_42 rfl (by decide) sk_133 (by decide) rfl (by decide) ?_
    refine j_sipush (pc' := 48) dX12_law_45 rfl rfl ?_
    refine j_iload_n (pc' := 49) dX12_law_48 rfl rfl ?_
    refine k_iast (pc' := 50) dX12_law_49 rfl (by decide) sk_134 (by decide) (by decide) (by decide) ?_
    refine j_iconst (pc' := 51) dX12_law_50 rfl ?_
    refine j_istore_n (pc' := 52) (ls' := [some (mR 133), some (mI x1), some (mI 0)]) dX12_law_51 rfl (by decide) rfl ?_
    exact j_wk (j_widen (ce := 0) (ke := 0) (by decide) (by decide) (c_X12_law_L52 hd _ h)) (And.intro rfl (And.intro rfl (And.intro rfl trivial)))
  · replace h := ite_f b1 h
    refine j_iconst (pc' := 40) dX12_law_39 rfl ?_
    exact j_iret dX12_law_40 rfl (by decide) (by decide) (rI_of h)
theorem c_X12_law_j19 {Ω : mO} {d : Nat} (hd : 54 ≤ d) {r : Int × mD} {x1 s1 : Int} {D : mD} (h : F_X12_law_j19 x1 s1 D = some r) : J Ω M_X12_law d 0 0 (rI r.1 r.2) 19 [some (mR 133), some (mI x1), none] [mI s1, mR 133] (SK, D, false) 0 0 := by
  rw [F_X12_law_j19] at h
  refine k_putI (pc' := 22) (sl := 14) (i' := 14) kc_11 w_1491 (by decide) (Or.inl rfl) dX12_law_19 rfl (by decide) sk_133 (by decide) ⟨rfl, rfl⟩ rfl ?_
  refine j_aload_n (pc' := 23) dX12_law_22 rfl rfl ?_
  refine j_iload_n (pc' := 24) dX12_law_23 rfl rfl ?_
  obtain ⟨q1, h⟩ := ck_o h
  have hj : J Ω M_X12_law d 0 0 (rI r.1 r.2) 32 [some (mR 133), some (mI x1), none] [mI (if 0 ≤ x1 then (0 : Int) else (1 : Int)), mR 133] (SK, (pD D 133 14 s1), false) 0 0 := by
    exact j_wk (j_widen (ce := 0) (ke := 0) (by decide) (by decide) (c_X12_law_j32 hd h)) (And.intro rfl (And.intro rfl trivial))
  refine j_if_ge (tgt := 31) (pc' := 27) dX12_law_24 rfl rfl q1 (fun b1 => ?_) (fun b1 => ?_)
  · refine j_iconst (pc' := 32) dX12_law_31 rfl ?_
    have hj := hj
    try simp only [if_pos b1] at hj
    exact j_wk hj (And.intro rfl (And.intro rfl trivial))
  · refine j_iconst (pc' := 28) dX12_law_27 rfl ?_
    refine j_goto (tgt := 32) dX12_law_28 rfl ?_
    have hj := hj
    try simp only [if_neg b1] at hj
    exact j_wk hj (And.intro rfl (And.intro rfl trivial))
theorem c_X12_law_e {Ω : mO} {d : Nat} (hd : 54 ≤ d) {r : Int × mD} {D : mD} (h : F_X12_law D = some r) : J Ω M_X12_law d 0 0 (rI r.1 r.2) 0 [some (mR 133), none, none] [] (SK, D, false) 0 0 := by
  rw [F_X12_law] at h
  refine j_aload_n (pc' := 1) dX12_law_0 rfl rfl ?_
  refine j_iconst (pc' := 2) dX12_law_1 rfl ?_
  obtain ⟨v1, D1, e1, h⟩ := bI_o h
  refine k_cV (d' := 53) (pc' := 5) [mI 0] [] (c_X12_readAll (d := 53) (Nat.le_refl _) e1) cw_X12_278 kc_11 w_1592 ws_43 dX12_law_2 rfl (by omega) rfl rfl (by decide) sk_133 rfl rfl (by decide) (by decide) ?_
  refine j_istore_n (pc' := 6) (ls' := [some (mR 133), some (mI v1), none]) dX12_law_5 rfl (by decide) rfl ?_
  refine j_aload_n (pc' := 7) dX12_law_6 rfl rfl ?_
  refine j_iload_n (pc' := 8) dX12_law_7 rfl rfl ?_
  obtain ⟨q1, h⟩ := ck_o h
  have hj : J Ω M_X12_law d 0 0 (rI r.1 r.2) 19 [some (mR 133), some (mI v1), none] [mI (if 0 ≤ v1 then (-1 : Int) else (D1 133 12)), mR 133] (SK, D1, false) 0 0 := by
    exact j_wk (j_widen (ce := 0) (ke := 0) (by decide) (by decide) (c_X12_law_j19 hd h)) (And.intro rfl (And.intro rfl trivial))
  refine j_if_ge (tgt := 18) (pc' := 11) dX12_law_8 rfl rfl q1 (fun b1 => ?_) (fun b1 => ?_)
  · refine j_iconst (pc' := 19) dX12_law_18 rfl ?_
    have hj := hj
    try simp only [if_pos b1] at hj
    exact j_wk hj (And.intro rfl (And.intro rfl trivial))
  · refine j_aload_n (pc' := 12) dX12_law_11 rfl rfl ?_
    refine k_getI (pc' := 15) (sl := 12) (z := D1 133 12) kc_11 w_1489 (by decide) dX12_law_12 rfl (by decide) sk_133 (by decide) rfl rfl ?_
    refine j_goto (tgt := 19) dX12_law_15 rfl ?_
    have hj := hj
    try simp only [if_neg b1] at hj
    exact j_wk hj (And.intro rfl (And.intro rfl trivial))
theorem c_X12_law {d : Nat} (hd : 54 ≤ d) {D D' : mD} {v : Int} (h : F_X12_law D = some (v, D')) : CM d 0 0 M_X12_law [mR 133] (SK, D, false) (rI v D') := CM.intro pn_X12 rfl rfl (Nat.le_of_ble_eq_true rfl) (fun _ => c_X12_law_e hd h)
theorem c_X12_isSort_e {Ω : mO} {d : Nat} (hd : 3 ≤ d) {r : Int × mD} {x1 : Int} {D : mD} (h : F_X12_isSort x1 D = some r) : J Ω M_X12_isSort d 0 0 (rI r.1 r.2) 0 [some (mR 133), some (mI x1)] [] (SK, D, false) 0 0 := by
  rw [F_X12_isSort] at h
  refine j_aload_n (pc' := 1) dX12_isSort_0 rfl rfl ?_
  refine k_getI (pc' := 4) (sl := 18) (z := D 133 18) kc_11 w_1495 (by decide) dX12_isSort_1 rfl (by decide) sk_133 (by decide) rfl rfl ?_
  obtain ⟨q1, h⟩ := ck_o h
  refine j_if_lt (tgt := 39) (pc' := 7) dX12_isSort_4 rfl rfl q1 (fun b1 => ?_) (fun b1 => ?_)
  · replace h := ite_t b1 h
    refine j_iconst (pc' := 40) dX12_isSort_39 rfl ?_
    exact j_zret dX12_isSort_40 rfl (Or.inl rfl) (by decide) (by decide) (rI_of h)
  · replace h := ite_f b1 h
    refine j_aload_n (pc' := 8) dX12_isSort_7 rfl rfl ?_
    refine j_aload_n (pc' := 9) dX12_isSort_8 rfl rfl ?_
    refine k_getI (pc' := 12) (sl := 18) (z := D 133 18) kc_11 w_1495 (by decide) dX12_isSort_9 rfl (by decide) sk_133 (by decide) rfl rfl ?_
    refine j_iconst (pc' := 13) dX12_isSort_12 rfl ?_
    obtain ⟨v1, D1, e1, h⟩ := bI_o h
    refine k_cV (d' := 2) (pc' := 16) [mI (D 133 18), mI 0] [] (c_X12_its (d := 2) (Nat.le_refl _) e1) cw_X12_84 kc_11 w_1796 ws_82 dX12_isSort_13 rfl (by omega) rfl rfl (by decide) sk_133 rfl rfl (by decide) (by decide) ?_
    refine j_iload_n (pc' := 17) dX12_isSort_16 rfl rfl ?_
    obtain ⟨q2, h⟩ := ck_o h
    obtain ⟨q3, h⟩ := ck_o h
    refine j_icmp_eq (tgt := 35) (pc' := 20) dX12_isSort_17 rfl rfl q2 q3 (fun b2 => ?_) (fun b2 => ?_)
    · replace h := ite_t b2 h
      refine j_iconst (pc' := 36) dX12_isSort_35 rfl ?_
      refine j_goto (tgt := 40) dX12_isSort_36 rfl ?_
      exact j_zret dX12_isSort_40 rfl (Or.inr rfl) (by decide) (by decide) (rI_of h)
    · replace h := ite_f b2 h
      refine j_aload_n (pc' := 21) dX12_isSort_20 rfl rfl ?_
      refine j_aload_n (pc' := 22) dX12_isSort_21 rfl rfl ?_
      refine k_getI (pc' := 25) (sl := 18) (z := D1 133 18) kc_11 w_1495 (by decide) dX12_isSort_22 rfl (by decide) sk_133 (by decide) rfl rfl ?_
      refine j_iconst (pc' := 26) dX12_isSort_25 rfl ?_
      refine j_iadd (pc' := 27) dX12_isSort_26 rfl ?_
      refine j_iconst (pc' := 28) dX12_isSort_27 rfl ?_
      obtain ⟨v2, D2, e2, h⟩ := bI_o h
      refine k_cV (d' := 2) (pc' := 31) [mI ((D1 133 18) + 1), mI 0] [] (c_X12_its (d := 2) (Nat.le_refl _) e2) cw_X12_84 kc_11 w_1796 ws_82 dX12_isSort_28 rfl (by omega) rfl rfl (by decide) sk_133 rfl rfl (by decide) (by decide) ?_
      refine j_iload_n (pc' := 32) dX12_isSort_31 rfl rfl ?_
      obtain ⟨q4, h⟩ := ck_o h
      have hj : J Ω M_X12_isSort d 0 0 (rI r.1 r.2) 40 [none, none] [mI (if v2 = x1 then (1 : Int) else (0 : Int))] (SK, D2, false) 0 0 := by
        obtain ⟨q5, h⟩ := ck_o h
        exact j_zret dX12_isSort_40 rfl q5 (by decide) (by decide) (rI_of h)
      refine j_icmp_ne (tgt := 39) (pc' := 35) dX12_isSort_32 rfl rfl q4 q3 (fun b3 => ?_) (fun b3 => ?_)
      · refine j_iconst (pc' := 40) dX12_isSort_39 rfl ?_
        have hj := hj
        try simp only [if_neg b3] at hj
        exact j_wk hj (trivial)
      · refine j_iconst (pc' := 36) dX12_isSort_35 rfl ?_
        refine j_goto (tgt := 40) dX12_isSort_36 rfl ?_
        have hj := hj
        try simp only [if_pos b3] at hj
        exact j_wk hj (trivial)
theorem c_X12_isSort {d : Nat} (hd : 3 ≤ d) {x1 : Int} {D D' : mD} {v : Int} (h : F_X12_isSort x1 D = some (v, D')) : CM d 0 0 M_X12_isSort [mR 133, mI x1] (SK, D, false) (rI v D') := CM.intro pn_X12 rfl rfl (Nat.le_of_ble_eq_true rfl) (fun _ => c_X12_isSort_e hd h)
theorem c_X12_factOf_e {Ω : mO} {d : Nat} (hd : 4 ≤ d) {r : Int × mD} {x1 x2 x3 : Int} {D : mD} (h : F_X12_factOf x1 x2 x3 D = some r) : J Ω M_X12_factOf d 0 0 (rI r.1 r.2) 0 [some (mR 133), some (mI x1), some (mI x2), some (mI x3)] [] (SK, D, false) 0 0 := by
  rw [F_X12_factOf] at h
  refine j_iload_n (pc' := 1) dX12_factOf_0 rfl rfl ?_
  obtain ⟨q1, h⟩ := ck_o h
  by_cases b1 : x1 = 0
  · replace h := ite_t b1 h
    refine j_tabIn (off := 43) (tgt := 44) dX12_factOf_1 q1 (by rw [b1]; decide) (by rw [b1]; decide) (by rw [b1]; rfl) rfl ?_
    refine j_aload_n (pc' := 45) dX12_factOf_44 rfl rfl ?_
    refine k_getI (pc' := 48) (sl := 18) (z := D 133 18) kc_11 w_1495 (by decide) dX12_factOf_45 rfl (by decide) sk_133 (by decide) rfl rfl ?_
    obtain ⟨q2, h⟩ := ck_o h
    have hj : J Ω M_X12_factOf d 0 0 (rI r.1 r.2) 56 [none, none, none, none] [mI (if 0 ≤ (D 133 18) then x3 else (0 : Int))] (SK, D, false) 0 0 := by
      exact j_iret dX12_factOf_56 rfl (by decide) (by decide) (rI_of h)
    refine j_if_ge (tgt := 55) (pc' := 51) dX12_factOf_48 rfl rfl q2 (fun b2 => ?_) (fun b2 => ?_)
    · refine j_iload_n (pc' := 56) dX12_factOf_55 rfl rfl ?_
      have hj := hj
      try simp only [if_pos b2] at hj
      exact j_wk hj (trivial)
    · refine j_iconst (pc' := 52) dX12_factOf_51 rfl ?_
      refine j_goto (tgt := 56) dX12_factOf_52 rfl ?_
      have hj := hj
      try simp only [if_neg b2] at hj
      exact j_wk hj (trivial)
  replace h := ite_f b1 h
  by_cases b3 : x1 = 1
  · replace h := ite_t b3 h
    refine j_tabIn (off := 56) (tgt := 57) dX12_factOf_1 q1 (by rw [b3]; decide) (by rw [b3]; decide) (by rw [b3]; rfl) rfl ?_
    refine j_aload_n (pc' := 58) dX12_factOf_57 rfl rfl ?_
    refine k_getI (pc' := 61) (sl := 18) (z := D 133 18) kc_11 w_1495 (by decide) dX12_factOf_58 rfl (by decide) sk_133 (by decide) rfl rfl ?_
    obtain ⟨q3, h⟩ := ck_o h
    have hj : J Ω M_X12_factOf d 0 0 (rI r.1 r.2) 72 [none, none, none, none] [mI (if 0 ≤ (D 133 18) then (D 133 19) else (0 : Int))] (SK, D, false) 0 0 := by
      exact j_iret dX12_factOf_72 rfl (by decide) (by decide) (rI_of h)
    refine j_if_ge (tgt := 68) (pc' := 64) dX12_factOf_61 rfl rfl q3 (fun b4 => ?_) (fun b4 => ?_)
    · refine j_aload_n (pc' := 69) dX12_factOf_68 rfl rfl ?_
      refine k_getI (pc' := 72) (sl := 19) (z := D 133 19) kc_11 w_1496 (by decide) dX12_factOf_69 rfl (by decide) sk_133 (by decide) rfl rfl ?_
      have hj := hj
      try simp only [if_pos b4] at hj
      exact j_wk hj (trivial)
    · refine j_iconst (pc' := 65) dX12_factOf_64 rfl ?_
      refine j_goto (tgt := 72) dX12_factOf_65 rfl ?_
      have hj := hj
      try simp only [if_neg b4] at hj
      exact j_wk hj (trivial)
  replace h := ite_f b3 h
  by_cases b5 : x1 = 2
  · replace h := ite_t b5 h
    refine j_tabIn (off := 72) (tgt := 73) dX12_factOf_1 q1 (by rw [b5]; decide) (by rw [b5]; decide) (by rw [b5]; rfl) rfl ?_
    refine j_aload_n (pc' := 74) dX12_factOf_73 rfl rfl ?_
    refine k_getI (pc' := 77) (sl := 18) (z := D 133 18) kc_11 w_1495 (by decide) dX12_factOf_74 rfl (by decide) sk_133 (by decide) rfl rfl ?_
    obtain ⟨q4, h⟩ := ck_o h
    refine j_if_ge (tgt := 84) (pc' := 80) dX12_factOf_77 rfl rfl q4 (fun b6 => ?_) (fun b6 => ?_)
    · replace h := ite_t b6 h
      refine j_aload_n (pc' := 85) dX12_factOf_84 rfl rfl ?_
      refine j_aload_n (pc' := 86) dX12_factOf_85 rfl rfl ?_
      refine k_getI (pc' := 89) (sl := 18) (z := D 133 18) kc_11 w_1495 (by decide) dX12_factOf_86 rfl (by decide) sk_133 (by decide) rfl rfl ?_
      refine j_bipush (pc' := 91) dX12_factOf_89 rfl rfl ?_
      refine j_iload_n (pc' := 92) dX12_factOf_91 rfl rfl ?_
      refine j_iadd (pc' := 93) dX12_factOf_92 rfl ?_
      obtain ⟨v1, D1, e1, h⟩ := bI_o h
      refine k_cV (d' := 2) (pc' := 96) [mI (D 133 18), mI (7 + x3)] [] (c_X12_its (d := 2) (Nat.le_refl _) e1) cw_X12_84 kc_11 w_1796 ws_82 dX12_factOf_93 rfl (by omega) rfl rfl (by decide) sk_133 rfl rfl (by decide) (by decide) ?_
      exact j_iret dX12_factOf_96 rfl (by decide) (by decide) (rI_of h)
    · replace h := ite_f b6 h
      refine j_iconst (pc' := 81) dX12_factOf_80 rfl ?_
      refine j_goto (tgt := 96) dX12_factOf_81 rfl ?_
      exact j_iret dX12_factOf_96 rfl (by decide) (by decide) (rI_of h)
  replace h := ite_f b5 h
  by_cases b7 : x1 = 3
  · replace h := ite_t b7 h
    refine j_tabIn (off := 96) (tgt := 97) dX12_factOf_1 q1 (by rw [b7]; decide) (by rw [b7]; decide) (by rw [b7]; rfl) rfl ?_
    refine j_aload_n (pc' := 98) dX12_factOf_97 rfl rfl ?_
    refine k_getI (pc' := 101) (sl := 18) (z := D 133 18) kc_11 w_1495 (by decide) dX12_factOf_98 rfl (by decide) sk_133 (by decide) rfl rfl ?_
    obtain ⟨q5, h⟩ := ck_o h
    refine j_if_ge (tgt := 108) (pc' := 104) dX12_factOf_101 rfl rfl q5 (fun b8 => ?_) (fun b8 => ?_)
    · replace h := ite_t b8 h
      refine j_aload_n (pc' := 109) dX12_factOf_108 rfl rfl ?_
      refine j_aload_n (pc' := 110) dX12_factOf_109 rfl rfl ?_
      refine k_getI (pc' := 113) (sl := 18) (z := D 133 18) kc_11 w_1495 (by decide) dX12_factOf_110 rfl (by decide) sk_133 (by decide) rfl rfl ?_
      refine j_iconst (pc' := 114) dX12_factOf_113 rfl ?_
      refine j_iadd (pc' := 115) dX12_factOf_114 rfl ?_
      refine j_iconst (pc' := 116) dX12_factOf_115 rfl ?_
      refine j_iload_n (pc' := 117) dX12_factOf_116 rfl rfl ?_
      refine j_iadd (pc' := 118) dX12_factOf_117 rfl ?_
      obtain ⟨v2, D2, e2, h⟩ := bI_o h
      refine k_cV (d' := 2) (pc' := 121) [mI ((D 133 18) + 1), mI (2 + x3)] [] (c_X12_its (d := 2) (Nat.le_refl _) e2) cw_X12_84 kc_11 w_1796 ws_82 dX12_factOf_118 rfl (by omega) rfl rfl (by decide) sk_133 rfl rfl (by decide) (by decide) ?_
      exact j_iret dX12_factOf_121 rfl (by decide) (by decide) (rI_of h)
    · replace h := ite_f b8 h
      refine j_iconst (pc' := 105) dX12_factOf_104 rfl ?_
      refine j_goto (tgt := 121) dX12_factOf_105 rfl ?_
      exact j_iret dX12_factOf_121 rfl (by decide) (by decide) (rI_of h)
  replace h := ite_f b7 h
  by_cases b9 : x1 = 4
  · replace h := ite_t b9 h
    refine j_tabIn (off := 121) (tgt := 122) dX12_factOf_1 q1 (by rw [b9]; decide) (by rw [b9]; decide) (by rw [b9]; rfl) rfl ?_
    refine j_aload_n (pc' := 123) dX12_factOf_122 rfl rfl ?_
    refine k_getI (pc' := 126) (sl := 20) (z := D 133 20) kc_11 w_1497 (by decide) dX12_factOf_123 rfl (by decide) sk_133 (by decide) rfl rfl ?_
    exact j_iret dX12_factOf_126 rfl (by decide) (by decide) (rI_of h)
  replace h := ite_f b9 h
  by_cases b10 : x1 = 5
  · replace h := ite_t b10 h
    refine j_tabIn (off := 126) (tgt := 127) dX12_factOf_1 q1 (by rw [b10]; decide) (by rw [b10]; decide) (by rw [b10]; rfl) rfl ?_
    refine j_aload_n (pc' := 128) dX12_factOf_127 rfl rfl ?_
    refine k_getI (pc' := 131) (sl := 21) (z := D 133 21) kc_11 w_1498 (by decide) dX12_factOf_128 rfl (by decide) sk_133 (by decide) rfl rfl ?_
    exact j_iret dX12_factOf_131 rfl (by decide) (by decide) (rI_of h)
  replace h := ite_f b10 h
  by_cases b11 : x1 = 6
  · replace h := ite_t b11 h
    refine j_tabIn (off := 131) (tgt := 132) dX12_factOf_1 q1 (by rw [b11]; decide) (by rw [b11]; decide) (by rw [b11]; rfl) rfl ?_
    refine j_aload_n (pc' := 133) dX12_factOf_132 rfl rfl ?_
    refine j_iload_n (pc' := 134) dX12_factOf_133 rfl rfl ?_
    obtain ⟨v3, D3, e3, h⟩ := bI_o h
    refine k_cV (d' := 3) (pc' := 137) [mI x2] [] (c_X12_isSort (d := 3) (Nat.le_refl _) e3) cw_X12_297 kc_11 w_1854 ws_95 dX12_factOf_134 rfl (by omega) rfl rfl (by decide) sk_133 rfl rfl (by decide) (by decide) ?_
    obtain ⟨q6, h⟩ := ck_o h
    have hj : J Ω M_X12_factOf d 0 0 (rI r.1 r.2) 145 [none, none, none, none] [mI (if v3 = 0 then (0 : Int) else (1 : Int))] (SK, D3, false) 0 0 := by
      exact j_iret dX12_factOf_145 rfl (by decide) (by decide) (rI_of h)
    refine j_if_eq (tgt := 144) (pc' := 140) dX12_factOf_137 rfl rfl q6 (fun b12 => ?_) (fun b12 => ?_)
    · refine j_iconst (pc' := 145) dX12_factOf_144 rfl ?_
      have hj := hj
      try simp only [if_pos b12] at hj
      exact j_wk hj (trivial)
    · refine j_iconst (pc' := 141) dX12_factOf_140 rfl ?_
      refine j_goto (tgt := 145) dX12_factOf_141 rfl ?_
      have hj := hj
      try simp only [if_neg b12] at hj
      exact j_wk hj (trivial)
  replace h := ite_f b11 h
  refine j_tabOut (tgt := 146) dX12_factOf_1 q1 (by omega) rfl ?_
  refine j_iload_n (pc' := 147) dX12_factOf_146 rfl rfl ?_
  exact j_iret dX12_factOf_147 rfl (by decide) (by decide) (rI_of h)
theorem c_X12_factOf {d : Nat} (hd : 4 ≤ d) {x1 x2 x3 : Int} {D D' : mD} {v : Int} (h : F_X12_factOf x1 x2 x3 D = some (v, D')) : CM d 0 0 M_X12_factOf [mR 133, mI x1, mI x2, mI x3] (SK, D, false) (rI v D') := CM.intro pn_X12 rfl rfl (Nat.le_of_ble_eq_true rfl) (fun _ => c_X12_factOf_e hd h)
theorem c_X12_holdsLine_j222 {Ω : mO} {d : Nat} (hd : 5 ≤ d) {r : Int × mD} {K22 : Int → Int → mD → RI} {x2 x3 x4 x5 x6 x7 x8 s0 : Int} (hK22 : ∀ {x3 x5 : Int} {D : mD}, K22 x3 x5 D = some r → J Ω M_X12_holdsLine d 0 0 (rI r.1 r.2) 22 [some (mR 133), none, some (mI x2), some (mI x3), some (mI x4), some (mI x5), none, none, none, none] [] (SK, D, false) 0 0) {D : mD} (h : F_X12_holdsLine_j222 K22 x2 x3 x4 x5 x6 x7 x8 s0 D = some r) : J Ω M_X12_holdsLine d 0 0 (rI r.1 r.2) 222 [some (mR 133), none, some (mI x2), some (mI x3), some (mI x4), some (mI x5), some (mI x6), some (mI x7), some (mI x8), none] [mI s0] (SK, D, false) 0 0 := by
  rw [F_X12_holdsLine_j222] at h
  refine j_istore (pc' := 224) (ls' := [some (mR 133), none, some (mI x2), some (mI x3), some (mI x4), some (mI x5), some (mI x6), some (mI x7), some (mI x8), some (mI s0)]) dX12_holdsLine_222 rfl (by decide) rfl ?_
  refine j_aload_n (pc' := 225) dX12_holdsLine_224 rfl rfl ?_
  refine k_getR (pc' := 228) (sl := 17) (r := 141) kc_11 w_1494 (Or.inl rfl) (by decide) dX12_holdsLine_225 rfl (by decide) sk_133 (by decide) rfl (by decide) ?_
  refine j_iload_n (pc' := 229) dX12_holdsLine_228 rfl rfl ?_
  refine j_iconst (pc' := 230) dX12_holdsLine_229 rfl ?_
  refine j_isub (pc' := 231) dX12_holdsLine_230 rfl ?_
  refine j_iload (pc' := 233) dX12_holdsLine_231 rfl rfl ?_
  refine j_bipush (pc' := 235) dX12_holdsLine_233 rfl rfl ?_
  obtain ⟨q1, h⟩ := ck_o h
  obtain ⟨q2, h⟩ := ck_o h
  have hj : J Ω M_X12_holdsLine d 0 0 (rI r.1 r.2) 256 [some (mR 133), none, some (mI x2), some (mI x3), some (mI x4), some (mI x5), none, none, none, none] [mI (if x6 = 8 then (x7 + x8) else (if s0 = 0 then (0 : Int) else (1 : Int))), mI (x3 - 1), mR 141] (SK, D, false) 0 0 := by
    obtain ⟨q3, h⟩ := ck_o h
    refine k_iast (pc' := 257) dX12_holdsLine_256 rfl (by decide) sk_141 (by decide) q3.1 q3.2 ?_
    refine j_iinc (pc' := 260) (z' := (x5 + 1)) (ls' := [some (mR 133), none, some (mI x2), some (mI x3), some (mI x4), some (mI (x5 + 1)), none, none, none, none]) dX12_holdsLine_257 rfl rfl rfl (by decide) rfl ?_
    refine j_goto (tgt := 22) dX12_holdsLine_260 rfl ?_
    exact j_wk (j_widen (ce := 0) (ke := 0) (by decide) (by decide) (hK22 h)) (And.intro rfl (And.intro rfl (And.intro rfl (And.intro rfl (And.intro rfl trivial)))))
  refine j_icmp_ne (tgt := 246) (pc' := 238) dX12_holdsLine_235 rfl rfl q1 (by decide) (fun b1 => ?_) (fun b1 => ?_)
  · refine j_iload (pc' := 248) dX12_holdsLine_246 rfl rfl ?_
    refine j_if_eq (tgt := 255) (pc' := 251) dX12_holdsLine_248 rfl rfl (q2 b1) (fun b2 => ?_) (fun b2 => ?_)
    · refine j_iconst (pc' := 256) dX12_holdsLine_255 rfl ?_
      have hj := hj
      try simp only [if_neg b1, if_pos b2] at hj
      exact j_wk hj (And.intro rfl (And.intro rfl (And.intro rfl (And.intro rfl (And.intro rfl trivial)))))
    · refine j_iconst (pc' := 252) dX12_holdsLine_251 rfl ?_
      refine j_goto (tgt := 256) dX12_holdsLine_252 rfl ?_
      have hj := hj
      try simp only [if_neg b1, if_neg b2] at hj
      exact j_wk hj (And.intro rfl (And.intro rfl (And.intro rfl (And.intro rfl (And.intro rfl trivial)))))
  · refine j_iload (pc' := 240) dX12_holdsLine_238 rfl rfl ?_
    refine j_iload (pc' := 242) dX12_holdsLine_240 rfl rfl ?_
    refine j_iadd (pc' := 243) dX12_holdsLine_242 rfl ?_
    refine j_goto (tgt := 256) dX12_holdsLine_243 rfl ?_
    have hj := hj
    try simp only [if_pos b1] at hj
    exact j_wk hj (And.intro rfl (And.intro rfl (And.intro rfl (And.intro rfl (And.intro rfl trivial)))))
theorem c_X12_holdsLine_L22 {Ω : mO} {d : Nat} (hd : 5 ≤ d) {r : Int × mD} {x2 x4 : Int} : ∀ (n : Nat) {x3 x5 : Int} {D : mD}, F_X12_holdsLine_L22 x2 x4 n x3 x5 D = some r → J Ω M_X12_holdsLine d 0 0 (rI r.1 r.2) 22 [some (mR 133), none, some (mI x2), some (mI x3), some (mI x4), some (mI x5), none, none, none, none] [] (SK, D, false) 0 0 := by
  intro n
  induction n with
  | zero => intro x3 x5 D h; exact absurd (show (none : Option (Int × mD)) = some r from h) nofun
  | succ n ih =>
    intro x3 x5 D h
    rw [F_X12_holdsLine_L22] at h
    refine j_iload (pc' := 24) dX12_holdsLine_22 rfl rfl ?_
    refine j_aload_n (pc' := 25) dX12_holdsLine_24 rfl rfl ?_
    refine k_getR (pc' := 28) (sl := 1) (r := 134) kc_11 w_1478 (Or.inl rfl) (by decide) dX12_holdsLine_25 rfl (by decide) sk_133 (by decide) rfl (by decide) ?_
    refine j_iload (pc' := 30) dX12_holdsLine_28 rfl rfl ?_
    refine j_iconst (pc' := 31) dX12_holdsLine_30 rfl ?_
    refine j_iadd (pc' := 32) dX12_holdsLine_31 rfl ?_
    obtain ⟨q1, h⟩ := ck_o h
    refine k_iald (pc' := 33) (z := D 134 (x4 + 3)) dX12_holdsLine_32 rfl (by decide) sk_134 (by decide) q1.1 q1.2 rfl ?_
    obtain ⟨q2, h⟩ := ck_o h
    obtain ⟨q3, h⟩ := ck_o h
    refine j_icmp_ge (tgt := 263) (pc' := 36) dX12_holdsLine_33 rfl rfl q2 q3 (fun b1 => ?_) (fun b1 => ?_)
    · replace h := ite_t b1 h
      refine j_iload_n (pc' := 264) dX12_holdsLine_263 rfl rfl ?_
      obtain ⟨q4, h⟩ := ck_o h
      obtain ⟨q5, h⟩ := ck_o h
      have hj : J Ω M_X12_holdsLine d 0 0 (rI r.1 r.2) 282 [none, none, none, none, none, none, none, none, none, none] [mI (if x3 = 0 then (1 : Int) else (if (D 141 0) = 1 then (1 : Int) else (0 : Int)))] (SK, D, false) 0 0 := by
        obtain ⟨q6, h⟩ := ck_o h
        exact j_zret dX12_holdsLine_282 rfl q6 (by decide) (by decide) (rI_of h)
      refine j_if_eq (tgt := 277) (pc' := 267) dX12_holdsLine_264 rfl rfl q4 (fun b2 => ?_) (fun b2 => ?_)
      · refine j_iconst (pc' := 278) dX12_holdsLine_277 rfl ?_
        refine j_goto (tgt := 282) dX12_holdsLine_278 rfl ?_
        have hj := hj
        try simp only [if_pos b2] at hj
        exact j_wk hj (trivial)
      · refine j_aload_n (pc' := 268) dX12_holdsLine_267 rfl rfl ?_
        refine k_getR (pc' := 271) (sl := 17) (r := 141) kc_11 w_1494 (Or.inl rfl) (by decide) dX12_holdsLine_268 rfl (by decide) sk_133 (by decide) rfl (by decide) ?_
        refine j_iconst (pc' := 272) dX12_holdsLine_271 rfl ?_
        refine k_iald (pc' := 273) (z := D 141 0) dX12_holdsLine_272 rfl (by decide) sk_141 (by decide) (by decide) (by decide) rfl ?_
        refine j_iconst (pc' := 274) dX12_holdsLine_273 rfl ?_
        refine j_icmp_ne (tgt := 281) (pc' := 277) dX12_holdsLine_274 rfl rfl (q5 b2) (by decide) (fun b3 => ?_) (fun b3 => ?_)
        · refine j_iconst (pc' := 282) dX12_holdsLine_281 rfl ?_
          have hj := hj
          try simp only [if_neg b2, if_neg b3] at hj
          exact j_wk hj (trivial)
        · refine j_iconst (pc' := 278) dX12_holdsLine_277 rfl ?_
          refine j_goto (tgt := 282) dX12_holdsLine_278 rfl ?_
          have hj := hj
          try simp only [if_neg b2, if_pos b3] at hj
          exact j_wk hj (trivial)
    · replace h := ite_f b1 h
      refine j_aload_n (pc' := 37) dX12_holdsLine_36 rfl rfl ?_
      refine k_getR (pc' := 40) (sl := 1) (r := 134) kc_11 w_1478 (Or.inl rfl) (by decide) dX12_holdsLine_37 rfl (by decide) sk_133 (by decide) rfl (by decide) ?_
      refine j_sipush (pc' := 43) dX12_holdsLine_40 rfl rfl ?_
      refine j_iconst (pc' := 44) dX12_holdsLine_43 rfl ?_
      refine j_iload (pc' := 46) dX12_holdsLine_44 rfl rfl ?_
      refine j_imul (pc' := 47) dX12_holdsLine_46 rfl ?_
      refine j_iadd (pc' := 48) dX12_holdsLine_47 rfl ?_
      obtain ⟨q7, h⟩ := ck_o h
      refine k_iald (pc' := 49) (z := D 134 (524 + (2 * x5))) dX12_holdsLine_48 rfl (by decide) sk_134 (by decide) q7.1 q7.2 rfl ?_
      refine j_istore (pc' := 51) (ls' := [some (mR 133), none, some (mI x2), some (mI x3), some (mI x4), some (mI x5), some (mI (D 134 (524 + (2 * x5)))), none, none, none]) dX12_holdsLine_49 rfl (by decide) rfl ?_
      refine j_iload (pc' := 53) dX12_holdsLine_51 rfl rfl ?_
      refine j_bipush (pc' := 55) dX12_holdsLine_53 rfl rfl ?_
      obtain ⟨q8, h⟩ := ck_o h
      refine j_icmp_gt (tgt := 92) (pc' := 58) dX12_holdsLine_55 rfl rfl q8 (by decide) (fun b4 => ?_) (fun b4 => ?_)
      · replace h := ite_t b4 h
        refine j_iload (pc' := 94) dX12_holdsLine_92 rfl rfl ?_
        refine j_bipush (pc' := 96) dX12_holdsLine_94 rfl rfl ?_
        refine j_icmp_ne (tgt := 120) (pc' := 99) dX12_holdsLine_96 rfl rfl q8 (by decide) (fun b5 => ?_) (fun b5 => ?_)
        · replace h := ite_f b5 h
          refine j_iinc (pc' := 123) (z' := (x3 - 1)) (ls' := [some (mR 133), none, some (mI x2), some (mI (x3 - 1)), some (mI x4), some (mI x5), some (mI (D 134 (524 + (2 * x5)))), none, none, none]) dX12_holdsLine_120 rfl rfl (by omega) (by decide) rfl ?_
          refine j_aload_n (pc' := 124) dX12_holdsLine_123 rfl rfl ?_
          refine k_getR (pc' := 127) (sl := 17) (r := 141) kc_11 w_1494 (Or.inl rfl) (by decide) dX12_holdsLine_124 rfl (by decide) sk_133 (by decide) rfl (by decide) ?_
          refine j_iload_n (pc' := 128) dX12_holdsLine_127 rfl rfl ?_
          refine j_iconst (pc' := 129) dX12_holdsLine_128 rfl ?_
          refine j_isub (pc' := 130) dX12_holdsLine_129 rfl ?_
          obtain ⟨q9, h⟩ := ck_o h
          refine k_iald (pc' := 131) (z := D 141 ((x3 - 1) - 1)) dX12_holdsLine_130 rfl (by decide) sk_141 (by decide) q9.1 q9.2 rfl ?_
          refine j_istore (pc' := 133) (ls' := [some (mR 133), none, some (mI x2), some (mI (x3 - 1)), some (mI x4), some (mI x5), some (mI (D 134 (524 + (2 * x5)))), some (mI (D 141 ((x3 - 1) - 1))), none, none]) dX12_holdsLine_131 rfl (by decide) rfl ?_
          refine j_aload_n (pc' := 134) dX12_holdsLine_133 rfl rfl ?_
          refine k_getR (pc' := 137) (sl := 17) (r := 141) kc_11 w_1494 (Or.inl rfl) (by decide) dX12_holdsLine_134 rfl (by decide) sk_133 (by decide) rfl (by decide) ?_
          refine j_iload_n (pc' := 138) dX12_holdsLine_137 rfl rfl ?_
          obtain ⟨q10, h⟩ := ck_o h
          refine k_iald (pc' := 139) (z := D 141 (x3 - 1)) dX12_holdsLine_138 rfl (by decide) sk_141 (by decide) q10.1 q10.2 rfl ?_
          refine j_istore (pc' := 141) (ls' := [some (mR 133), none, some (mI x2), some (mI (x3 - 1)), some (mI x4), some (mI x5), some (mI (D 134 (524 + (2 * x5)))), some (mI (D 141 ((x3 - 1) - 1))), some (mI (D 141 (x3 - 1))), none]) dX12_holdsLine_139 rfl (by decide) rfl ?_
          refine j_iload (pc' := 143) dX12_holdsLine_141 rfl rfl ?_
          refine j_bipush (pc' := 145) dX12_holdsLine_143 rfl rfl ?_
          obtain ⟨q11, h⟩ := ck_o h
          obtain ⟨q12, h⟩ := ck_o h
          obtain ⟨q13, h⟩ := ck_o h
          obtain ⟨q14, h⟩ := ck_o h
          obtain ⟨q15, h⟩ := ck_o h
          obtain ⟨q16, h⟩ := ck_o h
          have hj : J Ω M_X12_holdsLine d 0 0 (rI r.1 r.2) 222 [some (mR 133), none, some (mI x2), some (mI (x3 - 1)), some (mI x4), some (mI x5), some (mI (D 134 (524 + (2 * x5)))), some (mI (D 141 ((x3 - 1) - 1))), some (mI (D 141 (x3 - 1))), none] [mI (if (D 134 (524 + (2 * x5))) = 9 then (if (D 141 (x3 - 1)) ≤ (D 141 ((x3 - 1) - 1)) then (0 : Int) else (1 : Int)) else (if (D 134 (524 + (2 * x5))) = 10 then (if (D 141 ((x3 - 1) - 1)) ≤ (D 141 (x3 - 1)) then (0 : Int) else (1 : Int)) else (if (D 134 (524 + (2 * x5))) = 12 then (if ((D 141 ((x3 - 1) - 1)) + (D 141 (x3 - 1))) = 2 then (1 : Int) else (0 : Int)) else (if ((D 141 ((x3 - 1) - 1)) + (D 141 (x3 - 1))) ≤ 0 then (0 : Int) else (1 : Int)))))] (SK, D, false) 0 0 := by
            exact j_wk (j_widen (ce := 0) (ke := 0) (by decide) (by decide) (c_X12_holdsLine_j222 hd ih h)) (And.intro rfl (And.intro rfl (And.intro rfl (And.intro rfl (And.intro rfl (And.intro rfl (And.intro rfl (And.intro rfl trivial))))))))
          refine j_icmp_ne (tgt := 163) (pc' := 148) dX12_holdsLine_145 rfl rfl q8 (by decide) (fun b6 => ?_) (fun b6 => ?_)
          · refine j_iload (pc' := 165) dX12_holdsLine_163 rfl rfl ?_
            refine j_bipush (pc' := 167) dX12_holdsLine_165 rfl rfl ?_
            refine j_icmp_ne (tgt := 185) (pc' := 170) dX12_holdsLine_167 rfl rfl q8 (by decide) (fun b7 => ?_) (fun b7 => ?_)
            · refine j_iload (pc' := 187) dX12_holdsLine_185 rfl rfl ?_
              refine j_bipush (pc' := 189) dX12_holdsLine_187 rfl rfl ?_
              refine j_icmp_ne (tgt := 209) (pc' := 192) dX12_holdsLine_189 rfl rfl q8 (by decide) (fun b8 => ?_) (fun b8 => ?_)
              · refine j_iload (pc' := 211) dX12_holdsLine_209 rfl rfl ?_
                refine j_iload (pc' := 213) dX12_holdsLine_211 rfl rfl ?_
                refine j_iadd (pc' := 214) dX12_holdsLine_213 rfl ?_
                refine j_if_le (tgt := 221) (pc' := 217) dX12_holdsLine_214 rfl rfl (q11 b6 b7 b8) (fun b9 => ?_) (fun b9 => ?_)
                · refine j_iconst (pc' := 222) dX12_holdsLine_221 rfl ?_
                  have hj := hj
                  try simp only [if_neg b6, if_neg b7, if_neg b8, if_pos b9] at hj
                  exact j_wk hj (And.intro rfl (And.intro rfl (And.intro rfl (And.intro rfl (And.intro rfl (And.intro rfl (And.intro rfl (And.intro rfl trivial))))))))
                · refine j_iconst (pc' := 218) dX12_holdsLine_217 rfl ?_
                  refine j_goto (tgt := 222) dX12_holdsLine_218 rfl ?_
                  have hj := hj
                  try simp only [if_neg b6, if_neg b7, if_neg b8, if_neg b9] at hj
                  exact j_wk hj (And.intro rfl (And.intro rfl (And.intro rfl (And.intro rfl (And.intro rfl (And.intro rfl (And.intro rfl (And.intro rfl trivial))))))))
              · refine j_iload (pc' := 194) dX12_holdsLine_192 rfl rfl ?_
                refine j_iload (pc' := 196) dX12_holdsLine_194 rfl rfl ?_
                refine j_iadd (pc' := 197) dX12_holdsLine_196 rfl ?_
                refine j_iconst (pc' := 198) dX12_holdsLine_197 rfl ?_
                refine j_icmp_ne (tgt := 205) (pc' := 201) dX12_holdsLine_198 rfl rfl (q12 b6 b7 b8) (by decide) (fun b10 => ?_) (fun b10 => ?_)
                · refine j_iconst (pc' := 206) dX12_holdsLine_205 rfl ?_
                  refine j_goto (tgt := 222) dX12_holdsLine_206 rfl ?_
                  have hj := hj
                  try simp only [if_neg b6, if_neg b7, if_pos b8, if_neg b10] at hj
                  exact j_wk hj (And.intro rfl (And.intro rfl (And.intro rfl (And.intro rfl (And.intro rfl (And.intro rfl (And.intro rfl (And.intro rfl trivial))))))))
                · refine j_iconst (pc' := 202) dX12_holdsLine_201 rfl ?_
                  refine j_goto (tgt := 222) dX12_holdsLine_202 rfl ?_
                  have hj := hj
                  try simp only [if_neg b6, if_neg b7, if_pos b8, if_pos b10] at hj
                  exact j_wk hj (And.intro rfl (And.intro rfl (And.intro rfl (And.intro rfl (And.intro rfl (And.intro rfl (And.intro rfl (And.intro rfl trivial))))))))
            · refine j_iload (pc' := 172) dX12_holdsLine_170 rfl rfl ?_
              refine j_iload (pc' := 174) dX12_holdsLine_172 rfl rfl ?_
              refine j_icmp_le (tgt := 181) (pc' := 177) dX12_holdsLine_174 rfl rfl (q13 b6 b7) (q14 b6 b7) (fun b11 => ?_) (fun b11 => ?_)
              · refine j_iconst (pc' := 182) dX12_holdsLine_181 rfl ?_
                refine j_goto (tgt := 222) dX12_holdsLine_182 rfl ?_
                have hj := hj
                try simp only [if_neg b6, if_pos b7, if_pos b11] at hj
                exact j_wk hj (And.intro rfl (And.intro rfl (And.intro rfl (And.intro rfl (And.intro rfl (And.intro rfl (And.intro rfl (And.intro rfl trivial))))))))
              · refine j_iconst (pc' := 178) dX12_holdsLine_177 rfl ?_
                refine j_goto (tgt := 222) dX12_holdsLine_178 rfl ?_
                have hj := hj
                try simp only [if_neg b6, if_pos b7, if_neg b11] at hj
                exact j_wk hj (And.intro rfl (And.intro rfl (And.intro rfl (And.intro rfl (And.intro rfl (And.intro rfl (And.intro rfl (And.intro rfl trivial))))))))
          · refine j_iload (pc' := 150) dX12_holdsLine_148 rfl rfl ?_
            refine j_iload (pc' := 152) dX12_holdsLine_150 rfl rfl ?_
            refine j_icmp_ge (tgt := 159) (pc' := 155) dX12_holdsLine_152 rfl rfl (q15 b6) (q16 b6) (fun b12 => ?_) (fun b12 => ?_)
            · refine j_iconst (pc' := 160) dX12_holdsLine_159 rfl ?_
              refine j_goto (tgt := 222) dX12_holdsLine_160 rfl ?_
              have hj := hj
              try simp only [if_pos b6, if_pos b12] at hj
              exact j_wk hj (And.intro rfl (And.intro rfl (And.intro rfl (And.intro rfl (And.intro rfl (And.intro rfl (And.intro rfl (And.intro rfl trivial))))))))
            · refine j_iconst (pc' := 156) dX12_holdsLine_155 rfl ?_
              refine j_goto (tgt := 222) dX12_holdsLine_156 rfl ?_
              have hj := hj
              try simp only [if_pos b6, if_neg b12] at hj
              exact j_wk hj (And.intro rfl (And.intro rfl (And.intro rfl (And.intro rfl (And.intro rfl (And.intro rfl (And.intro rfl (And.intro rfl trivial))))))))
        · replace h := ite_t b5 h
          refine j_aload_n (pc' := 100) dX12_holdsLine_99 rfl rfl ?_
          refine k_getR (pc' := 103) (sl := 17) (r := 141) kc_11 w_1494 (Or.inl rfl) (by decide) dX12_holdsLine_100 rfl (by decide) sk_133 (by decide) rfl (by decide) ?_
          refine j_iload_n (pc' := 104) dX12_holdsLine_103 rfl rfl ?_
          refine j_iconst (pc' := 105) dX12_holdsLine_104 rfl ?_
          refine j_isub (pc' := 106) dX12_holdsLine_105 rfl ?_
          refine j_iconst (pc' := 107) dX12_holdsLine_106 rfl ?_
          refine j_aload_n (pc' := 108) dX12_holdsLine_107 rfl rfl ?_
          refine k_getR (pc' := 111) (sl := 17) (r := 141) kc_11 w_1494 (Or.inl rfl) (by decide) dX12_holdsLine_108 rfl (by decide) sk_133 (by decide) rfl (by decide) ?_
          refine j_iload_n (pc' := 112) dX12_holdsLine_111 rfl rfl ?_
          refine j_iconst (pc' := 113) dX12_holdsLine_112 rfl ?_
          refine j_isub (pc' := 114) dX12_holdsLine_113 rfl ?_
          obtain ⟨q17, h⟩ := ck_o h
          refine k_iald (pc' := 115) (z := D 141 (x3 - 1)) dX12_holdsLine_114 rfl (by decide) sk_141 (by decide) q17.1 q17.2 rfl ?_
          refine j_isub (pc' := 116) dX12_holdsLine_115 rfl ?_
          refine k_iast (pc' := 117) dX12_holdsLine_116 rfl (by decide) sk_141 (by decide) q17.1 q17.2 ?_
          refine j_goto (tgt := 257) dX12_holdsLine_117 rfl ?_
          refine j_iinc (pc' := 260) (z' := (x5 + 1)) (ls' := [some (mR 133), none, some (mI x2), some (mI x3), some (mI x4), some (mI (x5 + 1)), some (mI (D 134 (524 + (2 * x5)))), none, none, none]) dX12_holdsLine_257 rfl rfl rfl (by decide) rfl ?_
          refine j_goto (tgt := 22) dX12_holdsLine_260 rfl ?_
          exact j_wk (j_widen (ce := 0) (ke := 0) (by decide) (by decide) (ih h)) (And.intro rfl (And.intro rfl (And.intro rfl (And.intro rfl (And.intro rfl trivial)))))
      · replace h := ite_f b4 h
        refine j_aload_n (pc' := 59) dX12_holdsLine_58 rfl rfl ?_
        refine k_getR (pc' := 62) (sl := 17) (r := 141) kc_11 w_1494 (Or.inl rfl) (by decide) dX12_holdsLine_59 rfl (by decide) sk_133 (by decide) rfl (by decide) ?_
        refine j_iload_n (pc' := 63) dX12_holdsLine_62 rfl rfl ?_
        refine j_aload_n (pc' := 64) dX12_holdsLine_63 rfl rfl ?_
        refine j_iload (pc' := 66) dX12_holdsLine_64 rfl rfl ?_
        refine j_aload_n (pc' := 67) dX12_holdsLine_66 rfl rfl ?_
        refine k_getR (pc' := 70) (sl := 1) (r := 134) kc_11 w_1478 (Or.inl rfl) (by decide) dX12_holdsLine_67 rfl (by decide) sk_133 (by decide) rfl (by decide) ?_
        refine j_sipush (pc' := 73) dX12_holdsLine_70 rfl rfl ?_
        refine j_iconst (pc' := 74) dX12_holdsLine_73 rfl ?_
        refine j_iload (pc' := 76) dX12_holdsLine_74 rfl rfl ?_
        refine j_imul (pc' := 77) dX12_holdsLine_76 rfl ?_
        refine j_iadd (pc' := 78) dX12_holdsLine_77 rfl ?_
        refine j_iconst (pc' := 79) dX12_holdsLine_78 rfl ?_
        refine j_iadd (pc' := 80) dX12_holdsLine_79 rfl ?_
        obtain ⟨q18, h⟩ := ck_o h
        refine k_iald (pc' := 81) (z := D 134 ((524 + (2 * x5)) + 1)) dX12_holdsLine_80 rfl (by decide) sk_134 (by decide) q18.1 q18.2 rfl ?_
        refine j_iload_n (pc' := 82) dX12_holdsLine_81 rfl rfl ?_
        obtain ⟨v1, D1, e1, h⟩ := bI_o h
        refine k_cV (d' := 4) (pc' := 85) [mI (D 134 (524 + (2 * x5))), mI (D 134 ((524 + (2 * x5)) + 1)), mI x2] [mI x3, mR 141] (c_X12_factOf (d := 4) (Nat.le_refl _) e1) cw_X12_300 kc_11 w_1850 ws_94 dX12_holdsLine_82 rfl (by omega) rfl rfl (by decide) sk_133 rfl rfl (by decide) (by decide) ?_
        obtain ⟨q19, h⟩ := ck_o h
        refine k_iast (pc' := 86) dX12_holdsLine_85 rfl (by decide) sk_141 (by decide) q19.1 q19.2 ?_
        refine j_iinc (pc' := 89) (z' := (x3 + 1)) (ls' := [some (mR 133), none, some (mI x2), some (mI (x3 + 1)), some (mI x4), some (mI x5), some (mI (D 134 (524 + (2 * x5)))), none, none, none]) dX12_holdsLine_86 rfl rfl rfl (by decide) rfl ?_
        refine j_goto (tgt := 257) dX12_holdsLine_89 rfl ?_
        refine j_iinc (pc' := 260) (z' := (x5 + 1)) (ls' := [some (mR 133), none, some (mI x2), some (mI (x3 + 1)), some (mI x4), some (mI (x5 + 1)), some (mI (D 134 (524 + (2 * x5)))), none, none, none]) dX12_holdsLine_257 rfl rfl rfl (by decide) rfl ?_
        refine j_goto (tgt := 22) dX12_holdsLine_260 rfl ?_
        exact j_wk (j_widen (ce := 0) (ke := 0) (by decide) (by decide) (ih h)) (And.intro rfl (And.intro rfl (And.intro rfl (And.intro rfl (And.intro rfl trivial)))))
theorem c_X12_holdsLine_e {Ω : mO} {d : Nat} (hd : 5 ≤ d) {r : Int × mD} {x1 x2 : Int} {D : mD} (h : F_X12_holdsLine x1 x2 D = some r) : J Ω M_X12_holdsLine d 0 0 (rI r.1 r.2) 0 [some (mR 133), some (mI x1), some (mI x2), none, none, none, none, none, none, none] [] (SK, D, false) 0 0 := by
  rw [F_X12_holdsLine] at h
  refine j_iconst (pc' := 1) dX12_holdsLine_0 rfl ?_
  refine j_istore_n (pc' := 2) (ls' := [some (mR 133), some (mI x1), some (mI x2), some (mI 0), none, none, none, none, none, none]) dX12_holdsLine_1 rfl (by decide) rfl ?_
  refine j_sipush (pc' := 5) dX12_holdsLine_2 rfl rfl ?_
  refine j_iconst (pc' := 6) dX12_holdsLine_5 rfl ?_
  refine j_iload_n (pc' := 7) dX12_holdsLine_6 rfl rfl ?_
  refine j_imul (pc' := 8) dX12_holdsLine_7 rfl ?_
  refine j_iadd (pc' := 9) dX12_holdsLine_8 rfl ?_
  refine j_istore (pc' := 11) (ls' := [some (mR 133), some (mI x1), some (mI x2), some (mI 0), some (mI (476 + (4 * x1))), none, none, none, none, none]) dX12_holdsLine_9 rfl (by decide) rfl ?_
  refine j_aload_n (pc' := 12) dX12_holdsLine_11 rfl rfl ?_
  refine k_getR (pc' := 15) (sl := 1) (r := 134) kc_11 w_1478 (Or.inl rfl) (by decide) dX12_holdsLine_12 rfl (by decide) sk_133 (by decide) rfl (by decide) ?_
  refine j_iload (pc' := 17) dX12_holdsLine_15 rfl rfl ?_
  refine j_iconst (pc' := 18) dX12_holdsLine_17 rfl ?_
  refine j_iadd (pc' := 19) dX12_holdsLine_18 rfl ?_
  obtain ⟨q1, h⟩ := ck_o h
  refine k_iald (pc' := 20) (z := D 134 ((476 + (4 * x1)) + 2)) dX12_holdsLine_19 rfl (by decide) sk_134 (by decide) q1.1 q1.2 rfl ?_
  refine j_istore (pc' := 22) (ls' := [some (mR 133), some (mI x1), some (mI x2), some (mI 0), some (mI (476 + (4 * x1))), some (mI (D 134 ((476 + (4 * x1)) + 2))), none, none, none, none]) dX12_holdsLine_20 rfl (by decide) rfl ?_
  exact j_wk (j_widen (ce := 0) (ke := 0) (by decide) (by decide) (c_X12_holdsLine_L22 hd _ h)) (And.intro rfl (And.intro rfl (And.intro rfl (And.intro rfl (And.intro rfl trivial)))))
theorem c_X12_holdsLine {d : Nat} (hd : 5 ≤ d) {x1 x2 : Int} {D D' : mD} {v : Int} (h : F_X12_holdsLine x1 x2 D = some (v, D')) : CM d 0 0 M_X12_holdsLine [mR 133, mI x1, mI x2] (SK, D, false) (rI v D') := CM.intro pn_X12 rfl rfl (Nat.le_of_ble_eq_true rfl) (fun _ => c_X12_holdsLine_e hd h)
theorem c_X12_sumOf_L5 {Ω : mO} {d : Nat} (hd : 6 ≤ d) {r : Int × mD} {x1 x2 : Int} : ∀ (n : Nat) {x3 x4 : Int} {D : mD}, F_X12_sumOf_L5 x1 x2 n x3 x4 D = some r → J Ω M_X12_sumOf d 0 0 (rI r.1 r.2) 5 [some (mR 133), some (mI x1), some (mI x2), some (mI x3), some (mI x4)] [] (SK, D, false) 0 0 := by
  intro n
  induction n with
  | zero => intro x3 x4 D h; exact absurd (show (none : Option (Int × mD)) = some r from h) nofun
  | succ n ih =>
    intro x3 x4 D h
    rw [F_X12_sumOf_L5] at h
    refine j_iload (pc' := 7) dX12_sumOf_5 rfl rfl ?_
    refine j_aload_n (pc' := 8) dX12_sumOf_7 rfl rfl ?_
    refine k_getR (pc' := 11) (sl := 1) (r := 134) kc_11 w_1478 (Or.inl rfl) (by decide) dX12_sumOf_8 rfl (by decide) sk_133 (by decide) rfl (by decide) ?_
    refine j_sipush (pc' := 14) dX12_sumOf_11 rfl rfl ?_
    refine k_iald (pc' := 15) (z := D 134 475) dX12_sumOf_14 rfl (by decide) sk_134 (by decide) (by decide) (by decide) rfl ?_
    obtain ⟨q1, h⟩ := ck_o h
    obtain ⟨q2, h⟩ := ck_o h
    refine j_icmp_ge (tgt := 73) (pc' := 18) dX12_sumOf_15 rfl rfl q1 q2 (fun b1 => ?_) (fun b1 => ?_)
    · replace h := ite_t b1 h
      refine j_iload_n (pc' := 74) dX12_sumOf_73 rfl rfl ?_
      exact j_iret dX12_sumOf_74 rfl (by decide) (by decide) (rI_of h)
    · replace h := ite_f b1 h
      refine j_iload_n (pc' := 19) dX12_sumOf_18 rfl rfl ?_
      refine j_aload_n (pc' := 20) dX12_sumOf_19 rfl rfl ?_
      refine k_getR (pc' := 23) (sl := 1) (r := 134) kc_11 w_1478 (Or.inl rfl) (by decide) dX12_sumOf_20 rfl (by decide) sk_133 (by decide) rfl (by decide) ?_
      refine j_sipush (pc' := 26) dX12_sumOf_23 rfl rfl ?_
      refine j_iconst (pc' := 27) dX12_sumOf_26 rfl ?_
      refine j_iload (pc' := 29) dX12_sumOf_27 rfl rfl ?_
      refine j_imul (pc' := 30) dX12_sumOf_29 rfl ?_
      refine j_iadd (pc' := 31) dX12_sumOf_30 rfl ?_
      obtain ⟨q3, h⟩ := ck_o h
      refine k_iald (pc' := 32) (z := D 134 (476 + (4 * x4))) dX12_sumOf_31 rfl (by decide) sk_134 (by decide) q3.1 q3.2 rfl ?_
      refine j_iload_n (pc' := 33) dX12_sumOf_32 rfl rfl ?_
      obtain ⟨q4, h⟩ := ck_o h
      obtain ⟨q5, h⟩ := ck_o h
      refine j_icmp_ne (tgt := 64) (pc' := 36) dX12_sumOf_33 rfl rfl q4 q5 (fun b2 => ?_) (fun b2 => ?_)
      · replace h := ite_f b2 h
        refine j_iconst (pc' := 65) dX12_sumOf_64 rfl ?_
        refine j_iadd (pc' := 66) dX12_sumOf_65 rfl ?_
        refine j_istore_n (pc' := 67) (ls' := [some (mR 133), some (mI x1), some (mI x2), some (mI (x3 + 0)), some (mI x4)]) dX12_sumOf_66 rfl (by decide) rfl ?_
        refine j_iinc (pc' := 70) (z' := (x4 + 1)) (ls' := [some (mR 133), some (mI x1), some (mI x2), some (mI (x3 + 0)), some (mI (x4 + 1))]) dX12_sumOf_67 rfl rfl rfl (by decide) rfl ?_
        refine j_goto (tgt := 5) dX12_sumOf_70 rfl ?_
        exact j_wk (j_widen (ce := 0) (ke := 0) (by decide) (by decide) (ih h)) (And.intro rfl (And.intro rfl (And.intro rfl (And.intro rfl (And.intro rfl trivial)))))
      · replace h := ite_t b2 h
        refine j_aload_n (pc' := 37) dX12_sumOf_36 rfl rfl ?_
        refine j_iload (pc' := 39) dX12_sumOf_37 rfl rfl ?_
        refine j_iload_n (pc' := 40) dX12_sumOf_39 rfl rfl ?_
        obtain ⟨v1, D1, e1, h⟩ := bI_o h
        refine k_cV (d' := 5) (pc' := 43) [mI x4, mI x2] [mI x3] (c_X12_holdsLine (d := 5) (Nat.le_refl _) e1) cw_X12_304 kc_11 w_1846 ws_93 dX12_sumOf_40 rfl (by omega) rfl rfl (by decide) sk_133 rfl rfl (by decide) (by decide) ?_
        obtain ⟨q6, h⟩ := ck_o h
        obtain ⟨q7, h⟩ := ck_o h
        have hj : J Ω M_X12_sumOf d 0 0 (rI r.1 r.2) 65 [some (mR 133), some (mI x1), some (mI x2), none, some (mI x4)] [mI (if v1 = 0 then (0 : Int) else (D1 134 ((476 + (4 * x4)) + 1))), mI x3] (SK, D1, false) 0 0 := by
          refine j_iadd (pc' := 66) dX12_sumOf_65 rfl ?_
          refine j_istore_n (pc' := 67) (ls' := [some (mR 133), some (mI x1), some (mI x2), some (mI (x3 + (if v1 = 0 then (0 : Int) else (D1 134 ((476 + (4 * x4)) + 1))))), some (mI x4)]) dX12_sumOf_66 rfl (by decide) rfl ?_
          refine j_iinc (pc' := 70) (z' := (x4 + 1)) (ls' := [some (mR 133), some (mI x1), some (mI x2), some (mI (x3 + (if v1 = 0 then (0 : Int) else (D1 134 ((476 + (4 * x4)) + 1))))), some (mI (x4 + 1))]) dX12_sumOf_67 rfl rfl rfl (by decide) rfl ?_
          refine j_goto (tgt := 5) dX12_sumOf_70 rfl ?_
          exact j_wk (j_widen (ce := 0) (ke := 0) (by decide) (by decide) (ih h)) (And.intro rfl (And.intro rfl (And.intro rfl (And.intro rfl (And.intro rfl trivial)))))
        refine j_if_eq (tgt := 64) (pc' := 46) dX12_sumOf_43 rfl rfl q6 (fun b3 => ?_) (fun b3 => ?_)
        · refine j_iconst (pc' := 65) dX12_sumOf_64 rfl ?_
          have hj := hj
          try simp only [if_pos b3] at hj
          exact j_wk hj (And.intro rfl (And.intro rfl (And.intro rfl (And.intro rfl trivial))))
        · refine j_aload_n (pc' := 47) dX12_sumOf_46 rfl rfl ?_
          refine k_getR (pc' := 50) (sl := 1) (r := 134) kc_11 w_1478 (Or.inl rfl) (by decide) dX12_sumOf_47 rfl (by decide) sk_133 (by decide) rfl (by decide) ?_
          refine j_sipush (pc' := 53) dX12_sumOf_50 rfl rfl ?_
          refine j_iconst (pc' := 54) dX12_sumOf_53 rfl ?_
          refine j_iload (pc' := 56) dX12_sumOf_54 rfl rfl ?_
          refine j_imul (pc' := 57) dX12_sumOf_56 rfl ?_
          refine j_iadd (pc' := 58) dX12_sumOf_57 rfl ?_
          refine j_iconst (pc' := 59) dX12_sumOf_58 rfl ?_
          refine j_iadd (pc' := 60) dX12_sumOf_59 rfl ?_
          refine k_iald (pc' := 61) (z := D1 134 ((476 + (4 * x4)) + 1)) dX12_sumOf_60 rfl (by decide) sk_134 (by decide) (q7 b3).1 (q7 b3).2 rfl ?_
          refine j_goto (tgt := 65) dX12_sumOf_61 rfl ?_
          have hj := hj
          try simp only [if_neg b3] at hj
          exact j_wk hj (And.intro rfl (And.intro rfl (And.intro rfl (And.intro rfl trivial))))
theorem c_X12_sumOf_e {Ω : mO} {d : Nat} (hd : 6 ≤ d) {r : Int × mD} {x1 x2 : Int} {D : mD} (h : F_X12_sumOf x1 x2 D = some r) : J Ω M_X12_sumOf d 0 0 (rI r.1 r.2) 0 [some (mR 133), some (mI x1), some (mI x2), none, none] [] (SK, D, false) 0 0 := by
  rw [F_X12_sumOf] at h
  refine j_iconst (pc' := 1) dX12_sumOf_0 rfl ?_
  refine j_istore_n (pc' := 2) (ls' := [some (mR 133), some (mI x1), some (mI x2), some (mI 0), none]) dX12_sumOf_1 rfl (by decide) rfl ?_
  refine j_iconst (pc' := 3) dX12_sumOf_2 rfl ?_
  refine j_istore (pc' := 5) (ls' := [some (mR 133), some (mI x1), some (mI x2), some (mI 0), some (mI 0)]) dX12_sumOf_3 rfl (by decide) rfl ?_
  exact j_wk (j_widen (ce := 0) (ke := 0) (by decide) (by decide) (c_X12_sumOf_L5 hd _ h)) (And.intro rfl (And.intro rfl (And.intro rfl (And.intro rfl (And.intro rfl trivial)))))
theorem c_X12_sumOf {d : Nat} (hd : 6 ≤ d) {x1 x2 : Int} {D D' : mD} {v : Int} (h : F_X12_sumOf x1 x2 D = some (v, D')) : CM d 0 0 M_X12_sumOf [mR 133, mI x1, mI x2] (SK, D, false) (rI v D') := CM.intro pn_X12 rfl rfl (Nat.le_of_ble_eq_true rfl) (fun _ => c_X12_sumOf_e hd h)
theorem c_X12_weightOf_e {Ω : mO} {d : Nat} (hd : 7 ≤ d) {r : Int × mD} {x1 x2 x3 : Int} {D : mD} (h : F_X12_weightOf x1 x2 x3 D = some r) : J Ω M_X12_weightOf d 0 0 (rI r.1 r.2) 0 [some (mR 133), some (mI x1), some (mI x2), some (mI x3)] [] (SK, D, false) 0 0 := by
  rw [F_X12_weightOf] at h
  refine j_aload_n (pc' := 1) dX12_weightOf_0 rfl rfl ?_
  refine k_getR (pc' := 4) (sl := 1) (r := 134) kc_11 w_1478 (Or.inl rfl) (by decide) dX12_weightOf_1 rfl (by decide) sk_133 (by decide) rfl (by decide) ?_
  refine j_bipush (pc' := 6) dX12_weightOf_4 rfl rfl ?_
  refine k_iald (pc' := 7) (z := D 134 10) dX12_weightOf_6 rfl (by decide) sk_134 (by decide) (by decide) (by decide) rfl ?_
  obtain ⟨q1, h⟩ := ck_o h
  refine j_if_ne (tgt := 12) (pc' := 10) dX12_weightOf_7 rfl rfl q1 (fun b1 => ?_) (fun b1 => ?_)
  · replace h := ite_f b1 h
    refine j_aload_n (pc' := 13) dX12_weightOf_12 rfl rfl ?_
    refine j_iload_n (pc' := 14) dX12_weightOf_13 rfl rfl ?_
    refine k_putI (pc' := 17) (sl := 18) (i' := 18) kc_11 w_1495 (by decide) (Or.inl rfl) dX12_weightOf_14 rfl (by decide) sk_133 (by decide) ⟨rfl, rfl⟩ rfl ?_
    refine j_aload_n (pc' := 18) dX12_weightOf_17 rfl rfl ?_
    refine j_iload_n (pc' := 19) dX12_weightOf_18 rfl rfl ?_
    refine k_putI (pc' := 22) (sl := 19) (i' := 19) kc_11 w_1496 (by decide) (Or.inl rfl) dX12_weightOf_19 rfl (by decide) sk_133 (by decide) ⟨rfl, rfl⟩ rfl ?_
    refine j_aload_n (pc' := 23) dX12_weightOf_22 rfl rfl ?_
    refine j_iconst (pc' := 24) dX12_weightOf_23 rfl ?_
    refine k_putI (pc' := 27) (sl := 20) (i' := 20) kc_11 w_1497 (by decide) (Or.inl rfl) dX12_weightOf_24 rfl (by decide) sk_133 (by decide) ⟨rfl, rfl⟩ rfl ?_
    refine j_aload_n (pc' := 28) dX12_weightOf_27 rfl rfl ?_
    refine j_iconst (pc' := 29) dX12_weightOf_28 rfl ?_
    refine k_putI (pc' := 32) (sl := 21) (i' := 21) kc_11 w_1498 (by decide) (Or.inl rfl) dX12_weightOf_29 rfl (by decide) sk_133 (by decide) ⟨rfl, rfl⟩ rfl ?_
    refine j_aload_n (pc' := 33) dX12_weightOf_32 rfl rfl ?_
    refine j_iconst (pc' := 34) dX12_weightOf_33 rfl ?_
    refine j_iload_n (pc' := 35) dX12_weightOf_34 rfl rfl ?_
    obtain ⟨v1, D1, e1, h⟩ := bI_o h
    refine k_cV (d' := 6) (pc' := 38) [mI 0, mI x3] [] (c_X12_sumOf (d := 6) (Nat.le_refl _) e1) cw_X12_307 kc_11 w_1842 ws_92 dX12_weightOf_35 rfl (by omega) rfl rfl (by decide) sk_133 rfl rfl (by decide) (by decide) ?_
    exact j_iret dX12_weightOf_38 rfl (by decide) (by decide) (rI_of h)
  · replace h := ite_t b1 h
    refine j_iconst (pc' := 11) dX12_weightOf_10 rfl ?_
    exact j_iret dX12_weightOf_11 rfl (by decide) (by decide) (rI_of h)
theorem c_X12_weightOf {d : Nat} (hd : 7 ≤ d) {x1 x2 x3 : Int} {D D' : mD} {v : Int} (h : F_X12_weightOf x1 x2 x3 D = some (v, D')) : CM d 0 0 M_X12_weightOf [mR 133, mI x1, mI x2, mI x3] (SK, D, false) (rI v D') := CM.intro pn_X12 rfl rfl (Nat.le_of_ble_eq_true rfl) (fun _ => c_X12_weightOf_e hd h)
theorem c_X12_fadesBy_e {Ω : mO} {d : Nat} (hd : 7 ≤ d) {r : Int × mD} {x1 x2 : Int} {D : mD} (h : F_X12_fadesBy x1 x2 D = some r) : J Ω M_X12_fadesBy d 0 0 (rI r.1 r.2) 0 [some (mR 133), some (mI x1), some (mI x2)] [] (SK, D, false) 0 0 := by
  rw [F_X12_fadesBy] at h
  refine j_aload_n (pc' := 1) dX12_fadesBy_0 rfl rfl ?_
  refine k_getR (pc' := 4) (sl := 1) (r := 134) kc_11 w_1478 (Or.inl rfl) (by decide) dX12_fadesBy_1 rfl (by decide) sk_133 (by decide) rfl (by decide) ?_
  refine j_bipush (pc' := 6) dX12_fadesBy_4 rfl rfl ?_
  refine k_iald (pc' := 7) (z := D 134 10) dX12_fadesBy_6 rfl (by decide) sk_134 (by decide) (by decide) (by decide) rfl ?_
  obtain ⟨q1, h⟩ := ck_o h
  refine j_if_ne (tgt := 12) (pc' := 10) dX12_fadesBy_7 rfl rfl q1 (fun b1 => ?_) (fun b1 => ?_)
  · replace h := ite_f b1 h
    refine j_aload_n (pc' := 13) dX12_fadesBy_12 rfl rfl ?_
    refine j_iconst (pc' := 14) dX12_fadesBy_13 rfl ?_
    refine k_putI (pc' := 17) (sl := 18) (i' := 18) kc_11 w_1495 (by decide) (Or.inl rfl) dX12_fadesBy_14 rfl (by decide) sk_133 (by decide) ⟨rfl, rfl⟩ rfl ?_
    refine j_aload_n (pc' := 18) dX12_fadesBy_17 rfl rfl ?_
    refine j_iload_n (pc' := 19) dX12_fadesBy_18 rfl rfl ?_
    refine k_putI (pc' := 22) (sl := 20) (i' := 20) kc_11 w_1497 (by decide) (Or.inl rfl) dX12_fadesBy_19 rfl (by decide) sk_133 (by decide) ⟨rfl, rfl⟩ rfl ?_
    refine j_aload_n (pc' := 23) dX12_fadesBy_22 rfl rfl ?_
    refine j_iload_n (pc' := 24) dX12_fadesBy_23 rfl rfl ?_
    refine k_putI (pc' := 27) (sl := 21) (i' := 21) kc_11 w_1498 (by decide) (Or.inl rfl) dX12_fadesBy_24 rfl (by decide) sk_133 (by decide) ⟨rfl, rfl⟩ rfl ?_
    refine j_aload_n (pc' := 28) dX12_fadesBy_27 rfl rfl ?_
    refine j_iconst (pc' := 29) dX12_fadesBy_28 rfl ?_
    refine j_iconst (pc' := 30) dX12_fadesBy_29 rfl ?_
    obtain ⟨v1, D1, e1, h⟩ := bI_o h
    refine k_cV (d' := 6) (pc' := 33) [mI 1, mI 0] [] (c_X12_sumOf (d := 6) (Nat.le_refl _) e1) cw_X12_307 kc_11 w_1842 ws_92 dX12_fadesBy_30 rfl (by omega) rfl rfl (by decide) sk_133 rfl rfl (by decide) (by decide) ?_
    exact j_iret dX12_fadesBy_33 rfl (by decide) (by decide) (rI_of h)
  · replace h := ite_t b1 h
    refine j_iconst (pc' := 11) dX12_fadesBy_10 rfl ?_
    exact j_iret dX12_fadesBy_11 rfl (by decide) (by decide) (rI_of h)
theorem c_X12_fadesBy {d : Nat} (hd : 7 ≤ d) {x1 x2 : Int} {D D' : mD} {v : Int} (h : F_X12_fadesBy x1 x2 D = some (v, D')) : CM d 0 0 M_X12_fadesBy [mR 133, mI x1, mI x2] (SK, D, false) (rI v D') := CM.intro pn_X12 rfl rfl (Nat.le_of_ble_eq_true rfl) (fun _ => c_X12_fadesBy_e hd h)
theorem c_X12_spaceOf_e {Ω : mO} {d : Nat} (hd : 6 ≤ d) {r : Int × mD} {x1 x2 x3 : Int} {D : mD} (h : F_X12_spaceOf x1 x2 x3 D = some r) : J Ω M_X12_spaceOf d 0 0 (rI r.1 r.2) 0 [some (mR 133), some (mI x1), some (mI x2), some (mI x3)] [] (SK, D, false) 0 0 := by
  rw [F_X12_spaceOf] at h
  refine j_aload_n (pc' := 1) dX12_spaceOf_0 rfl rfl ?_
  refine k_getR (pc' := 4) (sl := 1) (r := 134) kc_11 w_1478 (Or.inl rfl) (by decide) dX12_spaceOf_1 rfl (by decide) sk_133 (by decide) rfl (by decide) ?_
  refine j_iconst (pc' := 5) dX12_spaceOf_4 rfl ?_
  refine k_iald (pc' := 6) (z := D 134 4) dX12_spaceOf_5 rfl (by decide) sk_134 (by decide) (by decide) (by decide) rfl ?_
  refine j_aload_n (pc' := 7) dX12_spaceOf_6 rfl rfl ?_
  refine j_iload_n (pc' := 8) dX12_spaceOf_7 rfl rfl ?_
  refine j_bipush (pc' := 10) dX12_spaceOf_8 rfl rfl ?_
  refine j_iload_n (pc' := 11) dX12_spaceOf_10 rfl rfl ?_
  refine j_iadd (pc' := 12) dX12_spaceOf_11 rfl ?_
  obtain ⟨v1, D1, e1, h⟩ := bI_o h
  refine k_cV (d' := 2) (pc' := 15) [mI x1, mI (7 + x3)] [mI (D 134 4)] (c_X12_its (d := 2) (Nat.le_refl _) e1) cw_X12_84 kc_11 w_1796 ws_82 dX12_spaceOf_12 rfl (by omega) rfl rfl (by decide) sk_133 rfl rfl (by decide) (by decide) ?_
  refine j_iconst (pc' := 16) dX12_spaceOf_15 rfl ?_
  refine j_iload_n (pc' := 17) dX12_spaceOf_16 rfl rfl ?_
  refine j_aload_n (pc' := 18) dX12_spaceOf_17 rfl rfl ?_
  refine k_getR (pc' := 21) (sl := 1) (r := 134) kc_11 w_1478 (Or.inl rfl) (by decide) dX12_spaceOf_18 rfl (by decide) sk_133 (by decide) rfl (by decide) ?_
  refine j_iconst (pc' := 22) dX12_spaceOf_21 rfl ?_
  refine k_iald (pc' := 23) (z := D1 134 5) dX12_spaceOf_22 rfl (by decide) sk_134 (by decide) (by decide) (by decide) rfl ?_
  refine j_isub (pc' := 24) dX12_spaceOf_23 rfl ?_
  obtain ⟨q1, h⟩ := ck_o h
  refine k_max (pc' := 27) cw_X12_72 w_541 dX12_spaceOf_24 rfl (by omega) (by decide) q1 rfl (by decide) (by decide) ?_
  refine j_iadd (pc' := 28) dX12_spaceOf_27 rfl ?_
  refine j_aload_n (pc' := 29) dX12_spaceOf_28 rfl rfl ?_
  refine j_iload_n (pc' := 30) dX12_spaceOf_29 rfl rfl ?_
  refine j_iconst (pc' := 31) dX12_spaceOf_30 rfl ?_
  refine j_iadd (pc' := 32) dX12_spaceOf_31 rfl ?_
  refine j_iconst (pc' := 33) dX12_spaceOf_32 rfl ?_
  refine j_iload_n (pc' := 34) dX12_spaceOf_33 rfl rfl ?_
  refine j_iadd (pc' := 35) dX12_spaceOf_34 rfl ?_
  obtain ⟨v2, D2, e2, h⟩ := bI_o h
  refine k_cV (d' := 2) (pc' := 38) [mI (x1 + 1), mI (2 + x3)] [mI (v1 + (max 0 (x2 - (D1 134 5)))), mI (D 134 4)] (c_X12_its (d := 2) (Nat.le_refl _) e2) cw_X12_84 kc_11 w_1796 ws_82 dX12_spaceOf_35 rfl (by omega) rfl rfl (by decide) sk_133 rfl rfl (by decide) (by decide) ?_
  refine j_iadd (pc' := 39) dX12_spaceOf_38 rfl ?_
  obtain ⟨q2, h⟩ := ck_o h
  obtain ⟨q3, h⟩ := ck_o h
  refine k_min (pc' := 42) cw_X12_310 w_560 dX12_spaceOf_39 rfl (by omega) q2 q3 rfl (by decide) (by decide) ?_
  exact j_iret dX12_spaceOf_42 rfl (by decide) (by decide) (rI_of h)
theorem c_X12_spaceOf {d : Nat} (hd : 6 ≤ d) {x1 x2 x3 : Int} {D D' : mD} {v : Int} (h : F_X12_spaceOf x1 x2 x3 D = some (v, D')) : CM d 0 0 M_X12_spaceOf [mR 133, mI x1, mI x2, mI x3] (SK, D, false) (rI v D') := CM.intro pn_X12 rfl rfl (Nat.le_of_ble_eq_true rfl) (fun _ => c_X12_spaceOf_e hd h)
theorem c_X12_whiteBy_L5 {Ω : mO} {d : Nat} (hd : 8 ≤ d) {r : Int × mD} {x1 x2 : Int} : ∀ (n : Nat) {x3 x4 : Int} {D : mD}, F_X12_whiteBy_L5 x1 x2 n x3 x4 D = some r → J Ω M_X12_whiteBy d 0 0 (rI r.1 r.2) 5 [some (mR 133), some (mI x1), some (mI x2), some (mI x3), some (mI x4)] [] (SK, D, false) 0 0 := by
  intro n
  induction n with
  | zero => intro x3 x4 D h; exact absurd (show (none : Option (Int × mD)) = some r from h) nofun
  | succ n ih =>
    intro x3 x4 D h
    rw [F_X12_whiteBy_L5] at h
    refine j_iload (pc' := 7) dX12_whiteBy_5 rfl rfl ?_
    refine j_iconst (pc' := 8) dX12_whiteBy_7 rfl ?_
    obtain ⟨q1, h⟩ := ck_o h
    refine j_icmp_ge (tgt := 37) (pc' := 11) dX12_whiteBy_8 rfl rfl q1 (by decide) (fun b1 => ?_) (fun b1 => ?_)
    · replace h := ite_t b1 h
      refine j_iload_n (pc' := 38) dX12_whiteBy_37 rfl rfl ?_
      exact j_iret dX12_whiteBy_38 rfl (by decide) (by decide) (rI_of h)
    · replace h := ite_f b1 h
      refine j_iload_n (pc' := 12) dX12_whiteBy_11 rfl rfl ?_
      refine j_aload_n (pc' := 13) dX12_whiteBy_12 rfl rfl ?_
      refine j_iload_n (pc' := 14) dX12_whiteBy_13 rfl rfl ?_
      refine j_iload_n (pc' := 15) dX12_whiteBy_14 rfl rfl ?_
      refine j_iload (pc' := 17) dX12_whiteBy_15 rfl rfl ?_
      obtain ⟨v1, D1, e1, h⟩ := bI_o h
      refine k_cV (d' := 6) (pc' := 20) [mI x1, mI x2, mI x4] [mI x3] (c_X12_spaceOf (d := 6) (Nat.le_refl _) e1) cw_X12_313 kc_11 w_1833 ws_90 dX12_whiteBy_17 rfl (by omega) rfl rfl (by decide) sk_133 rfl rfl (by decide) (by decide) ?_
      refine j_aload_n (pc' := 21) dX12_whiteBy_20 rfl rfl ?_
      refine j_iload_n (pc' := 22) dX12_whiteBy_21 rfl rfl ?_
      refine j_iload_n (pc' := 23) dX12_whiteBy_22 rfl rfl ?_
      refine j_iload (pc' := 25) dX12_whiteBy_23 rfl rfl ?_
      obtain ⟨v2, D2, e2, h⟩ := bI_o h
      refine k_cV (d' := 7) (pc' := 28) [mI x1, mI x2, mI x4] [mI v1, mI x3] (c_X12_weightOf (d := 7) (Nat.le_refl _) e2) cw_X12_316 kc_11 w_1838 ws_91 dX12_whiteBy_25 rfl (by omega) rfl rfl (by decide) sk_133 rfl rfl (by decide) (by decide) ?_
      refine j_imul (pc' := 29) dX12_whiteBy_28 rfl ?_
      refine j_iadd (pc' := 30) dX12_whiteBy_29 rfl ?_
      refine j_istore_n (pc' := 31) (ls' := [some (mR 133), some (mI x1), some (mI x2), some (mI (x3 + (v1 * v2))), some (mI x4)]) dX12_whiteBy_30 rfl (by decide) rfl ?_
      refine j_iinc (pc' := 34) (z' := (x4 + 1)) (ls' := [some (mR 133), some (mI x1), some (mI x2), some (mI (x3 + (v1 * v2))), some (mI (x4 + 1))]) dX12_whiteBy_31 rfl rfl rfl (by decide) rfl ?_
      refine j_goto (tgt := 5) dX12_whiteBy_34 rfl ?_
      exact j_wk (j_widen (ce := 0) (ke := 0) (by decide) (by decide) (ih h)) (And.intro rfl (And.intro rfl (And.intro rfl (And.intro rfl (And.intro rfl trivial)))))
theorem c_X12_whiteBy_e {Ω : mO} {d : Nat} (hd : 8 ≤ d) {r : Int × mD} {x1 x2 : Int} {D : mD} (h : F_X12_whiteBy x1 x2 D = some r) : J Ω M_X12_whiteBy d 0 0 (rI r.1 r.2) 0 [some (mR 133), some (mI x1), some (mI x2), none, none] [] (SK, D, false) 0 0 := by
  rw [F_X12_whiteBy] at h
  refine j_iconst (pc' := 1) dX12_whiteBy_0 rfl ?_
  refine j_istore_n (pc' := 2) (ls' := [some (mR 133), some (mI x1), some (mI x2), some (mI 0), none]) dX12_whiteBy_1 rfl (by decide) rfl ?_
  refine j_iconst (pc' := 3) dX12_whiteBy_2 rfl ?_
  refine j_istore (pc' := 5) (ls' := [some (mR 133), some (mI x1), some (mI x2), some (mI 0), some (mI 0)]) dX12_whiteBy_3 rfl (by decide) rfl ?_
  exact j_wk (j_widen (ce := 0) (ke := 0) (by decide) (by decide) (c_X12_whiteBy_L5 hd _ h)) (And.intro rfl (And.intro rfl (And.intro rfl (And.intro rfl (And.intro rfl trivial)))))
theorem c_X12_whiteBy {d : Nat} (hd : 8 ≤ d) {x1 x2 : Int} {D D' : mD} {v : Int} (h : F_X12_whiteBy x1 x2 D = some (v, D')) : CM d 0 0 M_X12_whiteBy [mR 133, mI x1, mI x2] (SK, D, false) (rI v D') := CM.intro pn_X12 rfl rfl (Nat.le_of_ble_eq_true rfl) (fun _ => c_X12_whiteBy_e hd h)
theorem c_X12_white_e {Ω : mO} {d : Nat} (hd : 9 ≤ d) {r : Int × mD} {x1 : Int} {D : mD} (h : F_X12_white x1 D = some r) : J Ω M_X12_white d 0 0 (rI r.1 r.2) 0 [some (mR 133), some (mI x1)] [] (SK, D, false) 0 0 := by
  rw [F_X12_white] at h
  refine j_aload_n (pc' := 1) dX12_white_0 rfl rfl ?_
  refine j_iload_n (pc' := 2) dX12_white_1 rfl rfl ?_
  refine j_aload_n (pc' := 3) dX12_white_2 rfl rfl ?_
  refine j_iload_n (pc' := 4) dX12_white_3 rfl rfl ?_
  obtain ⟨v1, D1, e1, h⟩ := bI_o h
  refine k_cV (d' := 2) (pc' := 7) [mI x1] [mI x1, mR 133] (c_X12_distance (d := 2) (Nat.le_refl _) e1) cw_X12_319 kc_11 w_1809 ws_85 dX12_white_4 rfl (by omega) rfl rfl (by decide) sk_133 rfl rfl (by decide) (by decide) ?_
  obtain ⟨v2, D2, e2, h⟩ := bI_o h
  refine k_cV (d' := 8) (pc' := 10) [mI x1, mI v1] [] (c_X12_whiteBy (d := 8) (Nat.le_refl _) e2) cw_X12_323 kc_11 w_1829 ws_89 dX12_white_7 rfl (by omega) rfl rfl (by decide) sk_133 rfl rfl (by decide) (by decide) ?_
  exact j_iret dX12_white_10 rfl (by decide) (by decide) (rI_of h)
theorem c_X12_white {d : Nat} (hd : 9 ≤ d) {x1 : Int} {D D' : mD} {v : Int} (h : F_X12_white x1 D = some (v, D')) : CM d 0 0 M_X12_white [mR 133, mI x1] (SK, D, false) (rI v D') := CM.intro pn_X12 rfl rfl (Nat.le_of_ble_eq_true rfl) (fun _ => c_X12_white_e hd h)
theorem c_X12_leastSpace_L6 {Ω : mO} {d : Nat} (hd : 7 ≤ d) {r : Int × mD} {x1 : Int} : ∀ (n : Nat) {x2 x3 : Int} {D : mD}, F_X12_leastSpace_L6 x1 n x2 x3 D = some r → J Ω M_X12_leastSpace d 0 0 (rI r.1 r.2) 6 [some (mR 133), some (mI x1), some (mI x2), some (mI x3)] [] (SK, D, false) 0 0 := by
  intro n
  induction n with
  | zero => intro x2 x3 D h; exact absurd (show (none : Option (Int × mD)) = some r from h) nofun
  | succ n ih =>
    intro x2 x3 D h
    rw [F_X12_leastSpace_L6] at h
    refine j_iload_n (pc' := 7) dX12_leastSpace_6 rfl rfl ?_
    refine j_iconst (pc' := 8) dX12_leastSpace_7 rfl ?_
    obtain ⟨q1, h⟩ := ck_o h
    refine j_icmp_ge (tgt := 33) (pc' := 11) dX12_leastSpace_8 rfl rfl q1 (by decide) (fun b1 => ?_) (fun b1 => ?_)
    · replace h := ite_t b1 h
      refine j_iload_n (pc' := 34) dX12_leastSpace_33 rfl rfl ?_
      exact j_iret dX12_leastSpace_34 rfl (by decide) (by decide) (rI_of h)
    · replace h := ite_f b1 h
      refine j_iload_n (pc' := 12) dX12_leastSpace_11 rfl rfl ?_
      refine j_aload_n (pc' := 13) dX12_leastSpace_12 rfl rfl ?_
      refine j_iload_n (pc' := 14) dX12_leastSpace_13 rfl rfl ?_
      refine j_aload_n (pc' := 15) dX12_leastSpace_14 rfl rfl ?_
      refine j_iload_n (pc' := 16) dX12_leastSpace_15 rfl rfl ?_
      obtain ⟨v1, D1, e1, h⟩ := bI_o h
      refine k_cV (d' := 2) (pc' := 19) [mI x1] [mI x1, mR 133, mI x2] (c_X12_distance (d := 2) (Nat.le_refl _) e1) cw_X12_319 kc_11 w_1809 ws_85 dX12_leastSpace_16 rfl (by omega) rfl rfl (by decide) sk_133 rfl rfl (by decide) (by decide) ?_
      refine j_iload_n (pc' := 20) dX12_leastSpace_19 rfl rfl ?_
      obtain ⟨v2, D2, e2, h⟩ := bI_o h
      refine k_cV (d' := 6) (pc' := 23) [mI x1, mI v1, mI x3] [mI x2] (c_X12_spaceOf (d := 6) (Nat.le_refl _) e2) cw_X12_313 kc_11 w_1833 ws_90 dX12_leastSpace_20 rfl (by omega) rfl rfl (by decide) sk_133 rfl rfl (by decide) (by decide) ?_
      obtain ⟨q2, h⟩ := ck_o h
      obtain ⟨q3, h⟩ := ck_o h
      refine k_min (pc' := 26) cw_X12_310 w_560 dX12_leastSpace_23 rfl (by omega) q2 q3 rfl (by decide) (by decide) ?_
      refine j_istore_n (pc' := 27) (ls' := [some (mR 133), some (mI x1), some (mI (min x2 v2)), some (mI x3)]) dX12_leastSpace_26 rfl (by decide) rfl ?_
      refine j_iinc (pc' := 30) (z' := (x3 + 1)) (ls' := [some (mR 133), some (mI x1), some (mI (min x2 v2)), some (mI (x3 + 1))]) dX12_leastSpace_27 rfl rfl rfl (by decide) rfl ?_
      refine j_goto (tgt := 6) dX12_leastSpace_30 rfl ?_
      exact j_wk (j_widen (ce := 0) (ke := 0) (by decide) (by decide) (ih h)) (And.intro rfl (And.intro rfl (And.intro rfl (And.intro rfl trivial))))
theorem c_X12_leastSpace_e {Ω : mO} {d : Nat} (hd : 7 ≤ d) {r : Int × mD} {x1 : Int} {D : mD} (h : F_X12_leastSpace x1 D = some r) : J Ω M_X12_leastSpace d 0 0 (rI r.1 r.2) 0 [some (mR 133), some (mI x1), none, none] [] (SK, D, false) 0 0 := by
  rw [F_X12_leastSpace] at h
  refine j_ldcwI (pc' := 3) (n := 1000000) w_1860 dX12_leastSpace_0 rfl ?_
  refine j_istore_n (pc' := 4) (ls' := [some (mR 133), some (mI x1), some (mI 1000000), none]) dX12_leastSpace_3 rfl (by decide) rfl ?_
  refine j_iconst (pc' := 5) dX12_leastSpace_4 rfl ?_
  refine j_istore_n (pc' := 6) (ls' := [some (mR 133), some (mI x1), some (mI 1000000), some (mI 0)]) dX12_leastSpace_5 rfl (by decide) rfl ?_
  exact j_wk (j_widen (ce := 0) (ke := 0) (by decide) (by decide) (c_X12_leastSpace_L6 hd _ h)) (And.intro rfl (And.intro rfl (And.intro rfl (And.intro rfl trivial))))
theorem c_X12_leastSpace {d : Nat} (hd : 7 ≤ d) {x1 : Int} {D D' : mD} {v : Int} (h : F_X12_leastSpace x1 D = some (v, D')) : CM d 0 0 M_X12_leastSpace [mR 133, mI x1] (SK, D, false) (rI v D') := CM.intro pn_X12 rfl rfl (Nat.le_of_ble_eq_true rfl) (fun _ => c_X12_leastSpace_e hd h)
theorem c_X12_inkOf_L4 {Ω : mO} {d : Nat} (hd : 2 ≤ d) {r : Int × mD} {x1 : Int} : ∀ (n : Nat) {x2 x3 : Int} {D : mD}, F_X12_inkOf_L4 x1 n x2 x3 D = some r → J Ω M_X12_inkOf d 0 0 (rI r.1 r.2) 4 [some (mR 133), some (mI x1), some (mI x2), some (mI x3)] [] (SK, D, false) 0 0 := by
  intro n
  induction n with
  | zero => intro x2 x3 D h; exact absurd (show (none : Option (Int × mD)) = some r from h) nofun
  | succ n ih =>
    intro x2 x3 D h
    rw [F_X12_inkOf_L4] at h
    refine j_iload_n (pc' := 5) dX12_inkOf_4 rfl rfl ?_
    refine j_iconst (pc' := 6) dX12_inkOf_5 rfl ?_
    obtain ⟨q1, h⟩ := ck_o h
    refine j_icmp_ge (tgt := 43) (pc' := 9) dX12_inkOf_6 rfl rfl q1 (by decide) (fun b1 => ?_) (fun b1 => ?_)
    · replace h := ite_t b1 h
      refine j_iload_n (pc' := 44) dX12_inkOf_43 rfl rfl ?_
      exact j_iret dX12_inkOf_44 rfl (by decide) (by decide) (rI_of h)
    · replace h := ite_f b1 h
      refine j_iload_n (pc' := 10) dX12_inkOf_9 rfl rfl ?_
      refine j_aload_n (pc' := 11) dX12_inkOf_10 rfl rfl ?_
      refine j_iload_n (pc' := 12) dX12_inkOf_11 rfl rfl ?_
      refine j_iconst (pc' := 13) dX12_inkOf_12 rfl ?_
      obtain ⟨v1, D1, e1, h⟩ := bI_o h
      refine k_cV (d' := 1) (pc' := 16) [mI x1, mI 1] [mI x2] (c_X12_ofSign (d := 1) (Nat.le_refl _) e1) cw_X12_81 kc_11 w_1658 ws_57 dX12_inkOf_13 rfl (by omega) rfl rfl (by decide) sk_133 rfl rfl (by decide) (by decide) ?_
      refine j_aload_n (pc' := 17) dX12_inkOf_16 rfl rfl ?_
      refine j_iload_n (pc' := 18) dX12_inkOf_17 rfl rfl ?_
      refine j_iconst (pc' := 19) dX12_inkOf_18 rfl ?_
      refine j_iload_n (pc' := 20) dX12_inkOf_19 rfl rfl ?_
      refine j_iadd (pc' := 21) dX12_inkOf_20 rfl ?_
      obtain ⟨v2, D2, e2, h⟩ := bI_o h
      refine k_cV (d' := 1) (pc' := 24) [mI x1, mI (2 + x3)] [mI v1, mI x2] (c_X12_ofSign (d := 1) (Nat.le_refl _) e2) cw_X12_81 kc_11 w_1658 ws_57 dX12_inkOf_21 rfl (by omega) rfl rfl (by decide) sk_133 rfl rfl (by decide) (by decide) ?_
      refine j_isub (pc' := 25) dX12_inkOf_24 rfl ?_
      refine j_aload_n (pc' := 26) dX12_inkOf_25 rfl rfl ?_
      refine j_iload_n (pc' := 27) dX12_inkOf_26 rfl rfl ?_
      refine j_bipush (pc' := 29) dX12_inkOf_27 rfl rfl ?_
      refine j_iload_n (pc' := 30) dX12_inkOf_29 rfl rfl ?_
      refine j_iadd (pc' := 31) dX12_inkOf_30 rfl ?_
      obtain ⟨v3, D3, e3, h⟩ := bI_o h
      refine k_cV (d' := 1) (pc' := 34) [mI x1, mI (7 + x3)] [mI (v1 - v2), mI x2] (c_X12_ofSign (d := 1) (Nat.le_refl _) e3) cw_X12_81 kc_11 w_1658 ws_57 dX12_inkOf_31 rfl (by omega) rfl rfl (by decide) sk_133 rfl rfl (by decide) (by decide) ?_
      refine j_isub (pc' := 35) dX12_inkOf_34 rfl ?_
      refine j_iadd (pc' := 36) dX12_inkOf_35 rfl ?_
      refine j_istore_n (pc' := 37) (ls' := [some (mR 133), some (mI x1), some (mI (x2 + ((v1 - v2) - v3))), some (mI x3)]) dX12_inkOf_36 rfl (by decide) rfl ?_
      refine j_iinc (pc' := 40) (z' := (x3 + 1)) (ls' := [some (mR 133), some (mI x1), some (mI (x2 + ((v1 - v2) - v3))), some (mI (x3 + 1))]) dX12_inkOf_37 rfl rfl rfl (by decide) rfl ?_
      refine j_goto (tgt := 4) dX12_inkOf_40 rfl ?_
      exact j_wk (j_widen (ce := 0) (ke := 0) (by decide) (by decide) (ih h)) (And.intro rfl (And.intro rfl (And.intro rfl (And.intro rfl trivial))))
theorem c_X12_inkOf_e {Ω : mO} {d : Nat} (hd : 2 ≤ d) {r : Int × mD} {x1 : Int} {D : mD} (h : F_X12_inkOf x1 D = some r) : J Ω M_X12_inkOf d 0 0 (rI r.1 r.2) 0 [some (mR 133), some (mI x1), none, none] [] (SK, D, false) 0 0 := by
  rw [F_X12_inkOf] at h
  refine j_iconst (pc' := 1) dX12_inkOf_0 rfl ?_
  refine j_istore_n (pc' := 2) (ls' := [some (mR 133), some (mI x1), some (mI 0), none]) dX12_inkOf_1 rfl (by decide) rfl ?_
  refine j_iconst (pc' := 3) dX12_inkOf_2 rfl ?_
  refine j_istore_n (pc' := 4) (ls' := [some (mR 133), some (mI x1), some (mI 0), some (mI 0)]) dX12_inkOf_3 rfl (by decide) rfl ?_
  exact j_wk (j_widen (ce := 0) (ke := 0) (by decide) (by decide) (c_X12_inkOf_L4 hd _ h)) (And.intro rfl (And.intro rfl (And.intro rfl (And.intro rfl trivial))))
theorem c_X12_inkOf {d : Nat} (hd : 2 ≤ d) {x1 : Int} {D D' : mD} {v : Int} (h : F_X12_inkOf x1 D = some (v, D')) : CM d 0 0 M_X12_inkOf [mR 133, mI x1] (SK, D, false) (rI v D') := CM.intro pn_X12 rfl rfl (Nat.le_of_ble_eq_true rfl) (fun _ => c_X12_inkOf_e hd h)
theorem c_X12_sign_j33 {Ω : mO} {d : Nat} (hd : 3 ≤ d) {r : Int × mD} {x1 x2 s1 : Int} {D : mD} (h : F_X12_sign_j33 x1 x2 s1 D = some r) : J Ω M_X12_sign d 0 0 (rI r.1 r.2) 33 [some (mR 133), some (mI x1), some (mI x2)] [mI s1, mR 133] (SK, D, false) 0 0 := by
  rw [F_X12_sign_j33] at h
  refine j_iconst (pc' := 34) dX12_sign_33 rfl ?_
  obtain ⟨v1, D1, e1, h⟩ := bI_o h
  refine k_cV (d' := 1) (pc' := 37) [mI s1, mI 2] [] (c_X12_throwsIf (d := 1) (Nat.le_refl _) e1) cw_X12_282 kc_11 w_1753 ws_76 dX12_sign_34 rfl (by omega) rfl rfl (by decide) sk_133 rfl rfl (by decide) (by decide) ?_
  obtain ⟨q1, h⟩ := ck_o h
  refine j_if_eq (tgt := 42) (pc' := 40) dX12_sign_37 rfl rfl q1 (fun b1 => ?_) (fun b1 => ?_)
  · replace h := ite_t b1 h
    refine j_iload_n (pc' := 43) dX12_sign_42 rfl rfl ?_
    refine j_iconst (pc' := 44) dX12_sign_43 rfl ?_
    obtain ⟨q2, h⟩ := ck_o h
    refine j_icmp_ne (tgt := 55) (pc' := 47) dX12_sign_44 rfl rfl q2 (by decide) (fun b2 => ?_) (fun b2 => ?_)
    · replace h := ite_f b2 h
      refine j_aload_n (pc' := 56) dX12_sign_55 rfl rfl ?_
      refine j_iload_n (pc' := 57) dX12_sign_56 rfl rfl ?_
      refine j_iload_n (pc' := 58) dX12_sign_57 rfl rfl ?_
      obtain ⟨v2, D2, e2, h⟩ := bI_o h
      refine k_cV (d' := 1) (pc' := 61) [mI x1, mI x2] [] (c_X12_ofSign (d := 1) (Nat.le_refl _) e2) cw_X12_81 kc_11 w_1658 ws_57 dX12_sign_58 rfl (by omega) rfl rfl (by decide) sk_133 rfl rfl (by decide) (by decide) ?_
      exact j_iret dX12_sign_61 rfl (by decide) (by decide) (rI_of h)
    · replace h := ite_t b2 h
      refine j_aload_n (pc' := 48) dX12_sign_47 rfl rfl ?_
      refine j_iload_n (pc' := 49) dX12_sign_48 rfl rfl ?_
      obtain ⟨v3, D3, e3, h⟩ := bI_o h
      refine k_cV (d' := 2) (pc' := 52) [mI x1] [] (c_X12_inkOf (d := 2) (Nat.le_refl _) e3) cw_X12_330 kc_11 w_1772 ws_78 dX12_sign_49 rfl (by omega) rfl rfl (by decide) sk_133 rfl rfl (by decide) (by decide) ?_
      refine j_goto (tgt := 61) dX12_sign_52 rfl ?_
      exact j_iret dX12_sign_61 rfl (by decide) (by decide) (rI_of h)
  · replace h := ite_f b1 h
    refine j_iconst (pc' := 41) dX12_sign_40 rfl ?_
    exact j_iret dX12_sign_41 rfl (by decide) (by decide) (rI_of h)
theorem c_X12_sign_e {Ω : mO} {d : Nat} (hd : 3 ≤ d) {r : Int × mD} {x1 x2 : Int} {D : mD} (h : F_X12_sign x1 x2 D = some r) : J Ω M_X12_sign d 0 0 (rI r.1 r.2) 0 [some (mR 133), some (mI x1), some (mI x2)] [] (SK, D, false) 0 0 := by
  rw [F_X12_sign] at h
  refine j_aload_n (pc' := 1) dX12_sign_0 rfl rfl ?_
  refine j_iconst (pc' := 2) dX12_sign_1 rfl ?_
  refine k_putI (pc' := 5) (sl := 0) (i' := 0) kc_11 w_1477 (by decide) (Or.inl rfl) dX12_sign_2 rfl (by decide) sk_133 (by decide) ⟨rfl, rfl⟩ rfl ?_
  refine j_aload_n (pc' := 6) dX12_sign_5 rfl rfl ?_
  refine j_aload_n (pc' := 7) dX12_sign_6 rfl rfl ?_
  refine j_iload_n (pc' := 8) dX12_sign_7 rfl rfl ?_
  obtain ⟨v1, D1, e1, h⟩ := bI_o h
  refine k_cV (d' := 2) (pc' := 11) [mI x1] [mR 133] (c_X12_noSign (d := 2) (Nat.le_refl _) e1) cw_X12_327 kc_11 w_1765 ws_77 dX12_sign_8 rfl (by omega) rfl rfl (by decide) sk_133 rfl rfl (by decide) (by decide) ?_
  refine j_iconst (pc' := 12) dX12_sign_11 rfl ?_
  obtain ⟨v2, D2, e2, h⟩ := bI_o h
  refine k_cV (d' := 1) (pc' := 15) [mI v1, mI 1] [] (c_X12_throwsIf (d := 1) (Nat.le_refl _) e2) cw_X12_282 kc_11 w_1753 ws_76 dX12_sign_12 rfl (by omega) rfl rfl (by decide) sk_133 rfl rfl (by decide) (by decide) ?_
  obtain ⟨q1, h⟩ := ck_o h
  refine j_if_ne (tgt := 40) (pc' := 18) dX12_sign_15 rfl rfl q1 (fun b1 => ?_) (fun b1 => ?_)
  · replace h := ite_f b1 h
    refine j_iconst (pc' := 41) dX12_sign_40 rfl ?_
    exact j_iret dX12_sign_41 rfl (by decide) (by decide) (rI_of h)
  · replace h := ite_t b1 h
    refine j_aload_n (pc' := 19) dX12_sign_18 rfl rfl ?_
    refine j_iload_n (pc' := 20) dX12_sign_19 rfl rfl ?_
    refine j_iconst (pc' := 21) dX12_sign_20 rfl ?_
    refine j_iconst (pc' := 22) dX12_sign_21 rfl ?_
    obtain ⟨v3, D3, e3, h⟩ := bI_o h
    refine k_cS (d' := 1) (pc' := 25) [mI x2, mI 0, mI 2] [mR 133] (c_X12_in (d := 1) (Nat.le_refl _) e3) cw_X12_90 w_1768 dX12_sign_22 rfl (by omega) rfl rfl rfl rfl (by decide) (by decide) ?_
    obtain ⟨q2, h⟩ := ck_o h
    have hj : J Ω M_X12_sign d 0 0 (rI r.1 r.2) 33 [some (mR 133), some (mI x1), some (mI x2)] [mI (if v3 = 0 then (1 : Int) else (0 : Int)), mR 133] (SK, D3, false) 0 0 := by
      exact j_wk (j_widen (ce := 0) (ke := 0) (by decide) (by decide) (c_X12_sign_j33 hd h)) (And.intro rfl (And.intro rfl (And.intro rfl trivial)))
    refine j_if_ne (tgt := 32) (pc' := 28) dX12_sign_25 rfl rfl q2 (fun b2 => ?_) (fun b2 => ?_)
    · refine j_iconst (pc' := 33) dX12_sign_32 rfl ?_
      have hj := hj
      try simp only [if_neg b2] at hj
      exact j_wk hj (And.intro rfl (And.intro rfl (And.intro rfl trivial)))
    · refine j_iconst (pc' := 29) dX12_sign_28 rfl ?_
      refine j_goto (tgt := 33) dX12_sign_29 rfl ?_
      have hj := hj
      try simp only [if_pos b2] at hj
      exact j_wk hj (And.intro rfl (And.intro rfl (And.intro rfl trivial)))
theorem c_X12_sign {d : Nat} (hd : 3 ≤ d) {x1 x2 : Int} {D D' : mD} {v : Int} (h : F_X12_sign x1 x2 D = some (v, D')) : CM d 0 0 M_X12_sign [mR 133, mI x1, mI x2] (SK, D, false) (rI v D') := CM.intro pn_X12 rfl rfl (Nat.le_of_ble_eq_true rfl) (fun _ => c_X12_sign_e hd h)
theorem c_X12_side_j51 {Ω : mO} {d : Nat} (hd : 3 ≤ d) {r : Int × mD} {x2 s1 s2 : Int} {D : mD} (h : F_X12_side_j51 x2 s1 s2 D = some r) : J Ω M_X12_side d 0 0 (rI r.1 r.2) 51 [none, none, some (mI x2), none] [mI s2, mI s1, mR 133] (SK, D, false) 0 0 := by
  rw [F_X12_side_j51] at h
  refine j_iload_n (pc' := 52) dX12_side_51 rfl rfl ?_
  refine j_iadd (pc' := 53) dX12_side_52 rfl ?_
  obtain ⟨v1, D1, e1, h⟩ := bI_o h
  refine k_cV (d' := 1) (pc' := 56) [mI s1, mI (s2 + x2)] [] (c_X12_ofSign (d := 1) (Nat.le_refl _) e1) cw_X12_81 kc_11 w_1658 ws_57 dX12_side_53 rfl (by omega) rfl rfl (by decide) sk_133 rfl rfl (by decide) (by decide) ?_
  exact j_iret dX12_side_56 rfl (by decide) (by decide) (rI_of h)
theorem c_X12_side_j28 {Ω : mO} {d : Nat} (hd : 3 ≤ d) {r : Int × mD} {x1 x2 x3 s1 : Int} {D : mD} (h : F_X12_side_j28 x1 x2 x3 s1 D = some r) : J Ω M_X12_side d 0 0 (rI r.1 r.2) 28 [some (mR 133), some (mI x1), some (mI x2), some (mI x3)] [mI s1, mR 133] (SK, D, false) 0 0 := by
  rw [F_X12_side_j28] at h
  refine j_iconst (pc' := 29) dX12_side_28 rfl ?_
  obtain ⟨v1, D1, e1, h⟩ := bI_o h
  refine k_cV (d' := 1) (pc' := 32) [mI s1, mI 1] [] (c_X12_throwsIf (d := 1) (Nat.le_refl _) e1) cw_X12_282 kc_11 w_1753 ws_76 dX12_side_29 rfl (by omega) rfl rfl (by decide) sk_133 rfl rfl (by decide) (by decide) ?_
  obtain ⟨q1, h⟩ := ck_o h
  refine j_if_eq (tgt := 39) (pc' := 35) dX12_side_32 rfl rfl q1 (fun b1 => ?_) (fun b1 => ?_)
  · replace h := ite_t b1 h
    refine j_aload_n (pc' := 40) dX12_side_39 rfl rfl ?_
    refine j_iload_n (pc' := 41) dX12_side_40 rfl rfl ?_
    refine j_iload_n (pc' := 42) dX12_side_41 rfl rfl ?_
    obtain ⟨q2, h⟩ := ck_o h
    have hj : J Ω M_X12_side d 0 0 (rI r.1 r.2) 51 [none, none, some (mI x2), none] [mI (if x3 = 0 then (2 : Int) else (7 : Int)), mI x1, mR 133] (SK, D1, false) 0 0 := by
      exact j_wk (j_widen (ce := 0) (ke := 0) (by decide) (by decide) (c_X12_side_j51 hd h)) (And.intro rfl trivial)
    refine j_if_eq (tgt := 50) (pc' := 45) dX12_side_42 rfl rfl q2 (fun b2 => ?_) (fun b2 => ?_)
    · refine j_iconst (pc' := 51) dX12_side_50 rfl ?_
      have hj := hj
      try simp only [if_pos b2] at hj
      exact j_wk hj (And.intro rfl trivial)
    · refine j_bipush (pc' := 47) dX12_side_45 rfl rfl ?_
      refine j_goto (tgt := 51) dX12_side_47 rfl ?_
      have hj := hj
      try simp only [if_neg b2] at hj
      exact j_wk hj (And.intro rfl trivial)
  · replace h := ite_f b1 h
    refine j_iconst (pc' := 36) dX12_side_35 rfl ?_
    refine j_goto (tgt := 56) dX12_side_36 rfl ?_
    exact j_iret dX12_side_56 rfl (by decide) (by decide) (rI_of h)
theorem c_X12_side_j23 {Ω : mO} {d : Nat} (hd : 3 ≤ d) {r : Int × mD} {x1 x2 x3 : Int} {D : mD} (h : F_X12_side_j23 x1 x2 x3 D = some r) : J Ω M_X12_side d 0 0 (rI r.1 r.2) 23 [some (mR 133), some (mI x1), some (mI x2), some (mI x3)] [mR 133] (SK, D, false) 0 0 := by
  rw [F_X12_side_j23] at h
  refine j_iconst (pc' := 24) dX12_side_23 rfl ?_
  refine j_goto (tgt := 28) dX12_side_24 rfl ?_
  exact j_wk (j_widen (ce := 0) (ke := 0) (by decide) (by decide) (c_X12_side_j28 hd h)) (And.intro rfl (And.intro rfl (And.intro rfl (And.intro rfl trivial))))
theorem c_X12_side_e {Ω : mO} {d : Nat} (hd : 3 ≤ d) {r : Int × mD} {x1 x2 x3 : Int} {D : mD} (h : F_X12_side x1 x2 x3 D = some r) : J Ω M_X12_side d 0 0 (rI r.1 r.2) 0 [some (mR 133), some (mI x1), some (mI x2), some (mI x3)] [] (SK, D, false) 0 0 := by
  rw [F_X12_side] at h
  refine j_aload_n (pc' := 1) dX12_side_0 rfl rfl ?_
  refine j_iconst (pc' := 2) dX12_side_1 rfl ?_
  refine k_putI (pc' := 5) (sl := 0) (i' := 0) kc_11 w_1477 (by decide) (Or.inl rfl) dX12_side_2 rfl (by decide) sk_133 (by decide) ⟨rfl, rfl⟩ rfl ?_
  refine j_aload_n (pc' := 6) dX12_side_5 rfl rfl ?_
  refine j_aload_n (pc' := 7) dX12_side_6 rfl rfl ?_
  refine j_iload_n (pc' := 8) dX12_side_7 rfl rfl ?_
  obtain ⟨v1, D1, e1, h⟩ := bI_o h
  refine k_cV (d' := 2) (pc' := 11) [mI x1] [mR 133] (c_X12_noSign (d := 2) (Nat.le_refl _) e1) cw_X12_327 kc_11 w_1765 ws_77 dX12_side_8 rfl (by omega) rfl rfl (by decide) sk_133 rfl rfl (by decide) (by decide) ?_
  obtain ⟨q1, h⟩ := ck_o h
  refine j_if_ne (tgt := 23) (pc' := 14) dX12_side_11 rfl rfl q1 (fun b1 => ?_) (fun b1 => ?_)
  · replace h := ite_f b1 h
    exact j_wk (j_widen (ce := 0) (ke := 0) (by decide) (by decide) (c_X12_side_j23 hd h)) (And.intro rfl (And.intro rfl (And.intro rfl (And.intro rfl trivial))))
  · replace h := ite_t b1 h
    refine j_iload_n (pc' := 15) dX12_side_14 rfl rfl ?_
    refine j_iconst (pc' := 16) dX12_side_15 rfl ?_
    refine j_iconst (pc' := 17) dX12_side_16 rfl ?_
    obtain ⟨v2, D2, e2, h⟩ := bI_o h
    refine k_cS (d' := 1) (pc' := 20) [mI x2, mI 0, mI 4] [mR 133] (c_X12_in (d := 1) (Nat.le_refl _) e2) cw_X12_90 w_1768 dX12_side_17 rfl (by omega) rfl rfl rfl rfl (by decide) (by decide) ?_
    obtain ⟨q2, h⟩ := ck_o h
    have hj : J Ω M_X12_side d 0 0 (rI r.1 r.2) 28 [some (mR 133), some (mI x1), some (mI x2), some (mI x3)] [mI (if v2 = 0 then (1 : Int) else (0 : Int)), mR 133] (SK, D2, false) 0 0 := by
      exact j_wk (j_widen (ce := 0) (ke := 0) (by decide) (by decide) (c_X12_side_j28 hd h)) (And.intro rfl (And.intro rfl (And.intro rfl (And.intro rfl trivial))))
    refine j_if_ne (tgt := 27) (pc' := 23) dX12_side_20 rfl rfl q2 (fun b2 => ?_) (fun b2 => ?_)
    · refine j_iconst (pc' := 28) dX12_side_27 rfl ?_
      have hj := hj
      try simp only [if_neg b2] at hj
      exact j_wk hj (And.intro rfl (And.intro rfl (And.intro rfl (And.intro rfl trivial))))
    · refine j_iconst (pc' := 24) dX12_side_23 rfl ?_
      refine j_goto (tgt := 28) dX12_side_24 rfl ?_
      have hj := hj
      try simp only [if_pos b2] at hj
      exact j_wk hj (And.intro rfl (And.intro rfl (And.intro rfl (And.intro rfl trivial))))
theorem c_X12_side {d : Nat} (hd : 3 ≤ d) {x1 x2 x3 : Int} {D D' : mD} {v : Int} (h : F_X12_side x1 x2 x3 D = some (v, D')) : CM d 0 0 M_X12_side [mR 133, mI x1, mI x2, mI x3] (SK, D, false) (rI v D') := CM.intro pn_X12 rfl rfl (Nat.le_of_ble_eq_true rfl) (fun _ => c_X12_side_e hd h)
theorem c_X12_beginOf_L9 {Ω : mO} {d : Nat} (hd : 7 ≤ d) {r : Int × mD} {x1 : Int} : ∀ (n : Nat) {x2 x3 : Int} {D : mD}, F_X12_beginOf_L9 x1 n x2 x3 D = some r → J Ω M_X12_beginOf d 0 0 (rI r.1 r.2) 9 [some (mR 133), some (mI x1), some (mI x2), some (mI x3)] [] (SK, D, false) 0 0 := by
  intro n
  induction n with
  | zero => intro x2 x3 D h; exact absurd (show (none : Option (Int × mD)) = some r from h) nofun
  | succ n ih =>
    intro x2 x3 D h
    rw [F_X12_beginOf_L9] at h
    refine j_iload_n (pc' := 10) dX12_beginOf_9 rfl rfl ?_
    refine j_iload_n (pc' := 11) dX12_beginOf_10 rfl rfl ?_
    obtain ⟨q1, h⟩ := ck_o h
    obtain ⟨q2, h⟩ := ck_o h
    refine j_icmp_ge (tgt := 34) (pc' := 14) dX12_beginOf_11 rfl rfl q1 q2 (fun b1 => ?_) (fun b1 => ?_)
    · replace h := ite_t b1 h
      refine j_iload_n (pc' := 35) dX12_beginOf_34 rfl rfl ?_
      exact j_iret dX12_beginOf_35 rfl (by decide) (by decide) (rI_of h)
    · replace h := ite_f b1 h
      refine j_iload_n (pc' := 15) dX12_beginOf_14 rfl rfl ?_
      refine j_aload_n (pc' := 16) dX12_beginOf_15 rfl rfl ?_
      refine j_iload_n (pc' := 17) dX12_beginOf_16 rfl rfl ?_
      obtain ⟨v1, D1, e1, h⟩ := bI_o h
      refine k_cV (d' := 6) (pc' := 20) [mI x3] [mI x2] (c_X12_widthOf (d := 6) (Nat.le_refl _) e1) cw_X12_333 kc_11 w_1792 ws_81 dX12_beginOf_17 rfl (by omega) rfl rfl (by decide) sk_133 rfl rfl (by decide) (by decide) ?_
      refine j_aload_n (pc' := 21) dX12_beginOf_20 rfl rfl ?_
      refine j_iload_n (pc' := 22) dX12_beginOf_21 rfl rfl ?_
      obtain ⟨v2, D2, e2, h⟩ := bI_o h
      refine k_cV (d' := 2) (pc' := 25) [mI x3] [mI v1, mI x2] (c_X12_distance (d := 2) (Nat.le_refl _) e2) cw_X12_319 kc_11 w_1809 ws_85 dX12_beginOf_22 rfl (by omega) rfl rfl (by decide) sk_133 rfl rfl (by decide) (by decide) ?_
      refine j_iadd (pc' := 26) dX12_beginOf_25 rfl ?_
      refine j_iadd (pc' := 27) dX12_beginOf_26 rfl ?_
      refine j_istore_n (pc' := 28) (ls' := [some (mR 133), some (mI x1), some (mI (x2 + (v1 + v2))), some (mI x3)]) dX12_beginOf_27 rfl (by decide) rfl ?_
      refine j_iinc (pc' := 31) (z' := (x3 + 1)) (ls' := [some (mR 133), some (mI x1), some (mI (x2 + (v1 + v2))), some (mI (x3 + 1))]) dX12_beginOf_28 rfl rfl rfl (by decide) rfl ?_
      refine j_goto (tgt := 9) dX12_beginOf_31 rfl ?_
      exact j_wk (j_widen (ce := 0) (ke := 0) (by decide) (by decide) (ih h)) (And.intro rfl (And.intro rfl (And.intro rfl (And.intro rfl trivial))))
theorem c_X12_beginOf_e {Ω : mO} {d : Nat} (hd : 7 ≤ d) {r : Int × mD} {x1 : Int} {D : mD} (h : F_X12_beginOf x1 D = some r) : J Ω M_X12_beginOf d 0 0 (rI r.1 r.2) 0 [some (mR 133), some (mI x1), none, none] [] (SK, D, false) 0 0 := by
  rw [F_X12_beginOf] at h
  refine j_aload_n (pc' := 1) dX12_beginOf_0 rfl rfl ?_
  refine k_getR (pc' := 4) (sl := 1) (r := 134) kc_11 w_1478 (Or.inl rfl) (by decide) dX12_beginOf_1 rfl (by decide) sk_133 (by decide) rfl (by decide) ?_
  refine j_iconst (pc' := 5) dX12_beginOf_4 rfl ?_
  refine k_iald (pc' := 6) (z := D 134 3) dX12_beginOf_5 rfl (by decide) sk_134 (by decide) (by decide) (by decide) rfl ?_
  refine j_istore_n (pc' := 7) (ls' := [some (mR 133), some (mI x1), some (mI (D 134 3)), none]) dX12_beginOf_6 rfl (by decide) rfl ?_
  refine j_iconst (pc' := 8) dX12_beginOf_7 rfl ?_
  refine j_istore_n (pc' := 9) (ls' := [some (mR 133), some (mI x1), some (mI (D 134 3)), some (mI 0)]) dX12_beginOf_8 rfl (by decide) rfl ?_
  exact j_wk (j_widen (ce := 0) (ke := 0) (by decide) (by decide) (c_X12_beginOf_L9 hd _ h)) (And.intro rfl (And.intro rfl (And.intro rfl (And.intro rfl trivial))))
theorem c_X12_beginOf {d : Nat} (hd : 7 ≤ d) {x1 : Int} {D D' : mD} {v : Int} (h : F_X12_beginOf x1 D = some (v, D')) : CM d 0 0 M_X12_beginOf [mR 133, mI x1] (SK, D, false) (rI v D') := CM.intro pn_X12 rfl rfl (Nat.le_of_ble_eq_true rfl) (fun _ => c_X12_beginOf_e hd h)
theorem c_X12_endOfLast_e {Ω : mO} {d : Nat} (hd : 8 ≤ d) {r : Int × mD} {D : mD} (h : F_X12_endOfLast D = some r) : J Ω M_X12_endOfLast d 0 0 (rI r.1 r.2) 0 [some (mR 133)] [] (SK, D, false) 0 0 := by
  rw [F_X12_endOfLast] at h
  refine j_aload_n (pc' := 1) dX12_endOfLast_0 rfl rfl ?_
  obtain ⟨v1, D1, e1, h⟩ := bI_o h
  refine k_cV (d' := 1) (pc' := 4) [] [] (c_X12_letters (d := 1) (Nat.le_refl _) e1) cw_X12_68 kc_11 w_1788 ws_80 dX12_endOfLast_1 rfl (by omega) rfl rfl (by decide) sk_133 rfl rfl (by decide) (by decide) ?_
  obtain ⟨q1, h⟩ := ck_o h
  refine j_if_ne (tgt := 16) (pc' := 7) dX12_endOfLast_4 rfl rfl q1 (fun b1 => ?_) (fun b1 => ?_)
  · replace h := ite_f b1 h
    refine j_aload_n (pc' := 17) dX12_endOfLast_16 rfl rfl ?_
    refine j_aload_n (pc' := 18) dX12_endOfLast_17 rfl rfl ?_
    obtain ⟨v2, D2, e2, h⟩ := bI_o h
    refine k_cV (d' := 1) (pc' := 21) [] [mR 133] (c_X12_letters (d := 1) (Nat.le_refl _) e2) cw_X12_68 kc_11 w_1788 ws_80 dX12_endOfLast_18 rfl (by omega) rfl rfl (by decide) sk_133 rfl rfl (by decide) (by decide) ?_
    refine j_iconst (pc' := 22) dX12_endOfLast_21 rfl ?_
    refine j_isub (pc' := 23) dX12_endOfLast_22 rfl ?_
    obtain ⟨v3, D3, e3, h⟩ := bI_o h
    refine k_cV (d' := 7) (pc' := 26) [mI (v2 - 1)] [] (c_X12_beginOf (d := 7) (Nat.le_refl _) e3) cw_X12_336 kc_11 w_1805 ws_84 dX12_endOfLast_23 rfl (by omega) rfl rfl (by decide) sk_133 rfl rfl (by decide) (by decide) ?_
    refine j_aload_n (pc' := 27) dX12_endOfLast_26 rfl rfl ?_
    refine j_aload_n (pc' := 28) dX12_endOfLast_27 rfl rfl ?_
    obtain ⟨v4, D4, e4, h⟩ := bI_o h
    refine k_cV (d' := 1) (pc' := 31) [] [mR 133, mI v3] (c_X12_letters (d := 1) (Nat.le_refl _) e4) cw_X12_68 kc_11 w_1788 ws_80 dX12_endOfLast_28 rfl (by omega) rfl rfl (by decide) sk_133 rfl rfl (by decide) (by decide) ?_
    refine j_iconst (pc' := 32) dX12_endOfLast_31 rfl ?_
    refine j_isub (pc' := 33) dX12_endOfLast_32 rfl ?_
    obtain ⟨v5, D5, e5, h⟩ := bI_o h
    refine k_cV (d' := 6) (pc' := 36) [mI (v4 - 1)] [mI v3] (c_X12_widthOf (d := 6) (Nat.le_refl _) e5) cw_X12_333 kc_11 w_1792 ws_81 dX12_endOfLast_33 rfl (by omega) rfl rfl (by decide) sk_133 rfl rfl (by decide) (by decide) ?_
    refine j_iadd (pc' := 37) dX12_endOfLast_36 rfl ?_
    exact j_iret dX12_endOfLast_37 rfl (by decide) (by decide) (rI_of h)
  · replace h := ite_t b1 h
    refine j_aload_n (pc' := 8) dX12_endOfLast_7 rfl rfl ?_
    refine k_getR (pc' := 11) (sl := 1) (r := 134) kc_11 w_1478 (Or.inl rfl) (by decide) dX12_endOfLast_8 rfl (by decide) sk_133 (by decide) rfl (by decide) ?_
    refine j_iconst (pc' := 12) dX12_endOfLast_11 rfl ?_
    refine k_iald (pc' := 13) (z := D1 134 3) dX12_endOfLast_12 rfl (by decide) sk_134 (by decide) (by decide) (by decide) rfl ?_
    refine j_goto (tgt := 37) dX12_endOfLast_13 rfl ?_
    exact j_iret dX12_endOfLast_37 rfl (by decide) (by decide) (rI_of h)
theorem c_X12_endOfLast {d : Nat} (hd : 8 ≤ d) {D D' : mD} {v : Int} (h : F_X12_endOfLast D = some (v, D')) : CM d 0 0 M_X12_endOfLast [mR 133] (SK, D, false) (rI v D') := CM.intro pn_X12 rfl rfl (Nat.le_of_ble_eq_true rfl) (fun _ => c_X12_endOfLast_e hd h)
theorem c_X12_letter_j33 {Ω : mO} {d : Nat} (hd : 8 ≤ d) {r : Int × mD} {x1 x2 s1 : Int} {D : mD} (h : F_X12_letter_j33 x1 x2 s1 D = some r) : J Ω M_X12_letter d 0 0 (rI r.1 r.2) 33 [some (mR 133), some (mI x1), some (mI x2)] [mI s1, mR 133] (SK, D, false) 0 0 := by
  rw [F_X12_letter_j33] at h
  refine j_iconst (pc' := 34) dX12_letter_33 rfl ?_
  obtain ⟨v1, D1, e1, h⟩ := bI_o h
  refine k_cV (d' := 1) (pc' := 37) [mI s1, mI 2] [] (c_X12_throwsIf (d := 1) (Nat.le_refl _) e1) cw_X12_282 kc_11 w_1753 ws_76 dX12_letter_34 rfl (by omega) rfl rfl (by decide) sk_133 rfl rfl (by decide) (by decide) ?_
  obtain ⟨q1, h⟩ := ck_o h
  refine j_if_eq (tgt := 42) (pc' := 40) dX12_letter_37 rfl rfl q1 (fun b1 => ?_) (fun b1 => ?_)
  · replace h := ite_t b1 h
    refine j_iload_n (pc' := 43) dX12_letter_42 rfl rfl ?_
    obtain ⟨q2, h⟩ := ck_o h
    by_cases b2 : x2 = 2
    · replace h := ite_t b2 h
      refine j_tabIn (off := 25) (tgt := 68) dX12_letter_43 q2 (by rw [b2]; decide) (by rw [b2]; decide) (by rw [b2]; rfl) rfl ?_
      refine j_aload_n (pc' := 69) dX12_letter_68 rfl rfl ?_
      refine j_iload_n (pc' := 70) dX12_letter_69 rfl rfl ?_
      obtain ⟨v2, D2, e2, h⟩ := bI_o h
      refine k_cV (d' := 6) (pc' := 73) [mI x1] [] (c_X12_widthOf (d := 6) (Nat.le_refl _) e2) cw_X12_333 kc_11 w_1792 ws_81 dX12_letter_70 rfl (by omega) rfl rfl (by decide) sk_133 rfl rfl (by decide) (by decide) ?_
      exact j_iret dX12_letter_73 rfl (by decide) (by decide) (rI_of h)
    replace h := ite_f b2 h
    by_cases b3 : x2 = 3
    · replace h := ite_t b3 h
      refine j_tabIn (off := 31) (tgt := 74) dX12_letter_43 q2 (by rw [b3]; decide) (by rw [b3]; decide) (by rw [b3]; rfl) rfl ?_
      refine j_aload_n (pc' := 75) dX12_letter_74 rfl rfl ?_
      refine j_iload_n (pc' := 76) dX12_letter_75 rfl rfl ?_
      obtain ⟨v3, D3, e3, h⟩ := bI_o h
      refine k_cV (d' := 7) (pc' := 79) [mI x1] [] (c_X12_beginOf (d := 7) (Nat.le_refl _) e3) cw_X12_336 kc_11 w_1805 ws_84 dX12_letter_76 rfl (by omega) rfl rfl (by decide) sk_133 rfl rfl (by decide) (by decide) ?_
      exact j_iret dX12_letter_79 rfl (by decide) (by decide) (rI_of h)
    replace h := ite_f b3 h
    by_cases b4 : x2 = 4
    · replace h := ite_t b4 h
      refine j_tabIn (off := 37) (tgt := 80) dX12_letter_43 q2 (by rw [b4]; decide) (by rw [b4]; decide) (by rw [b4]; rfl) rfl ?_
      refine j_aload_n (pc' := 81) dX12_letter_80 rfl rfl ?_
      refine j_iload_n (pc' := 82) dX12_letter_81 rfl rfl ?_
      refine j_iconst (pc' := 83) dX12_letter_82 rfl ?_
      obtain ⟨v4, D4, e4, h⟩ := bI_o h
      refine k_cV (d' := 1) (pc' := 86) [mI x1, mI 2] [] (c_X12_of (d := 1) (Nat.le_refl _) e4) cw_X12_78 kc_11 w_1800 ws_83 dX12_letter_83 rfl (by omega) rfl rfl (by decide) sk_133 rfl rfl (by decide) (by decide) ?_
      exact j_iret dX12_letter_86 rfl (by decide) (by decide) (rI_of h)
    replace h := ite_f b4 h
    refine j_tabOut (tgt := 87) dX12_letter_43 q2 (by omega) rfl ?_
    refine j_aload_n (pc' := 88) dX12_letter_87 rfl rfl ?_
    refine j_iload_n (pc' := 89) dX12_letter_88 rfl rfl ?_
    refine j_iload_n (pc' := 90) dX12_letter_89 rfl rfl ?_
    obtain ⟨v5, D5, e5, h⟩ := bI_o h
    refine k_cV (d' := 1) (pc' := 93) [mI x1, mI x2] [] (c_X12_of (d := 1) (Nat.le_refl _) e5) cw_X12_78 kc_11 w_1800 ws_83 dX12_letter_90 rfl (by omega) rfl rfl (by decide) sk_133 rfl rfl (by decide) (by decide) ?_
    exact j_iret dX12_letter_93 rfl (by decide) (by decide) (rI_of h)
  · replace h := ite_f b1 h
    refine j_iconst (pc' := 41) dX12_letter_40 rfl ?_
    exact j_iret dX12_letter_41 rfl (by decide) (by decide) (rI_of h)
theorem c_X12_letter_e {Ω : mO} {d : Nat} (hd : 8 ≤ d) {r : Int × mD} {x1 x2 : Int} {D : mD} (h : F_X12_letter x1 x2 D = some r) : J Ω M_X12_letter d 0 0 (rI r.1 r.2) 0 [some (mR 133), some (mI x1), some (mI x2)] [] (SK, D, false) 0 0 := by
  rw [F_X12_letter] at h
  refine j_aload_n (pc' := 1) dX12_letter_0 rfl rfl ?_
  refine j_iconst (pc' := 2) dX12_letter_1 rfl ?_
  refine k_putI (pc' := 5) (sl := 0) (i' := 0) kc_11 w_1477 (by decide) (Or.inl rfl) dX12_letter_2 rfl (by decide) sk_133 (by decide) ⟨rfl, rfl⟩ rfl ?_
  refine j_aload_n (pc' := 6) dX12_letter_5 rfl rfl ?_
  refine j_aload_n (pc' := 7) dX12_letter_6 rfl rfl ?_
  refine j_iload_n (pc' := 8) dX12_letter_7 rfl rfl ?_
  obtain ⟨v1, D1, e1, h⟩ := bI_o h
  refine k_cV (d' := 2) (pc' := 11) [mI x1] [mR 133] (c_X12_noLetter (d := 2) (Nat.le_refl _) e1) cw_X12_339 kc_11 w_1784 ws_79 dX12_letter_8 rfl (by omega) rfl rfl (by decide) sk_133 rfl rfl (by decide) (by decide) ?_
  refine j_iconst (pc' := 12) dX12_letter_11 rfl ?_
  obtain ⟨v2, D2, e2, h⟩ := bI_o h
  refine k_cV (d' := 1) (pc' := 15) [mI v1, mI 1] [] (c_X12_throwsIf (d := 1) (Nat.le_refl _) e2) cw_X12_282 kc_11 w_1753 ws_76 dX12_letter_12 rfl (by omega) rfl rfl (by decide) sk_133 rfl rfl (by decide) (by decide) ?_
  obtain ⟨q1, h⟩ := ck_o h
  refine j_if_ne (tgt := 40) (pc' := 18) dX12_letter_15 rfl rfl q1 (fun b1 => ?_) (fun b1 => ?_)
  · replace h := ite_f b1 h
    refine j_iconst (pc' := 41) dX12_letter_40 rfl ?_
    exact j_iret dX12_letter_41 rfl (by decide) (by decide) (rI_of h)
  · replace h := ite_t b1 h
    refine j_aload_n (pc' := 19) dX12_letter_18 rfl rfl ?_
    refine j_iload_n (pc' := 20) dX12_letter_19 rfl rfl ?_
    refine j_iconst (pc' := 21) dX12_letter_20 rfl ?_
    refine j_iconst (pc' := 22) dX12_letter_21 rfl ?_
    obtain ⟨v3, D3, e3, h⟩ := bI_o h
    refine k_cS (d' := 1) (pc' := 25) [mI x2, mI 0, mI 4] [mR 133] (c_X12_in (d := 1) (Nat.le_refl _) e3) cw_X12_90 w_1768 dX12_letter_22 rfl (by omega) rfl rfl rfl rfl (by decide) (by decide) ?_
    obtain ⟨q2, h⟩ := ck_o h
    have hj : J Ω M_X12_letter d 0 0 (rI r.1 r.2) 33 [some (mR 133), some (mI x1), some (mI x2)] [mI (if v3 = 0 then (1 : Int) else (0 : Int)), mR 133] (SK, D3, false) 0 0 := by
      exact j_wk (j_widen (ce := 0) (ke := 0) (by decide) (by decide) (c_X12_letter_j33 hd h)) (And.intro rfl (And.intro rfl (And.intro rfl trivial)))
    refine j_if_ne (tgt := 32) (pc' := 28) dX12_letter_25 rfl rfl q2 (fun b2 => ?_) (fun b2 => ?_)
    · refine j_iconst (pc' := 33) dX12_letter_32 rfl ?_
      have hj := hj
      try simp only [if_neg b2] at hj
      exact j_wk hj (And.intro rfl (And.intro rfl (And.intro rfl trivial)))
    · refine j_iconst (pc' := 29) dX12_letter_28 rfl ?_
      refine j_goto (tgt := 33) dX12_letter_29 rfl ?_
      have hj := hj
      try simp only [if_pos b2] at hj
      exact j_wk hj (And.intro rfl (And.intro rfl (And.intro rfl trivial)))
theorem c_X12_letter {d : Nat} (hd : 8 ≤ d) {x1 x2 : Int} {D D' : mD} {v : Int} (h : F_X12_letter x1 x2 D = some (v, D')) : CM d 0 0 M_X12_letter [mR 133, mI x1, mI x2] (SK, D, false) (rI v D') := CM.intro pn_X12 rfl rfl (Nat.le_of_ble_eq_true rfl) (fun _ => c_X12_letter_e hd h)
theorem c_X12_gap_j33 {Ω : mO} {d : Nat} (hd : 10 ≤ d) {r : Int × mD} {x1 x2 s1 : Int} {D : mD} (h : F_X12_gap_j33 x1 x2 s1 D = some r) : J Ω M_X12_gap d 0 0 (rI r.1 r.2) 33 [some (mR 133), some (mI x1), some (mI x2)] [mI s1, mR 133] (SK, D, false) 0 0 := by
  rw [F_X12_gap_j33] at h
  refine j_iconst (pc' := 34) dX12_gap_33 rfl ?_
  obtain ⟨v1, D1, e1, h⟩ := bI_o h
  refine k_cV (d' := 1) (pc' := 37) [mI s1, mI 2] [] (c_X12_throwsIf (d := 1) (Nat.le_refl _) e1) cw_X12_282 kc_11 w_1753 ws_76 dX12_gap_34 rfl (by omega) rfl rfl (by decide) sk_133 rfl rfl (by decide) (by decide) ?_
  obtain ⟨q1, h⟩ := ck_o h
  refine j_if_eq (tgt := 42) (pc' := 40) dX12_gap_37 rfl rfl q1 (fun b1 => ?_) (fun b1 => ?_)
  · replace h := ite_t b1 h
    refine j_iload_n (pc' := 43) dX12_gap_42 rfl rfl ?_
    obtain ⟨q2, h⟩ := ck_o h
    refine j_if_ne (tgt := 54) (pc' := 46) dX12_gap_43 rfl rfl q2 (fun b2 => ?_) (fun b2 => ?_)
    · replace h := ite_f b2 h
      refine j_iload_n (pc' := 55) dX12_gap_54 rfl rfl ?_
      refine j_iconst (pc' := 56) dX12_gap_55 rfl ?_
      refine j_icmp_ne (tgt := 67) (pc' := 59) dX12_gap_56 rfl rfl q2 (by decide) (fun b3 => ?_) (fun b3 => ?_)
      · replace h := ite_f b3 h
        refine j_aload_n (pc' := 68) dX12_gap_67 rfl rfl ?_
        refine j_iload_n (pc' := 69) dX12_gap_68 rfl rfl ?_
        obtain ⟨v2, D2, e2, h⟩ := bI_o h
        refine k_cV (d' := 7) (pc' := 72) [mI x1] [] (c_X12_leastSpace (d := 7) (Nat.le_refl _) e2) cw_X12_347 kc_11 w_1858 ws_96 dX12_gap_69 rfl (by omega) rfl rfl (by decide) sk_133 rfl rfl (by decide) (by decide) ?_
        exact j_iret dX12_gap_72 rfl (by decide) (by decide) (rI_of h)
      · replace h := ite_t b3 h
        refine j_aload_n (pc' := 60) dX12_gap_59 rfl rfl ?_
        refine j_iload_n (pc' := 61) dX12_gap_60 rfl rfl ?_
        obtain ⟨v3, D3, e3, h⟩ := bI_o h
        refine k_cV (d' := 9) (pc' := 64) [mI x1] [] (c_X12_white (d := 9) (Nat.le_refl _) e3) cw_X12_345 kc_11 w_1825 ws_88 dX12_gap_61 rfl (by omega) rfl rfl (by decide) sk_133 rfl rfl (by decide) (by decide) ?_
        refine j_goto (tgt := 72) dX12_gap_64 rfl ?_
        exact j_iret dX12_gap_72 rfl (by decide) (by decide) (rI_of h)
    · replace h := ite_t b2 h
      refine j_aload_n (pc' := 47) dX12_gap_46 rfl rfl ?_
      refine j_iload_n (pc' := 48) dX12_gap_47 rfl rfl ?_
      obtain ⟨v4, D4, e4, h⟩ := bI_o h
      refine k_cV (d' := 2) (pc' := 51) [mI x1] [] (c_X12_distance (d := 2) (Nat.le_refl _) e4) cw_X12_319 kc_11 w_1809 ws_85 dX12_gap_48 rfl (by omega) rfl rfl (by decide) sk_133 rfl rfl (by decide) (by decide) ?_
      refine j_goto (tgt := 72) dX12_gap_51 rfl ?_
      exact j_iret dX12_gap_72 rfl (by decide) (by decide) (rI_of h)
  · replace h := ite_f b1 h
    refine j_iconst (pc' := 41) dX12_gap_40 rfl ?_
    exact j_iret dX12_gap_41 rfl (by decide) (by decide) (rI_of h)
theorem c_X12_gap_e {Ω : mO} {d : Nat} (hd : 10 ≤ d) {r : Int × mD} {x1 x2 : Int} {D : mD} (h : F_X12_gap x1 x2 D = some r) : J Ω M_X12_gap d 0 0 (rI r.1 r.2) 0 [some (mR 133), some (mI x1), some (mI x2)] [] (SK, D, false) 0 0 := by
  rw [F_X12_gap] at h
  refine j_aload_n (pc' := 1) dX12_gap_0 rfl rfl ?_
  refine j_iconst (pc' := 2) dX12_gap_1 rfl ?_
  refine k_putI (pc' := 5) (sl := 0) (i' := 0) kc_11 w_1477 (by decide) (Or.inl rfl) dX12_gap_2 rfl (by decide) sk_133 (by decide) ⟨rfl, rfl⟩ rfl ?_
  refine j_aload_n (pc' := 6) dX12_gap_5 rfl rfl ?_
  refine j_aload_n (pc' := 7) dX12_gap_6 rfl rfl ?_
  refine j_iload_n (pc' := 8) dX12_gap_7 rfl rfl ?_
  obtain ⟨v1, D1, e1, h⟩ := bI_o h
  refine k_cV (d' := 7) (pc' := 11) [mI x1] [mR 133] (c_X12_noGap (d := 7) (Nat.le_refl _) e1) cw_X12_342 kc_11 w_1817 ws_86 dX12_gap_8 rfl (by omega) rfl rfl (by decide) sk_133 rfl rfl (by decide) (by decide) ?_
  refine j_iconst (pc' := 12) dX12_gap_11 rfl ?_
  obtain ⟨v2, D2, e2, h⟩ := bI_o h
  refine k_cV (d' := 1) (pc' := 15) [mI v1, mI 1] [] (c_X12_throwsIf (d := 1) (Nat.le_refl _) e2) cw_X12_282 kc_11 w_1753 ws_76 dX12_gap_12 rfl (by omega) rfl rfl (by decide) sk_133 rfl rfl (by decide) (by decide) ?_
  obtain ⟨q1, h⟩ := ck_o h
  refine j_if_ne (tgt := 40) (pc' := 18) dX12_gap_15 rfl rfl q1 (fun b1 => ?_) (fun b1 => ?_)
  · replace h := ite_f b1 h
    refine j_iconst (pc' := 41) dX12_gap_40 rfl ?_
    exact j_iret dX12_gap_41 rfl (by decide) (by decide) (rI_of h)
  · replace h := ite_t b1 h
    refine j_aload_n (pc' := 19) dX12_gap_18 rfl rfl ?_
    refine j_iload_n (pc' := 20) dX12_gap_19 rfl rfl ?_
    refine j_iconst (pc' := 21) dX12_gap_20 rfl ?_
    refine j_iconst (pc' := 22) dX12_gap_21 rfl ?_
    obtain ⟨v3, D3, e3, h⟩ := bI_o h
    refine k_cS (d' := 1) (pc' := 25) [mI x2, mI 0, mI 2] [mR 133] (c_X12_in (d := 1) (Nat.le_refl _) e3) cw_X12_90 w_1768 dX12_gap_22 rfl (by omega) rfl rfl rfl rfl (by decide) (by decide) ?_
    obtain ⟨q2, h⟩ := ck_o h
    have hj : J Ω M_X12_gap d 0 0 (rI r.1 r.2) 33 [some (mR 133), some (mI x1), some (mI x2)] [mI (if v3 = 0 then (1 : Int) else (0 : Int)), mR 133] (SK, D3, false) 0 0 := by
      exact j_wk (j_widen (ce := 0) (ke := 0) (by decide) (by decide) (c_X12_gap_j33 hd h)) (And.intro rfl (And.intro rfl (And.intro rfl trivial)))
    refine j_if_ne (tgt := 32) (pc' := 28) dX12_gap_25 rfl rfl q2 (fun b2 => ?_) (fun b2 => ?_)
    · refine j_iconst (pc' := 33) dX12_gap_32 rfl ?_
      have hj := hj
      try simp only [if_neg b2] at hj
      exact j_wk hj (And.intro rfl (And.intro rfl (And.intro rfl trivial)))
    · refine j_iconst (pc' := 29) dX12_gap_28 rfl ?_
      refine j_goto (tgt := 33) dX12_gap_29 rfl ?_
      have hj := hj
      try simp only [if_pos b2] at hj
      exact j_wk hj (And.intro rfl (And.intro rfl (And.intro rfl trivial)))
theorem c_X12_gap {d : Nat} (hd : 10 ≤ d) {x1 x2 : Int} {D D' : mD} {v : Int} (h : F_X12_gap x1 x2 D = some (v, D')) : CM d 0 0 M_X12_gap [mR 133, mI x1, mI x2] (SK, D, false) (rI v D') := CM.intro pn_X12 rfl rfl (Nat.le_of_ble_eq_true rfl) (fun _ => c_X12_gap_e hd h)
theorem c_X12_row_j28 {Ω : mO} {d : Nat} (hd : 8 ≤ d) {r : Int × mD} {x1 x2 x3 s1 : Int} {D : mD} (h : F_X12_row_j28 x1 x2 x3 s1 D = some r) : J Ω M_X12_row d 0 0 (rI r.1 r.2) 28 [some (mR 133), some (mI x1), some (mI x2), some (mI x3)] [mI s1, mR 133] (SK, D, false) 0 0 := by
  rw [F_X12_row_j28] at h
  refine j_iconst (pc' := 29) dX12_row_28 rfl ?_
  obtain ⟨v1, D1, e1, h⟩ := bI_o h
  refine k_cV (d' := 1) (pc' := 32) [mI s1, mI 1] [] (c_X12_throwsIf (d := 1) (Nat.le_refl _) e1) cw_X12_282 kc_11 w_1753 ws_76 dX12_row_29 rfl (by omega) rfl rfl (by decide) sk_133 rfl rfl (by decide) (by decide) ?_
  obtain ⟨q1, h⟩ := ck_o h
  refine j_if_eq (tgt := 37) (pc' := 35) dX12_row_32 rfl rfl q1 (fun b1 => ?_) (fun b1 => ?_)
  · replace h := ite_t b1 h
    refine j_iload_n (pc' := 38) dX12_row_37 rfl rfl ?_
    obtain ⟨q2, h⟩ := ck_o h
    refine j_if_eq (tgt := 55) (pc' := 41) dX12_row_38 rfl rfl q2 (fun b2 => ?_) (fun b2 => ?_)
    · replace h := ite_t b2 h
      refine j_aload_n (pc' := 56) dX12_row_55 rfl rfl ?_
      refine j_iload_n (pc' := 57) dX12_row_56 rfl rfl ?_
      refine j_aload_n (pc' := 58) dX12_row_57 rfl rfl ?_
      refine j_iload_n (pc' := 59) dX12_row_58 rfl rfl ?_
      obtain ⟨v2, D2, e2, h⟩ := bI_o h
      refine k_cV (d' := 2) (pc' := 62) [mI x1] [mI x1, mR 133] (c_X12_distance (d := 2) (Nat.le_refl _) e2) cw_X12_319 kc_11 w_1809 ws_85 dX12_row_59 rfl (by omega) rfl rfl (by decide) sk_133 rfl rfl (by decide) (by decide) ?_
      refine j_iload_n (pc' := 63) dX12_row_62 rfl rfl ?_
      obtain ⟨v3, D3, e3, h⟩ := bI_o h
      refine k_cV (d' := 6) (pc' := 66) [mI x1, mI v2, mI x2] [] (c_X12_spaceOf (d := 6) (Nat.le_refl _) e3) cw_X12_313 kc_11 w_1833 ws_90 dX12_row_63 rfl (by omega) rfl rfl (by decide) sk_133 rfl rfl (by decide) (by decide) ?_
      exact j_iret dX12_row_66 rfl (by decide) (by decide) (rI_of h)
    · replace h := ite_f b2 h
      refine j_aload_n (pc' := 42) dX12_row_41 rfl rfl ?_
      refine j_iload_n (pc' := 43) dX12_row_42 rfl rfl ?_
      refine j_aload_n (pc' := 44) dX12_row_43 rfl rfl ?_
      refine j_iload_n (pc' := 45) dX12_row_44 rfl rfl ?_
      obtain ⟨v4, D4, e4, h⟩ := bI_o h
      refine k_cV (d' := 2) (pc' := 48) [mI x1] [mI x1, mR 133] (c_X12_distance (d := 2) (Nat.le_refl _) e4) cw_X12_319 kc_11 w_1809 ws_85 dX12_row_45 rfl (by omega) rfl rfl (by decide) sk_133 rfl rfl (by decide) (by decide) ?_
      refine j_iload_n (pc' := 49) dX12_row_48 rfl rfl ?_
      obtain ⟨v5, D5, e5, h⟩ := bI_o h
      refine k_cV (d' := 7) (pc' := 52) [mI x1, mI v4, mI x2] [] (c_X12_weightOf (d := 7) (Nat.le_refl _) e5) cw_X12_316 kc_11 w_1838 ws_91 dX12_row_49 rfl (by omega) rfl rfl (by decide) sk_133 rfl rfl (by decide) (by decide) ?_
      refine j_goto (tgt := 66) dX12_row_52 rfl ?_
      exact j_iret dX12_row_66 rfl (by decide) (by decide) (rI_of h)
  · replace h := ite_f b1 h
    refine j_iconst (pc' := 36) dX12_row_35 rfl ?_
    exact j_iret dX12_row_36 rfl (by decide) (by decide) (rI_of h)
theorem c_X12_row_j23 {Ω : mO} {d : Nat} (hd : 8 ≤ d) {r : Int × mD} {x1 x2 x3 : Int} {D : mD} (h : F_X12_row_j23 x1 x2 x3 D = some r) : J Ω M_X12_row d 0 0 (rI r.1 r.2) 23 [some (mR 133), some (mI x1), some (mI x2), some (mI x3)] [mR 133] (SK, D, false) 0 0 := by
  rw [F_X12_row_j23] at h
  refine j_iconst (pc' := 24) dX12_row_23 rfl ?_
  refine j_goto (tgt := 28) dX12_row_24 rfl ?_
  exact j_wk (j_widen (ce := 0) (ke := 0) (by decide) (by decide) (c_X12_row_j28 hd h)) (And.intro rfl (And.intro rfl (And.intro rfl (And.intro rfl trivial))))
theorem c_X12_row_e {Ω : mO} {d : Nat} (hd : 8 ≤ d) {r : Int × mD} {x1 x2 x3 : Int} {D : mD} (h : F_X12_row x1 x2 x3 D = some r) : J Ω M_X12_row d 0 0 (rI r.1 r.2) 0 [some (mR 133), some (mI x1), some (mI x2), some (mI x3)] [] (SK, D, false) 0 0 := by
  rw [F_X12_row] at h
  refine j_aload_n (pc' := 1) dX12_row_0 rfl rfl ?_
  refine j_iconst (pc' := 2) dX12_row_1 rfl ?_
  refine k_putI (pc' := 5) (sl := 0) (i' := 0) kc_11 w_1477 (by decide) (Or.inl rfl) dX12_row_2 rfl (by decide) sk_133 (by decide) ⟨rfl, rfl⟩ rfl ?_
  refine j_aload_n (pc' := 6) dX12_row_5 rfl rfl ?_
  refine j_aload_n (pc' := 7) dX12_row_6 rfl rfl ?_
  refine j_iload_n (pc' := 8) dX12_row_7 rfl rfl ?_
  obtain ⟨v1, D1, e1, h⟩ := bI_o h
  refine k_cV (d' := 7) (pc' := 11) [mI x1] [mR 133] (c_X12_noGap (d := 7) (Nat.le_refl _) e1) cw_X12_342 kc_11 w_1817 ws_86 dX12_row_8 rfl (by omega) rfl rfl (by decide) sk_133 rfl rfl (by decide) (by decide) ?_
  obtain ⟨q1, h⟩ := ck_o h
  refine j_if_ne (tgt := 23) (pc' := 14) dX12_row_11 rfl rfl q1 (fun b1 => ?_) (fun b1 => ?_)
  · replace h := ite_f b1 h
    exact j_wk (j_widen (ce := 0) (ke := 0) (by decide) (by decide) (c_X12_row_j23 hd h)) (And.intro rfl (And.intro rfl (And.intro rfl (And.intro rfl trivial))))
  · replace h := ite_t b1 h
    refine j_iload_n (pc' := 15) dX12_row_14 rfl rfl ?_
    refine j_iconst (pc' := 16) dX12_row_15 rfl ?_
    refine j_iconst (pc' := 17) dX12_row_16 rfl ?_
    obtain ⟨v2, D2, e2, h⟩ := bI_o h
    refine k_cS (d' := 1) (pc' := 20) [mI x2, mI 0, mI 4] [mR 133] (c_X12_in (d := 1) (Nat.le_refl _) e2) cw_X12_90 w_1768 dX12_row_17 rfl (by omega) rfl rfl rfl rfl (by decide) (by decide) ?_
    obtain ⟨q2, h⟩ := ck_o h
    have hj : J Ω M_X12_row d 0 0 (rI r.1 r.2) 28 [some (mR 133), some (mI x1), some (mI x2), some (mI x3)] [mI (if v2 = 0 then (1 : Int) else (0 : Int)), mR 133] (SK, D2, false) 0 0 := by
      exact j_wk (j_widen (ce := 0) (ke := 0) (by decide) (by decide) (c_X12_row_j28 hd h)) (And.intro rfl (And.intro rfl (And.intro rfl (And.intro rfl trivial))))
    refine j_if_ne (tgt := 27) (pc' := 23) dX12_row_20 rfl rfl q2 (fun b2 => ?_) (fun b2 => ?_)
    · refine j_iconst (pc' := 28) dX12_row_27 rfl ?_
      have hj := hj
      try simp only [if_neg b2] at hj
      exact j_wk hj (And.intro rfl (And.intro rfl (And.intro rfl (And.intro rfl trivial))))
    · refine j_iconst (pc' := 24) dX12_row_23 rfl ?_
      refine j_goto (tgt := 28) dX12_row_24 rfl ?_
      have hj := hj
      try simp only [if_pos b2] at hj
      exact j_wk hj (And.intro rfl (And.intro rfl (And.intro rfl (And.intro rfl trivial))))
theorem c_X12_row {d : Nat} (hd : 8 ≤ d) {x1 x2 x3 : Int} {D D' : mD} {v : Int} (h : F_X12_row x1 x2 x3 D = some (v, D')) : CM d 0 0 M_X12_row [mR 133, mI x1, mI x2, mI x3] (SK, D, false) (rI v D') := CM.intro pn_X12 rfl rfl (Nat.le_of_ble_eq_true rfl) (fun _ => c_X12_row_e hd h)
theorem c_X12_noLight_e {Ω : mO} {d : Nat} (hd : 2 ≤ d) {r : Int × mD} {x0 x1 : Int} {D : mD} (h : F_X12_noLight x0 x1 D = some r) : J Ω M_X12_noLight d 0 0 (rI r.1 r.2) 0 [some (mI x0), some (mI x1)] [] (SK, D, false) 0 0 := by
  rw [F_X12_noLight] at h
  refine j_iload_n (pc' := 1) dX12_noLight_0 rfl rfl ?_
  refine j_iconst (pc' := 2) dX12_noLight_1 rfl ?_
  refine j_bipush (pc' := 4) dX12_noLight_2 rfl rfl ?_
  obtain ⟨v1, D1, e1, h⟩ := bI_o h
  refine k_cS (d' := 1) (pc' := 7) [mI x0, mI 1, mI 60] [] (c_X12_in (d := 1) (Nat.le_refl _) e1) cw_X12_90 w_1768 dX12_noLight_4 rfl (by omega) rfl rfl rfl rfl (by decide) (by decide) ?_
  obtain ⟨q1, h⟩ := ck_o h
  refine j_if_eq (tgt := 20) (pc' := 10) dX12_noLight_7 rfl rfl q1 (fun b1 => ?_) (fun b1 => ?_)
  · replace h := ite_t b1 h
    refine j_iconst (pc' := 21) dX12_noLight_20 rfl ?_
    refine j_goto (tgt := 25) dX12_noLight_21 rfl ?_
    exact j_zret dX12_noLight_25 rfl (Or.inr rfl) (by decide) (by decide) (rI_of h)
  · replace h := ite_f b1 h
    refine j_iload_n (pc' := 11) dX12_noLight_10 rfl rfl ?_
    refine j_iconst (pc' := 12) dX12_noLight_11 rfl ?_
    refine j_bipush (pc' := 14) dX12_noLight_12 rfl rfl ?_
    obtain ⟨v2, D2, e2, h⟩ := bI_o h
    refine k_cS (d' := 1) (pc' := 17) [mI x1, mI 0, mI 9] [] (c_X12_in (d := 1) (Nat.le_refl _) e2) cw_X12_90 w_1768 dX12_noLight_14 rfl (by omega) rfl rfl rfl rfl (by decide) (by decide) ?_
    obtain ⟨q2, h⟩ := ck_o h
    have hj : J Ω M_X12_noLight d 0 0 (rI r.1 r.2) 25 [none, none] [mI (if v2 = 0 then (1 : Int) else (0 : Int))] (SK, D2, false) 0 0 := by
      obtain ⟨q3, h⟩ := ck_o h
      exact j_zret dX12_noLight_25 rfl q3 (by decide) (by decide) (rI_of h)
    refine j_if_ne (tgt := 24) (pc' := 20) dX12_noLight_17 rfl rfl q2 (fun b2 => ?_) (fun b2 => ?_)
    · refine j_iconst (pc' := 25) dX12_noLight_24 rfl ?_
      have hj := hj
      try simp only [if_neg b2] at hj
      exact j_wk hj (trivial)
    · refine j_iconst (pc' := 21) dX12_noLight_20 rfl ?_
      refine j_goto (tgt := 25) dX12_noLight_21 rfl ?_
      have hj := hj
      try simp only [if_pos b2] at hj
      exact j_wk hj (trivial)
theorem c_X12_noLight {d : Nat} (hd : 2 ≤ d) {x0 x1 : Int} {D D' : mD} {v : Int} (h : F_X12_noLight x0 x1 D = some (v, D')) : CM d 0 0 M_X12_noLight [mI x0, mI x1] (SK, D, false) (rI v D') := CM.intro pn_X12 rfl rfl (Nat.le_of_ble_eq_true rfl) (fun _ => c_X12_noLight_e hd h)
theorem c_X12_fades_e {Ω : mO} {d : Nat} (hd : 8 ≤ d) {r : Int × mD} {x1 x2 : Int} {D : mD} (h : F_X12_fades x1 x2 D = some r) : J Ω M_X12_fades d 0 0 (rI r.1 r.2) 0 [some (mR 133), some (mI x1), some (mI x2)] [] (SK, D, false) 0 0 := by
  rw [F_X12_fades] at h
  refine j_aload_n (pc' := 1) dX12_fades_0 rfl rfl ?_
  refine j_iconst (pc' := 2) dX12_fades_1 rfl ?_
  refine k_putI (pc' := 5) (sl := 0) (i' := 0) kc_11 w_1477 (by decide) (Or.inl rfl) dX12_fades_2 rfl (by decide) sk_133 (by decide) ⟨rfl, rfl⟩ rfl ?_
  refine j_aload_n (pc' := 6) dX12_fades_5 rfl rfl ?_
  refine j_iload_n (pc' := 7) dX12_fades_6 rfl rfl ?_
  refine j_iload_n (pc' := 8) dX12_fades_7 rfl rfl ?_
  obtain ⟨v1, D1, e1, h⟩ := bI_o h
  refine k_cS (d' := 2) (pc' := 11) [mI x1, mI x2] [mR 133] (c_X12_noLight (d := 2) (Nat.le_refl _) e1) cw_X12_350 w_1870 dX12_fades_8 rfl (by omega) rfl rfl rfl rfl (by decide) (by decide) ?_
  refine j_iconst (pc' := 12) dX12_fades_11 rfl ?_
  obtain ⟨v2, D2, e2, h⟩ := bI_o h
  refine k_cV (d' := 1) (pc' := 15) [mI v1, mI 1] [] (c_X12_throwsIf (d := 1) (Nat.le_refl _) e2) cw_X12_282 kc_11 w_1753 ws_76 dX12_fades_12 rfl (by omega) rfl rfl (by decide) sk_133 rfl rfl (by decide) (by decide) ?_
  obtain ⟨q1, h⟩ := ck_o h
  refine j_if_eq (tgt := 22) (pc' := 18) dX12_fades_15 rfl rfl q1 (fun b1 => ?_) (fun b1 => ?_)
  · replace h := ite_t b1 h
    refine j_aload_n (pc' := 23) dX12_fades_22 rfl rfl ?_
    refine j_iload_n (pc' := 24) dX12_fades_23 rfl rfl ?_
    refine j_iload_n (pc' := 25) dX12_fades_24 rfl rfl ?_
    obtain ⟨v3, D3, e3, h⟩ := bI_o h
    refine k_cV (d' := 7) (pc' := 28) [mI x1, mI x2] [] (c_X12_fadesBy (d := 7) (Nat.le_refl _) e3) cw_X12_353 kc_11 w_1874 ws_97 dX12_fades_25 rfl (by omega) rfl rfl (by decide) sk_133 rfl rfl (by decide) (by decide) ?_
    exact j_iret dX12_fades_28 rfl (by decide) (by decide) (rI_of h)
  · replace h := ite_f b1 h
    refine j_iconst (pc' := 19) dX12_fades_18 rfl ?_
    refine j_goto (tgt := 28) dX12_fades_19 rfl ?_
    exact j_iret dX12_fades_28 rfl (by decide) (by decide) (rI_of h)
theorem c_X12_fades {d : Nat} (hd : 8 ≤ d) {x1 x2 : Int} {D D' : mD} {v : Int} (h : F_X12_fades x1 x2 D = some (v, D')) : CM d 0 0 M_X12_fades [mR 133, mI x1, mI x2] (SK, D, false) (rI v D') := CM.intro pn_X12 rfl rfl (Nat.le_of_ble_eq_true rfl) (fun _ => c_X12_fades_e hd h)
theorem c_X12_shift_j34 {Ω : mO} {d : Nat} (hd : 8 ≤ d) {r : Int × mD} {x1 x2 s1 : Int} {D : mD} (h : F_X12_shift_j34 x1 x2 s1 D = some r) : J Ω M_X12_shift d 0 0 (rI r.1 r.2) 34 [some (mR 133), some (mI x1), some (mI x2), none] [mI s1, mR 133] (SK, D, false) 0 0 := by
  rw [F_X12_shift_j34] at h
  refine j_iconst (pc' := 35) dX12_shift_34 rfl ?_
  obtain ⟨v1, D1, e1, h⟩ := bI_o h
  refine k_cV (d' := 1) (pc' := 38) [mI s1, mI 2] [] (c_X12_throwsIf (d := 1) (Nat.le_refl _) e1) cw_X12_282 kc_11 w_1753 ws_76 dX12_shift_35 rfl (by omega) rfl rfl (by decide) sk_133 rfl rfl (by decide) (by decide) ?_
  obtain ⟨q1, h⟩ := ck_o h
  refine j_if_eq (tgt := 43) (pc' := 41) dX12_shift_38 rfl rfl q1 (fun b1 => ?_) (fun b1 => ?_)
  · replace h := ite_t b1 h
    refine j_aload_n (pc' := 44) dX12_shift_43 rfl rfl ?_
    obtain ⟨v2, D2, e2, h⟩ := bI_o h
    refine k_cVv (d' := 1) (pc' := 47) [] [] (c_X12_remembers (d := 1) (Nat.le_refl _) e2) cw_X12_356 kc_11 w_1882 ws_98 dX12_shift_44 rfl (by omega) rfl rfl (by decide) sk_133 rfl rfl (by decide) (by decide) ?_
    refine j_aload_n (pc' := 48) dX12_shift_47 rfl rfl ?_
    refine j_iload_n (pc' := 49) dX12_shift_48 rfl rfl ?_
    obtain ⟨v3, D3, e3, h⟩ := bI_o h
    refine k_cV (d' := 2) (pc' := 52) [mI x1] [] (c_X12_distance (d := 2) (Nat.le_refl _) e3) cw_X12_319 kc_11 w_1809 ws_85 dX12_shift_49 rfl (by omega) rfl rfl (by decide) sk_133 rfl rfl (by decide) (by decide) ?_
    refine j_istore_n (pc' := 53) (ls' := [some (mR 133), some (mI x1), some (mI x2), some (mI v3)]) dX12_shift_52 rfl (by decide) rfl ?_
    refine j_aload_n (pc' := 54) dX12_shift_53 rfl rfl ?_
    refine j_iload_n (pc' := 55) dX12_shift_54 rfl rfl ?_
    refine j_iconst (pc' := 56) dX12_shift_55 rfl ?_
    refine j_iload_n (pc' := 57) dX12_shift_56 rfl rfl ?_
    obtain ⟨v4, D4, e4, h⟩ := bI_o h
    refine k_cVv (d' := 1) (pc' := 60) [mI x1, mI 3, mI x2] [] (c_X12_sets (d := 1) (Nat.le_refl _) e4) cw_X12_166 kc_11 w_1679 ws_61 dX12_shift_57 rfl (by omega) rfl rfl (by decide) sk_133 rfl rfl (by decide) (by decide) ?_
    refine j_iload_n (pc' := 61) dX12_shift_60 rfl rfl ?_
    exact j_iret dX12_shift_61 rfl (by decide) (by decide) (rI_of h)
  · replace h := ite_f b1 h
    refine j_iconst (pc' := 42) dX12_shift_41 rfl ?_
    exact j_iret dX12_shift_42 rfl (by decide) (by decide) (rI_of h)
theorem c_X12_shift_e {Ω : mO} {d : Nat} (hd : 8 ≤ d) {r : Int × mD} {x1 x2 : Int} {D : mD} (h : F_X12_shift x1 x2 D = some r) : J Ω M_X12_shift d 0 0 (rI r.1 r.2) 0 [some (mR 133), some (mI x1), some (mI x2), none] [] (SK, D, false) 0 0 := by
  rw [F_X12_shift] at h
  refine j_aload_n (pc' := 1) dX12_shift_0 rfl rfl ?_
  refine j_iconst (pc' := 2) dX12_shift_1 rfl ?_
  refine k_putI (pc' := 5) (sl := 0) (i' := 0) kc_11 w_1477 (by decide) (Or.inl rfl) dX12_shift_2 rfl (by decide) sk_133 (by decide) ⟨rfl, rfl⟩ rfl ?_
  refine j_aload_n (pc' := 6) dX12_shift_5 rfl rfl ?_
  refine j_aload_n (pc' := 7) dX12_shift_6 rfl rfl ?_
  refine j_iload_n (pc' := 8) dX12_shift_7 rfl rfl ?_
  obtain ⟨v1, D1, e1, h⟩ := bI_o h
  refine k_cV (d' := 7) (pc' := 11) [mI x1] [mR 133] (c_X12_noGap (d := 7) (Nat.le_refl _) e1) cw_X12_342 kc_11 w_1817 ws_86 dX12_shift_8 rfl (by omega) rfl rfl (by decide) sk_133 rfl rfl (by decide) (by decide) ?_
  refine j_iconst (pc' := 12) dX12_shift_11 rfl ?_
  obtain ⟨v2, D2, e2, h⟩ := bI_o h
  refine k_cV (d' := 1) (pc' := 15) [mI v1, mI 1] [] (c_X12_throwsIf (d := 1) (Nat.le_refl _) e2) cw_X12_282 kc_11 w_1753 ws_76 dX12_shift_12 rfl (by omega) rfl rfl (by decide) sk_133 rfl rfl (by decide) (by decide) ?_
  obtain ⟨q1, h⟩ := ck_o h
  refine j_if_ne (tgt := 41) (pc' := 18) dX12_shift_15 rfl rfl q1 (fun b1 => ?_) (fun b1 => ?_)
  · replace h := ite_f b1 h
    refine j_iconst (pc' := 42) dX12_shift_41 rfl ?_
    exact j_iret dX12_shift_42 rfl (by decide) (by decide) (rI_of h)
  · replace h := ite_t b1 h
    refine j_aload_n (pc' := 19) dX12_shift_18 rfl rfl ?_
    refine j_iload_n (pc' := 20) dX12_shift_19 rfl rfl ?_
    refine j_iconst (pc' := 21) dX12_shift_20 rfl ?_
    refine j_bipush (pc' := 23) dX12_shift_21 rfl rfl ?_
    obtain ⟨v3, D3, e3, h⟩ := bI_o h
    refine k_cS (d' := 1) (pc' := 26) [mI x2, mI 0, mI 30] [mR 133] (c_X12_in (d := 1) (Nat.le_refl _) e3) cw_X12_90 w_1768 dX12_shift_23 rfl (by omega) rfl rfl rfl rfl (by decide) (by decide) ?_
    obtain ⟨q2, h⟩ := ck_o h
    have hj : J Ω M_X12_shift d 0 0 (rI r.1 r.2) 34 [some (mR 133), some (mI x1), some (mI x2), none] [mI (if v3 = 0 then (1 : Int) else (0 : Int)), mR 133] (SK, D3, false) 0 0 := by
      exact j_wk (j_widen (ce := 0) (ke := 0) (by decide) (by decide) (c_X12_shift_j34 hd h)) (And.intro rfl (And.intro rfl (And.intro rfl trivial)))
    refine j_if_ne (tgt := 33) (pc' := 29) dX12_shift_26 rfl rfl q2 (fun b2 => ?_) (fun b2 => ?_)
    · refine j_iconst (pc' := 34) dX12_shift_33 rfl ?_
      have hj := hj
      try simp only [if_neg b2] at hj
      exact j_wk hj (And.intro rfl (And.intro rfl (And.intro rfl trivial)))
    · refine j_iconst (pc' := 30) dX12_shift_29 rfl ?_
      refine j_goto (tgt := 34) dX12_shift_30 rfl ?_
      have hj := hj
      try simp only [if_pos b2] at hj
      exact j_wk hj (And.intro rfl (And.intro rfl (And.intro rfl trivial)))
theorem c_X12_shift {d : Nat} (hd : 8 ≤ d) {x1 x2 : Int} {D D' : mD} {v : Int} (h : F_X12_shift x1 x2 D = some (v, D')) : CM d 0 0 M_X12_shift [mR 133, mI x1, mI x2] (SK, D, false) (rI v D') := CM.intro pn_X12 rfl rfl (Nat.le_of_ble_eq_true rfl) (fun _ => c_X12_shift_e hd h)
theorem c_X12_squeezed_j45 {Ω : mO} {d : Nat} (hd : 3 ≤ d) {r : Int × mD} {x1 x2 s1 : Int} {D : mD} (h : F_X12_squeezed_j45 x1 x2 s1 D = some r) : J Ω M_X12_squeezed d 0 0 (rI r.1 r.2) 45 [some (mR 133), some (mI x1), some (mI x2), none] [mI s1, mR 133] (SK, D, false) 0 0 := by
  rw [F_X12_squeezed_j45] at h
  refine j_iconst (pc' := 46) dX12_squeezed_45 rfl ?_
  obtain ⟨v1, D1, e1, h⟩ := bI_o h
  refine k_cV (d' := 1) (pc' := 49) [mI s1, mI 2] [] (c_X12_throwsIf (d := 1) (Nat.le_refl _) e1) cw_X12_282 kc_11 w_1753 ws_76 dX12_squeezed_46 rfl (by omega) rfl rfl (by decide) sk_133 rfl rfl (by decide) (by decide) ?_
  obtain ⟨q1, h⟩ := ck_o h
  refine j_if_eq (tgt := 54) (pc' := 52) dX12_squeezed_49 rfl rfl q1 (fun b1 => ?_) (fun b1 => ?_)
  · replace h := ite_t b1 h
    refine j_aload_n (pc' := 55) dX12_squeezed_54 rfl rfl ?_
    obtain ⟨v2, D2, e2, h⟩ := bI_o h
    refine k_cVv (d' := 1) (pc' := 58) [] [] (c_X12_remembers (d := 1) (Nat.le_refl _) e2) cw_X12_356 kc_11 w_1882 ws_98 dX12_squeezed_55 rfl (by omega) rfl rfl (by decide) sk_133 rfl rfl (by decide) (by decide) ?_
    refine j_aload_n (pc' := 59) dX12_squeezed_58 rfl rfl ?_
    refine j_iload_n (pc' := 60) dX12_squeezed_59 rfl rfl ?_
    refine j_iconst (pc' := 61) dX12_squeezed_60 rfl ?_
    obtain ⟨v3, D3, e3, h⟩ := bI_o h
    refine k_cV (d' := 1) (pc' := 64) [mI x1, mI 1] [] (c_X12_of (d := 1) (Nat.le_refl _) e3) cw_X12_78 kc_11 w_1800 ws_83 dX12_squeezed_61 rfl (by omega) rfl rfl (by decide) sk_133 rfl rfl (by decide) (by decide) ?_
    refine j_istore_n (pc' := 65) (ls' := [some (mR 133), some (mI x1), some (mI x2), some (mI v3)]) dX12_squeezed_64 rfl (by decide) rfl ?_
    refine j_aload_n (pc' := 66) dX12_squeezed_65 rfl rfl ?_
    refine j_iload_n (pc' := 67) dX12_squeezed_66 rfl rfl ?_
    refine j_iconst (pc' := 68) dX12_squeezed_67 rfl ?_
    refine j_iload_n (pc' := 69) dX12_squeezed_68 rfl rfl ?_
    obtain ⟨v4, D4, e4, h⟩ := bI_o h
    refine k_cVv (d' := 1) (pc' := 72) [mI x1, mI 1, mI x2] [] (c_X12_sets (d := 1) (Nat.le_refl _) e4) cw_X12_166 kc_11 w_1679 ws_61 dX12_squeezed_69 rfl (by omega) rfl rfl (by decide) sk_133 rfl rfl (by decide) (by decide) ?_
    refine j_iload_n (pc' := 73) dX12_squeezed_72 rfl rfl ?_
    exact j_iret dX12_squeezed_73 rfl (by decide) (by decide) (rI_of h)
  · replace h := ite_f b1 h
    refine j_iconst (pc' := 53) dX12_squeezed_52 rfl ?_
    exact j_iret dX12_squeezed_53 rfl (by decide) (by decide) (rI_of h)
theorem c_X12_squeezed_j40 {Ω : mO} {d : Nat} (hd : 3 ≤ d) {r : Int × mD} {x1 x2 : Int} {D : mD} (h : F_X12_squeezed_j40 x1 x2 D = some r) : J Ω M_X12_squeezed d 0 0 (rI r.1 r.2) 40 [some (mR 133), some (mI x1), some (mI x2), none] [mR 133] (SK, D, false) 0 0 := by
  rw [F_X12_squeezed_j40] at h
  refine j_iconst (pc' := 41) dX12_squeezed_40 rfl ?_
  refine j_goto (tgt := 45) dX12_squeezed_41 rfl ?_
  exact j_wk (j_widen (ce := 0) (ke := 0) (by decide) (by decide) (c_X12_squeezed_j45 hd h)) (And.intro rfl (And.intro rfl (And.intro rfl trivial)))
theorem c_X12_squeezed_e {Ω : mO} {d : Nat} (hd : 3 ≤ d) {r : Int × mD} {x1 x2 : Int} {D : mD} (h : F_X12_squeezed x1 x2 D = some r) : J Ω M_X12_squeezed d 0 0 (rI r.1 r.2) 0 [some (mR 133), some (mI x1), some (mI x2), none] [] (SK, D, false) 0 0 := by
  rw [F_X12_squeezed] at h
  refine j_aload_n (pc' := 1) dX12_squeezed_0 rfl rfl ?_
  refine j_iconst (pc' := 2) dX12_squeezed_1 rfl ?_
  refine k_putI (pc' := 5) (sl := 0) (i' := 0) kc_11 w_1477 (by decide) (Or.inl rfl) dX12_squeezed_2 rfl (by decide) sk_133 (by decide) ⟨rfl, rfl⟩ rfl ?_
  refine j_aload_n (pc' := 6) dX12_squeezed_5 rfl rfl ?_
  refine j_aload_n (pc' := 7) dX12_squeezed_6 rfl rfl ?_
  refine j_iload_n (pc' := 8) dX12_squeezed_7 rfl rfl ?_
  obtain ⟨v1, D1, e1, h⟩ := bI_o h
  refine k_cV (d' := 2) (pc' := 11) [mI x1] [mR 133] (c_X12_noLetter (d := 2) (Nat.le_refl _) e1) cw_X12_339 kc_11 w_1784 ws_79 dX12_squeezed_8 rfl (by omega) rfl rfl (by decide) sk_133 rfl rfl (by decide) (by decide) ?_
  refine j_iconst (pc' := 12) dX12_squeezed_11 rfl ?_
  obtain ⟨v2, D2, e2, h⟩ := bI_o h
  refine k_cV (d' := 1) (pc' := 15) [mI v1, mI 1] [] (c_X12_throwsIf (d := 1) (Nat.le_refl _) e2) cw_X12_282 kc_11 w_1753 ws_76 dX12_squeezed_12 rfl (by omega) rfl rfl (by decide) sk_133 rfl rfl (by decide) (by decide) ?_
  obtain ⟨q1, h⟩ := ck_o h
  refine j_if_ne (tgt := 52) (pc' := 18) dX12_squeezed_15 rfl rfl q1 (fun b1 => ?_) (fun b1 => ?_)
  · replace h := ite_f b1 h
    refine j_iconst (pc' := 53) dX12_squeezed_52 rfl ?_
    exact j_iret dX12_squeezed_53 rfl (by decide) (by decide) (rI_of h)
  · replace h := ite_t b1 h
    refine j_aload_n (pc' := 19) dX12_squeezed_18 rfl rfl ?_
    refine j_iload_n (pc' := 20) dX12_squeezed_19 rfl rfl ?_
    refine j_iconst (pc' := 21) dX12_squeezed_20 rfl ?_
    refine j_iconst (pc' := 22) dX12_squeezed_21 rfl ?_
    obtain ⟨v3, D3, e3, h⟩ := bI_o h
    refine k_cS (d' := 1) (pc' := 25) [mI x2, mI 0, mI 3] [mR 133] (c_X12_in (d := 1) (Nat.le_refl _) e3) cw_X12_90 w_1768 dX12_squeezed_22 rfl (by omega) rfl rfl rfl rfl (by decide) (by decide) ?_
    obtain ⟨q2, h⟩ := ck_o h
    refine j_if_eq (tgt := 40) (pc' := 28) dX12_squeezed_25 rfl rfl q2 (fun b2 => ?_) (fun b2 => ?_)
    · replace h := ite_t b2 h
      exact j_wk (j_widen (ce := 0) (ke := 0) (by decide) (by decide) (c_X12_squeezed_j40 hd h)) (And.intro rfl (And.intro rfl (And.intro rfl trivial)))
    · replace h := ite_f b2 h
      refine j_aload_n (pc' := 29) dX12_squeezed_28 rfl rfl ?_
      refine j_iload_n (pc' := 30) dX12_squeezed_29 rfl rfl ?_
      refine j_iconst (pc' := 31) dX12_squeezed_30 rfl ?_
      obtain ⟨v4, D4, e4, h⟩ := bI_o h
      refine k_cV (d' := 2) (pc' := 34) [mI x1, mI 1] [mR 133] (c_X12_its (d := 2) (Nat.le_refl _) e4) cw_X12_84 kc_11 w_1796 ws_82 dX12_squeezed_31 rfl (by omega) rfl rfl (by decide) sk_133 rfl rfl (by decide) (by decide) ?_
      refine j_iload_n (pc' := 35) dX12_squeezed_34 rfl rfl ?_
      refine j_isub (pc' := 36) dX12_squeezed_35 rfl ?_
      refine j_iconst (pc' := 37) dX12_squeezed_36 rfl ?_
      obtain ⟨q3, h⟩ := ck_o h
      have hj : J Ω M_X12_squeezed d 0 0 (rI r.1 r.2) 45 [some (mR 133), some (mI x1), some (mI x2), none] [mI (if 1 ≤ (v4 - x2) then (0 : Int) else (1 : Int)), mR 133] (SK, D4, false) 0 0 := by
        exact j_wk (j_widen (ce := 0) (ke := 0) (by decide) (by decide) (c_X12_squeezed_j45 hd h)) (And.intro rfl (And.intro rfl (And.intro rfl trivial)))
      refine j_icmp_ge (tgt := 44) (pc' := 40) dX12_squeezed_37 rfl rfl q3 (by decide) (fun b3 => ?_) (fun b3 => ?_)
      · refine j_iconst (pc' := 45) dX12_squeezed_44 rfl ?_
        have hj := hj
        try simp only [if_pos b3] at hj
        exact j_wk hj (And.intro rfl (And.intro rfl (And.intro rfl trivial)))
      · refine j_iconst (pc' := 41) dX12_squeezed_40 rfl ?_
        refine j_goto (tgt := 45) dX12_squeezed_41 rfl ?_
        have hj := hj
        try simp only [if_neg b3] at hj
        exact j_wk hj (And.intro rfl (And.intro rfl (And.intro rfl trivial)))
theorem c_X12_squeezed {d : Nat} (hd : 3 ≤ d) {x1 x2 : Int} {D D' : mD} {v : Int} (h : F_X12_squeezed x1 x2 D = some (v, D')) : CM d 0 0 M_X12_squeezed [mR 133, mI x1, mI x2] (SK, D, false) (rI v D') := CM.intro pn_X12 rfl rfl (Nat.le_of_ble_eq_true rfl) (fun _ => c_X12_squeezed_e hd h)
theorem c_X12_shadow_j21 {Ω : mO} {d : Nat} (hd : 2 ≤ d) {r : Int × mD} {x1 s1 : Int} {D : mD} (h : F_X12_shadow_j21 x1 s1 D = some r) : J Ω M_X12_shadow d 0 0 (rI r.1 r.2) 21 [some (mR 133), some (mI x1), none] [mI s1, mR 133] (SK, D, false) 0 0 := by
  rw [F_X12_shadow_j21] at h
  refine j_iconst (pc' := 22) dX12_shadow_21 rfl ?_
  obtain ⟨v1, D1, e1, h⟩ := bI_o h
  refine k_cV (d' := 1) (pc' := 25) [mI s1, mI 1] [] (c_X12_throwsIf (d := 1) (Nat.le_refl _) e1) cw_X12_282 kc_11 w_1753 ws_76 dX12_shadow_22 rfl (by omega) rfl rfl (by decide) sk_133 rfl rfl (by decide) (by decide) ?_
  obtain ⟨q1, h⟩ := ck_o h
  refine j_if_eq (tgt := 30) (pc' := 28) dX12_shadow_25 rfl rfl q1 (fun b1 => ?_) (fun b1 => ?_)
  · replace h := ite_t b1 h
    refine j_aload_n (pc' := 31) dX12_shadow_30 rfl rfl ?_
    obtain ⟨v2, D2, e2, h⟩ := bI_o h
    refine k_cVv (d' := 1) (pc' := 34) [] [] (c_X12_remembers (d := 1) (Nat.le_refl _) e2) cw_X12_356 kc_11 w_1882 ws_98 dX12_shadow_31 rfl (by omega) rfl rfl (by decide) sk_133 rfl rfl (by decide) (by decide) ?_
    refine j_aload_n (pc' := 35) dX12_shadow_34 rfl rfl ?_
    refine k_getR (pc' := 38) (sl := 1) (r := 134) kc_11 w_1478 (Or.inl rfl) (by decide) dX12_shadow_35 rfl (by decide) sk_133 (by decide) rfl (by decide) ?_
    refine j_iconst (pc' := 39) dX12_shadow_38 rfl ?_
    refine k_iald (pc' := 40) (z := D2 134 5) dX12_shadow_39 rfl (by decide) sk_134 (by decide) (by decide) (by decide) rfl ?_
    refine j_istore_n (pc' := 41) (ls' := [some (mR 133), some (mI x1), some (mI (D2 134 5))]) dX12_shadow_40 rfl (by decide) rfl ?_
    refine j_aload_n (pc' := 42) dX12_shadow_41 rfl rfl ?_
    refine k_getR (pc' := 45) (sl := 1) (r := 134) kc_11 w_1478 (Or.inl rfl) (by decide) dX12_shadow_42 rfl (by decide) sk_133 (by decide) rfl (by decide) ?_
    refine j_iconst (pc' := 46) dX12_shadow_45 rfl ?_
    refine j_iload_n (pc' := 47) dX12_shadow_46 rfl rfl ?_
    refine k_iast (pc' := 48) dX12_shadow_47 rfl (by decide) sk_134 (by decide) (by decide) (by decide) ?_
    refine j_iload_n (pc' := 49) dX12_shadow_48 rfl rfl ?_
    exact j_iret dX12_shadow_49 rfl (by decide) (by decide) (rI_of h)
  · replace h := ite_f b1 h
    refine j_iconst (pc' := 29) dX12_shadow_28 rfl ?_
    exact j_iret dX12_shadow_29 rfl (by decide) (by decide) (rI_of h)
theorem c_X12_shadow_e {Ω : mO} {d : Nat} (hd : 2 ≤ d) {r : Int × mD} {x1 : Int} {D : mD} (h : F_X12_shadow x1 D = some r) : J Ω M_X12_shadow d 0 0 (rI r.1 r.2) 0 [some (mR 133), some (mI x1), none] [] (SK, D, false) 0 0 := by
  rw [F_X12_shadow] at h
  refine j_aload_n (pc' := 1) dX12_shadow_0 rfl rfl ?_
  refine j_iconst (pc' := 2) dX12_shadow_1 rfl ?_
  refine k_putI (pc' := 5) (sl := 0) (i' := 0) kc_11 w_1477 (by decide) (Or.inl rfl) dX12_shadow_2 rfl (by decide) sk_133 (by decide) ⟨rfl, rfl⟩ rfl ?_
  refine j_aload_n (pc' := 6) dX12_shadow_5 rfl rfl ?_
  refine j_iload_n (pc' := 7) dX12_shadow_6 rfl rfl ?_
  refine j_iconst (pc' := 8) dX12_shadow_7 rfl ?_
  refine j_bipush (pc' := 10) dX12_shadow_8 rfl rfl ?_
  obtain ⟨v1, D1, e1, h⟩ := bI_o h
  refine k_cS (d' := 1) (pc' := 13) [mI x1, mI 0, mI 9] [mR 133] (c_X12_in (d := 1) (Nat.le_refl _) e1) cw_X12_90 w_1768 dX12_shadow_10 rfl (by omega) rfl rfl rfl rfl (by decide) (by decide) ?_
  obtain ⟨q1, h⟩ := ck_o h
  have hj : J Ω M_X12_shadow d 0 0 (rI r.1 r.2) 21 [some (mR 133), some (mI x1), none] [mI (if v1 = 0 then (1 : Int) else (0 : Int)), mR 133] (SK, D1, false) 0 0 := by
    exact j_wk (j_widen (ce := 0) (ke := 0) (by decide) (by decide) (c_X12_shadow_j21 hd h)) (And.intro rfl (And.intro rfl trivial))
  refine j_if_ne (tgt := 20) (pc' := 16) dX12_shadow_13 rfl rfl q1 (fun b1 => ?_) (fun b1 => ?_)
  · refine j_iconst (pc' := 21) dX12_shadow_20 rfl ?_
    have hj := hj
    try simp only [if_neg b1] at hj
    exact j_wk hj (And.intro rfl (And.intro rfl trivial))
  · refine j_iconst (pc' := 17) dX12_shadow_16 rfl ?_
    refine j_goto (tgt := 21) dX12_shadow_17 rfl ?_
    have hj := hj
    try simp only [if_pos b1] at hj
    exact j_wk hj (And.intro rfl (And.intro rfl trivial))
theorem c_X12_shadow {d : Nat} (hd : 2 ≤ d) {x1 : Int} {D D' : mD} {v : Int} (h : F_X12_shadow x1 D = some (v, D')) : CM d 0 0 M_X12_shadow [mR 133, mI x1] (SK, D, false) (rI v D') := CM.intro pn_X12 rfl rfl (Nat.le_of_ble_eq_true rfl) (fun _ => c_X12_shadow_e hd h)
theorem c_X12_laysWhites_L12 {Ω : mO} {d : Nat} (hd : 9 ≤ d) {r : Int × mD} {K2 : Int → mD → RI} {x1 : Int} (hK2 : ∀ {x1 : Int} {D : mD}, K2 x1 D = some r → J Ω M_X12_laysWhites d 0 0 (rV r.2) 2 [some (mR 133), some (mI x1), none] [] (SK, D, false) 0 0) : ∀ (n : Nat) {x2 : Int} {D : mD}, F_X12_laysWhites_L12 K2 x1 n x2 D = some r → J Ω M_X12_laysWhites d 0 0 (rV r.2) 12 [some (mR 133), some (mI x1), some (mI x2)] [] (SK, D, false) 0 0 := by
  intro n
  induction n with
  | zero => intro x2 D h; exact absurd (show (none : Option (Int × mD)) = some r from h) nofun
  | succ n ih =>
    intro x2 D h
    rw [F_X12_laysWhites_L12] at h
    refine j_iload_n (pc' := 13) dX12_laysWhites_12 rfl rfl ?_
    refine j_bipush (pc' := 15) dX12_laysWhites_13 rfl rfl ?_
    obtain ⟨q1, h⟩ := ck_o h
    refine j_icmp_ge (tgt := 41) (pc' := 18) dX12_laysWhites_15 rfl rfl q1 (by decide) (fun b1 => ?_) (fun b1 => ?_)
    · replace h := ite_t b1 h
      refine j_iinc (pc' := 44) (z' := (x1 + 1)) (ls' := [some (mR 133), some (mI (x1 + 1)), some (mI x2)]) dX12_laysWhites_41 rfl rfl rfl (by decide) rfl ?_
      refine j_goto (tgt := 2) dX12_laysWhites_44 rfl ?_
      exact j_wk (j_widen (ce := 0) (ke := 0) (by decide) (by decide) (hK2 h)) (And.intro rfl (And.intro rfl trivial))
    · replace h := ite_f b1 h
      refine j_aload_n (pc' := 19) dX12_laysWhites_18 rfl rfl ?_
      refine k_getR (pc' := 22) (sl := 22) (r := 142) kc_11 w_1499 (Or.inl rfl) (by decide) dX12_laysWhites_19 rfl (by decide) sk_133 (by decide) rfl (by decide) ?_
      refine j_bipush (pc' := 24) dX12_laysWhites_22 rfl rfl ?_
      refine j_iload_n (pc' := 25) dX12_laysWhites_24 rfl rfl ?_
      refine j_imul (pc' := 26) dX12_laysWhites_25 rfl ?_
      refine j_iload_n (pc' := 27) dX12_laysWhites_26 rfl rfl ?_
      refine j_iadd (pc' := 28) dX12_laysWhites_27 rfl ?_
      refine j_aload_n (pc' := 29) dX12_laysWhites_28 rfl rfl ?_
      refine j_iload_n (pc' := 30) dX12_laysWhites_29 rfl rfl ?_
      refine j_iload_n (pc' := 31) dX12_laysWhites_30 rfl rfl ?_
      obtain ⟨v1, D1, e1, h⟩ := bI_o h
      refine k_cV (d' := 8) (pc' := 34) [mI x1, mI x2] [mI ((31 * x1) + x2), mR 142] (c_X12_whiteBy (d := 8) (Nat.le_refl _) e1) cw_X12_323 kc_11 w_1829 ws_89 dX12_laysWhites_31 rfl (by omega) rfl rfl (by decide) sk_133 rfl rfl (by decide) (by decide) ?_
      obtain ⟨q2, h⟩ := ck_o h
      refine k_iast (pc' := 35) dX12_laysWhites_34 rfl (by decide) sk_142 (by decide) q2.1 q2.2 ?_
      refine j_iinc (pc' := 38) (z' := (x2 + 1)) (ls' := [some (mR 133), some (mI x1), some (mI (x2 + 1))]) dX12_laysWhites_35 rfl rfl rfl (by decide) rfl ?_
      refine j_goto (tgt := 12) dX12_laysWhites_38 rfl ?_
      exact j_wk (j_widen (ce := 0) (ke := 0) (by decide) (by decide) (ih h)) (And.intro rfl (And.intro rfl (And.intro rfl trivial)))
theorem c_X12_laysWhites_L2 {Ω : mO} {d : Nat} (hd : 9 ≤ d) {r : Int × mD} : ∀ (n : Nat) {x1 : Int} {D : mD}, F_X12_laysWhites_L2 n x1 D = some r → J Ω M_X12_laysWhites d 0 0 (rV r.2) 2 [some (mR 133), some (mI x1), none] [] (SK, D, false) 0 0 := by
  intro n
  induction n with
  | zero => intro x1 D h; exact absurd (show (none : Option (Int × mD)) = some r from h) nofun
  | succ n ih =>
    intro x1 D h
    rw [F_X12_laysWhites_L2] at h
    refine j_iload_n (pc' := 3) dX12_laysWhites_2 rfl rfl ?_
    refine j_aload_n (pc' := 4) dX12_laysWhites_3 rfl rfl ?_
    obtain ⟨v1, D1, e1, h⟩ := bI_o h
    refine k_cV (d' := 6) (pc' := 7) [] [mI x1] (c_X12_gaps (d := 6) (Nat.le_refl _) e1) cw_X12_94 kc_11 w_1821 ws_87 dX12_laysWhites_4 rfl (by omega) rfl rfl (by decide) sk_133 rfl rfl (by decide) (by decide) ?_
    obtain ⟨q1, h⟩ := ck_o h
    obtain ⟨q2, h⟩ := ck_o h
    refine j_icmp_ge (tgt := 47) (pc' := 10) dX12_laysWhites_7 rfl rfl q1 q2 (fun b1 => ?_) (fun b1 => ?_)
    · replace h := ite_t b1 h
      exact j_vret dX12_laysWhites_47 rfl (by decide) (by decide) (rV_of h)
    · replace h := ite_f b1 h
      refine j_iconst (pc' := 11) dX12_laysWhites_10 rfl ?_
      refine j_istore_n (pc' := 12) (ls' := [some (mR 133), some (mI x1), some (mI 0)]) dX12_laysWhites_11 rfl (by decide) rfl ?_
      exact j_wk (j_widen (ce := 0) (ke := 0) (by decide) (by decide) (c_X12_laysWhites_L12 hd ih _ h)) (And.intro rfl (And.intro rfl (And.intro rfl trivial)))
theorem c_X12_laysWhites_e {Ω : mO} {d : Nat} (hd : 9 ≤ d) {r : Int × mD} {D : mD} (h : F_X12_laysWhites D = some r) : J Ω M_X12_laysWhites d 0 0 (rV r.2) 0 [some (mR 133), none, none] [] (SK, D, false) 0 0 := by
  rw [F_X12_laysWhites] at h
  refine j_iconst (pc' := 1) dX12_laysWhites_0 rfl ?_
  refine j_istore_n (pc' := 2) (ls' := [some (mR 133), some (mI 0), none]) dX12_laysWhites_1 rfl (by decide) rfl ?_
  exact j_wk (j_widen (ce := 0) (ke := 0) (by decide) (by decide) (c_X12_laysWhites_L2 hd _ h)) (And.intro rfl (And.intro rfl trivial))
theorem c_X12_laysWhites {d : Nat} (hd : 9 ≤ d) {D D' : mD} {v : Int} (h : F_X12_laysWhites D = some (v, D')) : CM d 0 0 M_X12_laysWhites [mR 133] (SK, D, false) (rV D') := CM.intro pn_X12 rfl rfl (Nat.le_of_ble_eq_true rfl) (fun _ => c_X12_laysWhites_e hd h)
theorem c_X12_leastAt_e {Ω : mO} {d : Nat} (hd : 1 ≤ d) {r : Int × mD} {x0 x1 : Int} {D : mD} (h : F_X12_leastAt x0 x1 D = some r) : J Ω M_X12_leastAt d 0 0 (rI r.1 r.2) 0 [some (mI x0), some (mI x1)] [] (SK, D, false) 0 0 := by
  rw [F_X12_leastAt] at h
  refine j_iload_n (pc' := 1) dX12_leastAt_0 rfl rfl ?_
  refine j_sipush (pc' := 4) dX12_leastAt_1 rfl rfl ?_
  refine j_imul (pc' := 5) dX12_leastAt_4 rfl ?_
  refine j_iload_n (pc' := 6) dX12_leastAt_5 rfl rfl ?_
  refine j_iadd (pc' := 7) dX12_leastAt_6 rfl ?_
  exact j_iret dX12_leastAt_7 rfl (by decide) (by decide) (rI_of h)
theorem c_X12_leastAt {d : Nat} (hd : 1 ≤ d) {x0 x1 : Int} {D D' : mD} {v : Int} (h : F_X12_leastAt x0 x1 D = some (v, D')) : CM d 0 0 M_X12_leastAt [mI x0, mI x1] (SK, D, false) (rI v D') := CM.intro pn_X12 rfl rfl (Nat.le_of_ble_eq_true rfl) (fun _ => c_X12_leastAt_e hd h)
theorem c_X12_offBy_e {Ω : mO} {d : Nat} (hd : 6 ≤ d) {r : Int × mD} {x1 x2 x3 : Int} {D : mD} (h : F_X12_offBy x1 x2 x3 D = some r) : J Ω M_X12_offBy d 0 0 (rI r.1 r.2) 0 [some (mR 133), some (mI x1), some (mI x2), some (mI x3)] [] (SK, D, false) 0 0 := by
  rw [F_X12_offBy] at h
  refine j_aload_n (pc' := 1) dX12_offBy_0 rfl rfl ?_
  refine k_getR (pc' := 4) (sl := 22) (r := 142) kc_11 w_1499 (Or.inl rfl) (by decide) dX12_offBy_1 rfl (by decide) sk_133 (by decide) rfl (by decide) ?_
  refine j_bipush (pc' := 6) dX12_offBy_4 rfl rfl ?_
  refine j_iload_n (pc' := 7) dX12_offBy_6 rfl rfl ?_
  refine j_imul (pc' := 8) dX12_offBy_7 rfl ?_
  refine j_iload_n (pc' := 9) dX12_offBy_8 rfl rfl ?_
  refine j_iadd (pc' := 10) dX12_offBy_9 rfl ?_
  obtain ⟨q1, h⟩ := ck_o h
  refine k_iald (pc' := 11) (z := D 142 ((31 * x1) + x2)) dX12_offBy_10 rfl (by decide) sk_142 (by decide) q1.1 q1.2 rfl ?_
  refine j_iload_n (pc' := 12) dX12_offBy_11 rfl rfl ?_
  refine j_isub (pc' := 13) dX12_offBy_12 rfl ?_
  obtain ⟨q2, h⟩ := ck_o h
  refine k_abs (pc' := 16) cw_X12_359 w_614 dX12_offBy_13 rfl (by omega) q2 rfl (by decide) (by decide) ?_
  exact j_iret dX12_offBy_16 rfl (by decide) (by decide) (rI_of h)
theorem c_X12_offBy {d : Nat} (hd : 6 ≤ d) {x1 x2 x3 : Int} {D D' : mD} {v : Int} (h : F_X12_offBy x1 x2 x3 D = some (v, D')) : CM d 0 0 M_X12_offBy [mR 133, mI x1, mI x2, mI x3] (SK, D, false) (rI v D') := CM.intro pn_X12 rfl rfl (Nat.le_of_ble_eq_true rfl) (fun _ => c_X12_offBy_e hd h)
theorem c_X12_rest_e {Ω : mO} {d : Nat} (hd : 2 ≤ d) {r : Int × mD} {x1 x2 : Int} {D : mD} (h : F_X12_rest x1 x2 D = some r) : J Ω M_X12_rest d 0 0 (rI r.1 r.2) 0 [some (mR 133), some (mI x1), some (mI x2)] [] (SK, D, false) 0 0 := by
  rw [F_X12_rest] at h
  refine j_iload_n (pc' := 1) dX12_rest_0 rfl rfl ?_
  obtain ⟨q1, h⟩ := ck_o h
  refine j_if_ge (tgt := 10) (pc' := 4) dX12_rest_1 rfl rfl q1 (fun b1 => ?_) (fun b1 => ?_)
  · replace h := ite_t b1 h
    refine j_aload_n (pc' := 11) dX12_rest_10 rfl rfl ?_
    refine k_getR (pc' := 14) (sl := 23) (r := 143) kc_11 w_1500 (Or.inl rfl) (by decide) dX12_rest_11 rfl (by decide) sk_133 (by decide) rfl (by decide) ?_
    refine j_iload_n (pc' := 15) dX12_rest_14 rfl rfl ?_
    refine j_iload_n (pc' := 16) dX12_rest_15 rfl rfl ?_
    obtain ⟨v1, D1, e1, h⟩ := bI_o h
    refine k_cS (d' := 1) (pc' := 19) [mI x1, mI x2] [mR 143] (c_X12_leastAt (d := 1) (Nat.le_refl _) e1) cw_X12_362 w_1916 dX12_rest_16 rfl (by omega) rfl rfl rfl rfl (by decide) (by decide) ?_
    obtain ⟨q2, h⟩ := ck_o h
    refine k_iald (pc' := 20) (z := D1 143 v1) dX12_rest_19 rfl (by decide) sk_143 (by decide) q2.1 q2.2 rfl ?_
    exact j_iret dX12_rest_20 rfl (by decide) (by decide) (rI_of h)
  · replace h := ite_f b1 h
    refine j_ldcwI (pc' := 7) (n := 1000000) w_1860 dX12_rest_4 rfl ?_
    refine j_goto (tgt := 20) dX12_rest_7 rfl ?_
    exact j_iret dX12_rest_20 rfl (by decide) (by decide) (rI_of h)
theorem c_X12_rest {d : Nat} (hd : 2 ≤ d) {x1 x2 : Int} {D D' : mD} {v : Int} (h : F_X12_rest x1 x2 D = some (v, D')) : CM d 0 0 M_X12_rest [mR 133, mI x1, mI x2] (SK, D, false) (rI v D') := CM.intro pn_X12 rfl rfl (Nat.le_of_ble_eq_true rfl) (fun _ => c_X12_rest_e hd h)
theorem c_X12_widths_L4 {Ω : mO} {d : Nat} (hd : 7 ≤ d) {r : Int × mD} : ∀ (n : Nat) {x1 x2 : Int} {D : mD}, F_X12_widths_L4 n x1 x2 D = some r → J Ω M_X12_widths d 0 0 (rI r.1 r.2) 4 [some (mR 133), some (mI x1), some (mI x2)] [] (SK, D, false) 0 0 := by
  intro n
  induction n with
  | zero => intro x1 x2 D h; exact absurd (show (none : Option (Int × mD)) = some r from h) nofun
  | succ n ih =>
    intro x1 x2 D h
    rw [F_X12_widths_L4] at h
    refine j_iload_n (pc' := 5) dX12_widths_4 rfl rfl ?_
    refine j_aload_n (pc' := 6) dX12_widths_5 rfl rfl ?_
    obtain ⟨v1, D1, e1, h⟩ := bI_o h
    refine k_cV (d' := 1) (pc' := 9) [] [mI x2] (c_X12_letters (d := 1) (Nat.le_refl _) e1) cw_X12_68 kc_11 w_1788 ws_80 dX12_widths_6 rfl (by omega) rfl rfl (by decide) sk_133 rfl rfl (by decide) (by decide) ?_
    obtain ⟨q1, h⟩ := ck_o h
    obtain ⟨q2, h⟩ := ck_o h
    refine j_icmp_ge (tgt := 26) (pc' := 12) dX12_widths_9 rfl rfl q1 q2 (fun b1 => ?_) (fun b1 => ?_)
    · replace h := ite_t b1 h
      refine j_iload_n (pc' := 27) dX12_widths_26 rfl rfl ?_
      exact j_iret dX12_widths_27 rfl (by decide) (by decide) (rI_of h)
    · replace h := ite_f b1 h
      refine j_iload_n (pc' := 13) dX12_widths_12 rfl rfl ?_
      refine j_aload_n (pc' := 14) dX12_widths_13 rfl rfl ?_
      refine j_iload_n (pc' := 15) dX12_widths_14 rfl rfl ?_
      obtain ⟨v2, D2, e2, h⟩ := bI_o h
      refine k_cV (d' := 6) (pc' := 18) [mI x2] [mI x1] (c_X12_widthOf (d := 6) (Nat.le_refl _) e2) cw_X12_333 kc_11 w_1792 ws_81 dX12_widths_15 rfl (by omega) rfl rfl (by decide) sk_133 rfl rfl (by decide) (by decide) ?_
      refine j_iadd (pc' := 19) dX12_widths_18 rfl ?_
      refine j_istore_n (pc' := 20) (ls' := [some (mR 133), some (mI (x1 + v2)), some (mI x2)]) dX12_widths_19 rfl (by decide) rfl ?_
      refine j_iinc (pc' := 23) (z' := (x2 + 1)) (ls' := [some (mR 133), some (mI (x1 + v2)), some (mI (x2 + 1))]) dX12_widths_20 rfl rfl rfl (by decide) rfl ?_
      refine j_goto (tgt := 4) dX12_widths_23 rfl ?_
      exact j_wk (j_widen (ce := 0) (ke := 0) (by decide) (by decide) (ih h)) (And.intro rfl (And.intro rfl (And.intro rfl trivial)))
theorem c_X12_widths_e {Ω : mO} {d : Nat} (hd : 7 ≤ d) {r : Int × mD} {D : mD} (h : F_X12_widths D = some r) : J Ω M_X12_widths d 0 0 (rI r.1 r.2) 0 [some (mR 133), none, none] [] (SK, D, false) 0 0 := by
  rw [F_X12_widths] at h
  refine j_iconst (pc' := 1) dX12_widths_0 rfl ?_
  refine j_istore_n (pc' := 2) (ls' := [some (mR 133), some (mI 0), none]) dX12_widths_1 rfl (by decide) rfl ?_
  refine j_iconst (pc' := 3) dX12_widths_2 rfl ?_
  refine j_istore_n (pc' := 4) (ls' := [some (mR 133), some (mI 0), some (mI 0)]) dX12_widths_3 rfl (by decide) rfl ?_
  exact j_wk (j_widen (ce := 0) (ke := 0) (by decide) (by decide) (c_X12_widths_L4 hd _ h)) (And.intro rfl (And.intro rfl (And.intro rfl trivial)))
theorem c_X12_widths {d : Nat} (hd : 7 ≤ d) {D D' : mD} {v : Int} (h : F_X12_widths D = some (v, D')) : CM d 0 0 M_X12_widths [mR 133] (SK, D, false) (rI v D') := CM.intro pn_X12 rfl rfl (Nat.le_of_ble_eq_true rfl) (fun _ => c_X12_widths_e hd h)
theorem c_X12_room_e {Ω : mO} {d : Nat} (hd : 8 ≤ d) {r : Int × mD} {x1 : Int} {D : mD} (h : F_X12_room x1 D = some r) : J Ω M_X12_room d 0 0 (rI r.1 r.2) 0 [some (mR 133), some (mI x1)] [] (SK, D, false) 0 0 := by
  rw [F_X12_room] at h
  refine j_aload_n (pc' := 1) dX12_room_0 rfl rfl ?_
  refine k_getR (pc' := 4) (sl := 1) (r := 134) kc_11 w_1478 (Or.inl rfl) (by decide) dX12_room_1 rfl (by decide) sk_133 (by decide) rfl (by decide) ?_
  refine j_iconst (pc' := 5) dX12_room_4 rfl ?_
  refine k_iald (pc' := 6) (z := D 134 2) dX12_room_5 rfl (by decide) sk_134 (by decide) (by decide) (by decide) rfl ?_
  refine j_iload_n (pc' := 7) dX12_room_6 rfl rfl ?_
  refine j_iadd (pc' := 8) dX12_room_7 rfl ?_
  refine j_iconst (pc' := 9) dX12_room_8 rfl ?_
  refine j_aload_n (pc' := 10) dX12_room_9 rfl rfl ?_
  refine k_getR (pc' := 13) (sl := 1) (r := 134) kc_11 w_1478 (Or.inl rfl) (by decide) dX12_room_10 rfl (by decide) sk_133 (by decide) rfl (by decide) ?_
  refine j_iconst (pc' := 14) dX12_room_13 rfl ?_
  refine k_iald (pc' := 15) (z := D 134 3) dX12_room_14 rfl (by decide) sk_134 (by decide) (by decide) (by decide) rfl ?_
  refine j_imul (pc' := 16) dX12_room_15 rfl ?_
  refine j_isub (pc' := 17) dX12_room_16 rfl ?_
  refine j_aload_n (pc' := 18) dX12_room_17 rfl rfl ?_
  refine k_getR (pc' := 21) (sl := 1) (r := 134) kc_11 w_1478 (Or.inl rfl) (by decide) dX12_room_18 rfl (by decide) sk_133 (by decide) rfl (by decide) ?_
  refine j_iconst (pc' := 22) dX12_room_21 rfl ?_
  refine k_iald (pc' := 23) (z := D 134 5) dX12_room_22 rfl (by decide) sk_134 (by decide) (by decide) (by decide) rfl ?_
  refine j_isub (pc' := 24) dX12_room_23 rfl ?_
  refine j_aload_n (pc' := 25) dX12_room_24 rfl rfl ?_
  obtain ⟨v1, D1, e1, h⟩ := bI_o h
  refine k_cV (d' := 7) (pc' := 28) [] [mI ((((D 134 2) + x1) - (2 * (D 134 3))) - (D 134 5))] (c_X12_widths (d := 7) (Nat.le_refl _) e1) cw_X12_365 kc_11 w_1913 ws_102 dX12_room_25 rfl (by omega) rfl rfl (by decide) sk_133 rfl rfl (by decide) (by decide) ?_
  refine j_isub (pc' := 29) dX12_room_28 rfl ?_
  exact j_iret dX12_room_29 rfl (by decide) (by decide) (rI_of h)
theorem c_X12_room {d : Nat} (hd : 8 ≤ d) {x1 : Int} {D D' : mD} {v : Int} (h : F_X12_room x1 D = some (v, D')) : CM d 0 0 M_X12_room [mR 133, mI x1] (SK, D, false) (rI v D') := CM.intro pn_X12 rfl rfl (Nat.le_of_ble_eq_true rfl) (fun _ => c_X12_room_e hd h)
