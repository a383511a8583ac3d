/-! CERTIFICATES: the bytecode does what F says (by program) -/
theorem c_X12_laysHarms_L76 {Ω : mO} {d : Nat} (hd : 7 ≤ d) {r : Int × mD} {K56 : Int → mD → RI} {K62 : Int → mD → RI} {x1 x2 x3 : Int} (hK56 : ∀ {x2 : Int} {D : mD}, K56 x2 D = some r → J Ω M_X12_laysHarms d 0 0 (rI r.1 r.2) 56 [some (mR 133), some (mI x1), some (mI x2), none, none, none] [] (SK, D, false) 0 0) (hK62 : ∀ {x3 : Int} {D : mD}, K62 x3 D = some r → J Ω M_X12_laysHarms d 0 0 (rI r.1 r.2) 62 [some (mR 133), some (mI x1), some (mI x2), some (mI x3), none, none] [] (SK, D, false) 0 0) : ∀ (n : Nat) {x4 x5 : Int} {D : mD}, F_X12_laysHarms_L76 K56 K62 x1 x2 x3 n x4 x5 D = some r → J Ω M_X12_laysHarms d 0 0 (rI r.1 r.2) 76 [some (mR 133), some (mI x1), some (mI x2), some (mI x3), some (mI x4), some (mI x5)] [] (SK, D, false) 0 0 := by
  intro n
  induction n with
  | zero => intro x4 x5 D h; exact absurd (show (none : Option (Int × mD)) = some r from h) nofun
  | succ n ih =>
    intro x4 x5 D h
    rw [F_X12_laysHarms_L76] at h
    refine j_iload (pc' := 78) dX12_laysHarms_76 rfl rfl ?_
    refine j_iconst (pc' := 79) dX12_laysHarms_78 rfl ?_
    obtain ⟨q1, h⟩ := ck_o h
    refine j_icmp_gt (tgt := 124) (pc' := 82) dX12_laysHarms_79 rfl rfl q1 (by decide) (fun b1 => ?_) (fun b1 => ?_)
    · replace h := ite_t b1 h
      refine j_aload_n (pc' := 125) dX12_laysHarms_124 rfl rfl ?_
      refine k_getR (pc' := 128) (sl := 27) (r := 147) kc_11 w_1504 (Or.inl rfl) (by decide) dX12_laysHarms_125 rfl (by decide) sk_133 (by decide) rfl (by decide) ?_
      refine j_bipush (pc' := 130) dX12_laysHarms_128 rfl rfl ?_
      refine j_iload_n (pc' := 131) dX12_laysHarms_130 rfl rfl ?_
      refine j_imul (pc' := 132) dX12_laysHarms_131 rfl ?_
      refine j_iload_n (pc' := 133) dX12_laysHarms_132 rfl rfl ?_
      refine j_iadd (pc' := 134) dX12_laysHarms_133 rfl ?_
      refine j_ldcwI (pc' := 137) (n := 1000000) w_1860 dX12_laysHarms_134 rfl ?_
      refine j_iload (pc' := 139) dX12_laysHarms_137 rfl rfl ?_
      obtain ⟨q2, h⟩ := ck_o h
      refine k_min (pc' := 142) cw_X12_310 w_560 dX12_laysHarms_139 rfl (by omega) (by decide) q2 rfl (by decide) (by decide) ?_
      obtain ⟨q3, h⟩ := ck_o h
      refine k_iast (pc' := 143) dX12_laysHarms_142 rfl (by decide) sk_147 (by decide) q3.1 q3.2 ?_
      refine j_iinc (pc' := 146) (z' := (x3 + 1)) (ls' := [some (mR 133), some (mI x1), some (mI x2), some (mI (x3 + 1)), some (mI x4), some (mI x5)]) dX12_laysHarms_143 rfl rfl rfl (by decide) rfl ?_
      refine j_goto (tgt := 62) dX12_laysHarms_146 rfl ?_
      exact j_wk (j_widen (ce := 0) (ke := 0) (by decide) (by decide) (hK62 h)) (And.intro rfl (And.intro rfl (And.intro rfl (And.intro rfl trivial))))
    · replace h := ite_f b1 h
      refine j_aload_n (pc' := 83) dX12_laysHarms_82 rfl rfl ?_
      refine j_iload_n (pc' := 84) dX12_laysHarms_83 rfl rfl ?_
      refine j_iload (pc' := 86) dX12_laysHarms_84 rfl rfl ?_
      obtain ⟨v1, D1, e1, h⟩ := bI_o h
      refine k_cV (d' := 3) (pc' := 89) [mI x2, mI x5] [] (c_X12_canBe (d := 3) (Nat.le_refl _) e1) cw_X12_450 kc_11 w_2069 ws_126 dX12_laysHarms_86 rfl (by omega) rfl rfl (by decide) sk_133 rfl rfl (by decide) (by decide) ?_
      obtain ⟨q4, h⟩ := ck_o h
      refine j_if_eq (tgt := 118) (pc' := 92) dX12_laysHarms_89 rfl rfl q4 (fun b2 => ?_) (fun b2 => ?_)
      · replace h := ite_t b2 h
        refine j_iinc (pc' := 121) (z' := (x5 + 1)) (ls' := [some (mR 133), some (mI x1), some (mI x2), some (mI x3), some (mI x4), some (mI (x5 + 1))]) dX12_laysHarms_118 rfl rfl rfl (by decide) rfl ?_
        refine j_goto (tgt := 76) dX12_laysHarms_121 rfl ?_
        exact j_wk (j_widen (ce := 0) (ke := 0) (by decide) (by decide) (ih h)) (And.intro rfl (And.intro rfl (And.intro rfl (And.intro rfl (And.intro rfl (And.intro rfl trivial))))))
      · replace h := ite_f b2 h
        refine j_iload (pc' := 94) dX12_laysHarms_92 rfl rfl ?_
        refine j_aload_n (pc' := 95) dX12_laysHarms_94 rfl rfl ?_
        refine j_iload_n (pc' := 96) dX12_laysHarms_95 rfl rfl ?_
        refine j_iload (pc' := 98) dX12_laysHarms_96 rfl rfl ?_
        obtain ⟨v2, D2, e2, h⟩ := bI_o h
        refine k_cV (d' := 3) (pc' := 101) [mI x2, mI x5] [mI x4] (c_X12_harmBy (d := 3) (Nat.le_refl _) e2) cw_X12_453 kc_11 w_2073 ws_127 dX12_laysHarms_98 rfl (by omega) rfl rfl (by decide) sk_133 rfl rfl (by decide) (by decide) ?_
        refine j_aload_n (pc' := 102) dX12_laysHarms_101 rfl rfl ?_
        refine j_iload_n (pc' := 103) dX12_laysHarms_102 rfl rfl ?_
        refine j_iconst (pc' := 104) dX12_laysHarms_103 rfl ?_
        refine j_iadd (pc' := 105) dX12_laysHarms_104 rfl ?_
        refine j_iload_n (pc' := 106) dX12_laysHarms_105 rfl rfl ?_
        refine j_iload (pc' := 108) dX12_laysHarms_106 rfl rfl ?_
        refine j_isub (pc' := 109) dX12_laysHarms_108 rfl ?_
        obtain ⟨v3, D3, e3, h⟩ := bI_o h
        refine k_cV (d' := 6) (pc' := 112) [mI (x2 + 1), mI (x3 - x5)] [mI v2, mI x4] (c_X12_harmFrom (d := 6) (Nat.le_refl _) e3) cw_X12_456 kc_11 w_2077 ws_128 dX12_laysHarms_109 rfl (by omega) rfl rfl (by decide) sk_133 rfl rfl (by decide) (by decide) ?_
        refine j_iadd (pc' := 113) dX12_laysHarms_112 rfl ?_
        obtain ⟨q5, h⟩ := ck_o h
        obtain ⟨q6, h⟩ := ck_o h
        refine k_min (pc' := 116) cw_X12_310 w_560 dX12_laysHarms_113 rfl (by omega) q5 q6 rfl (by decide) (by decide) ?_
        refine j_istore (pc' := 118) (ls' := [some (mR 133), some (mI x1), some (mI x2), some (mI x3), some (mI (min x4 (v2 + v3))), some (mI x5)]) dX12_laysHarms_116 rfl (by decide) rfl ?_
        refine j_iinc (pc' := 121) (z' := (x5 + 1)) (ls' := [some (mR 133), some (mI x1), some (mI x2), some (mI x3), some (mI (min x4 (v2 + v3))), some (mI (x5 + 1))]) dX12_laysHarms_118 rfl rfl rfl (by decide) rfl ?_
        refine j_goto (tgt := 76) dX12_laysHarms_121 rfl ?_
        exact j_wk (j_widen (ce := 0) (ke := 0) (by decide) (by decide) (ih h)) (And.intro rfl (And.intro rfl (And.intro rfl (And.intro rfl (And.intro rfl (And.intro rfl trivial))))))
theorem c_X12_laysHarms_L62 {Ω : mO} {d : Nat} (hd : 7 ≤ d) {r : Int × mD} {K56 : Int → mD → RI} {x1 x2 : Int} (hK56 : ∀ {x2 : Int} {D : mD}, K56 x2 D = some r → J Ω M_X12_laysHarms d 0 0 (rI r.1 r.2) 56 [some (mR 133), some (mI x1), some (mI x2), none, none, none] [] (SK, D, false) 0 0) : ∀ (n : Nat) {x3 : Int} {D : mD}, F_X12_laysHarms_L62 K56 x1 x2 n x3 D = some r → J Ω M_X12_laysHarms d 0 0 (rI r.1 r.2) 62 [some (mR 133), some (mI x1), some (mI x2), some (mI x3), none, none] [] (SK, D, false) 0 0 := by
  intro n
  induction n with
  | zero => intro x3 D h; exact absurd (show (none : Option (Int × mD)) = some r from h) nofun
  | succ n ih =>
    intro x3 D h
    rw [F_X12_laysHarms_L62] at h
    refine j_iload_n (pc' := 63) dX12_laysHarms_62 rfl rfl ?_
    refine j_bipush (pc' := 65) dX12_laysHarms_63 rfl rfl ?_
    obtain ⟨q1, h⟩ := ck_o h
    refine j_icmp_ge (tgt := 149) (pc' := 68) dX12_laysHarms_65 rfl rfl q1 (by decide) (fun b1 => ?_) (fun b1 => ?_)
    · replace h := ite_t b1 h
      refine j_iinc (pc' := 152) (z' := (x2 - 1)) (ls' := [some (mR 133), some (mI x1), some (mI (x2 - 1)), some (mI x3), none, none]) dX12_laysHarms_149 rfl rfl (by omega) (by decide) rfl ?_
      refine j_goto (tgt := 56) dX12_laysHarms_152 rfl ?_
      exact j_wk (j_widen (ce := 0) (ke := 0) (by decide) (by decide) (hK56 h)) (And.intro rfl (And.intro rfl (And.intro rfl trivial)))
    · replace h := ite_f b1 h
      refine j_ldcwI (pc' := 71) (n := 1000000) w_1860 dX12_laysHarms_68 rfl ?_
      refine j_istore (pc' := 73) (ls' := [some (mR 133), some (mI x1), some (mI x2), some (mI x3), some (mI 1000000), none]) dX12_laysHarms_71 rfl (by decide) rfl ?_
      refine j_iconst (pc' := 74) dX12_laysHarms_73 rfl ?_
      refine j_istore (pc' := 76) (ls' := [some (mR 133), some (mI x1), some (mI x2), some (mI x3), some (mI 1000000), some (mI 0)]) dX12_laysHarms_74 rfl (by decide) rfl ?_
      exact j_wk (j_widen (ce := 0) (ke := 0) (by decide) (by decide) (c_X12_laysHarms_L76 hd hK56 ih _ h)) (And.intro rfl (And.intro rfl (And.intro rfl (And.intro rfl (And.intro rfl (And.intro rfl trivial))))))
theorem c_X12_laysHarms_L56 {Ω : mO} {d : Nat} (hd : 7 ≤ d) {r : Int × mD} {x1 : Int} : ∀ (n : Nat) {x2 : Int} {D : mD}, F_X12_laysHarms_L56 x1 n x2 D = some r → J Ω M_X12_laysHarms d 0 0 (rI r.1 r.2) 56 [some (mR 133), some (mI x1), some (mI x2), none, none, none] [] (SK, D, false) 0 0 := by
  intro n
  induction n with
  | zero => intro x2 D h; exact absurd (show (none : Option (Int × mD)) = some r from h) nofun
  | succ n ih =>
    intro x2 D h
    rw [F_X12_laysHarms_L56] at h
    refine j_iload_n (pc' := 57) dX12_laysHarms_56 rfl rfl ?_
    obtain ⟨q1, h⟩ := ck_o h
    refine j_if_lt (tgt := 155) (pc' := 60) dX12_laysHarms_57 rfl rfl q1 (fun b1 => ?_) (fun b1 => ?_)
    · replace h := ite_t b1 h
      refine j_aload_n (pc' := 156) dX12_laysHarms_155 rfl rfl ?_
      refine j_iconst (pc' := 157) dX12_laysHarms_156 rfl ?_
      refine j_iload_n (pc' := 158) dX12_laysHarms_157 rfl rfl ?_
      obtain ⟨v1, D1, e1, h⟩ := bI_o h
      refine k_cV (d' := 6) (pc' := 161) [mI 0, mI x1] [] (c_X12_harmFrom (d := 6) (Nat.le_refl _) e1) cw_X12_456 kc_11 w_2077 ws_128 dX12_laysHarms_158 rfl (by omega) rfl rfl (by decide) sk_133 rfl rfl (by decide) (by decide) ?_
      exact j_iret dX12_laysHarms_161 rfl (by decide) (by decide) (rI_of h)
    · replace h := ite_f b1 h
      refine j_iconst (pc' := 61) dX12_laysHarms_60 rfl ?_
      refine j_istore_n (pc' := 62) (ls' := [some (mR 133), some (mI x1), some (mI x2), some (mI 0), none, none]) dX12_laysHarms_61 rfl (by decide) rfl ?_
      exact j_wk (j_widen (ce := 0) (ke := 0) (by decide) (by decide) (c_X12_laysHarms_L62 hd ih _ h)) (And.intro rfl (And.intro rfl (And.intro rfl (And.intro rfl trivial))))
theorem c_X12_laysHarms_L12 {Ω : mO} {d : Nat} (hd : 7 ≤ d) {r : Int × mD} {x1 : Int} : ∀ (n : Nat) {x2 : Int} {D : mD}, F_X12_laysHarms_L12 x1 n x2 D = some r → J Ω M_X12_laysHarms d 0 0 (rI r.1 r.2) 12 [some (mR 133), some (mI x1), some (mI x2), none, none, none] [] (SK, D, false) 0 0 := by
  intro n
  induction n with
  | zero => intro x2 D h; exact absurd (show (none : Option (Int × mD)) = some r from h) nofun
  | succ n ih =>
    intro x2 D h
    rw [F_X12_laysHarms_L12] at h
    refine j_iload_n (pc' := 13) dX12_laysHarms_12 rfl rfl ?_
    refine j_bipush (pc' := 15) dX12_laysHarms_13 rfl rfl ?_
    obtain ⟨q1, h⟩ := ck_o h
    refine j_icmp_ge (tgt := 49) (pc' := 18) dX12_laysHarms_15 rfl rfl q1 (by decide) (fun b1 => ?_) (fun b1 => ?_)
    · replace h := ite_t b1 h
      refine j_aload_n (pc' := 50) dX12_laysHarms_49 rfl rfl ?_
      obtain ⟨v1, D1, e1, h⟩ := bI_o h
      refine k_cV (d' := 1) (pc' := 53) [] [] (c_X12_letters (d := 1) (Nat.le_refl _) e1) cw_X12_68 kc_11 w_1788 ws_80 dX12_laysHarms_50 rfl (by omega) rfl rfl (by decide) sk_133 rfl rfl (by decide) (by decide) ?_
      refine j_iconst (pc' := 54) dX12_laysHarms_53 rfl ?_
      refine j_isub (pc' := 55) dX12_laysHarms_54 rfl ?_
      refine j_istore_n (pc' := 56) (ls' := [some (mR 133), some (mI x1), some (mI (v1 - 1)), none, none, none]) dX12_laysHarms_55 rfl (by decide) rfl ?_
      exact j_wk (j_widen (ce := 0) (ke := 0) (by decide) (by decide) (c_X12_laysHarms_L56 hd _ h)) (And.intro rfl (And.intro rfl (And.intro rfl trivial)))
    · replace h := ite_f b1 h
      refine j_aload_n (pc' := 19) dX12_laysHarms_18 rfl rfl ?_
      refine k_getR (pc' := 22) (sl := 27) (r := 147) kc_11 w_1504 (Or.inl rfl) (by decide) dX12_laysHarms_19 rfl (by decide) sk_133 (by decide) rfl (by decide) ?_
      refine j_bipush (pc' := 24) dX12_laysHarms_22 rfl rfl ?_
      refine j_aload_n (pc' := 25) dX12_laysHarms_24 rfl rfl ?_
      obtain ⟨v2, D2, e2, h⟩ := bI_o h
      refine k_cV (d' := 1) (pc' := 28) [] [mI 43, mR 147] (c_X12_letters (d := 1) (Nat.le_refl _) e2) cw_X12_68 kc_11 w_1788 ws_80 dX12_laysHarms_25 rfl (by omega) rfl rfl (by decide) sk_133 rfl rfl (by decide) (by decide) ?_
      refine j_imul (pc' := 29) dX12_laysHarms_28 rfl ?_
      refine j_iload_n (pc' := 30) dX12_laysHarms_29 rfl rfl ?_
      refine j_iadd (pc' := 31) dX12_laysHarms_30 rfl ?_
      refine j_iload_n (pc' := 32) dX12_laysHarms_31 rfl rfl ?_
      have hj : J Ω M_X12_laysHarms d 0 0 (rI r.1 r.2) 42 [some (mR 133), some (mI x1), some (mI x2), none, none, none] [mI (if x2 = 0 then (0 : Int) else (1000000 : Int)), mI ((43 * v2) + x2), mR 147] (SK, D2, false) 0 0 := by
        obtain ⟨q2, h⟩ := ck_o h
        refine k_iast (pc' := 43) dX12_laysHarms_42 rfl (by decide) sk_147 (by decide) q2.1 q2.2 ?_
        refine j_iinc (pc' := 46) (z' := (x2 + 1)) (ls' := [some (mR 133), some (mI x1), some (mI (x2 + 1)), none, none, none]) dX12_laysHarms_43 rfl rfl rfl (by decide) rfl ?_
        refine j_goto (tgt := 12) dX12_laysHarms_46 rfl ?_
        exact j_wk (j_widen (ce := 0) (ke := 0) (by decide) (by decide) (ih h)) (And.intro rfl (And.intro rfl (And.intro rfl trivial)))
      refine j_if_ne (tgt := 39) (pc' := 35) dX12_laysHarms_32 rfl rfl q1 (fun b2 => ?_) (fun b2 => ?_)
      · refine j_ldcwI (pc' := 42) (n := 1000000) w_1860 dX12_laysHarms_39 rfl ?_
        have hj := hj
        try simp only [if_neg b2] at hj
        exact j_wk hj (And.intro rfl (And.intro rfl (And.intro rfl trivial)))
      · refine j_iconst (pc' := 36) dX12_laysHarms_35 rfl ?_
        refine j_goto (tgt := 42) dX12_laysHarms_36 rfl ?_
        have hj := hj
        try simp only [if_pos b2] at hj
        exact j_wk hj (And.intro rfl (And.intro rfl (And.intro rfl trivial)))
theorem c_X12_laysHarms_e {Ω : mO} {d : Nat} (hd : 7 ≤ d) {r : Int × mD} {x1 : Int} {D : mD} (h : F_X12_laysHarms x1 D = some r) : J Ω M_X12_laysHarms d 0 0 (rI r.1 r.2) 0 [some (mR 133), some (mI x1), none, none, none, none] [] (SK, D, false) 0 0 := by
  rw [F_X12_laysHarms] at h
  refine j_iload_n (pc' := 1) dX12_laysHarms_0 rfl rfl ?_
  refine j_bipush (pc' := 3) dX12_laysHarms_1 rfl rfl ?_
  obtain ⟨q1, h⟩ := ck_o h
  refine j_icmp_lt (tgt := 10) (pc' := 6) dX12_laysHarms_3 rfl rfl q1 (by decide) (fun b1 => ?_) (fun b1 => ?_)
  · replace h := ite_t b1 h
    refine j_iconst (pc' := 11) dX12_laysHarms_10 rfl ?_
    refine j_istore_n (pc' := 12) (ls' := [some (mR 133), some (mI x1), some (mI 0), none, none, none]) dX12_laysHarms_11 rfl (by decide) rfl ?_
    exact j_wk (j_widen (ce := 0) (ke := 0) (by decide) (by decide) (c_X12_laysHarms_L12 hd _ h)) (And.intro rfl (And.intro rfl (And.intro rfl trivial)))
  · replace h := ite_f b1 h
    refine j_ldcwI (pc' := 9) (n := 1000000) w_1860 dX12_laysHarms_6 rfl ?_
    exact j_iret dX12_laysHarms_9 rfl (by decide) (by decide) (rI_of h)
theorem c_X12_laysHarms {d : Nat} (hd : 7 ≤ d) {x1 : Int} {D D' : mD} {v : Int} (h : F_X12_laysHarms x1 D = some (v, D')) : CM d 0 0 M_X12_laysHarms [mR 133, mI x1] (SK, D, false) (rI v D') := CM.intro pn_X12 rfl rfl (Nat.le_of_ble_eq_true rfl) (fun _ => c_X12_laysHarms_e hd h)
theorem c_X12_squeezes_j81 {Ω : mO} {d : Nat} (hd : 7 ≤ d) {r : Int × mD} {K7 : Int → Int → Int → mD → RI} {x2 x4 x5 s0 s1 : Int} (hK7 : ∀ {x2 x3 x4 : Int} {D : mD}, K7 x2 x3 x4 D = some r → J Ω M_X12_squeezes d 0 0 (rI r.1 r.2) 7 [some (mR 133), none, some (mI x2), some (mI x3), some (mI x4), none] [] (SK, D, false) 0 0) {D : mD} (h : F_X12_squeezes_j81 K7 x2 x4 x5 s0 s1 D = some r) : J Ω M_X12_squeezes d 0 0 (rI r.1 r.2) 81 [some (mR 133), none, some (mI x2), none, some (mI x4), some (mI x5)] [mI s1, mI s0] (SK, D, false) 0 0 := by
  rw [F_X12_squeezes_j81] at h
  refine j_ior (pc' := 82) dX12_squeezes_81 rfl ?_
  refine j_istore_n (pc' := 83) (ls' := [some (mR 133), none, some (mI x2), some (mI (bOr s0 s1)), some (mI x4), some (mI x5)]) dX12_squeezes_82 rfl (by decide) rfl ?_
  refine j_iload_n (pc' := 84) dX12_squeezes_83 rfl rfl ?_
  refine j_iload (pc' := 86) dX12_squeezes_84 rfl rfl ?_
  refine j_isub (pc' := 87) dX12_squeezes_86 rfl ?_
  refine j_istore_n (pc' := 88) (ls' := [some (mR 133), none, some (mI (x2 - x5)), some (mI (bOr s0 s1)), some (mI x4), some (mI x5)]) dX12_squeezes_87 rfl (by decide) rfl ?_
  refine j_iinc (pc' := 91) (z' := (x4 + 1)) (ls' := [some (mR 133), none, some (mI (x2 - x5)), some (mI (bOr s0 s1)), some (mI (x4 + 1)), some (mI x5)]) dX12_squeezes_88 rfl rfl rfl (by decide) rfl ?_
  refine j_goto (tgt := 7) dX12_squeezes_91 rfl ?_
  exact j_wk (j_widen (ce := 0) (ke := 0) (by decide) (by decide) (hK7 h)) (And.intro rfl (And.intro rfl (And.intro rfl (And.intro rfl trivial))))
theorem c_X12_squeezes_L19 {Ω : mO} {d : Nat} (hd : 7 ≤ d) {r : Int × mD} {K7 : Int → Int → Int → mD → RI} {x2 x3 x4 : Int} (hK7 : ∀ {x2 x3 x4 : Int} {D : mD}, K7 x2 x3 x4 D = some r → J Ω M_X12_squeezes d 0 0 (rI r.1 r.2) 7 [some (mR 133), none, some (mI x2), some (mI x3), some (mI x4), none] [] (SK, D, false) 0 0) : ∀ (n : Nat) {x5 : Int} {D : mD}, F_X12_squeezes_L19 K7 x2 x3 x4 n x5 D = some r → J Ω M_X12_squeezes d 0 0 (rI r.1 r.2) 19 [some (mR 133), none, some (mI x2), some (mI x3), some (mI x4), some (mI x5)] [] (SK, D, false) 0 0 := by
  intro n
  induction n with
  | zero => intro x5 D h; exact absurd (show (none : Option (Int × mD)) = some r from h) nofun
  | succ n ih =>
    intro x5 D h
    rw [F_X12_squeezes_L19] at h
    refine j_aload_n (pc' := 20) dX12_squeezes_19 rfl rfl ?_
    refine j_iload (pc' := 22) dX12_squeezes_20 rfl rfl ?_
    refine j_iload (pc' := 24) dX12_squeezes_22 rfl rfl ?_
    obtain ⟨v1, D1, e1, h⟩ := bI_o h
    refine k_cV (d' := 3) (pc' := 27) [mI x4, mI x5] [] (c_X12_canBe (d := 3) (Nat.le_refl _) e1) cw_X12_450 kc_11 w_2069 ws_126 dX12_squeezes_24 rfl (by omega) rfl rfl (by decide) sk_133 rfl rfl (by decide) (by decide) ?_
    obtain ⟨q1, h⟩ := ck_o h
    refine j_if_eq (tgt := 61) (pc' := 30) dX12_squeezes_27 rfl rfl q1 (fun b1 => ?_) (fun b1 => ?_)
    · replace h := ite_t b1 h
      refine j_iinc (pc' := 64) (z' := (x5 + 1)) (ls' := [some (mR 133), none, some (mI x2), some (mI x3), some (mI x4), some (mI (x5 + 1))]) dX12_squeezes_61 rfl rfl rfl (by decide) rfl ?_
      refine j_goto (tgt := 19) dX12_squeezes_64 rfl ?_
      exact j_wk (j_widen (ce := 0) (ke := 0) (by decide) (by decide) (ih h)) (And.intro rfl (And.intro rfl (And.intro rfl (And.intro rfl (And.intro rfl trivial)))))
    · replace h := ite_f b1 h
      refine j_aload_n (pc' := 31) dX12_squeezes_30 rfl rfl ?_
      refine j_iload (pc' := 33) dX12_squeezes_31 rfl rfl ?_
      refine j_iload (pc' := 35) dX12_squeezes_33 rfl rfl ?_
      obtain ⟨v2, D2, e2, h⟩ := bI_o h
      refine k_cV (d' := 3) (pc' := 38) [mI x4, mI x5] [] (c_X12_harmBy (d := 3) (Nat.le_refl _) e2) cw_X12_453 kc_11 w_2073 ws_127 dX12_squeezes_35 rfl (by omega) rfl rfl (by decide) sk_133 rfl rfl (by decide) (by decide) ?_
      refine j_aload_n (pc' := 39) dX12_squeezes_38 rfl rfl ?_
      refine j_iload (pc' := 41) dX12_squeezes_39 rfl rfl ?_
      refine j_iconst (pc' := 42) dX12_squeezes_41 rfl ?_
      refine j_iadd (pc' := 43) dX12_squeezes_42 rfl ?_
      refine j_iload_n (pc' := 44) dX12_squeezes_43 rfl rfl ?_
      refine j_iload (pc' := 46) dX12_squeezes_44 rfl rfl ?_
      refine j_isub (pc' := 47) dX12_squeezes_46 rfl ?_
      obtain ⟨v3, D3, e3, h⟩ := bI_o h
      refine k_cV (d' := 6) (pc' := 50) [mI (x4 + 1), mI (x2 - x5)] [mI v2] (c_X12_harmFrom (d := 6) (Nat.le_refl _) e3) cw_X12_456 kc_11 w_2077 ws_128 dX12_squeezes_47 rfl (by omega) rfl rfl (by decide) sk_133 rfl rfl (by decide) (by decide) ?_
      refine j_iadd (pc' := 51) dX12_squeezes_50 rfl ?_
      refine j_aload_n (pc' := 52) dX12_squeezes_51 rfl rfl ?_
      refine j_iload (pc' := 54) dX12_squeezes_52 rfl rfl ?_
      refine j_iload_n (pc' := 55) dX12_squeezes_54 rfl rfl ?_
      obtain ⟨v4, D4, e4, h⟩ := bI_o h
      refine k_cV (d' := 6) (pc' := 58) [mI x4, mI x2] [mI (v2 + v3)] (c_X12_harmFrom (d := 6) (Nat.le_refl _) e4) cw_X12_456 kc_11 w_2077 ws_128 dX12_squeezes_55 rfl (by omega) rfl rfl (by decide) sk_133 rfl rfl (by decide) (by decide) ?_
      obtain ⟨q2, h⟩ := ck_o h
      obtain ⟨q3, h⟩ := ck_o h
      refine j_icmp_eq (tgt := 67) (pc' := 61) dX12_squeezes_58 rfl rfl q2 q3 (fun b2 => ?_) (fun b2 => ?_)
      · replace h := ite_t b2 h
        refine j_iload_n (pc' := 68) dX12_squeezes_67 rfl rfl ?_
        refine j_iload (pc' := 70) dX12_squeezes_68 rfl rfl ?_
        obtain ⟨q4, h⟩ := ck_o h
        have hj : J Ω M_X12_squeezes d 0 0 (rI r.1 r.2) 81 [some (mR 133), none, some (mI x2), none, some (mI x4), some (mI x5)] [mI (if x5 ≤ 0 then (0 : Int) else (bShl 1 x4)), mI x3] (SK, D4, false) 0 0 := by
          exact j_wk (j_widen (ce := 0) (ke := 0) (by decide) (by decide) (c_X12_squeezes_j81 hd hK7 h)) (And.intro rfl (And.intro rfl (And.intro rfl (And.intro rfl trivial))))
        refine j_if_le (tgt := 80) (pc' := 73) dX12_squeezes_70 rfl rfl q4 (fun b3 => ?_) (fun b3 => ?_)
        · refine j_iconst (pc' := 81) dX12_squeezes_80 rfl ?_
          have hj := hj
          try simp only [if_pos b3] at hj
          exact j_wk hj (And.intro rfl (And.intro rfl (And.intro rfl (And.intro rfl trivial))))
        · refine j_iconst (pc' := 74) dX12_squeezes_73 rfl ?_
          refine j_iload (pc' := 76) dX12_squeezes_74 rfl rfl ?_
          refine j_ishl (pc' := 77) dX12_squeezes_76 rfl ?_
          refine j_goto (tgt := 81) dX12_squeezes_77 rfl ?_
          have hj := hj
          try simp only [if_neg b3] at hj
          exact j_wk hj (And.intro rfl (And.intro rfl (And.intro rfl (And.intro rfl trivial))))
      · replace h := ite_f b2 h
        refine j_iinc (pc' := 64) (z' := (x5 + 1)) (ls' := [some (mR 133), none, some (mI x2), some (mI x3), some (mI x4), some (mI (x5 + 1))]) dX12_squeezes_61 rfl rfl rfl (by decide) rfl ?_
        refine j_goto (tgt := 19) dX12_squeezes_64 rfl ?_
        exact j_wk (j_widen (ce := 0) (ke := 0) (by decide) (by decide) (ih h)) (And.intro rfl (And.intro rfl (And.intro rfl (And.intro rfl (And.intro rfl trivial)))))
theorem c_X12_squeezes_L7 {Ω : mO} {d : Nat} (hd : 7 ≤ d) {r : Int × mD} : ∀ (n : Nat) {x2 x3 x4 : Int} {D : mD}, F_X12_squeezes_L7 n x2 x3 x4 D = some r → J Ω M_X12_squeezes d 0 0 (rI r.1 r.2) 7 [some (mR 133), none, some (mI x2), some (mI x3), some (mI x4), none] [] (SK, D, false) 0 0 := by
  intro n
  induction n with
  | zero => intro x2 x3 x4 D h; exact absurd (show (none : Option (Int × mD)) = some r from h) nofun
  | succ n ih =>
    intro x2 x3 x4 D h
    rw [F_X12_squeezes_L7] at h
    refine j_iload (pc' := 9) dX12_squeezes_7 rfl rfl ?_
    refine j_aload_n (pc' := 10) dX12_squeezes_9 rfl rfl ?_
    obtain ⟨v1, D1, e1, h⟩ := bI_o h
    refine k_cV (d' := 1) (pc' := 13) [] [mI x4] (c_X12_letters (d := 1) (Nat.le_refl _) e1) cw_X12_68 kc_11 w_1788 ws_80 dX12_squeezes_10 rfl (by omega) rfl rfl (by decide) sk_133 rfl rfl (by decide) (by decide) ?_
    obtain ⟨q1, h⟩ := ck_o h
    obtain ⟨q2, h⟩ := ck_o h
    refine j_icmp_ge (tgt := 94) (pc' := 16) dX12_squeezes_13 rfl rfl q1 q2 (fun b1 => ?_) (fun b1 => ?_)
    · replace h := ite_t b1 h
      refine j_iload_n (pc' := 95) dX12_squeezes_94 rfl rfl ?_
      exact j_iret dX12_squeezes_95 rfl (by decide) (by decide) (rI_of h)
    · replace h := ite_f b1 h
      refine j_iconst (pc' := 17) dX12_squeezes_16 rfl ?_
      refine j_istore (pc' := 19) (ls' := [some (mR 133), none, some (mI x2), some (mI x3), some (mI x4), some (mI 0)]) dX12_squeezes_17 rfl (by decide) rfl ?_
      exact j_wk (j_widen (ce := 0) (ke := 0) (by decide) (by decide) (c_X12_squeezes_L19 hd ih _ h)) (And.intro rfl (And.intro rfl (And.intro rfl (And.intro rfl (And.intro rfl trivial)))))
theorem c_X12_squeezes_e {Ω : mO} {d : Nat} (hd : 7 ≤ d) {r : Int × mD} {x1 : Int} {D : mD} (h : F_X12_squeezes x1 D = some r) : J Ω M_X12_squeezes d 0 0 (rI r.1 r.2) 0 [some (mR 133), some (mI x1), none, none, none, none] [] (SK, D, false) 0 0 := by
  rw [F_X12_squeezes] at h
  refine j_iload_n (pc' := 1) dX12_squeezes_0 rfl rfl ?_
  refine j_istore_n (pc' := 2) (ls' := [some (mR 133), some (mI x1), some (mI x1), none, none, none]) dX12_squeezes_1 rfl (by decide) rfl ?_
  refine j_iconst (pc' := 3) dX12_squeezes_2 rfl ?_
  refine j_istore_n (pc' := 4) (ls' := [some (mR 133), some (mI x1), some (mI x1), some (mI 0), none, none]) dX12_squeezes_3 rfl (by decide) rfl ?_
  refine j_iconst (pc' := 5) dX12_squeezes_4 rfl ?_
  refine j_istore (pc' := 7) (ls' := [some (mR 133), some (mI x1), some (mI x1), some (mI 0), some (mI 0), none]) dX12_squeezes_5 rfl (by decide) rfl ?_
  exact j_wk (j_widen (ce := 0) (ke := 0) (by decide) (by decide) (c_X12_squeezes_L7 hd _ h)) (And.intro rfl (And.intro rfl (And.intro rfl (And.intro rfl trivial))))
theorem c_X12_squeezes {d : Nat} (hd : 7 ≤ d) {x1 : Int} {D D' : mD} {v : Int} (h : F_X12_squeezes x1 D = some (v, D')) : CM d 0 0 M_X12_squeezes [mR 133, mI x1] (SK, D, false) (rI v D') := CM.intro pn_X12 rfl rfl (Nat.le_of_ble_eq_true rfl) (fun _ => c_X12_squeezes_e hd h)
theorem c_X12_squeeze_e {Ω : mO} {d : Nat} (hd : 10 ≤ d) {r : Int × mD} {x1 x2 : Int} {D : mD} (h : F_X12_squeeze x1 x2 D = some r) : J Ω M_X12_squeeze d 0 0 (rI r.1 r.2) 0 [some (mR 133), some (mI x1), some (mI x2), none, none] [] (SK, D, false) 0 0 := by
  rw [F_X12_squeeze] at h
  refine j_aload_n (pc' := 1) dX12_squeeze_0 rfl rfl ?_
  refine j_iconst (pc' := 2) dX12_squeeze_1 rfl ?_
  refine k_putI (pc' := 5) (sl := 0) (i' := 0) kc_11 w_1477 (by decide) (Or.inl rfl) dX12_squeeze_2 rfl (by decide) sk_133 (by decide) ⟨rfl, rfl⟩ rfl ?_
  refine j_aload_n (pc' := 6) dX12_squeeze_5 rfl rfl ?_
  refine j_iload_n (pc' := 7) dX12_squeeze_6 rfl rfl ?_
  obtain ⟨v1, D1, e1, h⟩ := bI_o h
  refine k_cS (d' := 2) (pc' := 10) [mI x1] [mR 133] (c_X12_noWhite (d := 2) (Nat.le_refl _) e1) cw_X12_377 w_1897 dX12_squeeze_7 rfl (by omega) rfl rfl rfl rfl (by decide) (by decide) ?_
  refine j_iconst (pc' := 11) dX12_squeeze_10 rfl ?_
  obtain ⟨v2, D2, e2, h⟩ := bI_o h
  refine k_cV (d' := 1) (pc' := 14) [mI v1, mI 1] [] (c_X12_throwsIf (d := 1) (Nat.le_refl _) e2) cw_X12_282 kc_11 w_1753 ws_76 dX12_squeeze_11 rfl (by omega) rfl rfl (by decide) sk_133 rfl rfl (by decide) (by decide) ?_
  obtain ⟨q1, h⟩ := ck_o h
  refine j_if_eq (tgt := 19) (pc' := 17) dX12_squeeze_14 rfl rfl q1 (fun b1 => ?_) (fun b1 => ?_)
  · replace h := ite_t b1 h
    refine j_aload_n (pc' := 20) dX12_squeeze_19 rfl rfl ?_
    obtain ⟨v3, D3, e3, h⟩ := bI_o h
    refine k_cVv (d' := 9) (pc' := 23) [] [] (c_X12_laysWhites (d := 9) (Nat.le_refl _) e3) cw_X12_380 kc_11 w_1901 ws_99 dX12_squeeze_20 rfl (by omega) rfl rfl (by decide) sk_133 rfl rfl (by decide) (by decide) ?_
    refine j_aload_n (pc' := 24) dX12_squeeze_23 rfl rfl ?_
    refine j_iload_n (pc' := 25) dX12_squeeze_24 rfl rfl ?_
    refine j_aload_n (pc' := 26) dX12_squeeze_25 rfl rfl ?_
    obtain ⟨v4, D4, e4, h⟩ := bI_o h
    refine k_cV (d' := 1) (pc' := 29) [] [mI x1, mR 133] (c_X12_letters (d := 1) (Nat.le_refl _) e4) cw_X12_68 kc_11 w_1788 ws_80 dX12_squeeze_26 rfl (by omega) rfl rfl (by decide) sk_133 rfl rfl (by decide) (by decide) ?_
    obtain ⟨v5, D5, e5, h⟩ := bI_o h
    refine k_cV (d' := 7) (pc' := 32) [mI x1, mI v4] [] (c_X12_shortBy (d := 7) (Nat.le_refl _) e5) cw_X12_447 kc_11 w_2053 ws_123 dX12_squeeze_29 rfl (by omega) rfl rfl (by decide) sk_133 rfl rfl (by decide) (by decide) ?_
    refine j_istore_n (pc' := 33) (ls' := [some (mR 133), some (mI x1), some (mI x2), some (mI v5), none]) dX12_squeeze_32 rfl (by decide) rfl ?_
    refine j_aload_n (pc' := 34) dX12_squeeze_33 rfl rfl ?_
    refine j_iload_n (pc' := 35) dX12_squeeze_34 rfl rfl ?_
    obtain ⟨v6, D6, e6, h⟩ := bI_o h
    refine k_cV (d' := 7) (pc' := 38) [mI v5] [] (c_X12_laysHarms (d := 7) (Nat.le_refl _) e6) cw_X12_459 kc_11 w_2065 ws_125 dX12_squeeze_35 rfl (by omega) rfl rfl (by decide) sk_133 rfl rfl (by decide) (by decide) ?_
    refine j_istore (pc' := 40) (ls' := [some (mR 133), some (mI x1), some (mI x2), some (mI v5), some (mI v6)]) dX12_squeeze_38 rfl (by decide) rfl ?_
    refine j_iload (pc' := 42) dX12_squeeze_40 rfl rfl ?_
    refine j_ldcwI (pc' := 45) (n := 1000000) w_1860 dX12_squeeze_42 rfl ?_
    obtain ⟨q2, h⟩ := ck_o h
    refine j_icmp_ne (tgt := 52) (pc' := 48) dX12_squeeze_45 rfl rfl q2 (by decide) (fun b2 => ?_) (fun b2 => ?_)
    · replace h := ite_f b2 h
      refine j_iload_n (pc' := 53) dX12_squeeze_52 rfl rfl ?_
      obtain ⟨q3, h⟩ := ck_o h
      refine j_if_eq (tgt := 64) (pc' := 56) dX12_squeeze_53 rfl rfl q3 (fun b3 => ?_) (fun b3 => ?_)
      · replace h := ite_t b3 h
        refine j_iload (pc' := 66) dX12_squeeze_64 rfl rfl ?_
        exact j_iret dX12_squeeze_66 rfl (by decide) (by decide) (rI_of h)
      · replace h := ite_f b3 h
        refine j_aload_n (pc' := 57) dX12_squeeze_56 rfl rfl ?_
        refine j_iload_n (pc' := 58) dX12_squeeze_57 rfl rfl ?_
        obtain ⟨v7, D7, e7, h⟩ := bI_o h
        refine k_cV (d' := 7) (pc' := 61) [mI v5] [] (c_X12_squeezes (d := 7) (Nat.le_refl _) e7) cw_X12_462 kc_11 w_2081 ws_129 dX12_squeeze_58 rfl (by omega) rfl rfl (by decide) sk_133 rfl rfl (by decide) (by decide) ?_
        refine j_goto (tgt := 66) dX12_squeeze_61 rfl ?_
        exact j_iret dX12_squeeze_66 rfl (by decide) (by decide) (rI_of h)
    · replace h := ite_t b2 h
      refine j_iconst (pc' := 49) dX12_squeeze_48 rfl ?_
      refine j_goto (tgt := 66) dX12_squeeze_49 rfl ?_
      exact j_iret dX12_squeeze_66 rfl (by decide) (by decide) (rI_of h)
  · replace h := ite_f b1 h
    refine j_iconst (pc' := 18) dX12_squeeze_17 rfl ?_
    exact j_iret dX12_squeeze_18 rfl (by decide) (by decide) (rI_of h)
theorem c_X12_squeeze {d : Nat} (hd : 10 ≤ d) {x1 x2 : Int} {D D' : mD} {v : Int} (h : F_X12_squeeze x1 x2 D = some (v, D')) : CM d 0 0 M_X12_squeeze [mR 133, mI x1, mI x2] (SK, D, false) (rI v D') := CM.intro pn_X12 rfl rfl (Nat.le_of_ble_eq_true rfl) (fun _ => c_X12_squeeze_e hd h)
theorem c_X12_dropped_L25 {Ω : mO} {d : Nat} (hd : 10 ≤ d) {r : Int × mD} {x1 : Int} : ∀ (n : Nat) {x2 : Int} {D : mD}, F_X12_dropped_L25 x1 n x2 D = some r → J Ω M_X12_dropped d 0 0 (rI r.1 r.2) 25 [some (mR 133), some (mI x1), some (mI x2)] [] (SK, D, false) 0 0 := by
  intro n
  induction n with
  | zero => intro x2 D h; exact absurd (show (none : Option (Int × mD)) = some r from h) nofun
  | succ n ih =>
    intro x2 D h
    rw [F_X12_dropped_L25] at h
    refine j_iload_n (pc' := 26) dX12_dropped_25 rfl rfl ?_
    refine j_aload_n (pc' := 27) dX12_dropped_26 rfl rfl ?_
    obtain ⟨v1, D1, e1, h⟩ := bI_o h
    refine k_cV (d' := 1) (pc' := 30) [] [mI x2] (c_X12_letters (d := 1) (Nat.le_refl _) e1) cw_X12_68 kc_11 w_1788 ws_80 dX12_dropped_27 rfl (by omega) rfl rfl (by decide) sk_133 rfl rfl (by decide) (by decide) ?_
    obtain ⟨q1, h⟩ := ck_o h
    obtain ⟨q2, h⟩ := ck_o h
    refine j_icmp_ge (tgt := 55) (pc' := 33) dX12_dropped_30 rfl rfl q1 q2 (fun b1 => ?_) (fun b1 => ?_)
    · replace h := ite_t b1 h
      refine j_iconst (pc' := 56) dX12_dropped_55 rfl ?_
      exact j_iret dX12_dropped_56 rfl (by decide) (by decide) (rI_of h)
    · replace h := ite_f b1 h
      refine j_aload_n (pc' := 34) dX12_dropped_33 rfl rfl ?_
      refine j_iload_n (pc' := 35) dX12_dropped_34 rfl rfl ?_
      refine j_aload_n (pc' := 36) dX12_dropped_35 rfl rfl ?_
      obtain ⟨v2, D2, e2, h⟩ := bI_o h
      refine k_cV (d' := 1) (pc' := 39) [] [mI x1, mR 133] (c_X12_letters (d := 1) (Nat.le_refl _) e2) cw_X12_68 kc_11 w_1788 ws_80 dX12_dropped_36 rfl (by omega) rfl rfl (by decide) sk_133 rfl rfl (by decide) (by decide) ?_
      refine j_iload_n (pc' := 40) dX12_dropped_39 rfl rfl ?_
      refine j_isub (pc' := 41) dX12_dropped_40 rfl ?_
      obtain ⟨v3, D3, e3, h⟩ := bI_o h
      refine k_cV (d' := 7) (pc' := 44) [mI x1, mI (v2 - x2)] [] (c_X12_shortBy (d := 7) (Nat.le_refl _) e3) cw_X12_447 kc_11 w_2053 ws_123 dX12_dropped_41 rfl (by omega) rfl rfl (by decide) sk_133 rfl rfl (by decide) (by decide) ?_
      obtain ⟨q3, h⟩ := ck_o h
      refine j_if_gt (tgt := 49) (pc' := 47) dX12_dropped_44 rfl rfl q3 (fun b2 => ?_) (fun b2 => ?_)
      · replace h := ite_t b2 h
        refine j_iinc (pc' := 52) (z' := (x2 + 1)) (ls' := [some (mR 133), some (mI x1), some (mI (x2 + 1))]) dX12_dropped_49 rfl rfl rfl (by decide) rfl ?_
        refine j_goto (tgt := 25) dX12_dropped_52 rfl ?_
        exact j_wk (j_widen (ce := 0) (ke := 0) (by decide) (by decide) (ih h)) (And.intro rfl (And.intro rfl (And.intro rfl trivial)))
      · replace h := ite_f b2 h
        refine j_iload_n (pc' := 48) dX12_dropped_47 rfl rfl ?_
        exact j_iret dX12_dropped_48 rfl (by decide) (by decide) (rI_of h)
theorem c_X12_dropped_e {Ω : mO} {d : Nat} (hd : 10 ≤ d) {r : Int × mD} {x1 : Int} {D : mD} (h : F_X12_dropped x1 D = some r) : J Ω M_X12_dropped d 0 0 (rI r.1 r.2) 0 [some (mR 133), some (mI x1), none] [] (SK, D, false) 0 0 := by
  rw [F_X12_dropped] at h
  refine j_aload_n (pc' := 1) dX12_dropped_0 rfl rfl ?_
  refine j_iconst (pc' := 2) dX12_dropped_1 rfl ?_
  refine k_putI (pc' := 5) (sl := 0) (i' := 0) kc_11 w_1477 (by decide) (Or.inl rfl) dX12_dropped_2 rfl (by decide) sk_133 (by decide) ⟨rfl, rfl⟩ rfl ?_
  refine j_aload_n (pc' := 6) dX12_dropped_5 rfl rfl ?_
  refine j_iload_n (pc' := 7) dX12_dropped_6 rfl rfl ?_
  obtain ⟨v1, D1, e1, h⟩ := bI_o h
  refine k_cS (d' := 2) (pc' := 10) [mI x1] [mR 133] (c_X12_noWhite (d := 2) (Nat.le_refl _) e1) cw_X12_377 w_1897 dX12_dropped_7 rfl (by omega) rfl rfl rfl rfl (by decide) (by decide) ?_
  refine j_iconst (pc' := 11) dX12_dropped_10 rfl ?_
  obtain ⟨v2, D2, e2, h⟩ := bI_o h
  refine k_cV (d' := 1) (pc' := 14) [mI v1, mI 1] [] (c_X12_throwsIf (d := 1) (Nat.le_refl _) e2) cw_X12_282 kc_11 w_1753 ws_76 dX12_dropped_11 rfl (by omega) rfl rfl (by decide) sk_133 rfl rfl (by decide) (by decide) ?_
  obtain ⟨q1, h⟩ := ck_o h
  refine j_if_eq (tgt := 19) (pc' := 17) dX12_dropped_14 rfl rfl q1 (fun b1 => ?_) (fun b1 => ?_)
  · replace h := ite_t b1 h
    refine j_aload_n (pc' := 20) dX12_dropped_19 rfl rfl ?_
    obtain ⟨v3, D3, e3, h⟩ := bI_o h
    refine k_cVv (d' := 9) (pc' := 23) [] [] (c_X12_laysWhites (d := 9) (Nat.le_refl _) e3) cw_X12_380 kc_11 w_1901 ws_99 dX12_dropped_20 rfl (by omega) rfl rfl (by decide) sk_133 rfl rfl (by decide) (by decide) ?_
    refine j_iconst (pc' := 24) dX12_dropped_23 rfl ?_
    refine j_istore_n (pc' := 25) (ls' := [some (mR 133), some (mI x1), some (mI 0)]) dX12_dropped_24 rfl (by decide) rfl ?_
    exact j_wk (j_widen (ce := 0) (ke := 0) (by decide) (by decide) (c_X12_dropped_L25 hd _ h)) (And.intro rfl (And.intro rfl (And.intro rfl trivial)))
  · replace h := ite_f b1 h
    refine j_iconst (pc' := 18) dX12_dropped_17 rfl ?_
    exact j_iret dX12_dropped_18 rfl (by decide) (by decide) (rI_of h)
theorem c_X12_dropped {d : Nat} (hd : 10 ≤ d) {x1 : Int} {D D' : mD} {v : Int} (h : F_X12_dropped x1 D = some (v, D')) : CM d 0 0 M_X12_dropped [mR 133, mI x1] (SK, D, false) (rI v D') := CM.intro pn_X12 rfl rfl (Nat.le_of_ble_eq_true rfl) (fun _ => c_X12_dropped_e hd h)
theorem c_X12_inkAhead_L22 {Ω : mO} {d : Nat} (hd : 8 ≤ d) {r : Int × mD} {K4 : Int → Int → mD → RI} {x1 x3 x4 : Int} (hK4 : ∀ {x2 x3 : Int} {D : mD}, K4 x2 x3 D = some r → J Ω M_X12_inkAhead d 0 0 (rI r.1 r.2) 4 [some (mR 133), some (mI x1), some (mI x2), some (mI x3), none, none, none, none] [] (SK, D, false) 0 0) : ∀ (n : Nat) {x2 x5 : Int} {D : mD}, F_X12_inkAhead_L22 K4 x1 x3 x4 n x2 x5 D = some r → J Ω M_X12_inkAhead d 0 0 (rI r.1 r.2) 22 [some (mR 133), some (mI x1), some (mI x2), some (mI x3), some (mI x4), some (mI x5), none, none] [] (SK, D, false) 0 0 := by
  intro n
  induction n with
  | zero => intro x2 x5 D h; exact absurd (show (none : Option (Int × mD)) = some r from h) nofun
  | succ n ih =>
    intro x2 x5 D h
    rw [F_X12_inkAhead_L22] at h
    refine j_iload (pc' := 24) dX12_inkAhead_22 rfl rfl ?_
    refine j_iconst (pc' := 25) dX12_inkAhead_24 rfl ?_
    obtain ⟨q1, h⟩ := ck_o h
    refine j_icmp_ge (tgt := 85) (pc' := 28) dX12_inkAhead_25 rfl rfl q1 (by decide) (fun b1 => ?_) (fun b1 => ?_)
    · replace h := ite_t b1 h
      refine j_iinc (pc' := 88) (z' := (x3 + 1)) (ls' := [some (mR 133), some (mI x1), some (mI x2), some (mI (x3 + 1)), some (mI x4), some (mI x5), none, none]) dX12_inkAhead_85 rfl rfl rfl (by decide) rfl ?_
      refine j_goto (tgt := 4) dX12_inkAhead_88 rfl ?_
      exact j_wk (j_widen (ce := 0) (ke := 0) (by decide) (by decide) (hK4 h)) (And.intro rfl (And.intro rfl (And.intro rfl (And.intro rfl trivial))))
    · replace h := ite_f b1 h
      refine j_iload (pc' := 30) dX12_inkAhead_28 rfl rfl ?_
      refine j_aload_n (pc' := 31) dX12_inkAhead_30 rfl rfl ?_
      refine j_iload_n (pc' := 32) dX12_inkAhead_31 rfl rfl ?_
      refine j_iconst (pc' := 33) dX12_inkAhead_32 rfl ?_
      refine j_iload (pc' := 35) dX12_inkAhead_33 rfl rfl ?_
      refine j_iadd (pc' := 36) dX12_inkAhead_35 rfl ?_
      obtain ⟨v1, D1, e1, h⟩ := bI_o h
      refine k_cV (d' := 2) (pc' := 39) [mI x3, mI (2 + x5)] [mI x4] (c_X12_its (d := 2) (Nat.le_refl _) e1) cw_X12_84 kc_11 w_1796 ws_82 dX12_inkAhead_36 rfl (by omega) rfl rfl (by decide) sk_133 rfl rfl (by decide) (by decide) ?_
      refine j_iadd (pc' := 40) dX12_inkAhead_39 rfl ?_
      refine j_istore (pc' := 42) (ls' := [some (mR 133), some (mI x1), some (mI x2), some (mI x3), some (mI x4), some (mI x5), some (mI (x4 + v1)), none]) dX12_inkAhead_40 rfl (by decide) rfl ?_
      refine j_iload (pc' := 44) dX12_inkAhead_42 rfl rfl ?_
      refine j_aload_n (pc' := 45) dX12_inkAhead_44 rfl rfl ?_
      refine j_iload_n (pc' := 46) dX12_inkAhead_45 rfl rfl ?_
      obtain ⟨v2, D2, e2, h⟩ := bI_o h
      refine k_cV (d' := 6) (pc' := 49) [mI x3] [mI x4] (c_X12_widthOf (d := 6) (Nat.le_refl _) e2) cw_X12_333 kc_11 w_1792 ws_81 dX12_inkAhead_46 rfl (by omega) rfl rfl (by decide) sk_133 rfl rfl (by decide) (by decide) ?_
      refine j_iadd (pc' := 50) dX12_inkAhead_49 rfl ?_
      refine j_aload_n (pc' := 51) dX12_inkAhead_50 rfl rfl ?_
      refine j_iload_n (pc' := 52) dX12_inkAhead_51 rfl rfl ?_
      refine j_bipush (pc' := 54) dX12_inkAhead_52 rfl rfl ?_
      refine j_iload (pc' := 56) dX12_inkAhead_54 rfl rfl ?_
      refine j_iadd (pc' := 57) dX12_inkAhead_56 rfl ?_
      obtain ⟨v3, D3, e3, h⟩ := bI_o h
      refine k_cV (d' := 2) (pc' := 60) [mI x3, mI (7 + x5)] [mI (x4 + v2)] (c_X12_its (d := 2) (Nat.le_refl _) e3) cw_X12_84 kc_11 w_1796 ws_82 dX12_inkAhead_57 rfl (by omega) rfl rfl (by decide) sk_133 rfl rfl (by decide) (by decide) ?_
      refine j_isub (pc' := 61) dX12_inkAhead_60 rfl ?_
      refine j_istore (pc' := 63) (ls' := [some (mR 133), some (mI x1), some (mI x2), some (mI x3), some (mI x4), some (mI x5), some (mI (x4 + v1)), some (mI ((x4 + v2) - v3))]) dX12_inkAhead_61 rfl (by decide) rfl ?_
      refine j_iload_n (pc' := 64) dX12_inkAhead_63 rfl rfl ?_
      refine j_iconst (pc' := 65) dX12_inkAhead_64 rfl ?_
      refine j_iload_n (pc' := 66) dX12_inkAhead_65 rfl rfl ?_
      refine j_iload (pc' := 68) dX12_inkAhead_66 rfl rfl ?_
      obtain ⟨q2, h⟩ := ck_o h
      obtain ⟨q3, h⟩ := ck_o h
      refine k_min (pc' := 71) cw_X12_310 w_560 dX12_inkAhead_68 rfl (by omega) q2 q3 rfl (by decide) (by decide) ?_
      refine j_iload (pc' := 73) dX12_inkAhead_71 rfl rfl ?_
      refine j_isub (pc' := 74) dX12_inkAhead_73 rfl ?_
      obtain ⟨q4, h⟩ := ck_o h
      refine k_max (pc' := 77) cw_X12_72 w_541 dX12_inkAhead_74 rfl (by omega) (by decide) q4 rfl (by decide) (by decide) ?_
      refine j_iadd (pc' := 78) dX12_inkAhead_77 rfl ?_
      refine j_istore_n (pc' := 79) (ls' := [some (mR 133), some (mI x1), some (mI (x2 + (max 0 ((min x1 ((x4 + v2) - v3)) - (x4 + v1))))), some (mI x3), some (mI x4), some (mI x5), some (mI (x4 + v1)), some (mI ((x4 + v2) - v3))]) dX12_inkAhead_78 rfl (by decide) rfl ?_
      refine j_iinc (pc' := 82) (z' := (x5 + 1)) (ls' := [some (mR 133), some (mI x1), some (mI (x2 + (max 0 ((min x1 ((x4 + v2) - v3)) - (x4 + v1))))), some (mI x3), some (mI x4), some (mI (x5 + 1)), some (mI (x4 + v1)), some (mI ((x4 + v2) - v3))]) dX12_inkAhead_79 rfl rfl rfl (by decide) rfl ?_
      refine j_goto (tgt := 22) dX12_inkAhead_82 rfl ?_
      exact j_wk (j_widen (ce := 0) (ke := 0) (by decide) (by decide) (ih h)) (And.intro rfl (And.intro rfl (And.intro rfl (And.intro rfl (And.intro rfl (And.intro rfl trivial))))))
theorem c_X12_inkAhead_L4 {Ω : mO} {d : Nat} (hd : 8 ≤ d) {r : Int × mD} {x1 : Int} : ∀ (n : Nat) {x2 x3 : Int} {D : mD}, F_X12_inkAhead_L4 x1 n x2 x3 D = some r → J Ω M_X12_inkAhead d 0 0 (rI r.1 r.2) 4 [some (mR 133), some (mI x1), some (mI x2), some (mI x3), none, none, none, none] [] (SK, D, false) 0 0 := by
  intro n
  induction n with
  | zero => intro x2 x3 D h; exact absurd (show (none : Option (Int × mD)) = some r from h) nofun
  | succ n ih =>
    intro x2 x3 D h
    rw [F_X12_inkAhead_L4] at h
    refine j_iload_n (pc' := 5) dX12_inkAhead_4 rfl rfl ?_
    refine j_aload_n (pc' := 6) dX12_inkAhead_5 rfl rfl ?_
    obtain ⟨v1, D1, e1, h⟩ := bI_o h
    refine k_cV (d' := 1) (pc' := 9) [] [mI x3] (c_X12_letters (d := 1) (Nat.le_refl _) e1) cw_X12_68 kc_11 w_1788 ws_80 dX12_inkAhead_6 rfl (by omega) rfl rfl (by decide) sk_133 rfl rfl (by decide) (by decide) ?_
    obtain ⟨q1, h⟩ := ck_o h
    obtain ⟨q2, h⟩ := ck_o h
    refine j_icmp_ge (tgt := 91) (pc' := 12) dX12_inkAhead_9 rfl rfl q1 q2 (fun b1 => ?_) (fun b1 => ?_)
    · replace h := ite_t b1 h
      refine j_iload_n (pc' := 92) dX12_inkAhead_91 rfl rfl ?_
      exact j_iret dX12_inkAhead_92 rfl (by decide) (by decide) (rI_of h)
    · replace h := ite_f b1 h
      refine j_aload_n (pc' := 13) dX12_inkAhead_12 rfl rfl ?_
      refine j_iload_n (pc' := 14) dX12_inkAhead_13 rfl rfl ?_
      obtain ⟨v2, D2, e2, h⟩ := bI_o h
      refine k_cV (d' := 7) (pc' := 17) [mI x3] [] (c_X12_beginOf (d := 7) (Nat.le_refl _) e2) cw_X12_336 kc_11 w_1805 ws_84 dX12_inkAhead_14 rfl (by omega) rfl rfl (by decide) sk_133 rfl rfl (by decide) (by decide) ?_
      refine j_istore (pc' := 19) (ls' := [some (mR 133), some (mI x1), some (mI x2), some (mI x3), some (mI v2), none, none, none]) dX12_inkAhead_17 rfl (by decide) rfl ?_
      refine j_iconst (pc' := 20) dX12_inkAhead_19 rfl ?_
      refine j_istore (pc' := 22) (ls' := [some (mR 133), some (mI x1), some (mI x2), some (mI x3), some (mI v2), some (mI 0), none, none]) dX12_inkAhead_20 rfl (by decide) rfl ?_
      exact j_wk (j_widen (ce := 0) (ke := 0) (by decide) (by decide) (c_X12_inkAhead_L22 hd ih _ h)) (And.intro rfl (And.intro rfl (And.intro rfl (And.intro rfl (And.intro rfl (And.intro rfl trivial))))))
theorem c_X12_inkAhead_e {Ω : mO} {d : Nat} (hd : 8 ≤ d) {r : Int × mD} {x1 : Int} {D : mD} (h : F_X12_inkAhead x1 D = some r) : J Ω M_X12_inkAhead d 0 0 (rI r.1 r.2) 0 [some (mR 133), some (mI x1), none, none, none, none, none, none] [] (SK, D, false) 0 0 := by
  rw [F_X12_inkAhead] at h
  refine j_iconst (pc' := 1) dX12_inkAhead_0 rfl ?_
  refine j_istore_n (pc' := 2) (ls' := [some (mR 133), some (mI x1), some (mI 0), none, none, none, none, none]) dX12_inkAhead_1 rfl (by decide) rfl ?_
  refine j_iconst (pc' := 3) dX12_inkAhead_2 rfl ?_
  refine j_istore_n (pc' := 4) (ls' := [some (mR 133), some (mI x1), some (mI 0), some (mI 0), none, none, none, none]) dX12_inkAhead_3 rfl (by decide) rfl ?_
  exact j_wk (j_widen (ce := 0) (ke := 0) (by decide) (by decide) (c_X12_inkAhead_L4 hd _ h)) (And.intro rfl (And.intro rfl (And.intro rfl (And.intro rfl trivial))))
theorem c_X12_inkAhead {d : Nat} (hd : 8 ≤ d) {x1 : Int} {D D' : mD} {v : Int} (h : F_X12_inkAhead x1 D = some (v, D')) : CM d 0 0 M_X12_inkAhead [mR 133, mI x1] (SK, D, false) (rI v D') := CM.intro pn_X12 rfl rfl (Nat.le_of_ble_eq_true rfl) (fun _ => c_X12_inkAhead_e hd h)
theorem c_X12_middleOf_L10 {Ω : mO} {d : Nat} (hd : 9 ≤ d) {r : Int × mD} {x1 : Int} : ∀ (n : Nat) {x2 : Int} {D : mD}, F_X12_middleOf_L10 x1 n x2 D = some r → J Ω M_X12_middleOf d 0 0 (rI r.1 r.2) 10 [some (mR 133), some (mI x1), some (mI x2)] [] (SK, D, false) 0 0 := by
  intro n
  induction n with
  | zero => intro x2 D h; exact absurd (show (none : Option (Int × mD)) = some r from h) nofun
  | succ n ih =>
    intro x2 D h
    rw [F_X12_middleOf_L10] at h
    refine j_iconst (pc' := 11) dX12_middleOf_10 rfl ?_
    refine j_aload_n (pc' := 12) dX12_middleOf_11 rfl rfl ?_
    refine j_iload_n (pc' := 13) dX12_middleOf_12 rfl rfl ?_
    obtain ⟨v1, D1, e1, h⟩ := bI_o h
    refine k_cV (d' := 8) (pc' := 16) [mI x2] [mI 2] (c_X12_inkAhead (d := 8) (Nat.le_refl _) e1) cw_X12_465 kc_11 w_2097 ws_131 dX12_middleOf_13 rfl (by omega) rfl rfl (by decide) sk_133 rfl rfl (by decide) (by decide) ?_
    refine j_imul (pc' := 17) dX12_middleOf_16 rfl ?_
    refine j_iload_n (pc' := 18) dX12_middleOf_17 rfl rfl ?_
    obtain ⟨q1, h⟩ := ck_o h
    obtain ⟨q2, h⟩ := ck_o h
    refine j_icmp_ge (tgt := 27) (pc' := 21) dX12_middleOf_18 rfl rfl q1 q2 (fun b1 => ?_) (fun b1 => ?_)
    · replace h := ite_t b1 h
      refine j_iload_n (pc' := 28) dX12_middleOf_27 rfl rfl ?_
      exact j_iret dX12_middleOf_28 rfl (by decide) (by decide) (rI_of h)
    · replace h := ite_f b1 h
      refine j_iinc (pc' := 24) (z' := (x2 + 1)) (ls' := [some (mR 133), some (mI x1), some (mI (x2 + 1))]) dX12_middleOf_21 rfl rfl rfl (by decide) rfl ?_
      refine j_goto (tgt := 10) dX12_middleOf_24 rfl ?_
      exact j_wk (j_widen (ce := 0) (ke := 0) (by decide) (by decide) (ih h)) (And.intro rfl (And.intro rfl (And.intro rfl trivial)))
theorem c_X12_middleOf_e {Ω : mO} {d : Nat} (hd : 9 ≤ d) {r : Int × mD} {D : mD} (h : F_X12_middleOf D = some r) : J Ω M_X12_middleOf d 0 0 (rI r.1 r.2) 0 [some (mR 133), none, none] [] (SK, D, false) 0 0 := by
  rw [F_X12_middleOf] at h
  refine j_aload_n (pc' := 1) dX12_middleOf_0 rfl rfl ?_
  refine j_ldcwI (pc' := 4) (n := 1000000) w_1860 dX12_middleOf_1 rfl ?_
  obtain ⟨v1, D1, e1, h⟩ := bI_o h
  refine k_cV (d' := 8) (pc' := 7) [mI 1000000] [] (c_X12_inkAhead (d := 8) (Nat.le_refl _) e1) cw_X12_465 kc_11 w_2097 ws_131 dX12_middleOf_4 rfl (by omega) rfl rfl (by decide) sk_133 rfl rfl (by decide) (by decide) ?_
  refine j_istore_n (pc' := 8) (ls' := [some (mR 133), some (mI v1), none]) dX12_middleOf_7 rfl (by decide) rfl ?_
  refine j_iconst (pc' := 9) dX12_middleOf_8 rfl ?_
  refine j_istore_n (pc' := 10) (ls' := [some (mR 133), some (mI v1), some (mI 0)]) dX12_middleOf_9 rfl (by decide) rfl ?_
  exact j_wk (j_widen (ce := 0) (ke := 0) (by decide) (by decide) (c_X12_middleOf_L10 hd _ h)) (And.intro rfl (And.intro rfl (And.intro rfl trivial)))
theorem c_X12_middleOf {d : Nat} (hd : 9 ≤ d) {D D' : mD} {v : Int} (h : F_X12_middleOf D = some (v, D')) : CM d 0 0 M_X12_middleOf [mR 133] (SK, D, false) (rI v D') := CM.intro pn_X12 rfl rfl (Nat.le_of_ble_eq_true rfl) (fun _ => c_X12_middleOf_e hd h)
theorem c_X12_middle_e {Ω : mO} {d : Nat} (hd : 10 ≤ d) {r : Int × mD} {x1 : Int} {D : mD} (h : F_X12_middle x1 D = some r) : J Ω M_X12_middle d 0 0 (rI r.1 r.2) 0 [some (mR 133), some (mI x1)] [] (SK, D, false) 0 0 := by
  rw [F_X12_middle] at h
  refine j_aload_n (pc' := 1) dX12_middle_0 rfl rfl ?_
  refine j_iconst (pc' := 2) dX12_middle_1 rfl ?_
  refine k_putI (pc' := 5) (sl := 0) (i' := 0) kc_11 w_1477 (by decide) (Or.inl rfl) dX12_middle_2 rfl (by decide) sk_133 (by decide) ⟨rfl, rfl⟩ rfl ?_
  refine j_aload_n (pc' := 6) dX12_middle_5 rfl rfl ?_
  obtain ⟨v1, D1, e1, h⟩ := bI_o h
  refine k_cV (d' := 9) (pc' := 9) [] [] (c_X12_middleOf (d := 9) (Nat.le_refl _) e1) cw_X12_468 kc_11 w_2093 ws_130 dX12_middle_6 rfl (by omega) rfl rfl (by decide) sk_133 rfl rfl (by decide) (by decide) ?_
  refine j_iload_n (pc' := 10) dX12_middle_9 rfl rfl ?_
  obtain ⟨q1, h⟩ := ck_o h
  obtain ⟨q2, h⟩ := ck_o h
  obtain ⟨q3, h⟩ := ck_o h
  have hj : J Ω M_X12_middle d 0 0 (rI r.1 r.2) 25 [none, none] [mI (if x1 = 0 then (0 : Int) else ((D1 134 2) / 2)), mI v1] (SK, D1, false) 0 0 := by
    refine j_isub (pc' := 26) dX12_middle_25 rfl ?_
    exact j_iret dX12_middle_26 rfl (by decide) (by decide) (rI_of h)
  refine j_if_eq (tgt := 24) (pc' := 13) dX12_middle_10 rfl rfl q1 (fun b1 => ?_) (fun b1 => ?_)
  · refine j_iconst (pc' := 25) dX12_middle_24 rfl ?_
    have hj := hj
    try simp only [if_pos b1] at hj
    exact j_wk hj (trivial)
  · refine j_aload_n (pc' := 14) dX12_middle_13 rfl rfl ?_
    refine k_getR (pc' := 17) (sl := 1) (r := 134) kc_11 w_1478 (Or.inl rfl) (by decide) dX12_middle_14 rfl (by decide) sk_133 (by decide) rfl (by decide) ?_
    refine j_iconst (pc' := 18) dX12_middle_17 rfl ?_
    refine k_iald (pc' := 19) (z := D1 134 2) dX12_middle_18 rfl (by decide) sk_134 (by decide) (by decide) (by decide) rfl ?_
    refine j_iconst (pc' := 20) dX12_middle_19 rfl ?_
    refine j_idiv (pc' := 21) dX12_middle_20 rfl (q2 b1) (by decide) (q3 b1) (by decide) ?_
    refine j_goto (tgt := 25) dX12_middle_21 rfl ?_
    have hj := hj
    try simp only [if_neg b1] at hj
    exact j_wk hj (trivial)
theorem c_X12_middle {d : Nat} (hd : 10 ≤ d) {x1 : Int} {D D' : mD} {v : Int} (h : F_X12_middle x1 D = some (v, D')) : CM d 0 0 M_X12_middle [mR 133, mI x1] (SK, D, false) (rI v D') := CM.intro pn_X12 rfl rfl (Nat.le_of_ble_eq_true rfl) (fun _ => c_X12_middle_e hd h)
theorem c_X12_strength_e {Ω : mO} {d : Nat} (hd : 8 ≤ d) {r : Int × mD} {x1 x2 : Int} {D : mD} (h : F_X12_strength x1 x2 D = some r) : J Ω M_X12_strength d 0 0 (rI r.1 r.2) 0 [some (mR 133), some (mI x1), some (mI x2)] [] (SK, D, false) 0 0 := by
  rw [F_X12_strength] at h
  refine j_iconst (pc' := 1) dX12_strength_0 rfl ?_
  refine j_aload_n (pc' := 2) dX12_strength_1 rfl rfl ?_
  refine k_getR (pc' := 5) (sl := 1) (r := 134) kc_11 w_1478 (Or.inl rfl) (by decide) dX12_strength_2 rfl (by decide) sk_133 (by decide) rfl (by decide) ?_
  refine j_bipush (pc' := 7) dX12_strength_5 rfl rfl ?_
  refine k_iald (pc' := 8) (z := D 134 6) dX12_strength_7 rfl (by decide) sk_134 (by decide) (by decide) (by decide) rfl ?_
  refine j_aload_n (pc' := 9) dX12_strength_8 rfl rfl ?_
  refine j_iload_n (pc' := 10) dX12_strength_9 rfl rfl ?_
  refine j_iload_n (pc' := 11) dX12_strength_10 rfl rfl ?_
  obtain ⟨v1, D1, e1, h⟩ := bI_o h
  refine k_cV (d' := 7) (pc' := 14) [mI x1, mI x2] [mI (D 134 6), mI 0] (c_X12_fadesBy (d := 7) (Nat.le_refl _) e1) cw_X12_353 kc_11 w_1874 ws_97 dX12_strength_11 rfl (by omega) rfl rfl (by decide) sk_133 rfl rfl (by decide) (by decide) ?_
  refine j_isub (pc' := 15) dX12_strength_14 rfl ?_
  obtain ⟨q1, h⟩ := ck_o h
  refine k_max (pc' := 18) cw_X12_72 w_541 dX12_strength_15 rfl (by omega) (by decide) q1 rfl (by decide) (by decide) ?_
  exact j_iret dX12_strength_18 rfl (by decide) (by decide) (rI_of h)
theorem c_X12_strength {d : Nat} (hd : 8 ≤ d) {x1 x2 : Int} {D D' : mD} {v : Int} (h : F_X12_strength x1 x2 D = some (v, D')) : CM d 0 0 M_X12_strength [mR 133, mI x1, mI x2] (SK, D, false) (rI v D') := CM.intro pn_X12 rfl rfl (Nat.le_of_ble_eq_true rfl) (fun _ => c_X12_strength_e hd h)
theorem c_X12_runsBy_L13 {Ω : mO} {d : Nat} (hd : 9 ≤ d) {r : Int × mD} {x1 x3 : Int} : ∀ (n : Nat) {x4 x5 : Int} {D : mD}, F_X12_runsBy_L13 x1 x3 n x4 x5 D = some r → J Ω M_X12_runsBy d 0 0 (rI r.1 r.2) 13 [some (mR 133), some (mI x1), none, some (mI x3), some (mI x4), some (mI x5)] [] (SK, D, false) 0 0 := by
  intro n
  induction n with
  | zero => intro x4 x5 D h; exact absurd (show (none : Option (Int × mD)) = some r from h) nofun
  | succ n ih =>
    intro x4 x5 D h
    rw [F_X12_runsBy_L13] at h
    refine j_iload (pc' := 15) dX12_runsBy_13 rfl rfl ?_
    refine j_aload_n (pc' := 16) dX12_runsBy_15 rfl rfl ?_
    obtain ⟨v1, D1, e1, h⟩ := bI_o h
    refine k_cV (d' := 6) (pc' := 19) [] [mI x5] (c_X12_gaps (d := 6) (Nat.le_refl _) e1) cw_X12_94 kc_11 w_1821 ws_87 dX12_runsBy_16 rfl (by omega) rfl rfl (by decide) sk_133 rfl rfl (by decide) (by decide) ?_
    obtain ⟨q1, h⟩ := ck_o h
    obtain ⟨q2, h⟩ := ck_o h
    refine j_icmp_ge (tgt := 53) (pc' := 22) dX12_runsBy_19 rfl rfl q1 q2 (fun b1 => ?_) (fun b1 => ?_)
    · replace h := ite_t b1 h
      refine j_iload (pc' := 55) dX12_runsBy_53 rfl rfl ?_
      exact j_iret dX12_runsBy_55 rfl (by decide) (by decide) (rI_of h)
    · replace h := ite_f b1 h
      refine j_iload (pc' := 24) dX12_runsBy_22 rfl rfl ?_
      refine j_iload_n (pc' := 25) dX12_runsBy_24 rfl rfl ?_
      refine j_aload_n (pc' := 26) dX12_runsBy_25 rfl rfl ?_
      refine j_iload (pc' := 28) dX12_runsBy_26 rfl rfl ?_
      obtain ⟨v2, D2, e2, h⟩ := bI_o h
      refine k_cV (d' := 7) (pc' := 31) [mI x5] [mI x3, mI x4] (c_X12_leastSpace (d := 7) (Nat.le_refl _) e2) cw_X12_347 kc_11 w_1858 ws_96 dX12_runsBy_28 rfl (by omega) rfl rfl (by decide) sk_133 rfl rfl (by decide) (by decide) ?_
      refine j_imul (pc' := 32) dX12_runsBy_31 rfl ?_
      refine j_iload_n (pc' := 33) dX12_runsBy_32 rfl rfl ?_
      obtain ⟨q3, h⟩ := ck_o h
      obtain ⟨q4, h⟩ := ck_o h
      have hj : J Ω M_X12_runsBy d 0 0 (rI r.1 r.2) 44 [some (mR 133), some (mI x1), none, some (mI x3), none, some (mI x5)] [mI (if x1 ≤ (x3 * v2) then (0 : Int) else (bShl 1 x5)), mI x4] (SK, D2, false) 0 0 := by
        refine j_ior (pc' := 45) dX12_runsBy_44 rfl ?_
        refine j_istore (pc' := 47) (ls' := [some (mR 133), some (mI x1), none, some (mI x3), some (mI (bOr x4 (if x1 ≤ (x3 * v2) then (0 : Int) else (bShl 1 x5)))), some (mI x5)]) dX12_runsBy_45 rfl (by decide) rfl ?_
        refine j_iinc (pc' := 50) (z' := (x5 + 1)) (ls' := [some (mR 133), some (mI x1), none, some (mI x3), some (mI (bOr x4 (if x1 ≤ (x3 * v2) then (0 : Int) else (bShl 1 x5)))), some (mI (x5 + 1))]) dX12_runsBy_47 rfl rfl rfl (by decide) rfl ?_
        refine j_goto (tgt := 13) dX12_runsBy_50 rfl ?_
        exact j_wk (j_widen (ce := 0) (ke := 0) (by decide) (by decide) (ih h)) (And.intro rfl (And.intro rfl (And.intro rfl (And.intro rfl (And.intro rfl trivial)))))
      refine j_icmp_ge (tgt := 43) (pc' := 36) dX12_runsBy_33 rfl rfl q3 q4 (fun b2 => ?_) (fun b2 => ?_)
      · refine j_iconst (pc' := 44) dX12_runsBy_43 rfl ?_
        have hj := hj
        try simp only [if_pos b2] at hj
        exact j_wk hj (And.intro rfl (And.intro rfl (And.intro rfl (And.intro rfl trivial))))
      · refine j_iconst (pc' := 37) dX12_runsBy_36 rfl ?_
        refine j_iload (pc' := 39) dX12_runsBy_37 rfl rfl ?_
        refine j_ishl (pc' := 40) dX12_runsBy_39 rfl ?_
        refine j_goto (tgt := 44) dX12_runsBy_40 rfl ?_
        have hj := hj
        try simp only [if_neg b2] at hj
        exact j_wk hj (And.intro rfl (And.intro rfl (And.intro rfl (And.intro rfl trivial))))
theorem c_X12_runsBy_e {Ω : mO} {d : Nat} (hd : 9 ≤ d) {r : Int × mD} {x1 x2 : Int} {D : mD} (h : F_X12_runsBy x1 x2 D = some r) : J Ω M_X12_runsBy d 0 0 (rI r.1 r.2) 0 [some (mR 133), some (mI x1), some (mI x2), none, none, none] [] (SK, D, false) 0 0 := by
  rw [F_X12_runsBy] at h
  refine j_aload_n (pc' := 1) dX12_runsBy_0 rfl rfl ?_
  refine j_iload_n (pc' := 2) dX12_runsBy_1 rfl rfl ?_
  refine j_iload_n (pc' := 3) dX12_runsBy_2 rfl rfl ?_
  obtain ⟨v1, D1, e1, h⟩ := bI_o h
  refine k_cV (d' := 8) (pc' := 6) [mI x1, mI x2] [] (c_X12_strength (d := 8) (Nat.le_refl _) e1) cw_X12_471 kc_11 w_2109 ws_133 dX12_runsBy_3 rfl (by omega) rfl rfl (by decide) sk_133 rfl rfl (by decide) (by decide) ?_
  refine j_istore_n (pc' := 7) (ls' := [some (mR 133), some (mI x1), some (mI x2), some (mI v1), none, none]) dX12_runsBy_6 rfl (by decide) rfl ?_
  refine j_iconst (pc' := 8) dX12_runsBy_7 rfl ?_
  refine j_istore (pc' := 10) (ls' := [some (mR 133), some (mI x1), some (mI x2), some (mI v1), some (mI 0), none]) dX12_runsBy_8 rfl (by decide) rfl ?_
  refine j_iconst (pc' := 11) dX12_runsBy_10 rfl ?_
  refine j_istore (pc' := 13) (ls' := [some (mR 133), some (mI x1), some (mI x2), some (mI v1), some (mI 0), some (mI 0)]) dX12_runsBy_11 rfl (by decide) rfl ?_
  exact j_wk (j_widen (ce := 0) (ke := 0) (by decide) (by decide) (c_X12_runsBy_L13 hd _ h)) (And.intro rfl (And.intro rfl (And.intro rfl (And.intro rfl (And.intro rfl trivial)))))
theorem c_X12_runsBy {d : Nat} (hd : 9 ≤ d) {x1 x2 : Int} {D D' : mD} {v : Int} (h : F_X12_runsBy x1 x2 D = some (v, D')) : CM d 0 0 M_X12_runsBy [mR 133, mI x1, mI x2] (SK, D, false) (rI v D') := CM.intro pn_X12 rfl rfl (Nat.le_of_ble_eq_true rfl) (fun _ => c_X12_runsBy_e hd h)
theorem c_X12_isRead_e {Ω : mO} {d : Nat} (hd : 10 ≤ d) {r : Int × mD} {x1 x2 : Int} {D : mD} (h : F_X12_isRead x1 x2 D = some r) : J Ω M_X12_isRead d 0 0 (rI r.1 r.2) 0 [some (mR 133), some (mI x1), some (mI x2)] [] (SK, D, false) 0 0 := by
  rw [F_X12_isRead] at h
  refine j_aload_n (pc' := 1) dX12_isRead_0 rfl rfl ?_
  obtain ⟨v1, D1, e1, h⟩ := bI_o h
  refine k_cV (d' := 6) (pc' := 4) [] [] (c_X12_gaps (d := 6) (Nat.le_refl _) e1) cw_X12_94 kc_11 w_1821 ws_87 dX12_isRead_1 rfl (by omega) rfl rfl (by decide) sk_133 rfl rfl (by decide) (by decide) ?_
  obtain ⟨q1, h⟩ := ck_o h
  refine j_if_ne (tgt := 24) (pc' := 7) dX12_isRead_4 rfl rfl q1 (fun b1 => ?_) (fun b1 => ?_)
  · replace h := ite_f b1 h
    refine j_aload_n (pc' := 25) dX12_isRead_24 rfl rfl ?_
    refine j_iload_n (pc' := 26) dX12_isRead_25 rfl rfl ?_
    refine j_iload_n (pc' := 27) dX12_isRead_26 rfl rfl ?_
    obtain ⟨v2, D2, e2, h⟩ := bI_o h
    refine k_cV (d' := 9) (pc' := 30) [mI x1, mI x2] [] (c_X12_runsBy (d := 9) (Nat.le_refl _) e2) cw_X12_474 kc_11 w_2113 ws_134 dX12_isRead_27 rfl (by omega) rfl rfl (by decide) sk_133 rfl rfl (by decide) (by decide) ?_
    obtain ⟨q2, h⟩ := ck_o h
    have hj : J Ω M_X12_isRead d 0 0 (rI r.1 r.2) 38 [none, none, none] [mI (if v2 = 0 then (1 : Int) else (0 : Int))] (SK, D2, false) 0 0 := by
      obtain ⟨q3, h⟩ := ck_o h
      exact j_zret dX12_isRead_38 rfl q3 (by decide) (by decide) (rI_of h)
    refine j_if_ne (tgt := 37) (pc' := 33) dX12_isRead_30 rfl rfl q2 (fun b2 => ?_) (fun b2 => ?_)
    · refine j_iconst (pc' := 38) dX12_isRead_37 rfl ?_
      have hj := hj
      try simp only [if_neg b2] at hj
      exact j_wk hj (trivial)
    · refine j_iconst (pc' := 34) dX12_isRead_33 rfl ?_
      refine j_goto (tgt := 38) dX12_isRead_34 rfl ?_
      have hj := hj
      try simp only [if_pos b2] at hj
      exact j_wk hj (trivial)
  · replace h := ite_t b1 h
    refine j_aload_n (pc' := 8) dX12_isRead_7 rfl rfl ?_
    refine j_iload_n (pc' := 9) dX12_isRead_8 rfl rfl ?_
    refine j_iload_n (pc' := 10) dX12_isRead_9 rfl rfl ?_
    obtain ⟨v3, D3, e3, h⟩ := bI_o h
    refine k_cV (d' := 8) (pc' := 13) [mI x1, mI x2] [] (c_X12_strength (d := 8) (Nat.le_refl _) e3) cw_X12_471 kc_11 w_2109 ws_133 dX12_isRead_10 rfl (by omega) rfl rfl (by decide) sk_133 rfl rfl (by decide) (by decide) ?_
    obtain ⟨q4, h⟩ := ck_o h
    have hj : J Ω M_X12_isRead d 0 0 (rI r.1 r.2) 38 [none, none, none] [mI (if v3 ≤ 0 then (0 : Int) else (1 : Int))] (SK, D3, false) 0 0 := by
      obtain ⟨q5, h⟩ := ck_o h
      exact j_zret dX12_isRead_38 rfl q5 (by decide) (by decide) (rI_of h)
    refine j_if_le (tgt := 20) (pc' := 16) dX12_isRead_13 rfl rfl q4 (fun b3 => ?_) (fun b3 => ?_)
    · refine j_iconst (pc' := 21) dX12_isRead_20 rfl ?_
      refine j_goto (tgt := 38) dX12_isRead_21 rfl ?_
      have hj := hj
      try simp only [if_pos b3] at hj
      exact j_wk hj (trivial)
    · refine j_iconst (pc' := 17) dX12_isRead_16 rfl ?_
      refine j_goto (tgt := 38) dX12_isRead_17 rfl ?_
      have hj := hj
      try simp only [if_neg b3] at hj
      exact j_wk hj (trivial)
theorem c_X12_isRead {d : Nat} (hd : 10 ≤ d) {x1 x2 : Int} {D D' : mD} {v : Int} (h : F_X12_isRead x1 x2 D = some (v, D')) : CM d 0 0 M_X12_isRead [mR 133, mI x1, mI x2] (SK, D, false) (rI v D') := CM.intro pn_X12 rfl rfl (Nat.le_of_ble_eq_true rfl) (fun _ => c_X12_isRead_e hd h)
theorem c_X12_read_e {Ω : mO} {d : Nat} (hd : 11 ≤ d) {r : Int × mD} {x1 x2 : Int} {D : mD} (h : F_X12_read x1 x2 D = some r) : J Ω M_X12_read d 0 0 (rI r.1 r.2) 0 [some (mR 133), some (mI x1), some (mI x2)] [] (SK, D, false) 0 0 := by
  rw [F_X12_read] at h
  refine j_aload_n (pc' := 1) dX12_read_0 rfl rfl ?_
  refine j_iconst (pc' := 2) dX12_read_1 rfl ?_
  refine k_putI (pc' := 5) (sl := 0) (i' := 0) kc_11 w_1477 (by decide) (Or.inl rfl) dX12_read_2 rfl (by decide) sk_133 (by decide) ⟨rfl, rfl⟩ rfl ?_
  refine j_aload_n (pc' := 6) dX12_read_5 rfl rfl ?_
  refine j_iload_n (pc' := 7) dX12_read_6 rfl rfl ?_
  refine j_iload_n (pc' := 8) dX12_read_7 rfl rfl ?_
  obtain ⟨v1, D1, e1, h⟩ := bI_o h
  refine k_cS (d' := 2) (pc' := 11) [mI x1, mI x2] [mR 133] (c_X12_noLight (d := 2) (Nat.le_refl _) e1) cw_X12_350 w_1870 dX12_read_8 rfl (by omega) rfl rfl rfl rfl (by decide) (by decide) ?_
  refine j_iconst (pc' := 12) dX12_read_11 rfl ?_
  obtain ⟨v2, D2, e2, h⟩ := bI_o h
  refine k_cV (d' := 1) (pc' := 15) [mI v1, mI 1] [] (c_X12_throwsIf (d := 1) (Nat.le_refl _) e2) cw_X12_282 kc_11 w_1753 ws_76 dX12_read_12 rfl (by omega) rfl rfl (by decide) sk_133 rfl rfl (by decide) (by decide) ?_
  obtain ⟨q1, h⟩ := ck_o h
  refine j_if_ne (tgt := 31) (pc' := 18) dX12_read_15 rfl rfl q1 (fun b1 => ?_) (fun b1 => ?_)
  · replace h := ite_f b1 h
    refine j_iconst (pc' := 32) dX12_read_31 rfl ?_
    exact j_zret dX12_read_32 rfl (Or.inl rfl) (by decide) (by decide) (rI_of h)
  · replace h := ite_t b1 h
    refine j_aload_n (pc' := 19) dX12_read_18 rfl rfl ?_
    refine j_iload_n (pc' := 20) dX12_read_19 rfl rfl ?_
    refine j_iload_n (pc' := 21) dX12_read_20 rfl rfl ?_
    obtain ⟨v3, D3, e3, h⟩ := bI_o h
    refine k_cV (d' := 10) (pc' := 24) [mI x1, mI x2] [] (c_X12_isRead (d := 10) (Nat.le_refl _) e3) cw_X12_477 kc_11 w_2105 ws_132 dX12_read_21 rfl (by omega) rfl rfl (by decide) sk_133 rfl rfl (by decide) (by decide) ?_
    obtain ⟨q2, h⟩ := ck_o h
    have hj : J Ω M_X12_read d 0 0 (rI r.1 r.2) 32 [none, none, none] [mI (if v3 = 0 then (0 : Int) else (1 : Int))] (SK, D3, false) 0 0 := by
      obtain ⟨q3, h⟩ := ck_o h
      exact j_zret dX12_read_32 rfl q3 (by decide) (by decide) (rI_of h)
    refine j_if_eq (tgt := 31) (pc' := 27) dX12_read_24 rfl rfl q2 (fun b2 => ?_) (fun b2 => ?_)
    · refine j_iconst (pc' := 32) dX12_read_31 rfl ?_
      have hj := hj
      try simp only [if_pos b2] at hj
      exact j_wk hj (trivial)
    · refine j_iconst (pc' := 28) dX12_read_27 rfl ?_
      refine j_goto (tgt := 32) dX12_read_28 rfl ?_
      have hj := hj
      try simp only [if_neg b2] at hj
      exact j_wk hj (trivial)
theorem c_X12_read {d : Nat} (hd : 11 ≤ d) {x1 x2 : Int} {D D' : mD} {v : Int} (h : F_X12_read x1 x2 D = some (v, D')) : CM d 0 0 M_X12_read [mR 133, mI x1, mI x2] (SK, D, false) (rI v D') := CM.intro pn_X12 rfl rfl (Nat.le_of_ble_eq_true rfl) (fun _ => c_X12_read_e hd h)
theorem c_X12_farBy_L2 {Ω : mO} {d : Nat} (hd : 11 ≤ d) {r : Int × mD} {x1 : Int} : ∀ (n : Nat) {x2 : Int} {D : mD}, F_X12_farBy_L2 x1 n x2 D = some r → J Ω M_X12_farBy d 0 0 (rI r.1 r.2) 2 [some (mR 133), some (mI x1), some (mI x2)] [] (SK, D, false) 0 0 := by
  intro n
  induction n with
  | zero => intro x2 D h; exact absurd (show (none : Option (Int × mD)) = some r from h) nofun
  | succ n ih =>
    intro x2 D h
    rw [F_X12_farBy_L2] at h
    refine j_iload_n (pc' := 3) dX12_farBy_2 rfl rfl ?_
    refine j_bipush (pc' := 5) dX12_farBy_3 rfl rfl ?_
    obtain ⟨q1, h⟩ := ck_o h
    refine j_icmp_ge (tgt := 25) (pc' := 8) dX12_farBy_5 rfl rfl q1 (by decide) (fun b1 => ?_) (fun b1 => ?_)
    · replace h := ite_t b1 h
      refine j_iload_n (pc' := 26) dX12_farBy_25 rfl rfl ?_
      exact j_iret dX12_farBy_26 rfl (by decide) (by decide) (rI_of h)
    · replace h := ite_f b1 h
      refine j_aload_n (pc' := 9) dX12_farBy_8 rfl rfl ?_
      refine j_iload_n (pc' := 10) dX12_farBy_9 rfl rfl ?_
      refine j_iconst (pc' := 11) dX12_farBy_10 rfl ?_
      refine j_iadd (pc' := 12) dX12_farBy_11 rfl ?_
      refine j_iload_n (pc' := 13) dX12_farBy_12 rfl rfl ?_
      obtain ⟨v1, D1, e1, h⟩ := bI_o h
      refine k_cV (d' := 10) (pc' := 16) [mI (x2 + 1), mI x1] [] (c_X12_isRead (d := 10) (Nat.le_refl _) e1) cw_X12_477 kc_11 w_2105 ws_132 dX12_farBy_13 rfl (by omega) rfl rfl (by decide) sk_133 rfl rfl (by decide) (by decide) ?_
      obtain ⟨q2, h⟩ := ck_o h
      refine j_if_eq (tgt := 25) (pc' := 19) dX12_farBy_16 rfl rfl q2 (fun b2 => ?_) (fun b2 => ?_)
      · replace h := ite_t b2 h
        refine j_iload_n (pc' := 26) dX12_farBy_25 rfl rfl ?_
        exact j_iret dX12_farBy_26 rfl (by decide) (by decide) (rI_of h)
      · replace h := ite_f b2 h
        refine j_iinc (pc' := 22) (z' := (x2 + 1)) (ls' := [some (mR 133), some (mI x1), some (mI (x2 + 1))]) dX12_farBy_19 rfl rfl rfl (by decide) rfl ?_
        refine j_goto (tgt := 2) dX12_farBy_22 rfl ?_
        exact j_wk (j_widen (ce := 0) (ke := 0) (by decide) (by decide) (ih h)) (And.intro rfl (And.intro rfl (And.intro rfl trivial)))
theorem c_X12_farBy_e {Ω : mO} {d : Nat} (hd : 11 ≤ d) {r : Int × mD} {x1 : Int} {D : mD} (h : F_X12_farBy x1 D = some r) : J Ω M_X12_farBy d 0 0 (rI r.1 r.2) 0 [some (mR 133), some (mI x1), none] [] (SK, D, false) 0 0 := by
  rw [F_X12_farBy] at h
  refine j_iconst (pc' := 1) dX12_farBy_0 rfl ?_
  refine j_istore_n (pc' := 2) (ls' := [some (mR 133), some (mI x1), some (mI 0)]) dX12_farBy_1 rfl (by decide) rfl ?_
  exact j_wk (j_widen (ce := 0) (ke := 0) (by decide) (by decide) (c_X12_farBy_L2 hd _ h)) (And.intro rfl (And.intro rfl (And.intro rfl trivial)))
theorem c_X12_farBy {d : Nat} (hd : 11 ≤ d) {x1 : Int} {D D' : mD} {v : Int} (h : F_X12_farBy x1 D = some (v, D')) : CM d 0 0 M_X12_farBy [mR 133, mI x1] (SK, D, false) (rI v D') := CM.intro pn_X12 rfl rfl (Nat.le_of_ble_eq_true rfl) (fun _ => c_X12_farBy_e hd h)
theorem c_X12_far_j21 {Ω : mO} {d : Nat} (hd : 12 ≤ d) {r : Int × mD} {x1 s1 : Int} {D : mD} (h : F_X12_far_j21 x1 s1 D = some r) : J Ω M_X12_far d 0 0 (rI r.1 r.2) 21 [some (mR 133), some (mI x1)] [mI s1, mR 133] (SK, D, false) 0 0 := by
  rw [F_X12_far_j21] at h
  refine j_iconst (pc' := 22) dX12_far_21 rfl ?_
  obtain ⟨v1, D1, e1, h⟩ := bI_o h
  refine k_cV (d' := 1) (pc' := 25) [mI s1, mI 1] [] (c_X12_throwsIf (d := 1) (Nat.le_refl _) e1) cw_X12_282 kc_11 w_1753 ws_76 dX12_far_22 rfl (by omega) rfl rfl (by decide) sk_133 rfl rfl (by decide) (by decide) ?_
  obtain ⟨q1, h⟩ := ck_o h
  refine j_if_eq (tgt := 32) (pc' := 28) dX12_far_25 rfl rfl q1 (fun b1 => ?_) (fun b1 => ?_)
  · replace h := ite_t b1 h
    refine j_aload_n (pc' := 33) dX12_far_32 rfl rfl ?_
    refine j_iload_n (pc' := 34) dX12_far_33 rfl rfl ?_
    obtain ⟨v2, D2, e2, h⟩ := bI_o h
    refine k_cV (d' := 11) (pc' := 37) [mI x1] [] (c_X12_farBy (d := 11) (Nat.le_refl _) e2) cw_X12_480 kc_11 w_2121 ws_135 dX12_far_34 rfl (by omega) rfl rfl (by decide) sk_133 rfl rfl (by decide) (by decide) ?_
    exact j_iret dX12_far_37 rfl (by decide) (by decide) (rI_of h)
  · replace h := ite_f b1 h
    refine j_iconst (pc' := 29) dX12_far_28 rfl ?_
    refine j_goto (tgt := 37) dX12_far_29 rfl ?_
    exact j_iret dX12_far_37 rfl (by decide) (by decide) (rI_of h)
theorem c_X12_far_e {Ω : mO} {d : Nat} (hd : 12 ≤ d) {r : Int × mD} {x1 : Int} {D : mD} (h : F_X12_far x1 D = some r) : J Ω M_X12_far d 0 0 (rI r.1 r.2) 0 [some (mR 133), some (mI x1)] [] (SK, D, false) 0 0 := by
  rw [F_X12_far] at h
  refine j_aload_n (pc' := 1) dX12_far_0 rfl rfl ?_
  refine j_iconst (pc' := 2) dX12_far_1 rfl ?_
  refine k_putI (pc' := 5) (sl := 0) (i' := 0) kc_11 w_1477 (by decide) (Or.inl rfl) dX12_far_2 rfl (by decide) sk_133 (by decide) ⟨rfl, rfl⟩ rfl ?_
  refine j_aload_n (pc' := 6) dX12_far_5 rfl rfl ?_
  refine j_iload_n (pc' := 7) dX12_far_6 rfl rfl ?_
  refine j_iconst (pc' := 8) dX12_far_7 rfl ?_
  refine j_bipush (pc' := 10) dX12_far_8 rfl rfl ?_
  obtain ⟨v1, D1, e1, h⟩ := bI_o h
  refine k_cS (d' := 1) (pc' := 13) [mI x1, mI 0, mI 9] [mR 133] (c_X12_in (d := 1) (Nat.le_refl _) e1) cw_X12_90 w_1768 dX12_far_10 rfl (by omega) rfl rfl rfl rfl (by decide) (by decide) ?_
  obtain ⟨q1, h⟩ := ck_o h
  have hj : J Ω M_X12_far d 0 0 (rI r.1 r.2) 21 [some (mR 133), some (mI x1)] [mI (if v1 = 0 then (1 : Int) else (0 : Int)), mR 133] (SK, D1, false) 0 0 := by
    exact j_wk (j_widen (ce := 0) (ke := 0) (by decide) (by decide) (c_X12_far_j21 hd h)) (And.intro rfl (And.intro rfl trivial))
  refine j_if_ne (tgt := 20) (pc' := 16) dX12_far_13 rfl rfl q1 (fun b1 => ?_) (fun b1 => ?_)
  · refine j_iconst (pc' := 21) dX12_far_20 rfl ?_
    have hj := hj
    try simp only [if_neg b1] at hj
    exact j_wk hj (And.intro rfl (And.intro rfl trivial))
  · refine j_iconst (pc' := 17) dX12_far_16 rfl ?_
    refine j_goto (tgt := 21) dX12_far_17 rfl ?_
    have hj := hj
    try simp only [if_pos b1] at hj
    exact j_wk hj (And.intro rfl (And.intro rfl trivial))
theorem c_X12_far {d : Nat} (hd : 12 ≤ d) {x1 : Int} {D D' : mD} {v : Int} (h : F_X12_far x1 D = some (v, D')) : CM d 0 0 M_X12_far [mR 133, mI x1] (SK, D, false) (rI v D') := CM.intro pn_X12 rfl rfl (Nat.le_of_ble_eq_true rfl) (fun _ => c_X12_far_e hd h)
theorem c_X12_runs_e {Ω : mO} {d : Nat} (hd : 10 ≤ d) {r : Int × mD} {x1 x2 : Int} {D : mD} (h : F_X12_runs x1 x2 D = some r) : J Ω M_X12_runs d 0 0 (rI r.1 r.2) 0 [some (mR 133), some (mI x1), some (mI x2)] [] (SK, D, false) 0 0 := by
  rw [F_X12_runs] at h
  refine j_aload_n (pc' := 1) dX12_runs_0 rfl rfl ?_
  refine j_iconst (pc' := 2) dX12_runs_1 rfl ?_
  refine k_putI (pc' := 5) (sl := 0) (i' := 0) kc_11 w_1477 (by decide) (Or.inl rfl) dX12_runs_2 rfl (by decide) sk_133 (by decide) ⟨rfl, rfl⟩ rfl ?_
  refine j_aload_n (pc' := 6) dX12_runs_5 rfl rfl ?_
  refine j_iload_n (pc' := 7) dX12_runs_6 rfl rfl ?_
  refine j_iload_n (pc' := 8) dX12_runs_7 rfl rfl ?_
  obtain ⟨v1, D1, e1, h⟩ := bI_o h
  refine k_cS (d' := 2) (pc' := 11) [mI x1, mI x2] [mR 133] (c_X12_noLight (d := 2) (Nat.le_refl _) e1) cw_X12_350 w_1870 dX12_runs_8 rfl (by omega) rfl rfl rfl rfl (by decide) (by decide) ?_
  refine j_iconst (pc' := 12) dX12_runs_11 rfl ?_
  obtain ⟨v2, D2, e2, h⟩ := bI_o h
  refine k_cV (d' := 1) (pc' := 15) [mI v1, mI 1] [] (c_X12_throwsIf (d := 1) (Nat.le_refl _) e2) cw_X12_282 kc_11 w_1753 ws_76 dX12_runs_12 rfl (by omega) rfl rfl (by decide) sk_133 rfl rfl (by decide) (by decide) ?_
  obtain ⟨q1, h⟩ := ck_o h
  refine j_if_eq (tgt := 22) (pc' := 18) dX12_runs_15 rfl rfl q1 (fun b1 => ?_) (fun b1 => ?_)
  · replace h := ite_t b1 h
    refine j_aload_n (pc' := 23) dX12_runs_22 rfl rfl ?_
    refine j_iload_n (pc' := 24) dX12_runs_23 rfl rfl ?_
    refine j_iload_n (pc' := 25) dX12_runs_24 rfl rfl ?_
    obtain ⟨v3, D3, e3, h⟩ := bI_o h
    refine k_cV (d' := 9) (pc' := 28) [mI x1, mI x2] [] (c_X12_runsBy (d := 9) (Nat.le_refl _) e3) cw_X12_474 kc_11 w_2113 ws_134 dX12_runs_25 rfl (by omega) rfl rfl (by decide) sk_133 rfl rfl (by decide) (by decide) ?_
    exact j_iret dX12_runs_28 rfl (by decide) (by decide) (rI_of h)
  · replace h := ite_f b1 h
    refine j_iconst (pc' := 19) dX12_runs_18 rfl ?_
    refine j_goto (tgt := 28) dX12_runs_19 rfl ?_
    exact j_iret dX12_runs_28 rfl (by decide) (by decide) (rI_of h)
theorem c_X12_runs {d : Nat} (hd : 10 ≤ d) {x1 x2 : Int} {D D' : mD} {v : Int} (h : F_X12_runs x1 x2 D = some (v, D')) : CM d 0 0 M_X12_runs [mR 133, mI x1, mI x2] (SK, D, false) (rI v D') := CM.intro pn_X12 rfl rfl (Nat.le_of_ble_eq_true rfl) (fun _ => c_X12_runs_e hd h)
theorem c_X12_bears_L33 {Ω : mO} {d : Nat} (hd : 11 ≤ d) {r : Int × mD} {x1 x2 x3 : Int} : ∀ (n : Nat) {x4 x5 : Int} {D : mD}, F_X12_bears_L33 x1 x2 x3 n x4 x5 D = some r → J Ω M_X12_bears d 0 0 (rI r.1 r.2) 33 [some (mR 133), some (mI x1), some (mI x2), some (mI x3), some (mI x4), some (mI x5)] [] (SK, D, false) 0 0 := by
  intro n
  induction n with
  | zero => intro x4 x5 D h; exact absurd (show (none : Option (Int × mD)) = some r from h) nofun
  | succ n ih =>
    intro x4 x5 D h
    rw [F_X12_bears_L33] at h
    refine j_iload (pc' := 35) dX12_bears_33 rfl rfl ?_
    refine j_bipush (pc' := 37) dX12_bears_35 rfl rfl ?_
    obtain ⟨q1, h⟩ := ck_o h
    refine j_icmp_ge (tgt := 79) (pc' := 40) dX12_bears_37 rfl rfl q1 (by decide) (fun b1 => ?_) (fun b1 => ?_)
    · replace h := ite_t b1 h
      refine j_aload_n (pc' := 80) dX12_bears_79 rfl rfl ?_
      refine k_getR (pc' := 83) (sl := 1) (r := 134) kc_11 w_1478 (Or.inl rfl) (by decide) dX12_bears_80 rfl (by decide) sk_133 (by decide) rfl (by decide) ?_
      refine j_iconst (pc' := 84) dX12_bears_83 rfl ?_
      refine j_iload_n (pc' := 85) dX12_bears_84 rfl rfl ?_
      refine k_iast (pc' := 86) dX12_bears_85 rfl (by decide) sk_134 (by decide) (by decide) (by decide) ?_
      refine j_iload (pc' := 88) dX12_bears_86 rfl rfl ?_
      exact j_iret dX12_bears_88 rfl (by decide) (by decide) (rI_of h)
    · replace h := ite_f b1 h
      refine j_aload_n (pc' := 41) dX12_bears_40 rfl rfl ?_
      refine k_getR (pc' := 44) (sl := 1) (r := 134) kc_11 w_1478 (Or.inl rfl) (by decide) dX12_bears_41 rfl (by decide) sk_133 (by decide) rfl (by decide) ?_
      refine j_iconst (pc' := 45) dX12_bears_44 rfl ?_
      refine j_iload (pc' := 47) dX12_bears_45 rfl rfl ?_
      refine k_iast (pc' := 48) dX12_bears_47 rfl (by decide) sk_134 (by decide) (by decide) (by decide) ?_
      refine j_aload_n (pc' := 49) dX12_bears_48 rfl rfl ?_
      obtain ⟨v1, D1, e1, h⟩ := bI_o h
      refine k_cV (d' := 9) (pc' := 52) [] [] (c_X12_isFit (d := 9) (Nat.le_refl _) e1) cw_X12_441 kc_11 w_2033 ws_121 dX12_bears_49 rfl (by omega) rfl rfl (by decide) sk_133 rfl rfl (by decide) (by decide) ?_
      obtain ⟨q2, h⟩ := ck_o h
      refine j_if_eq (tgt := 69) (pc' := 55) dX12_bears_52 rfl rfl q2 (fun b2 => ?_) (fun b2 => ?_)
      · replace h := ite_t b2 h
        refine j_iload (pc' := 71) dX12_bears_69 rfl rfl ?_
        refine j_istore (pc' := 73) (ls' := [some (mR 133), some (mI x1), some (mI x2), some (mI x3), some (mI x4), some (mI x5)]) dX12_bears_71 rfl (by decide) rfl ?_
        refine j_iinc (pc' := 76) (z' := (x5 + 1)) (ls' := [some (mR 133), some (mI x1), some (mI x2), some (mI x3), some (mI x4), some (mI (x5 + 1))]) dX12_bears_73 rfl rfl rfl (by decide) rfl ?_
        refine j_goto (tgt := 33) dX12_bears_76 rfl ?_
        exact j_wk (j_widen (ce := 0) (ke := 0) (by decide) (by decide) (ih h)) (And.intro rfl (And.intro rfl (And.intro rfl (And.intro rfl (And.intro rfl (And.intro rfl trivial))))))
      · replace h := ite_f b2 h
        refine j_aload_n (pc' := 56) dX12_bears_55 rfl rfl ?_
        refine j_iload_n (pc' := 57) dX12_bears_56 rfl rfl ?_
        refine j_iload_n (pc' := 58) dX12_bears_57 rfl rfl ?_
        obtain ⟨v2, D2, e2, h⟩ := bI_o h
        refine k_cV (d' := 10) (pc' := 61) [mI x1, mI x2] [] (c_X12_isRead (d := 10) (Nat.le_refl _) e2) cw_X12_477 kc_11 w_2105 ws_132 dX12_bears_58 rfl (by omega) rfl rfl (by decide) sk_133 rfl rfl (by decide) (by decide) ?_
        obtain ⟨q3, h⟩ := ck_o h
        have hj : J Ω M_X12_bears d 0 0 (rI r.1 r.2) 71 [some (mR 133), some (mI x1), some (mI x2), some (mI x3), none, some (mI x5)] [mI (if v2 = 0 then x4 else x5)] (SK, D2, false) 0 0 := by
          refine j_istore (pc' := 73) (ls' := [some (mR 133), some (mI x1), some (mI x2), some (mI x3), some (mI (if v2 = 0 then x4 else x5)), some (mI x5)]) dX12_bears_71 rfl (by decide) rfl ?_
          refine j_iinc (pc' := 76) (z' := (x5 + 1)) (ls' := [some (mR 133), some (mI x1), some (mI x2), some (mI x3), some (mI (if v2 = 0 then x4 else x5)), some (mI (x5 + 1))]) dX12_bears_73 rfl rfl rfl (by decide) rfl ?_
          refine j_goto (tgt := 33) dX12_bears_76 rfl ?_
          exact j_wk (j_widen (ce := 0) (ke := 0) (by decide) (by decide) (ih h)) (And.intro rfl (And.intro rfl (And.intro rfl (And.intro rfl (And.intro rfl (And.intro rfl trivial))))))
        refine j_if_eq (tgt := 69) (pc' := 64) dX12_bears_61 rfl rfl q3 (fun b3 => ?_) (fun b3 => ?_)
        · refine j_iload (pc' := 71) dX12_bears_69 rfl rfl ?_
          have hj := hj
          try simp only [if_pos b3] at hj
          exact j_wk hj (And.intro rfl (And.intro rfl (And.intro rfl (And.intro rfl (And.intro rfl trivial)))))
        · refine j_iload (pc' := 66) dX12_bears_64 rfl rfl ?_
          refine j_goto (tgt := 71) dX12_bears_66 rfl ?_
          have hj := hj
          try simp only [if_neg b3] at hj
          exact j_wk hj (And.intro rfl (And.intro rfl (And.intro rfl (And.intro rfl (And.intro rfl trivial)))))
theorem c_X12_bears_e {Ω : mO} {d : Nat} (hd : 11 ≤ d) {r : Int × mD} {x1 x2 : Int} {D : mD} (h : F_X12_bears x1 x2 D = some r) : J Ω M_X12_bears d 0 0 (rI r.1 r.2) 0 [some (mR 133), some (mI x1), some (mI x2), none, none, none] [] (SK, D, false) 0 0 := by
  rw [F_X12_bears] at h
  refine j_aload_n (pc' := 1) dX12_bears_0 rfl rfl ?_
  refine j_iconst (pc' := 2) dX12_bears_1 rfl ?_
  refine k_putI (pc' := 5) (sl := 0) (i' := 0) kc_11 w_1477 (by decide) (Or.inl rfl) dX12_bears_2 rfl (by decide) sk_133 (by decide) ⟨rfl, rfl⟩ rfl ?_
  refine j_aload_n (pc' := 6) dX12_bears_5 rfl rfl ?_
  refine j_iload_n (pc' := 7) dX12_bears_6 rfl rfl ?_
  refine j_iload_n (pc' := 8) dX12_bears_7 rfl rfl ?_
  obtain ⟨v1, D1, e1, h⟩ := bI_o h
  refine k_cS (d' := 2) (pc' := 11) [mI x1, mI x2] [mR 133] (c_X12_noLight (d := 2) (Nat.le_refl _) e1) cw_X12_350 w_1870 dX12_bears_8 rfl (by omega) rfl rfl rfl rfl (by decide) (by decide) ?_
  refine j_iconst (pc' := 12) dX12_bears_11 rfl ?_
  obtain ⟨v2, D2, e2, h⟩ := bI_o h
  refine k_cV (d' := 1) (pc' := 15) [mI v1, mI 1] [] (c_X12_throwsIf (d := 1) (Nat.le_refl _) e2) cw_X12_282 kc_11 w_1753 ws_76 dX12_bears_12 rfl (by omega) rfl rfl (by decide) sk_133 rfl rfl (by decide) (by decide) ?_
  obtain ⟨q1, h⟩ := ck_o h
  refine j_if_eq (tgt := 20) (pc' := 18) dX12_bears_15 rfl rfl q1 (fun b1 => ?_) (fun b1 => ?_)
  · replace h := ite_t b1 h
    refine j_aload_n (pc' := 21) dX12_bears_20 rfl rfl ?_
    refine k_getR (pc' := 24) (sl := 1) (r := 134) kc_11 w_1478 (Or.inl rfl) (by decide) dX12_bears_21 rfl (by decide) sk_133 (by decide) rfl (by decide) ?_
    refine j_iconst (pc' := 25) dX12_bears_24 rfl ?_
    refine k_iald (pc' := 26) (z := D2 134 5) dX12_bears_25 rfl (by decide) sk_134 (by decide) (by decide) (by decide) rfl ?_
    refine j_istore_n (pc' := 27) (ls' := [some (mR 133), some (mI x1), some (mI x2), some (mI (D2 134 5)), none, none]) dX12_bears_26 rfl (by decide) rfl ?_
    refine j_iconst (pc' := 28) dX12_bears_27 rfl ?_
    refine j_istore (pc' := 30) (ls' := [some (mR 133), some (mI x1), some (mI x2), some (mI (D2 134 5)), some (mI (-1)), none]) dX12_bears_28 rfl (by decide) rfl ?_
    refine j_iconst (pc' := 31) dX12_bears_30 rfl ?_
    refine j_istore (pc' := 33) (ls' := [some (mR 133), some (mI x1), some (mI x2), some (mI (D2 134 5)), some (mI (-1)), some (mI 0)]) dX12_bears_31 rfl (by decide) rfl ?_
    exact j_wk (j_widen (ce := 0) (ke := 0) (by decide) (by decide) (c_X12_bears_L33 hd _ h)) (And.intro rfl (And.intro rfl (And.intro rfl (And.intro rfl (And.intro rfl (And.intro rfl trivial))))))
  · replace h := ite_f b1 h
    refine j_iconst (pc' := 19) dX12_bears_18 rfl ?_
    exact j_iret dX12_bears_19 rfl (by decide) (by decide) (rI_of h)
theorem c_X12_bears {d : Nat} (hd : 11 ≤ d) {x1 x2 : Int} {D D' : mD} {v : Int} (h : F_X12_bears x1 x2 D = some (v, D')) : CM d 0 0 M_X12_bears [mR 133, mI x1, mI x2] (SK, D, false) (rI v D') := CM.intro pn_X12 rfl rfl (Nat.le_of_ble_eq_true rfl) (fun _ => c_X12_bears_e hd h)
theorem c_X12_lamp_L9 {Ω : mO} {d : Nat} (hd : 12 ≤ d) {r : Int × mD} : ∀ (n : Nat) {x1 x2 : Int} {D : mD}, F_X12_lamp_L9 n x1 x2 D = some r → J Ω M_X12_lamp d 0 0 (rI r.1 r.2) 9 [some (mR 133), some (mI x1), some (mI x2)] [] (SK, D, false) 0 0 := by
  intro n
  induction n with
  | zero => intro x1 x2 D h; exact absurd (show (none : Option (Int × mD)) = some r from h) nofun
  | succ n ih =>
    intro x1 x2 D h
    rw [F_X12_lamp_L9] at h
    refine j_iload_n (pc' := 10) dX12_lamp_9 rfl rfl ?_
    refine j_bipush (pc' := 12) dX12_lamp_10 rfl rfl ?_
    obtain ⟨q1, h⟩ := ck_o h
    refine j_icmp_ge (tgt := 40) (pc' := 15) dX12_lamp_12 rfl rfl q1 (by decide) (fun b1 => ?_) (fun b1 => ?_)
    · replace h := ite_t b1 h
      refine j_iload_n (pc' := 41) dX12_lamp_40 rfl rfl ?_
      exact j_iret dX12_lamp_41 rfl (by decide) (by decide) (rI_of h)
    · replace h := ite_f b1 h
      refine j_aload_n (pc' := 16) dX12_lamp_15 rfl rfl ?_
      refine j_iload_n (pc' := 17) dX12_lamp_16 rfl rfl ?_
      obtain ⟨v1, D1, e1, h⟩ := bI_o h
      refine k_cV (d' := 11) (pc' := 20) [mI x2] [] (c_X12_farBy (d := 11) (Nat.le_refl _) e1) cw_X12_480 kc_11 w_2121 ws_135 dX12_lamp_17 rfl (by omega) rfl rfl (by decide) sk_133 rfl rfl (by decide) (by decide) ?_
      refine j_aload_n (pc' := 21) dX12_lamp_20 rfl rfl ?_
      refine j_iload_n (pc' := 22) dX12_lamp_21 rfl rfl ?_
      obtain ⟨v2, D2, e2, h⟩ := bI_o h
      refine k_cV (d' := 11) (pc' := 25) [mI x1] [mI v1] (c_X12_farBy (d := 11) (Nat.le_refl _) e2) cw_X12_480 kc_11 w_2121 ws_135 dX12_lamp_22 rfl (by omega) rfl rfl (by decide) sk_133 rfl rfl (by decide) (by decide) ?_
      obtain ⟨q2, h⟩ := ck_o h
      obtain ⟨q3, h⟩ := ck_o h
      have hj : J Ω M_X12_lamp d 0 0 (rI r.1 r.2) 33 [some (mR 133), none, some (mI x2)] [mI (if v1 ≤ v2 then x1 else x2)] (SK, D2, false) 0 0 := by
        refine j_istore_n (pc' := 34) (ls' := [some (mR 133), some (mI (if v1 ≤ v2 then x1 else x2)), some (mI x2)]) dX12_lamp_33 rfl (by decide) rfl ?_
        refine j_iinc (pc' := 37) (z' := (x2 + 1)) (ls' := [some (mR 133), some (mI (if v1 ≤ v2 then x1 else x2)), some (mI (x2 + 1))]) dX12_lamp_34 rfl rfl rfl (by decide) rfl ?_
        refine j_goto (tgt := 9) dX12_lamp_37 rfl ?_
        exact j_wk (j_widen (ce := 0) (ke := 0) (by decide) (by decide) (ih h)) (And.intro rfl (And.intro rfl (And.intro rfl trivial)))
      refine j_icmp_le (tgt := 32) (pc' := 28) dX12_lamp_25 rfl rfl q2 q3 (fun b2 => ?_) (fun b2 => ?_)
      · refine j_iload_n (pc' := 33) dX12_lamp_32 rfl rfl ?_
        have hj := hj
        try simp only [if_pos b2] at hj
        exact j_wk hj (And.intro rfl (And.intro rfl trivial))
      · refine j_iload_n (pc' := 29) dX12_lamp_28 rfl rfl ?_
        refine j_goto (tgt := 33) dX12_lamp_29 rfl ?_
        have hj := hj
        try simp only [if_neg b2] at hj
        exact j_wk hj (And.intro rfl (And.intro rfl trivial))
theorem c_X12_lamp_e {Ω : mO} {d : Nat} (hd : 12 ≤ d) {r : Int × mD} {D : mD} (h : F_X12_lamp D = some r) : J Ω M_X12_lamp d 0 0 (rI r.1 r.2) 0 [some (mR 133), none, none] [] (SK, D, false) 0 0 := by
  rw [F_X12_lamp] at h
  refine j_aload_n (pc' := 1) dX12_lamp_0 rfl rfl ?_
  refine j_iconst (pc' := 2) dX12_lamp_1 rfl ?_
  refine k_putI (pc' := 5) (sl := 0) (i' := 0) kc_11 w_1477 (by decide) (Or.inl rfl) dX12_lamp_2 rfl (by decide) sk_133 (by decide) ⟨rfl, rfl⟩ rfl ?_
  refine j_iconst (pc' := 6) dX12_lamp_5 rfl ?_
  refine j_istore_n (pc' := 7) (ls' := [some (mR 133), some (mI 0), none]) dX12_lamp_6 rfl (by decide) rfl ?_
  refine j_iconst (pc' := 8) dX12_lamp_7 rfl ?_
  refine j_istore_n (pc' := 9) (ls' := [some (mR 133), some (mI 0), some (mI 1)]) dX12_lamp_8 rfl (by decide) rfl ?_
  exact j_wk (j_widen (ce := 0) (ke := 0) (by decide) (by decide) (c_X12_lamp_L9 hd _ h)) (And.intro rfl (And.intro rfl (And.intro rfl trivial)))
theorem c_X12_lamp {d : Nat} (hd : 12 ≤ d) {D D' : mD} {v : Int} (h : F_X12_lamp D = some (v, D')) : CM d 0 0 M_X12_lamp [mR 133] (SK, D, false) (rI v D') := CM.intro pn_X12 rfl rfl (Nat.le_of_ble_eq_true rfl) (fun _ => c_X12_lamp_e hd h)
theorem c_X12_seenFrom_L9 {Ω : mO} {d : Nat} (hd : 9 ≤ d) {r : Int × mD} {x1 : Int} : ∀ (n : Nat) {x2 x3 x4 : Int} {D : mD}, F_X12_seenFrom_L9 x1 n x2 x3 x4 D = some r → J Ω M_X12_seenFrom d 0 0 (rI r.1 r.2) 9 [some (mR 133), some (mI x1), some (mI x2), some (mI x3), some (mI x4), none] [] (SK, D, false) 0 0 := by
  intro n
  induction n with
  | zero => intro x2 x3 x4 D h; exact absurd (show (none : Option (Int × mD)) = some r from h) nofun
  | succ n ih =>
    intro x2 x3 x4 D h
    rw [F_X12_seenFrom_L9] at h
    refine j_iload (pc' := 11) dX12_seenFrom_9 rfl rfl ?_
    refine j_aload_n (pc' := 12) dX12_seenFrom_11 rfl rfl ?_
    obtain ⟨v1, D1, e1, h⟩ := bI_o h
    refine k_cV (d' := 6) (pc' := 15) [] [mI x4] (c_X12_gaps (d := 6) (Nat.le_refl _) e1) cw_X12_94 kc_11 w_1821 ws_87 dX12_seenFrom_12 rfl (by omega) rfl rfl (by decide) sk_133 rfl rfl (by decide) (by decide) ?_
    obtain ⟨q1, h⟩ := ck_o h
    obtain ⟨q2, h⟩ := ck_o h
    refine j_icmp_ge (tgt := 67) (pc' := 18) dX12_seenFrom_15 rfl rfl q1 q2 (fun b1 => ?_) (fun b1 => ?_)
    · replace h := ite_t b1 h
      refine j_aload_n (pc' := 68) dX12_seenFrom_67 rfl rfl ?_
      obtain ⟨v2, D2, e2, h⟩ := bI_o h
      refine k_cV (d' := 6) (pc' := 71) [] [] (c_X12_gaps (d := 6) (Nat.le_refl _) e2) cw_X12_94 kc_11 w_1821 ws_87 dX12_seenFrom_68 rfl (by omega) rfl rfl (by decide) sk_133 rfl rfl (by decide) (by decide) ?_
      refine j_iconst (pc' := 72) dX12_seenFrom_71 rfl ?_
      obtain ⟨q3, h⟩ := ck_o h
      have hj : J Ω M_X12_seenFrom d 0 0 (rI r.1 r.2) 82 [none, none, none, none, none, none] [mI (if 2 ≤ v2 then (x2 - x3) else (0 : Int))] (SK, D2, false) 0 0 := by
        exact j_iret dX12_seenFrom_82 rfl (by decide) (by decide) (rI_of h)
      refine j_icmp_ge (tgt := 79) (pc' := 75) dX12_seenFrom_72 rfl rfl q3 (by decide) (fun b2 => ?_) (fun b2 => ?_)
      · refine j_iload_n (pc' := 80) dX12_seenFrom_79 rfl rfl ?_
        refine j_iload_n (pc' := 81) dX12_seenFrom_80 rfl rfl ?_
        refine j_isub (pc' := 82) dX12_seenFrom_81 rfl ?_
        have hj := hj
        try simp only [if_pos b2] at hj
        exact j_wk hj (trivial)
      · refine j_iconst (pc' := 76) dX12_seenFrom_75 rfl ?_
        refine j_goto (tgt := 82) dX12_seenFrom_76 rfl ?_
        have hj := hj
        try simp only [if_neg b2] at hj
        exact j_wk hj (trivial)
    · replace h := ite_f b1 h
      refine j_aload_n (pc' := 19) dX12_seenFrom_18 rfl rfl ?_
      refine j_iload (pc' := 21) dX12_seenFrom_19 rfl rfl ?_
      refine j_aload_n (pc' := 22) dX12_seenFrom_21 rfl rfl ?_
      refine j_iload (pc' := 24) dX12_seenFrom_22 rfl rfl ?_
      obtain ⟨v3, D3, e3, h⟩ := bI_o h
      refine k_cV (d' := 2) (pc' := 27) [mI x4] [mI x4, mR 133] (c_X12_distance (d := 2) (Nat.le_refl _) e3) cw_X12_319 kc_11 w_1809 ws_85 dX12_seenFrom_24 rfl (by omega) rfl rfl (by decide) sk_133 rfl rfl (by decide) (by decide) ?_
      refine j_iconst (pc' := 28) dX12_seenFrom_27 rfl ?_
      refine j_bipush (pc' := 30) dX12_seenFrom_28 rfl rfl ?_
      refine j_iload_n (pc' := 31) dX12_seenFrom_30 rfl rfl ?_
      refine j_iload (pc' := 33) dX12_seenFrom_31 rfl rfl ?_
      refine j_imul (pc' := 34) dX12_seenFrom_33 rfl ?_
      refine j_isub (pc' := 35) dX12_seenFrom_34 rfl ?_
      obtain ⟨q4, h⟩ := ck_o h
      refine k_max (pc' := 38) cw_X12_72 w_541 dX12_seenFrom_35 rfl (by omega) (by decide) q4 rfl (by decide) (by decide) ?_
      refine j_imul (pc' := 39) dX12_seenFrom_38 rfl ?_
      refine j_bipush (pc' := 41) dX12_seenFrom_39 rfl rfl ?_
      obtain ⟨q5, h⟩ := ck_o h
      obtain ⟨q6, h⟩ := ck_o h
      refine j_idiv (pc' := 42) dX12_seenFrom_41 rfl q5 (by decide) q6 (by decide) ?_
      obtain ⟨v4, D4, e4, h⟩ := bI_o h
      refine k_cV (d' := 8) (pc' := 45) [mI x4, mI ((v3 * (max 0 (100 - (x1 * x4)))) / 100)] [] (c_X12_whiteBy (d := 8) (Nat.le_refl _) e4) cw_X12_323 kc_11 w_1829 ws_89 dX12_seenFrom_42 rfl (by omega) rfl rfl (by decide) sk_133 rfl rfl (by decide) (by decide) ?_
      refine j_istore (pc' := 47) (ls' := [some (mR 133), some (mI x1), some (mI x2), some (mI x3), some (mI x4), some (mI v4)]) dX12_seenFrom_45 rfl (by decide) rfl ?_
      refine j_iload_n (pc' := 48) dX12_seenFrom_47 rfl rfl ?_
      refine j_iload (pc' := 50) dX12_seenFrom_48 rfl rfl ?_
      obtain ⟨q7, h⟩ := ck_o h
      obtain ⟨q8, h⟩ := ck_o h
      refine k_max (pc' := 53) cw_X12_72 w_541 dX12_seenFrom_50 rfl (by omega) q7 q8 rfl (by decide) (by decide) ?_
      refine j_istore_n (pc' := 54) (ls' := [some (mR 133), some (mI x1), some (mI (max x2 v4)), some (mI x3), some (mI x4), some (mI v4)]) dX12_seenFrom_53 rfl (by decide) rfl ?_
      refine j_iload_n (pc' := 55) dX12_seenFrom_54 rfl rfl ?_
      refine j_iload (pc' := 57) dX12_seenFrom_55 rfl rfl ?_
      obtain ⟨q9, h⟩ := ck_o h
      refine k_min (pc' := 60) cw_X12_310 w_560 dX12_seenFrom_57 rfl (by omega) q9 q8 rfl (by decide) (by decide) ?_
      refine j_istore_n (pc' := 61) (ls' := [some (mR 133), some (mI x1), some (mI (max x2 v4)), some (mI (min x3 v4)), some (mI x4), some (mI v4)]) dX12_seenFrom_60 rfl (by decide) rfl ?_
      refine j_iinc (pc' := 64) (z' := (x4 + 1)) (ls' := [some (mR 133), some (mI x1), some (mI (max x2 v4)), some (mI (min x3 v4)), some (mI (x4 + 1)), some (mI v4)]) dX12_seenFrom_61 rfl rfl rfl (by decide) rfl ?_
      refine j_goto (tgt := 9) dX12_seenFrom_64 rfl ?_
      exact j_wk (j_widen (ce := 0) (ke := 0) (by decide) (by decide) (ih h)) (And.intro rfl (And.intro rfl (And.intro rfl (And.intro rfl (And.intro rfl trivial)))))
theorem c_X12_seenFrom_e {Ω : mO} {d : Nat} (hd : 9 ≤ d) {r : Int × mD} {x1 : Int} {D : mD} (h : F_X12_seenFrom x1 D = some r) : J Ω M_X12_seenFrom d 0 0 (rI r.1 r.2) 0 [some (mR 133), some (mI x1), none, none, none, none] [] (SK, D, false) 0 0 := by
  rw [F_X12_seenFrom] at h
  refine j_iconst (pc' := 1) dX12_seenFrom_0 rfl ?_
  refine j_istore_n (pc' := 2) (ls' := [some (mR 133), some (mI x1), some (mI 0), none, none, none]) dX12_seenFrom_1 rfl (by decide) rfl ?_
  refine j_ldcwI (pc' := 5) (n := 1000000) w_1860 dX12_seenFrom_2 rfl ?_
  refine j_istore_n (pc' := 6) (ls' := [some (mR 133), some (mI x1), some (mI 0), some (mI 1000000), none, none]) dX12_seenFrom_5 rfl (by decide) rfl ?_
  refine j_iconst (pc' := 7) dX12_seenFrom_6 rfl ?_
  refine j_istore (pc' := 9) (ls' := [some (mR 133), some (mI x1), some (mI 0), some (mI 1000000), some (mI 0), none]) dX12_seenFrom_7 rfl (by decide) rfl ?_
  exact j_wk (j_widen (ce := 0) (ke := 0) (by decide) (by decide) (c_X12_seenFrom_L9 hd _ h)) (And.intro rfl (And.intro rfl (And.intro rfl (And.intro rfl (And.intro rfl trivial)))))
theorem c_X12_seenFrom {d : Nat} (hd : 9 ≤ d) {x1 : Int} {D D' : mD} {v : Int} (h : F_X12_seenFrom x1 D = some (v, D')) : CM d 0 0 M_X12_seenFrom [mR 133, mI x1] (SK, D, false) (rI v D') := CM.intro pn_X12 rfl rfl (Nat.le_of_ble_eq_true rfl) (fun _ => c_X12_seenFrom_e hd h)
theorem c_X12_aslant_j21 {Ω : mO} {d : Nat} (hd : 10 ≤ d) {r : Int × mD} {x1 s1 : Int} {D : mD} (h : F_X12_aslant_j21 x1 s1 D = some r) : J Ω M_X12_aslant d 0 0 (rI r.1 r.2) 21 [some (mR 133), some (mI x1)] [mI s1, mR 133] (SK, D, false) 0 0 := by
  rw [F_X12_aslant_j21] at h
  refine j_iconst (pc' := 22) dX12_aslant_21 rfl ?_
  obtain ⟨v1, D1, e1, h⟩ := bI_o h
  refine k_cV (d' := 1) (pc' := 25) [mI s1, mI 1] [] (c_X12_throwsIf (d := 1) (Nat.le_refl _) e1) cw_X12_282 kc_11 w_1753 ws_76 dX12_aslant_22 rfl (by omega) rfl rfl (by decide) sk_133 rfl rfl (by decide) (by decide) ?_
  obtain ⟨q1, h⟩ := ck_o h
  refine j_if_eq (tgt := 32) (pc' := 28) dX12_aslant_25 rfl rfl q1 (fun b1 => ?_) (fun b1 => ?_)
  · replace h := ite_t b1 h
    refine j_aload_n (pc' := 33) dX12_aslant_32 rfl rfl ?_
    refine j_iload_n (pc' := 34) dX12_aslant_33 rfl rfl ?_
    obtain ⟨v2, D2, e2, h⟩ := bI_o h
    refine k_cV (d' := 9) (pc' := 37) [mI x1] [] (c_X12_seenFrom (d := 9) (Nat.le_refl _) e2) cw_X12_483 kc_11 w_2141 ws_136 dX12_aslant_34 rfl (by omega) rfl rfl (by decide) sk_133 rfl rfl (by decide) (by decide) ?_
    exact j_iret dX12_aslant_37 rfl (by decide) (by decide) (rI_of h)
  · replace h := ite_f b1 h
    refine j_iconst (pc' := 29) dX12_aslant_28 rfl ?_
    refine j_goto (tgt := 37) dX12_aslant_29 rfl ?_
    exact j_iret dX12_aslant_37 rfl (by decide) (by decide) (rI_of h)
theorem c_X12_aslant_e {Ω : mO} {d : Nat} (hd : 10 ≤ d) {r : Int × mD} {x1 : Int} {D : mD} (h : F_X12_aslant x1 D = some r) : J Ω M_X12_aslant d 0 0 (rI r.1 r.2) 0 [some (mR 133), some (mI x1)] [] (SK, D, false) 0 0 := by
  rw [F_X12_aslant] at h
  refine j_aload_n (pc' := 1) dX12_aslant_0 rfl rfl ?_
  refine j_iconst (pc' := 2) dX12_aslant_1 rfl ?_
  refine k_putI (pc' := 5) (sl := 0) (i' := 0) kc_11 w_1477 (by decide) (Or.inl rfl) dX12_aslant_2 rfl (by decide) sk_133 (by decide) ⟨rfl, rfl⟩ rfl ?_
  refine j_aload_n (pc' := 6) dX12_aslant_5 rfl rfl ?_
  refine j_iload_n (pc' := 7) dX12_aslant_6 rfl rfl ?_
  refine j_iconst (pc' := 8) dX12_aslant_7 rfl ?_
  refine j_bipush (pc' := 10) dX12_aslant_8 rfl rfl ?_
  obtain ⟨v1, D1, e1, h⟩ := bI_o h
  refine k_cS (d' := 1) (pc' := 13) [mI x1, mI 0, mI 9] [mR 133] (c_X12_in (d := 1) (Nat.le_refl _) e1) cw_X12_90 w_1768 dX12_aslant_10 rfl (by omega) rfl rfl rfl rfl (by decide) (by decide) ?_
  obtain ⟨q1, h⟩ := ck_o h
  have hj : J Ω M_X12_aslant d 0 0 (rI r.1 r.2) 21 [some (mR 133), some (mI x1)] [mI (if v1 = 0 then (1 : Int) else (0 : Int)), mR 133] (SK, D1, false) 0 0 := by
    exact j_wk (j_widen (ce := 0) (ke := 0) (by decide) (by decide) (c_X12_aslant_j21 hd h)) (And.intro rfl (And.intro rfl trivial))
  refine j_if_ne (tgt := 20) (pc' := 16) dX12_aslant_13 rfl rfl q1 (fun b1 => ?_) (fun b1 => ?_)
  · refine j_iconst (pc' := 21) dX12_aslant_20 rfl ?_
    have hj := hj
    try simp only [if_neg b1] at hj
    exact j_wk hj (And.intro rfl (And.intro rfl trivial))
  · refine j_iconst (pc' := 17) dX12_aslant_16 rfl ?_
    refine j_goto (tgt := 21) dX12_aslant_17 rfl ?_
    have hj := hj
    try simp only [if_pos b1] at hj
    exact j_wk hj (And.intro rfl (And.intro rfl trivial))
theorem c_X12_aslant {d : Nat} (hd : 10 ≤ d) {x1 : Int} {D D' : mD} {v : Int} (h : F_X12_aslant x1 D = some (v, D')) : CM d 0 0 M_X12_aslant [mR 133, mI x1] (SK, D, false) (rI v D') := CM.intro pn_X12 rfl rfl (Nat.le_of_ble_eq_true rfl) (fun _ => c_X12_aslant_e hd h)
theorem c_X12_from_L9 {Ω : mO} {d : Nat} (hd : 10 ≤ d) {r : Int × mD} : ∀ (n : Nat) {x1 x2 : Int} {D : mD}, F_X12_from_L9 n x1 x2 D = some r → J Ω M_X12_from d 0 0 (rI r.1 r.2) 9 [some (mR 133), some (mI x1), some (mI x2)] [] (SK, D, false) 0 0 := by
  intro n
  induction n with
  | zero => intro x1 x2 D h; exact absurd (show (none : Option (Int × mD)) = some r from h) nofun
  | succ n ih =>
    intro x1 x2 D h
    rw [F_X12_from_L9] at h
    refine j_iload_n (pc' := 10) dX12_from_9 rfl rfl ?_
    refine j_bipush (pc' := 12) dX12_from_10 rfl rfl ?_
    obtain ⟨q1, h⟩ := ck_o h
    refine j_icmp_ge (tgt := 40) (pc' := 15) dX12_from_12 rfl rfl q1 (by decide) (fun b1 => ?_) (fun b1 => ?_)
    · replace h := ite_t b1 h
      refine j_iload_n (pc' := 41) dX12_from_40 rfl rfl ?_
      exact j_iret dX12_from_41 rfl (by decide) (by decide) (rI_of h)
    · replace h := ite_f b1 h
      refine j_aload_n (pc' := 16) dX12_from_15 rfl rfl ?_
      refine j_iload_n (pc' := 17) dX12_from_16 rfl rfl ?_
      obtain ⟨v1, D1, e1, h⟩ := bI_o h
      refine k_cV (d' := 9) (pc' := 20) [mI x2] [] (c_X12_seenFrom (d := 9) (Nat.le_refl _) e1) cw_X12_483 kc_11 w_2141 ws_136 dX12_from_17 rfl (by omega) rfl rfl (by decide) sk_133 rfl rfl (by decide) (by decide) ?_
      refine j_aload_n (pc' := 21) dX12_from_20 rfl rfl ?_
      refine j_iload_n (pc' := 22) dX12_from_21 rfl rfl ?_
      obtain ⟨v2, D2, e2, h⟩ := bI_o h
      refine k_cV (d' := 9) (pc' := 25) [mI x1] [mI v1] (c_X12_seenFrom (d := 9) (Nat.le_refl _) e2) cw_X12_483 kc_11 w_2141 ws_136 dX12_from_22 rfl (by omega) rfl rfl (by decide) sk_133 rfl rfl (by decide) (by decide) ?_
      obtain ⟨q2, h⟩ := ck_o h
      obtain ⟨q3, h⟩ := ck_o h
      have hj : J Ω M_X12_from d 0 0 (rI r.1 r.2) 33 [some (mR 133), none, some (mI x2)] [mI (if v2 ≤ v1 then x1 else x2)] (SK, D2, false) 0 0 := by
        refine j_istore_n (pc' := 34) (ls' := [some (mR 133), some (mI (if v2 ≤ v1 then x1 else x2)), some (mI x2)]) dX12_from_33 rfl (by decide) rfl ?_
        refine j_iinc (pc' := 37) (z' := (x2 + 1)) (ls' := [some (mR 133), some (mI (if v2 ≤ v1 then x1 else x2)), some (mI (x2 + 1))]) dX12_from_34 rfl rfl rfl (by decide) rfl ?_
        refine j_goto (tgt := 9) dX12_from_37 rfl ?_
        exact j_wk (j_widen (ce := 0) (ke := 0) (by decide) (by decide) (ih h)) (And.intro rfl (And.intro rfl (And.intro rfl trivial)))
      refine j_icmp_ge (tgt := 32) (pc' := 28) dX12_from_25 rfl rfl q2 q3 (fun b2 => ?_) (fun b2 => ?_)
      · refine j_iload_n (pc' := 33) dX12_from_32 rfl rfl ?_
        have hj := hj
        try simp only [if_pos b2] at hj
        exact j_wk hj (And.intro rfl (And.intro rfl trivial))
      · refine j_iload_n (pc' := 29) dX12_from_28 rfl rfl ?_
        refine j_goto (tgt := 33) dX12_from_29 rfl ?_
        have hj := hj
        try simp only [if_neg b2] at hj
        exact j_wk hj (And.intro rfl (And.intro rfl trivial))
theorem c_X12_from_e {Ω : mO} {d : Nat} (hd : 10 ≤ d) {r : Int × mD} {D : mD} (h : F_X12_from D = some r) : J Ω M_X12_from d 0 0 (rI r.1 r.2) 0 [some (mR 133), none, none] [] (SK, D, false) 0 0 := by
  rw [F_X12_from] at h
  refine j_aload_n (pc' := 1) dX12_from_0 rfl rfl ?_
  refine j_iconst (pc' := 2) dX12_from_1 rfl ?_
  refine k_putI (pc' := 5) (sl := 0) (i' := 0) kc_11 w_1477 (by decide) (Or.inl rfl) dX12_from_2 rfl (by decide) sk_133 (by decide) ⟨rfl, rfl⟩ rfl ?_
  refine j_iconst (pc' := 6) dX12_from_5 rfl ?_
  refine j_istore_n (pc' := 7) (ls' := [some (mR 133), some (mI 0), none]) dX12_from_6 rfl (by decide) rfl ?_
  refine j_iconst (pc' := 8) dX12_from_7 rfl ?_
  refine j_istore_n (pc' := 9) (ls' := [some (mR 133), some (mI 0), some (mI 1)]) dX12_from_8 rfl (by decide) rfl ?_
  exact j_wk (j_widen (ce := 0) (ke := 0) (by decide) (by decide) (c_X12_from_L9 hd _ h)) (And.intro rfl (And.intro rfl (And.intro rfl trivial)))
theorem c_X12_from {d : Nat} (hd : 10 ≤ d) {D D' : mD} {v : Int} (h : F_X12_from D = some (v, D')) : CM d 0 0 M_X12_from [mR 133] (SK, D, false) (rI v D') := CM.intro pn_X12 rfl rfl (Nat.le_of_ble_eq_true rfl) (fun _ => c_X12_from_e hd h)
theorem c_X12_ends_j21 {Ω : mO} {d : Nat} (hd : 9 ≤ d) {r : Int × mD} {x1 s1 : Int} {D : mD} (h : F_X12_ends_j21 x1 s1 D = some r) : J Ω M_X12_ends d 0 0 (rI r.1 r.2) 21 [some (mR 133), some (mI x1)] [mI s1, mR 133] (SK, D, false) 0 0 := by
  rw [F_X12_ends_j21] at h
  refine j_iconst (pc' := 22) dX12_ends_21 rfl ?_
  obtain ⟨v1, D1, e1, h⟩ := bI_o h
  refine k_cV (d' := 1) (pc' := 25) [mI s1, mI 1] [] (c_X12_throwsIf (d := 1) (Nat.le_refl _) e1) cw_X12_282 kc_11 w_1753 ws_76 dX12_ends_22 rfl (by omega) rfl rfl (by decide) sk_133 rfl rfl (by decide) (by decide) ?_
  obtain ⟨q1, h⟩ := ck_o h
  refine j_if_eq (tgt := 30) (pc' := 28) dX12_ends_25 rfl rfl q1 (fun b1 => ?_) (fun b1 => ?_)
  · replace h := ite_t b1 h
    refine j_aload_n (pc' := 31) dX12_ends_30 rfl rfl ?_
    obtain ⟨v2, D2, e2, h⟩ := bI_o h
    refine k_cV (d' := 1) (pc' := 34) [] [] (c_X12_letters (d := 1) (Nat.le_refl _) e2) cw_X12_68 kc_11 w_1788 ws_80 dX12_ends_31 rfl (by omega) rfl rfl (by decide) sk_133 rfl rfl (by decide) (by decide) ?_
    refine j_iconst (pc' := 35) dX12_ends_34 rfl ?_
    obtain ⟨q2, h⟩ := ck_o h
    refine j_icmp_ge (tgt := 44) (pc' := 38) dX12_ends_35 rfl rfl q2 (by decide) (fun b2 => ?_) (fun b2 => ?_)
    · replace h := ite_t b2 h
      refine j_aload_n (pc' := 45) dX12_ends_44 rfl rfl ?_
      refine j_iconst (pc' := 46) dX12_ends_45 rfl ?_
      obtain ⟨v3, D3, e3, h⟩ := bI_o h
      refine k_cV (d' := 8) (pc' := 49) [mI 0] [] (c_X12_room (d := 8) (Nat.le_refl _) e3) cw_X12_368 kc_11 w_1909 ws_101 dX12_ends_46 rfl (by omega) rfl rfl (by decide) sk_133 rfl rfl (by decide) (by decide) ?_
      refine j_iload_n (pc' := 50) dX12_ends_49 rfl rfl ?_
      refine j_aload_n (pc' := 51) dX12_ends_50 rfl rfl ?_
      obtain ⟨v4, D4, e4, h⟩ := bI_o h
      refine k_cV (d' := 1) (pc' := 54) [] [mI x1, mI v3] (c_X12_letters (d := 1) (Nat.le_refl _) e4) cw_X12_68 kc_11 w_1788 ws_80 dX12_ends_51 rfl (by omega) rfl rfl (by decide) sk_133 rfl rfl (by decide) (by decide) ?_
      refine j_iconst (pc' := 55) dX12_ends_54 rfl ?_
      refine j_isub (pc' := 56) dX12_ends_55 rfl ?_
      refine j_imul (pc' := 57) dX12_ends_56 rfl ?_
      refine j_isub (pc' := 58) dX12_ends_57 rfl ?_
      exact j_iret dX12_ends_58 rfl (by decide) (by decide) (rI_of h)
    · replace h := ite_f b2 h
      refine j_sipush (pc' := 41) dX12_ends_38 rfl rfl ?_
      refine j_goto (tgt := 58) dX12_ends_41 rfl ?_
      exact j_iret dX12_ends_58 rfl (by decide) (by decide) (rI_of h)
  · replace h := ite_f b1 h
    refine j_iconst (pc' := 29) dX12_ends_28 rfl ?_
    exact j_iret dX12_ends_29 rfl (by decide) (by decide) (rI_of h)
theorem c_X12_ends_e {Ω : mO} {d : Nat} (hd : 9 ≤ d) {r : Int × mD} {x1 : Int} {D : mD} (h : F_X12_ends x1 D = some r) : J Ω M_X12_ends d 0 0 (rI r.1 r.2) 0 [some (mR 133), some (mI x1)] [] (SK, D, false) 0 0 := by
  rw [F_X12_ends] at h
  refine j_aload_n (pc' := 1) dX12_ends_0 rfl rfl ?_
  refine j_iconst (pc' := 2) dX12_ends_1 rfl ?_
  refine k_putI (pc' := 5) (sl := 0) (i' := 0) kc_11 w_1477 (by decide) (Or.inl rfl) dX12_ends_2 rfl (by decide) sk_133 (by decide) ⟨rfl, rfl⟩ rfl ?_
  refine j_aload_n (pc' := 6) dX12_ends_5 rfl rfl ?_
  refine j_iload_n (pc' := 7) dX12_ends_6 rfl rfl ?_
  refine j_iconst (pc' := 8) dX12_ends_7 rfl ?_
  refine j_bipush (pc' := 10) dX12_ends_8 rfl rfl ?_
  obtain ⟨v1, D1, e1, h⟩ := bI_o h
  refine k_cS (d' := 1) (pc' := 13) [mI x1, mI 0, mI 30] [mR 133] (c_X12_in (d := 1) (Nat.le_refl _) e1) cw_X12_90 w_1768 dX12_ends_10 rfl (by omega) rfl rfl rfl rfl (by decide) (by decide) ?_
  obtain ⟨q1, h⟩ := ck_o h
  have hj : J Ω M_X12_ends d 0 0 (rI r.1 r.2) 21 [some (mR 133), some (mI x1)] [mI (if v1 = 0 then (1 : Int) else (0 : Int)), mR 133] (SK, D1, false) 0 0 := by
    exact j_wk (j_widen (ce := 0) (ke := 0) (by decide) (by decide) (c_X12_ends_j21 hd h)) (And.intro rfl (And.intro rfl trivial))
  refine j_if_ne (tgt := 20) (pc' := 16) dX12_ends_13 rfl rfl q1 (fun b1 => ?_) (fun b1 => ?_)
  · refine j_iconst (pc' := 21) dX12_ends_20 rfl ?_
    have hj := hj
    try simp only [if_neg b1] at hj
    exact j_wk hj (And.intro rfl (And.intro rfl trivial))
  · refine j_iconst (pc' := 17) dX12_ends_16 rfl ?_
    refine j_goto (tgt := 21) dX12_ends_17 rfl ?_
    have hj := hj
    try simp only [if_pos b1] at hj
    exact j_wk hj (And.intro rfl (And.intro rfl trivial))
theorem c_X12_ends {d : Nat} (hd : 9 ≤ d) {x1 : Int} {D D' : mD} {v : Int} (h : F_X12_ends x1 D = some (v, D')) : CM d 0 0 M_X12_ends [mR 133, mI x1] (SK, D, false) (rI v D') := CM.intro pn_X12 rfl rfl (Nat.le_of_ble_eq_true rfl) (fun _ => c_X12_ends_e hd h)
theorem c_X12_isWhites_e {Ω : mO} {d : Nat} (hd : 2 ≤ d) {r : Int × mD} {D : mD} (h : F_X12_isWhites D = some r) : J Ω M_X12_isWhites d 0 0 (rI r.1 r.2) 0 [some (mR 133)] [] (SK, D, false) 0 0 := by
  rw [F_X12_isWhites] at h
  refine j_aload_n (pc' := 1) dX12_isWhites_0 rfl rfl ?_
  obtain ⟨v1, D1, e1, h⟩ := bI_o h
  refine k_cVv (d' := 1) (pc' := 4) [] [] (c_X12_uses (d := 1) (Nat.le_refl _) e1) cw_X12_271 kc_11 w_1596 ws_44 dX12_isWhites_1 rfl (by omega) rfl rfl (by decide) sk_133 rfl rfl (by decide) (by decide) ?_
  refine j_aload_n (pc' := 5) dX12_isWhites_4 rfl rfl ?_
  refine k_getI (pc' := 8) (sl := 11) (z := D1 133 11) kc_11 w_1488 (by decide) dX12_isWhites_5 rfl (by decide) sk_133 (by decide) rfl rfl ?_
  refine j_iconst (pc' := 9) dX12_isWhites_8 rfl ?_
  obtain ⟨q1, h⟩ := ck_o h
  obtain ⟨q2, h⟩ := ck_o h
  refine j_irem (pc' := 10) dX12_isWhites_9 rfl q1 (by decide) q2 (by decide) ?_
  obtain ⟨q3, h⟩ := ck_o h
  have hj : J Ω M_X12_isWhites d 0 0 (rI r.1 r.2) 18 [none] [mI (if ((D1 133 11) % 2) = 0 then (1 : Int) else (0 : Int))] (SK, D1, false) 0 0 := by
    obtain ⟨q4, h⟩ := ck_o h
    exact j_zret dX12_isWhites_18 rfl q4 (by decide) (by decide) (rI_of h)
  refine j_if_ne (tgt := 17) (pc' := 13) dX12_isWhites_10 rfl rfl q3 (fun b1 => ?_) (fun b1 => ?_)
  · refine j_iconst (pc' := 18) dX12_isWhites_17 rfl ?_
    have hj := hj
    try simp only [if_neg b1] at hj
    exact j_wk hj (trivial)
  · refine j_iconst (pc' := 14) dX12_isWhites_13 rfl ?_
    refine j_goto (tgt := 18) dX12_isWhites_14 rfl ?_
    have hj := hj
    try simp only [if_pos b1] at hj
    exact j_wk hj (trivial)
theorem c_X12_isWhites {d : Nat} (hd : 2 ≤ d) {D D' : mD} {v : Int} (h : F_X12_isWhites D = some (v, D')) : CM d 0 0 M_X12_isWhites [mR 133] (SK, D, false) (rI v D') := CM.intro pn_X12 rfl rfl (Nat.le_of_ble_eq_true rfl) (fun _ => c_X12_isWhites_e hd h)
theorem c_X12_toldWhite_e {Ω : mO} {d : Nat} (hd : 1 ≤ d) {r : Int × mD} {x1 : Int} {D : mD} (h : F_X12_toldWhite x1 D = some r) : J Ω M_X12_toldWhite d 0 0 (rI r.1 r.2) 0 [some (mR 133), some (mI x1)] [] (SK, D, false) 0 0 := by
  rw [F_X12_toldWhite] at h
  refine j_aload_n (pc' := 1) dX12_toldWhite_0 rfl rfl ?_
  refine k_getR (pc' := 4) (sl := 8) (r := 139) kc_11 w_1485 (Or.inl rfl) (by decide) dX12_toldWhite_1 rfl (by decide) sk_133 (by decide) rfl (by decide) ?_
  refine j_iload_n (pc' := 5) dX12_toldWhite_4 rfl rfl ?_
  obtain ⟨q1, h⟩ := ck_o h
  refine k_bald (pc' := 6) (z := D 139 x1) dX12_toldWhite_5 rfl (by decide) sk_139 (by decide) q1.1 q1.2 rfl ?_
  refine j_sipush (pc' := 9) dX12_toldWhite_6 rfl rfl ?_
  refine j_iand (pc' := 10) dX12_toldWhite_9 rfl ?_
  refine j_sipush (pc' := 13) dX12_toldWhite_10 rfl rfl ?_
  refine j_imul (pc' := 14) dX12_toldWhite_13 rfl ?_
  refine j_aload_n (pc' := 15) dX12_toldWhite_14 rfl rfl ?_
  refine k_getR (pc' := 18) (sl := 8) (r := 139) kc_11 w_1485 (Or.inl rfl) (by decide) dX12_toldWhite_15 rfl (by decide) sk_133 (by decide) rfl (by decide) ?_
  refine j_iload_n (pc' := 19) dX12_toldWhite_18 rfl rfl ?_
  refine j_iconst (pc' := 20) dX12_toldWhite_19 rfl ?_
  refine j_iadd (pc' := 21) dX12_toldWhite_20 rfl ?_
  obtain ⟨q2, h⟩ := ck_o h
  refine k_bald (pc' := 22) (z := D 139 (x1 + 1)) dX12_toldWhite_21 rfl (by decide) sk_139 (by decide) q2.1 q2.2 rfl ?_
  refine j_sipush (pc' := 25) dX12_toldWhite_22 rfl rfl ?_
  refine j_iand (pc' := 26) dX12_toldWhite_25 rfl ?_
  refine j_iadd (pc' := 27) dX12_toldWhite_26 rfl ?_
  exact j_iret dX12_toldWhite_27 rfl (by decide) (by decide) (rI_of h)
theorem c_X12_toldWhite {d : Nat} (hd : 1 ≤ d) {x1 : Int} {D D' : mD} {v : Int} (h : F_X12_toldWhite x1 D = some (v, D')) : CM d 0 0 M_X12_toldWhite [mR 133, mI x1] (SK, D, false) (rI v D') := CM.intro pn_X12 rfl rfl (Nat.le_of_ble_eq_true rfl) (fun _ => c_X12_toldWhite_e hd h)
theorem c_X12_writersWhite_e {Ω : mO} {d : Nat} (hd : 1 ≤ d) {r : Int × mD} {x1 : Int} {D : mD} (h : F_X12_writersWhite x1 D = some r) : J Ω M_X12_writersWhite d 0 0 (rI r.1 r.2) 0 [some (mR 133), some (mI x1)] [] (SK, D, false) 0 0 := by
  rw [F_X12_writersWhite] at h
  refine j_aload_n (pc' := 1) dX12_writersWhite_0 rfl rfl ?_
  refine k_getR (pc' := 4) (sl := 1) (r := 134) kc_11 w_1478 (Or.inl rfl) (by decide) dX12_writersWhite_1 rfl (by decide) sk_133 (by decide) rfl (by decide) ?_
  refine j_sipush (pc' := 7) dX12_writersWhite_4 rfl rfl ?_
  refine j_iconst (pc' := 8) dX12_writersWhite_7 rfl ?_
  refine j_iload_n (pc' := 9) dX12_writersWhite_8 rfl rfl ?_
  refine j_imul (pc' := 10) dX12_writersWhite_9 rfl ?_
  refine j_iadd (pc' := 11) dX12_writersWhite_10 rfl ?_
  obtain ⟨q1, h⟩ := ck_o h
  refine k_iald (pc' := 12) (z := D 134 (215 + (2 * x1))) dX12_writersWhite_11 rfl (by decide) sk_134 (by decide) q1.1 q1.2 rfl ?_
  exact j_iret dX12_writersWhite_12 rfl (by decide) (by decide) (rI_of h)
theorem c_X12_writersWhite {d : Nat} (hd : 1 ≤ d) {x1 : Int} {D D' : mD} {v : Int} (h : F_X12_writersWhite x1 D = some (v, D')) : CM d 0 0 M_X12_writersWhite [mR 133, mI x1] (SK, D, false) (rI v D') := CM.intro pn_X12 rfl rfl (Nat.le_of_ble_eq_true rfl) (fun _ => c_X12_writersWhite_e hd h)
theorem c_X12_offOf_L4 {Ω : mO} {d : Nat} (hd : 6 ≤ d) {r : Int × mD} {x1 : Int} : ∀ (n : Nat) {x2 x3 : Int} {D : mD}, F_X12_offOf_L4 x1 n x2 x3 D = some r → J Ω M_X12_offOf d 0 0 (rI r.1 r.2) 4 [some (mR 133), some (mI x1), some (mI x2), some (mI x3)] [] (SK, D, false) 0 0 := by
  intro n
  induction n with
  | zero => intro x2 x3 D h; exact absurd (show (none : Option (Int × mD)) = some r from h) nofun
  | succ n ih =>
    intro x2 x3 D h
    rw [F_X12_offOf_L4] at h
    refine j_iload_n (pc' := 5) dX12_offOf_4 rfl rfl ?_
    refine j_aload_n (pc' := 6) dX12_offOf_5 rfl rfl ?_
    refine k_getI (pc' := 9) (sl := 11) (z := D 133 11) kc_11 w_1488 (by decide) dX12_offOf_6 rfl (by decide) sk_133 (by decide) rfl rfl ?_
    obtain ⟨q1, h⟩ := ck_o h
    obtain ⟨q2, h⟩ := ck_o h
    refine j_icmp_ge (tgt := 35) (pc' := 12) dX12_offOf_9 rfl rfl q1 q2 (fun b1 => ?_) (fun b1 => ?_)
    · replace h := ite_t b1 h
      refine j_iload_n (pc' := 36) dX12_offOf_35 rfl rfl ?_
      exact j_iret dX12_offOf_36 rfl (by decide) (by decide) (rI_of h)
    · replace h := ite_f b1 h
      refine j_iload_n (pc' := 13) dX12_offOf_12 rfl rfl ?_
      refine j_aload_n (pc' := 14) dX12_offOf_13 rfl rfl ?_
      refine j_iload_n (pc' := 15) dX12_offOf_14 rfl rfl ?_
      obtain ⟨v1, D1, e1, h⟩ := bI_o h
      refine k_cV (d' := 1) (pc' := 18) [mI x3] [mI x2] (c_X12_toldWhite (d := 1) (Nat.le_refl _) e1) cw_X12_486 kc_11 w_2165 ws_139 dX12_offOf_15 rfl (by omega) rfl rfl (by decide) sk_133 rfl rfl (by decide) (by decide) ?_
      refine j_aload_n (pc' := 19) dX12_offOf_18 rfl rfl ?_
      refine j_iload_n (pc' := 20) dX12_offOf_19 rfl rfl ?_
      obtain ⟨v2, D2, e2, h⟩ := bI_o h
      refine k_cV (d' := 1) (pc' := 23) [mI x1] [mI v1, mI x2] (c_X12_writersWhite (d := 1) (Nat.le_refl _) e2) cw_X12_489 kc_11 w_2169 ws_140 dX12_offOf_20 rfl (by omega) rfl rfl (by decide) sk_133 rfl rfl (by decide) (by decide) ?_
      refine j_isub (pc' := 24) dX12_offOf_23 rfl ?_
      obtain ⟨q3, h⟩ := ck_o h
      refine k_abs (pc' := 27) cw_X12_359 w_614 dX12_offOf_24 rfl (by omega) q3 rfl (by decide) (by decide) ?_
      refine j_iadd (pc' := 28) dX12_offOf_27 rfl ?_
      refine j_istore_n (pc' := 29) (ls' := [some (mR 133), some (mI x1), some (mI (x2 + (Int.natAbs (v1 - v2) : Int))), some (mI x3)]) dX12_offOf_28 rfl (by decide) rfl ?_
      refine j_iinc (pc' := 32) (z' := (x3 + 2)) (ls' := [some (mR 133), some (mI x1), some (mI (x2 + (Int.natAbs (v1 - v2) : Int))), some (mI (x3 + 2))]) dX12_offOf_29 rfl rfl rfl (by decide) rfl ?_
      refine j_goto (tgt := 4) dX12_offOf_32 rfl ?_
      exact j_wk (j_widen (ce := 0) (ke := 0) (by decide) (by decide) (ih h)) (And.intro rfl (And.intro rfl (And.intro rfl (And.intro rfl trivial))))
theorem c_X12_offOf_e {Ω : mO} {d : Nat} (hd : 6 ≤ d) {r : Int × mD} {x1 : Int} {D : mD} (h : F_X12_offOf x1 D = some r) : J Ω M_X12_offOf d 0 0 (rI r.1 r.2) 0 [some (mR 133), some (mI x1), none, none] [] (SK, D, false) 0 0 := by
  rw [F_X12_offOf] at h
  refine j_iconst (pc' := 1) dX12_offOf_0 rfl ?_
  refine j_istore_n (pc' := 2) (ls' := [some (mR 133), some (mI x1), some (mI 0), none]) dX12_offOf_1 rfl (by decide) rfl ?_
  refine j_iconst (pc' := 3) dX12_offOf_2 rfl ?_
  refine j_istore_n (pc' := 4) (ls' := [some (mR 133), some (mI x1), some (mI 0), some (mI 0)]) dX12_offOf_3 rfl (by decide) rfl ?_
  exact j_wk (j_widen (ce := 0) (ke := 0) (by decide) (by decide) (c_X12_offOf_L4 hd _ h)) (And.intro rfl (And.intro rfl (And.intro rfl (And.intro rfl trivial))))
theorem c_X12_offOf {d : Nat} (hd : 6 ≤ d) {x1 : Int} {D D' : mD} {v : Int} (h : F_X12_offOf x1 D = some (v, D')) : CM d 0 0 M_X12_offOf [mR 133, mI x1] (SK, D, false) (rI v D') := CM.intro pn_X12 rfl rfl (Nat.le_of_ble_eq_true rfl) (fun _ => c_X12_offOf_e hd h)
theorem c_X12_wrote_L28 {Ω : mO} {d : Nat} (hd : 7 ≤ d) {r : Int × mD} : ∀ (n : Nat) {x2 x3 : Int} {D : mD}, F_X12_wrote_L28 n x2 x3 D = some r → J Ω M_X12_wrote d 0 0 (rI r.1 r.2) 28 [some (mR 133), none, some (mI x2), some (mI x3)] [] (SK, D, false) 0 0 := by
  intro n
  induction n with
  | zero => intro x2 x3 D h; exact absurd (show (none : Option (Int × mD)) = some r from h) nofun
  | succ n ih =>
    intro x2 x3 D h
    rw [F_X12_wrote_L28] at h
    refine j_iload_n (pc' := 29) dX12_wrote_28 rfl rfl ?_
    refine j_aload_n (pc' := 30) dX12_wrote_29 rfl rfl ?_
    obtain ⟨v1, D1, e1, h⟩ := bI_o h
    refine k_cV (d' := 1) (pc' := 33) [] [mI x3] (c_X12_writers (d := 1) (Nat.le_refl _) e1) cw_X12_97 kc_11 w_1692 ws_64 dX12_wrote_30 rfl (by omega) rfl rfl (by decide) sk_133 rfl rfl (by decide) (by decide) ?_
    obtain ⟨q1, h⟩ := ck_o h
    obtain ⟨q2, h⟩ := ck_o h
    refine j_icmp_ge (tgt := 65) (pc' := 36) dX12_wrote_33 rfl rfl q1 q2 (fun b1 => ?_) (fun b1 => ?_)
    · replace h := ite_t b1 h
      refine j_iload_n (pc' := 66) dX12_wrote_65 rfl rfl ?_
      exact j_iret dX12_wrote_66 rfl (by decide) (by decide) (rI_of h)
    · replace h := ite_f b1 h
      refine j_iload_n (pc' := 37) dX12_wrote_36 rfl rfl ?_
      obtain ⟨q3, h⟩ := ck_o h
      refine j_if_lt (tgt := 53) (pc' := 40) dX12_wrote_37 rfl rfl q3 (fun b2 => ?_) (fun b2 => ?_)
      · replace h := ite_t b2 h
        refine j_iload_n (pc' := 54) dX12_wrote_53 rfl rfl ?_
        refine j_goto (tgt := 58) dX12_wrote_54 rfl ?_
        refine j_istore_n (pc' := 59) (ls' := [some (mR 133), none, some (mI x3), some (mI x3)]) dX12_wrote_58 rfl (by decide) rfl ?_
        refine j_iinc (pc' := 62) (z' := (x3 + 1)) (ls' := [some (mR 133), none, some (mI x3), some (mI (x3 + 1))]) dX12_wrote_59 rfl rfl rfl (by decide) rfl ?_
        refine j_goto (tgt := 28) dX12_wrote_62 rfl ?_
        exact j_wk (j_widen (ce := 0) (ke := 0) (by decide) (by decide) (ih h)) (And.intro rfl (And.intro rfl (And.intro rfl trivial)))
      · replace h := ite_f b2 h
        refine j_aload_n (pc' := 41) dX12_wrote_40 rfl rfl ?_
        refine j_iload_n (pc' := 42) dX12_wrote_41 rfl rfl ?_
        obtain ⟨v2, D2, e2, h⟩ := bI_o h
        refine k_cV (d' := 6) (pc' := 45) [mI x3] [] (c_X12_offOf (d := 6) (Nat.le_refl _) e2) cw_X12_495 kc_11 w_2161 ws_138 dX12_wrote_42 rfl (by omega) rfl rfl (by decide) sk_133 rfl rfl (by decide) (by decide) ?_
        refine j_aload_n (pc' := 46) dX12_wrote_45 rfl rfl ?_
        refine j_iload_n (pc' := 47) dX12_wrote_46 rfl rfl ?_
        obtain ⟨v3, D3, e3, h⟩ := bI_o h
        refine k_cV (d' := 6) (pc' := 50) [mI x2] [mI v2] (c_X12_offOf (d := 6) (Nat.le_refl _) e3) cw_X12_495 kc_11 w_2161 ws_138 dX12_wrote_47 rfl (by omega) rfl rfl (by decide) sk_133 rfl rfl (by decide) (by decide) ?_
        obtain ⟨q4, h⟩ := ck_o h
        obtain ⟨q5, h⟩ := ck_o h
        have hj : J Ω M_X12_wrote d 0 0 (rI r.1 r.2) 58 [some (mR 133), none, none, some (mI x3)] [mI (if v3 ≤ v2 then x2 else x3)] (SK, D3, false) 0 0 := by
          refine j_istore_n (pc' := 59) (ls' := [some (mR 133), none, some (mI (if v3 ≤ v2 then x2 else x3)), some (mI x3)]) dX12_wrote_58 rfl (by decide) rfl ?_
          refine j_iinc (pc' := 62) (z' := (x3 + 1)) (ls' := [some (mR 133), none, some (mI (if v3 ≤ v2 then x2 else x3)), some (mI (x3 + 1))]) dX12_wrote_59 rfl rfl rfl (by decide) rfl ?_
          refine j_goto (tgt := 28) dX12_wrote_62 rfl ?_
          exact j_wk (j_widen (ce := 0) (ke := 0) (by decide) (by decide) (ih h)) (And.intro rfl (And.intro rfl (And.intro rfl trivial)))
        refine j_icmp_ge (tgt := 57) (pc' := 53) dX12_wrote_50 rfl rfl q4 q5 (fun b3 => ?_) (fun b3 => ?_)
        · refine j_iload_n (pc' := 58) dX12_wrote_57 rfl rfl ?_
          have hj := hj
          try simp only [if_pos b3] at hj
          exact j_wk hj (And.intro rfl (And.intro rfl trivial))
        · refine j_iload_n (pc' := 54) dX12_wrote_53 rfl rfl ?_
          refine j_goto (tgt := 58) dX12_wrote_54 rfl ?_
          have hj := hj
          try simp only [if_neg b3] at hj
          exact j_wk hj (And.intro rfl (And.intro rfl trivial))
theorem c_X12_wrote_j15 {Ω : mO} {d : Nat} (hd : 7 ≤ d) {r : Int × mD} {s1 : Int} {D : mD} (h : F_X12_wrote_j15 s1 D = some r) : J Ω M_X12_wrote d 0 0 (rI r.1 r.2) 15 [some (mR 133), none, none, none] [mI s1, mR 133] (SK, D, false) 0 0 := by
  rw [F_X12_wrote_j15] at h
  refine j_iconst (pc' := 16) dX12_wrote_15 rfl ?_
  obtain ⟨v1, D1, e1, h⟩ := bI_o h
  refine k_cV (d' := 1) (pc' := 19) [mI s1, mI 1] [] (c_X12_throwsIf (d := 1) (Nat.le_refl _) e1) cw_X12_282 kc_11 w_1753 ws_76 dX12_wrote_16 rfl (by omega) rfl rfl (by decide) sk_133 rfl rfl (by decide) (by decide) ?_
  obtain ⟨q1, h⟩ := ck_o h
  refine j_if_eq (tgt := 24) (pc' := 22) dX12_wrote_19 rfl rfl q1 (fun b1 => ?_) (fun b1 => ?_)
  · replace h := ite_t b1 h
    refine j_iconst (pc' := 25) dX12_wrote_24 rfl ?_
    refine j_istore_n (pc' := 26) (ls' := [some (mR 133), none, some (mI (-1)), none]) dX12_wrote_25 rfl (by decide) rfl ?_
    refine j_iconst (pc' := 27) dX12_wrote_26 rfl ?_
    refine j_istore_n (pc' := 28) (ls' := [some (mR 133), none, some (mI (-1)), some (mI 0)]) dX12_wrote_27 rfl (by decide) rfl ?_
    exact j_wk (j_widen (ce := 0) (ke := 0) (by decide) (by decide) (c_X12_wrote_L28 hd _ h)) (And.intro rfl (And.intro rfl (And.intro rfl trivial)))
  · replace h := ite_f b1 h
    refine j_iconst (pc' := 23) dX12_wrote_22 rfl ?_
    exact j_iret dX12_wrote_23 rfl (by decide) (by decide) (rI_of h)
theorem c_X12_wrote_e {Ω : mO} {d : Nat} (hd : 7 ≤ d) {r : Int × mD} {D : mD} (h : F_X12_wrote D = some r) : J Ω M_X12_wrote d 0 0 (rI r.1 r.2) 0 [some (mR 133), none, none, none] [] (SK, D, false) 0 0 := by
  rw [F_X12_wrote] at h
  refine j_aload_n (pc' := 1) dX12_wrote_0 rfl rfl ?_
  obtain ⟨v1, D1, e1, h⟩ := bI_o h
  refine k_cV (d' := 2) (pc' := 4) [] [] (c_X12_isWhites (d := 2) (Nat.le_refl _) e1) cw_X12_492 kc_11 w_2157 ws_137 dX12_wrote_1 rfl (by omega) rfl rfl (by decide) sk_133 rfl rfl (by decide) (by decide) ?_
  refine j_istore_n (pc' := 5) (ls' := [some (mR 133), some (mI v1), none, none]) dX12_wrote_4 rfl (by decide) rfl ?_
  refine j_aload_n (pc' := 6) dX12_wrote_5 rfl rfl ?_
  refine j_iload_n (pc' := 7) dX12_wrote_6 rfl rfl ?_
  obtain ⟨q1, h⟩ := ck_o h
  have hj : J Ω M_X12_wrote d 0 0 (rI r.1 r.2) 15 [some (mR 133), none, none, none] [mI (if v1 = 0 then (1 : Int) else (0 : Int)), mR 133] (SK, D1, false) 0 0 := by
    exact j_wk (j_widen (ce := 0) (ke := 0) (by decide) (by decide) (c_X12_wrote_j15 hd h)) (And.intro rfl trivial)
  refine j_if_ne (tgt := 14) (pc' := 10) dX12_wrote_7 rfl rfl q1 (fun b1 => ?_) (fun b1 => ?_)
  · refine j_iconst (pc' := 15) dX12_wrote_14 rfl ?_
    have hj := hj
    try simp only [if_neg b1] at hj
    exact j_wk hj (And.intro rfl trivial)
  · refine j_iconst (pc' := 11) dX12_wrote_10 rfl ?_
    refine j_goto (tgt := 15) dX12_wrote_11 rfl ?_
    have hj := hj
    try simp only [if_pos b1] at hj
    exact j_wk hj (And.intro rfl trivial)
theorem c_X12_wrote {d : Nat} (hd : 7 ≤ d) {D D' : mD} {v : Int} (h : F_X12_wrote D = some (v, D')) : CM d 0 0 M_X12_wrote [mR 133] (SK, D, false) (rI v D') := CM.intro pn_X12 rfl rfl (Nat.le_of_ble_eq_true rfl) (fun _ => c_X12_wrote_e hd h)
theorem c_X12_likely_L42 {Ω : mO} {d : Nat} (hd : 6 ≤ d) {r : Int × mD} {x1 : Int} : ∀ (n : Nat) {x3 x4 : Int} {D : mD}, F_X12_likely_L42 x1 n x3 x4 D = some r → J Ω M_X12_likely d 0 0 (rI r.1 r.2) 42 [some (mR 133), some (mI x1), none, some (mI x3), some (mI x4)] [] (SK, D, false) 0 0 := by
  intro n
  induction n with
  | zero => intro x3 x4 D h; exact absurd (show (none : Option (Int × mD)) = some r from h) nofun
  | succ n ih =>
    intro x3 x4 D h
    rw [F_X12_likely_L42] at h
    refine j_iload (pc' := 44) dX12_likely_42 rfl rfl ?_
    refine j_aload_n (pc' := 45) dX12_likely_44 rfl rfl ?_
    refine k_getI (pc' := 48) (sl := 11) (z := D 133 11) kc_11 w_1488 (by decide) dX12_likely_45 rfl (by decide) sk_133 (by decide) rfl rfl ?_
    obtain ⟨q1, h⟩ := ck_o h
    obtain ⟨q2, h⟩ := ck_o h
    refine j_icmp_ge (tgt := 85) (pc' := 51) dX12_likely_48 rfl rfl q1 q2 (fun b1 => ?_) (fun b1 => ?_)
    · replace h := ite_t b1 h
      refine j_iload_n (pc' := 86) dX12_likely_85 rfl rfl ?_
      exact j_iret dX12_likely_86 rfl (by decide) (by decide) (rI_of h)
    · replace h := ite_f b1 h
      refine j_iload_n (pc' := 52) dX12_likely_51 rfl rfl ?_
      refine j_aload_n (pc' := 53) dX12_likely_52 rfl rfl ?_
      refine j_iload (pc' := 55) dX12_likely_53 rfl rfl ?_
      obtain ⟨v1, D1, e1, h⟩ := bI_o h
      refine k_cV (d' := 1) (pc' := 58) [mI x4] [mI x3] (c_X12_toldWhite (d := 1) (Nat.le_refl _) e1) cw_X12_486 kc_11 w_2165 ws_139 dX12_likely_55 rfl (by omega) rfl rfl (by decide) sk_133 rfl rfl (by decide) (by decide) ?_
      refine j_aload_n (pc' := 59) dX12_likely_58 rfl rfl ?_
      refine j_iload_n (pc' := 60) dX12_likely_59 rfl rfl ?_
      obtain ⟨v2, D2, e2, h⟩ := bI_o h
      refine k_cV (d' := 1) (pc' := 63) [mI x1] [mI v1, mI x3] (c_X12_writersWhite (d := 1) (Nat.le_refl _) e2) cw_X12_489 kc_11 w_2169 ws_140 dX12_likely_60 rfl (by omega) rfl rfl (by decide) sk_133 rfl rfl (by decide) (by decide) ?_
      refine j_isub (pc' := 64) dX12_likely_63 rfl ?_
      obtain ⟨q3, h⟩ := ck_o h
      refine k_abs (pc' := 67) cw_X12_359 w_614 dX12_likely_64 rfl (by omega) q3 rfl (by decide) (by decide) ?_
      refine j_bipush (pc' := 69) dX12_likely_67 rfl rfl ?_
      obtain ⟨q4, h⟩ := ck_o h
      have hj : J Ω M_X12_likely d 0 0 (rI r.1 r.2) 77 [some (mR 133), some (mI x1), none, none, some (mI x4)] [mI (if 10 < (Int.natAbs (v1 - v2) : Int) then (0 : Int) else (1 : Int)), mI x3] (SK, D2, false) 0 0 := by
        refine j_iadd (pc' := 78) dX12_likely_77 rfl ?_
        refine j_istore_n (pc' := 79) (ls' := [some (mR 133), some (mI x1), none, some (mI (x3 + (if 10 < (Int.natAbs (v1 - v2) : Int) then (0 : Int) else (1 : Int)))), some (mI x4)]) dX12_likely_78 rfl (by decide) rfl ?_
        refine j_iinc (pc' := 82) (z' := (x4 + 2)) (ls' := [some (mR 133), some (mI x1), none, some (mI (x3 + (if 10 < (Int.natAbs (v1 - v2) : Int) then (0 : Int) else (1 : Int)))), some (mI (x4 + 2))]) dX12_likely_79 rfl rfl rfl (by decide) rfl ?_
        refine j_goto (tgt := 42) dX12_likely_82 rfl ?_
        exact j_wk (j_widen (ce := 0) (ke := 0) (by decide) (by decide) (ih h)) (And.intro rfl (And.intro rfl (And.intro rfl (And.intro rfl trivial))))
      refine j_icmp_gt (tgt := 76) (pc' := 72) dX12_likely_69 rfl rfl q4 (by decide) (fun b2 => ?_) (fun b2 => ?_)
      · refine j_iconst (pc' := 77) dX12_likely_76 rfl ?_
        have hj := hj
        try simp only [if_pos b2] at hj
        exact j_wk hj (And.intro rfl (And.intro rfl (And.intro rfl trivial)))
      · refine j_iconst (pc' := 73) dX12_likely_72 rfl ?_
        refine j_goto (tgt := 77) dX12_likely_73 rfl ?_
        have hj := hj
        try simp only [if_neg b2] at hj
        exact j_wk hj (And.intro rfl (And.intro rfl (And.intro rfl trivial)))
theorem c_X12_likely_j28 {Ω : mO} {d : Nat} (hd : 6 ≤ d) {r : Int × mD} {x1 s1 : Int} {D : mD} (h : F_X12_likely_j28 x1 s1 D = some r) : J Ω M_X12_likely d 0 0 (rI r.1 r.2) 28 [some (mR 133), some (mI x1), none, none, none] [mI s1, mR 133] (SK, D, false) 0 0 := by
  rw [F_X12_likely_j28] at h
  refine j_iconst (pc' := 29) dX12_likely_28 rfl ?_
  obtain ⟨v1, D1, e1, h⟩ := bI_o h
  refine k_cV (d' := 1) (pc' := 32) [mI s1, mI 2] [] (c_X12_throwsIf (d := 1) (Nat.le_refl _) e1) cw_X12_282 kc_11 w_1753 ws_76 dX12_likely_29 rfl (by omega) rfl rfl (by decide) sk_133 rfl rfl (by decide) (by decide) ?_
  obtain ⟨q1, h⟩ := ck_o h
  refine j_if_eq (tgt := 37) (pc' := 35) dX12_likely_32 rfl rfl q1 (fun b1 => ?_) (fun b1 => ?_)
  · replace h := ite_t b1 h
    refine j_iconst (pc' := 38) dX12_likely_37 rfl ?_
    refine j_istore_n (pc' := 39) (ls' := [some (mR 133), some (mI x1), none, some (mI 0), none]) dX12_likely_38 rfl (by decide) rfl ?_
    refine j_iconst (pc' := 40) dX12_likely_39 rfl ?_
    refine j_istore (pc' := 42) (ls' := [some (mR 133), some (mI x1), none, some (mI 0), some (mI 0)]) dX12_likely_40 rfl (by decide) rfl ?_
    exact j_wk (j_widen (ce := 0) (ke := 0) (by decide) (by decide) (c_X12_likely_L42 hd _ h)) (And.intro rfl (And.intro rfl (And.intro rfl (And.intro rfl trivial))))
  · replace h := ite_f b1 h
    refine j_iconst (pc' := 36) dX12_likely_35 rfl ?_
    exact j_iret dX12_likely_36 rfl (by decide) (by decide) (rI_of h)
theorem c_X12_likely_e {Ω : mO} {d : Nat} (hd : 6 ≤ d) {r : Int × mD} {x1 : Int} {D : mD} (h : F_X12_likely x1 D = some r) : J Ω M_X12_likely d 0 0 (rI r.1 r.2) 0 [some (mR 133), some (mI x1), none, none, none] [] (SK, D, false) 0 0 := by
  rw [F_X12_likely] at h
  refine j_aload_n (pc' := 1) dX12_likely_0 rfl rfl ?_
  obtain ⟨v1, D1, e1, h⟩ := bI_o h
  refine k_cV (d' := 2) (pc' := 4) [] [] (c_X12_isWhites (d := 2) (Nat.le_refl _) e1) cw_X12_492 kc_11 w_2157 ws_137 dX12_likely_1 rfl (by omega) rfl rfl (by decide) sk_133 rfl rfl (by decide) (by decide) ?_
  refine j_istore_n (pc' := 5) (ls' := [some (mR 133), some (mI x1), some (mI v1), none, none]) dX12_likely_4 rfl (by decide) rfl ?_
  refine j_aload_n (pc' := 6) dX12_likely_5 rfl rfl ?_
  refine j_aload_n (pc' := 7) dX12_likely_6 rfl rfl ?_
  refine j_iload_n (pc' := 8) dX12_likely_7 rfl rfl ?_
  obtain ⟨v2, D2, e2, h⟩ := bI_o h
  refine k_cV (d' := 2) (pc' := 11) [mI x1] [mR 133] (c_X12_noWriter (d := 2) (Nat.le_refl _) e2) cw_X12_408 kc_11 w_1949 ws_106 dX12_likely_8 rfl (by omega) rfl rfl (by decide) sk_133 rfl rfl (by decide) (by decide) ?_
  refine j_iconst (pc' := 12) dX12_likely_11 rfl ?_
  obtain ⟨v3, D3, e3, h⟩ := bI_o h
  refine k_cV (d' := 1) (pc' := 15) [mI v2, mI 1] [] (c_X12_throwsIf (d := 1) (Nat.le_refl _) e3) cw_X12_282 kc_11 w_1753 ws_76 dX12_likely_12 rfl (by omega) rfl rfl (by decide) sk_133 rfl rfl (by decide) (by decide) ?_
  obtain ⟨q1, h⟩ := ck_o h
  refine j_if_ne (tgt := 35) (pc' := 18) dX12_likely_15 rfl rfl q1 (fun b1 => ?_) (fun b1 => ?_)
  · replace h := ite_f b1 h
    refine j_iconst (pc' := 36) dX12_likely_35 rfl ?_
    exact j_iret dX12_likely_36 rfl (by decide) (by decide) (rI_of h)
  · replace h := ite_t b1 h
    refine j_aload_n (pc' := 19) dX12_likely_18 rfl rfl ?_
    refine j_iload_n (pc' := 20) dX12_likely_19 rfl rfl ?_
    obtain ⟨q2, h⟩ := ck_o h
    have hj : J Ω M_X12_likely d 0 0 (rI r.1 r.2) 28 [some (mR 133), some (mI x1), none, none, none] [mI (if v1 = 0 then (1 : Int) else (0 : Int)), mR 133] (SK, D3, false) 0 0 := by
      exact j_wk (j_widen (ce := 0) (ke := 0) (by decide) (by decide) (c_X12_likely_j28 hd h)) (And.intro rfl (And.intro rfl trivial))
    refine j_if_ne (tgt := 27) (pc' := 23) dX12_likely_20 rfl rfl q2 (fun b2 => ?_) (fun b2 => ?_)
    · refine j_iconst (pc' := 28) dX12_likely_27 rfl ?_
      have hj := hj
      try simp only [if_neg b2] at hj
      exact j_wk hj (And.intro rfl (And.intro rfl trivial))
    · refine j_iconst (pc' := 24) dX12_likely_23 rfl ?_
      refine j_goto (tgt := 28) dX12_likely_24 rfl ?_
      have hj := hj
      try simp only [if_pos b2] at hj
      exact j_wk hj (And.intro rfl (And.intro rfl trivial))
theorem c_X12_likely {d : Nat} (hd : 6 ≤ d) {x1 : Int} {D D' : mD} {v : Int} (h : F_X12_likely x1 D = some (v, D')) : CM d 0 0 M_X12_likely [mR 133, mI x1] (SK, D, false) (rI v D') := CM.intro pn_X12 rfl rfl (Nat.le_of_ble_eq_true rfl) (fun _ => c_X12_likely_e hd h)
theorem c_X12_lookers_L15 {Ω : mO} {d : Nat} (hd : 11 ≤ d) {r : Int × mD} {x1 x2 : Int} : ∀ (n : Nat) {x3 x4 : Int} {D : mD}, F_X12_lookers_L15 x1 x2 n x3 x4 D = some r → J Ω M_X12_lookers d 0 0 (rI r.1 r.2) 15 [some (mR 133), some (mI x1), some (mI x2), some (mI x3), some (mI x4)] [] (SK, D, false) 0 0 := by
  intro n
  induction n with
  | zero => intro x3 x4 D h; exact absurd (show (none : Option (Int × mD)) = some r from h) nofun
  | succ n ih =>
    intro x3 x4 D h
    rw [F_X12_lookers_L15] at h
    refine j_iload (pc' := 17) dX12_lookers_15 rfl rfl ?_
    refine j_aload_n (pc' := 18) dX12_lookers_17 rfl rfl ?_
    refine k_getR (pc' := 21) (sl := 1) (r := 134) kc_11 w_1478 (Or.inl rfl) (by decide) dX12_lookers_18 rfl (by decide) sk_133 (by decide) rfl (by decide) ?_
    refine j_bipush (pc' := 23) dX12_lookers_21 rfl rfl ?_
    refine k_iald (pc' := 24) (z := D 134 8) dX12_lookers_23 rfl (by decide) sk_134 (by decide) (by decide) (by decide) rfl ?_
    obtain ⟨q1, h⟩ := ck_o h
    obtain ⟨q2, h⟩ := ck_o h
    refine j_icmp_ge (tgt := 56) (pc' := 27) dX12_lookers_24 rfl rfl q1 q2 (fun b1 => ?_) (fun b1 => ?_)
    · replace h := ite_t b1 h
      refine j_aload_n (pc' := 57) dX12_lookers_56 rfl rfl ?_
      refine k_getR (pc' := 60) (sl := 1) (r := 134) kc_11 w_1478 (Or.inl rfl) (by decide) dX12_lookers_57 rfl (by decide) sk_133 (by decide) rfl (by decide) ?_
      refine j_bipush (pc' := 62) dX12_lookers_60 rfl rfl ?_
      refine k_iald (pc' := 63) (z := D 134 8) dX12_lookers_62 rfl (by decide) sk_134 (by decide) (by decide) (by decide) rfl ?_
      refine j_iload_n (pc' := 64) dX12_lookers_63 rfl rfl ?_
      refine j_isub (pc' := 65) dX12_lookers_64 rfl ?_
      refine j_istore (pc' := 67) (ls' := [some (mR 133), some (mI x1), some (mI x2), some (mI x3), some (mI ((D 134 8) - x3))]) dX12_lookers_65 rfl (by decide) rfl ?_
      refine j_iload_n (pc' := 68) dX12_lookers_67 rfl rfl ?_
      obtain ⟨q3, h⟩ := ck_o h
      obtain ⟨q4, h⟩ := ck_o h
      obtain ⟨q5, h⟩ := ck_o h
      have hj : J Ω M_X12_lookers d 0 0 (rI r.1 r.2) 90 [none, none, none, none, none] [mI (if x1 = 0 then x3 else (((x3 * (x3 - 1)) + (((D 134 8) - x3) * (((D 134 8) - x3) - 1))) / 2))] (SK, D, false) 0 0 := by
        exact j_iret dX12_lookers_90 rfl (by decide) (by decide) (rI_of h)
      refine j_if_eq (tgt := 89) (pc' := 71) dX12_lookers_68 rfl rfl q3 (fun b2 => ?_) (fun b2 => ?_)
      · refine j_iload_n (pc' := 90) dX12_lookers_89 rfl rfl ?_
        have hj := hj
        try simp only [if_pos b2] at hj
        exact j_wk hj (trivial)
      · refine j_iload_n (pc' := 72) dX12_lookers_71 rfl rfl ?_
        refine j_iload_n (pc' := 73) dX12_lookers_72 rfl rfl ?_
        refine j_iconst (pc' := 74) dX12_lookers_73 rfl ?_
        refine j_isub (pc' := 75) dX12_lookers_74 rfl ?_
        refine j_imul (pc' := 76) dX12_lookers_75 rfl ?_
        refine j_iload (pc' := 78) dX12_lookers_76 rfl rfl ?_
        refine j_iload (pc' := 80) dX12_lookers_78 rfl rfl ?_
        refine j_iconst (pc' := 81) dX12_lookers_80 rfl ?_
        refine j_isub (pc' := 82) dX12_lookers_81 rfl ?_
        refine j_imul (pc' := 83) dX12_lookers_82 rfl ?_
        refine j_iadd (pc' := 84) dX12_lookers_83 rfl ?_
        refine j_iconst (pc' := 85) dX12_lookers_84 rfl ?_
        refine j_idiv (pc' := 86) dX12_lookers_85 rfl (q4 b2) (by decide) (q5 b2) (by decide) ?_
        refine j_goto (tgt := 90) dX12_lookers_86 rfl ?_
        have hj := hj
        try simp only [if_neg b2] at hj
        exact j_wk hj (trivial)
    · replace h := ite_f b1 h
      refine j_iload_n (pc' := 28) dX12_lookers_27 rfl rfl ?_
      refine j_iload_n (pc' := 29) dX12_lookers_28 rfl rfl ?_
      refine j_aload_n (pc' := 30) dX12_lookers_29 rfl rfl ?_
      refine k_getR (pc' := 33) (sl := 1) (r := 134) kc_11 w_1478 (Or.inl rfl) (by decide) dX12_lookers_30 rfl (by decide) sk_133 (by decide) rfl (by decide) ?_
      refine j_sipush (pc' := 36) dX12_lookers_33 rfl rfl ?_
      refine j_iload (pc' := 38) dX12_lookers_36 rfl rfl ?_
      refine j_iadd (pc' := 39) dX12_lookers_38 rfl ?_
      obtain ⟨q6, h⟩ := ck_o h
      refine k_iald (pc' := 40) (z := D 134 (227 + x4)) dX12_lookers_39 rfl (by decide) sk_134 (by decide) q6.1 q6.2 rfl ?_
      obtain ⟨q7, h⟩ := ck_o h
      obtain ⟨q8, h⟩ := ck_o h
      have hj : J Ω M_X12_lookers d 0 0 (rI r.1 r.2) 48 [some (mR 133), some (mI x1), some (mI x2), none, some (mI x4)] [mI (if (D 134 (227 + x4)) ≤ x2 then (0 : Int) else (1 : Int)), mI x3] (SK, D, false) 0 0 := by
        refine j_iadd (pc' := 49) dX12_lookers_48 rfl ?_
        refine j_istore_n (pc' := 50) (ls' := [some (mR 133), some (mI x1), some (mI x2), some (mI (x3 + (if (D 134 (227 + x4)) ≤ x2 then (0 : Int) else (1 : Int)))), some (mI x4)]) dX12_lookers_49 rfl (by decide) rfl ?_
        refine j_iinc (pc' := 53) (z' := (x4 + 1)) (ls' := [some (mR 133), some (mI x1), some (mI x2), some (mI (x3 + (if (D 134 (227 + x4)) ≤ x2 then (0 : Int) else (1 : Int)))), some (mI (x4 + 1))]) dX12_lookers_50 rfl rfl rfl (by decide) rfl ?_
        refine j_goto (tgt := 15) dX12_lookers_53 rfl ?_
        exact j_wk (j_widen (ce := 0) (ke := 0) (by decide) (by decide) (ih h)) (And.intro rfl (And.intro rfl (And.intro rfl (And.intro rfl (And.intro rfl trivial)))))
      refine j_icmp_ge (tgt := 47) (pc' := 43) dX12_lookers_40 rfl rfl q7 q8 (fun b3 => ?_) (fun b3 => ?_)
      · refine j_iconst (pc' := 48) dX12_lookers_47 rfl ?_
        have hj := hj
        try simp only [if_pos b3] at hj
        exact j_wk hj (And.intro rfl (And.intro rfl (And.intro rfl (And.intro rfl trivial))))
      · refine j_iconst (pc' := 44) dX12_lookers_43 rfl ?_
        refine j_goto (tgt := 48) dX12_lookers_44 rfl ?_
        have hj := hj
        try simp only [if_neg b3] at hj
        exact j_wk hj (And.intro rfl (And.intro rfl (And.intro rfl (And.intro rfl trivial))))
theorem c_X12_lookers_e {Ω : mO} {d : Nat} (hd : 11 ≤ d) {r : Int × mD} {x1 : Int} {D : mD} (h : F_X12_lookers x1 D = some r) : J Ω M_X12_lookers d 0 0 (rI r.1 r.2) 0 [some (mR 133), some (mI x1), none, none, none] [] (SK, D, false) 0 0 := by
  rw [F_X12_lookers] at h
  refine j_aload_n (pc' := 1) dX12_lookers_0 rfl rfl ?_
  refine j_iconst (pc' := 2) dX12_lookers_1 rfl ?_
  refine k_putI (pc' := 5) (sl := 0) (i' := 0) kc_11 w_1477 (by decide) (Or.inl rfl) dX12_lookers_2 rfl (by decide) sk_133 (by decide) ⟨rfl, rfl⟩ rfl ?_
  refine j_aload_n (pc' := 6) dX12_lookers_5 rfl rfl ?_
  obtain ⟨v1, D1, e1, h⟩ := bI_o h
  refine k_cV (d' := 10) (pc' := 9) [] [] (c_X12_unevenNow (d := 10) (Nat.le_refl _) e1) cw_X12_435 kc_11 w_2021 ws_120 dX12_lookers_6 rfl (by omega) rfl rfl (by decide) sk_133 rfl rfl (by decide) (by decide) ?_
  refine j_istore_n (pc' := 10) (ls' := [some (mR 133), some (mI x1), some (mI v1), none, none]) dX12_lookers_9 rfl (by decide) rfl ?_
  refine j_iconst (pc' := 11) dX12_lookers_10 rfl ?_
  refine j_istore_n (pc' := 12) (ls' := [some (mR 133), some (mI x1), some (mI v1), some (mI 0), none]) dX12_lookers_11 rfl (by decide) rfl ?_
  refine j_iconst (pc' := 13) dX12_lookers_12 rfl ?_
  refine j_istore (pc' := 15) (ls' := [some (mR 133), some (mI x1), some (mI v1), some (mI 0), some (mI 0)]) dX12_lookers_13 rfl (by decide) rfl ?_
  exact j_wk (j_widen (ce := 0) (ke := 0) (by decide) (by decide) (c_X12_lookers_L15 hd _ h)) (And.intro rfl (And.intro rfl (And.intro rfl (And.intro rfl (And.intro rfl trivial)))))
theorem c_X12_lookers {d : Nat} (hd : 11 ≤ d) {x1 : Int} {D D' : mD} {v : Int} (h : F_X12_lookers x1 D = some (v, D')) : CM d 0 0 M_X12_lookers [mR 133, mI x1] (SK, D, false) (rI v D') := CM.intro pn_X12 rfl rfl (Nat.le_of_ble_eq_true rfl) (fun _ => c_X12_lookers_e hd h)
theorem c_X12_tries_L2 {Ω : mO} {d : Nat} (hd : 10 ≤ d) {r : Int × mD} {x1 x2 : Int} : ∀ (n : Nat) {x3 : Int} {D : mD}, F_X12_tries_L2 x1 x2 n x3 D = some r → J Ω M_X12_tries d 0 0 (rV r.2) 2 [some (mR 133), some (mI x1), some (mI x2), some (mI x3)] [] (SK, D, false) 0 0 := by
  intro n
  induction n with
  | zero => intro x3 D h; exact absurd (show (none : Option (Int × mD)) = some r from h) nofun
  | succ n ih =>
    intro x3 D h
    rw [F_X12_tries_L2] at h
    refine j_iload_n (pc' := 3) dX12_tries_2 rfl rfl ?_
    refine j_iload_n (pc' := 4) dX12_tries_3 rfl rfl ?_
    obtain ⟨q1, h⟩ := ck_o h
    obtain ⟨q2, h⟩ := ck_o h
    refine j_icmp_ge (tgt := 19) (pc' := 7) dX12_tries_4 rfl rfl q1 q2 (fun b1 => ?_) (fun b1 => ?_)
    · replace h := ite_t b1 h
      exact j_vret dX12_tries_19 rfl (by decide) (by decide) (rV_of h)
    · replace h := ite_f b1 h
      refine j_aload_n (pc' := 8) dX12_tries_7 rfl rfl ?_
      refine j_iload_n (pc' := 9) dX12_tries_8 rfl rfl ?_
      obtain ⟨v1, D1, e1, h⟩ := bI_o h
      refine k_cV (d' := 9) (pc' := 12) [mI x1] [] (c_X12_paints (d := 9) (Nat.le_refl _) e1) cw_X12_411 kc_11 w_1953 ws_107 dX12_tries_9 rfl (by omega) rfl rfl (by decide) sk_133 rfl rfl (by decide) (by decide) ?_
      refine j_pop (pc' := 13) dX12_tries_12 rfl rfl ?_
      refine j_iinc (pc' := 16) (z' := (x3 + 1)) (ls' := [some (mR 133), some (mI x1), some (mI x2), some (mI (x3 + 1))]) dX12_tries_13 rfl rfl rfl (by decide) rfl ?_
      refine j_goto (tgt := 2) dX12_tries_16 rfl ?_
      exact j_wk (j_widen (ce := 0) (ke := 0) (by decide) (by decide) (ih h)) (And.intro rfl (And.intro rfl (And.intro rfl (And.intro rfl trivial))))
theorem c_X12_tries_e {Ω : mO} {d : Nat} (hd : 10 ≤ d) {r : Int × mD} {x1 x2 : Int} {D : mD} (h : F_X12_tries x1 x2 D = some r) : J Ω M_X12_tries d 0 0 (rV r.2) 0 [some (mR 133), some (mI x1), some (mI x2), none] [] (SK, D, false) 0 0 := by
  rw [F_X12_tries] at h
  refine j_iconst (pc' := 1) dX12_tries_0 rfl ?_
  refine j_istore_n (pc' := 2) (ls' := [some (mR 133), some (mI x1), some (mI x2), some (mI 0)]) dX12_tries_1 rfl (by decide) rfl ?_
  exact j_wk (j_widen (ce := 0) (ke := 0) (by decide) (by decide) (c_X12_tries_L2 hd _ h)) (And.intro rfl (And.intro rfl (And.intro rfl (And.intro rfl trivial))))
theorem c_X12_tries {d : Nat} (hd : 10 ≤ d) {x1 x2 : Int} {D D' : mD} {v : Int} (h : F_X12_tries x1 x2 D = some (v, D')) : CM d 0 0 M_X12_tries [mR 133, mI x1, mI x2] (SK, D, false) (rV D') := CM.intro pn_X12 rfl rfl (Nat.le_of_ble_eq_true rfl) (fun _ => c_X12_tries_e hd h)
theorem c_X12_trial_j71 {Ω : mO} {d : Nat} (hd : 11 ≤ d) {r : Int × mD} {s0 : Int} {D : mD} (h : F_X12_trial_j71 s0 D = some r) : J Ω M_X12_trial d 0 0 (rI r.1 r.2) 71 [some (mR 133), none, none, none, none] [mI s0] (SK, D, false) 0 0 := by
  rw [F_X12_trial_j71] at h
  refine j_istore (pc' := 73) (ls' := [some (mR 133), none, none, none, some (mI s0)]) dX12_trial_71 rfl (by decide) rfl ?_
  refine j_aload_n (pc' := 74) dX12_trial_73 rfl rfl ?_
  obtain ⟨v1, D1, e1, h⟩ := bI_o h
  refine k_cVv (d' := 1) (pc' := 77) [] [] (c_X12_bringsBack (d := 1) (Nat.le_refl _) e1) cw_X12_423 kc_11 w_1998 ws_117 dX12_trial_74 rfl (by omega) rfl rfl (by decide) sk_133 rfl rfl (by decide) (by decide) ?_
  refine j_iload (pc' := 79) dX12_trial_77 rfl rfl ?_
  exact j_iret dX12_trial_79 rfl (by decide) (by decide) (rI_of h)
theorem c_X12_trial_j34 {Ω : mO} {d : Nat} (hd : 11 ≤ d) {r : Int × mD} {x1 x2 x3 s1 : Int} {D : mD} (h : F_X12_trial_j34 x1 x2 x3 s1 D = some r) : J Ω M_X12_trial d 0 0 (rI r.1 r.2) 34 [some (mR 133), some (mI x1), some (mI x2), some (mI x3), none] [mI s1, mR 133] (SK, D, false) 0 0 := by
  rw [F_X12_trial_j34] at h
  refine j_iconst (pc' := 35) dX12_trial_34 rfl ?_
  obtain ⟨v1, D1, e1, h⟩ := bI_o h
  refine k_cV (d' := 1) (pc' := 38) [mI s1, mI 2] [] (c_X12_throwsIf (d := 1) (Nat.le_refl _) e1) cw_X12_282 kc_11 w_1753 ws_76 dX12_trial_35 rfl (by omega) rfl rfl (by decide) sk_133 rfl rfl (by decide) (by decide) ?_
  obtain ⟨q1, h⟩ := ck_o h
  refine j_if_eq (tgt := 43) (pc' := 41) dX12_trial_38 rfl rfl q1 (fun b1 => ?_) (fun b1 => ?_)
  · replace h := ite_t b1 h
    refine j_aload_n (pc' := 44) dX12_trial_43 rfl rfl ?_
    obtain ⟨v2, D2, e2, h⟩ := bI_o h
    refine k_cVv (d' := 1) (pc' := 47) [] [] (c_X12_keepsAll (d := 1) (Nat.le_refl _) e2) cw_X12_414 kc_11 w_1986 ws_114 dX12_trial_44 rfl (by omega) rfl rfl (by decide) sk_133 rfl rfl (by decide) (by decide) ?_
    refine j_aload_n (pc' := 48) dX12_trial_47 rfl rfl ?_
    refine j_iload_n (pc' := 49) dX12_trial_48 rfl rfl ?_
    refine j_iload_n (pc' := 50) dX12_trial_49 rfl rfl ?_
    obtain ⟨v3, D3, e3, h⟩ := bI_o h
    refine k_cVv (d' := 10) (pc' := 53) [mI x1, mI x2] [] (c_X12_tries (d := 10) (Nat.le_refl _) e3) cw_X12_498 kc_11 w_2185 ws_141 dX12_trial_50 rfl (by omega) rfl rfl (by decide) sk_133 rfl rfl (by decide) (by decide) ?_
    refine j_iload_n (pc' := 54) dX12_trial_53 rfl rfl ?_
    obtain ⟨q2, h⟩ := ck_o h
    refine j_if_eq (tgt := 67) (pc' := 57) dX12_trial_54 rfl rfl q2 (fun b2 => ?_) (fun b2 => ?_)
    · replace h := ite_t b2 h
      refine j_aload_n (pc' := 68) dX12_trial_67 rfl rfl ?_
      obtain ⟨v4, D4, e4, h⟩ := bI_o h
      refine k_cV (d' := 10) (pc' := 71) [] [] (c_X12_unevenNow (d := 10) (Nat.le_refl _) e4) cw_X12_435 kc_11 w_2021 ws_120 dX12_trial_68 rfl (by omega) rfl rfl (by decide) sk_133 rfl rfl (by decide) (by decide) ?_
      exact j_wk (j_widen (ce := 0) (ke := 0) (by decide) (by decide) (c_X12_trial_j71 hd h)) (And.intro rfl trivial)
    · replace h := ite_f b2 h
      refine j_aload_n (pc' := 58) dX12_trial_57 rfl rfl ?_
      obtain ⟨v5, D5, e5, h⟩ := bI_o h
      refine k_cV (d' := 3) (pc' := 61) [] [] (c_X12_painted (d := 3) (Nat.le_refl _) e5) cw_X12_417 kc_11 w_1990 ws_115 dX12_trial_58 rfl (by omega) rfl rfl (by decide) sk_133 rfl rfl (by decide) (by decide) ?_
      obtain ⟨q3, h⟩ := ck_o h
      refine k_cS (d' := 1) (pc' := 64) [mI v5] [] (k_bc (d := 1) (Nat.le_refl _) ) cw_X12_501 w_688 dX12_trial_61 rfl (by omega) rfl rfl rfl rfl (by decide) (by decide) ?_
      refine j_goto (tgt := 71) dX12_trial_64 rfl ?_
      exact j_wk (j_widen (ce := 0) (ke := 0) (by decide) (by decide) (c_X12_trial_j71 hd h)) (And.intro rfl trivial)
  · replace h := ite_f b1 h
    refine j_iconst (pc' := 42) dX12_trial_41 rfl ?_
    exact j_iret dX12_trial_42 rfl (by decide) (by decide) (rI_of h)
theorem c_X12_trial_e {Ω : mO} {d : Nat} (hd : 11 ≤ d) {r : Int × mD} {x1 x2 x3 : Int} {D : mD} (h : F_X12_trial x1 x2 x3 D = some r) : J Ω M_X12_trial d 0 0 (rI r.1 r.2) 0 [some (mR 133), some (mI x1), some (mI x2), some (mI x3), none] [] (SK, D, false) 0 0 := by
  rw [F_X12_trial] at h
  refine j_aload_n (pc' := 1) dX12_trial_0 rfl rfl ?_
  refine j_iconst (pc' := 2) dX12_trial_1 rfl ?_
  refine k_putI (pc' := 5) (sl := 0) (i' := 0) kc_11 w_1477 (by decide) (Or.inl rfl) dX12_trial_2 rfl (by decide) sk_133 (by decide) ⟨rfl, rfl⟩ rfl ?_
  refine j_aload_n (pc' := 6) dX12_trial_5 rfl rfl ?_
  refine j_aload_n (pc' := 7) dX12_trial_6 rfl rfl ?_
  refine j_iload_n (pc' := 8) dX12_trial_7 rfl rfl ?_
  obtain ⟨v1, D1, e1, h⟩ := bI_o h
  refine k_cV (d' := 2) (pc' := 11) [mI x1] [mR 133] (c_X12_noWriter (d := 2) (Nat.le_refl _) e1) cw_X12_408 kc_11 w_1949 ws_106 dX12_trial_8 rfl (by omega) rfl rfl (by decide) sk_133 rfl rfl (by decide) (by decide) ?_
  refine j_iconst (pc' := 12) dX12_trial_11 rfl ?_
  obtain ⟨v2, D2, e2, h⟩ := bI_o h
  refine k_cV (d' := 1) (pc' := 15) [mI v1, mI 1] [] (c_X12_throwsIf (d := 1) (Nat.le_refl _) e2) cw_X12_282 kc_11 w_1753 ws_76 dX12_trial_12 rfl (by omega) rfl rfl (by decide) sk_133 rfl rfl (by decide) (by decide) ?_
  obtain ⟨q1, h⟩ := ck_o h
  refine j_if_ne (tgt := 41) (pc' := 18) dX12_trial_15 rfl rfl q1 (fun b1 => ?_) (fun b1 => ?_)
  · replace h := ite_f b1 h
    refine j_iconst (pc' := 42) dX12_trial_41 rfl ?_
    exact j_iret dX12_trial_42 rfl (by decide) (by decide) (rI_of h)
  · replace h := ite_t b1 h
    refine j_aload_n (pc' := 19) dX12_trial_18 rfl rfl ?_
    refine j_iload_n (pc' := 20) dX12_trial_19 rfl rfl ?_
    refine j_iconst (pc' := 21) dX12_trial_20 rfl ?_
    refine j_bipush (pc' := 23) dX12_trial_21 rfl rfl ?_
    obtain ⟨v3, D3, e3, h⟩ := bI_o h
    refine k_cS (d' := 1) (pc' := 26) [mI x2, mI 0, mI 40] [mR 133] (c_X12_in (d := 1) (Nat.le_refl _) e3) cw_X12_90 w_1768 dX12_trial_23 rfl (by omega) rfl rfl rfl rfl (by decide) (by decide) ?_
    obtain ⟨q2, h⟩ := ck_o h
    have hj : J Ω M_X12_trial d 0 0 (rI r.1 r.2) 34 [some (mR 133), some (mI x1), some (mI x2), some (mI x3), none] [mI (if v3 = 0 then (1 : Int) else (0 : Int)), mR 133] (SK, D3, false) 0 0 := by
      exact j_wk (j_widen (ce := 0) (ke := 0) (by decide) (by decide) (c_X12_trial_j34 hd h)) (And.intro rfl (And.intro rfl (And.intro rfl (And.intro rfl trivial))))
    refine j_if_ne (tgt := 33) (pc' := 29) dX12_trial_26 rfl rfl q2 (fun b2 => ?_) (fun b2 => ?_)
    · refine j_iconst (pc' := 34) dX12_trial_33 rfl ?_
      have hj := hj
      try simp only [if_neg b2] at hj
      exact j_wk hj (And.intro rfl (And.intro rfl (And.intro rfl (And.intro rfl trivial))))
    · refine j_iconst (pc' := 30) dX12_trial_29 rfl ?_
      refine j_goto (tgt := 34) dX12_trial_30 rfl ?_
      have hj := hj
      try simp only [if_pos b2] at hj
      exact j_wk hj (And.intro rfl (And.intro rfl (And.intro rfl (And.intro rfl trivial))))
theorem c_X12_trial {d : Nat} (hd : 11 ≤ d) {x1 x2 x3 : Int} {D D' : mD} {v : Int} (h : F_X12_trial x1 x2 x3 D = some (v, D')) : CM d 0 0 M_X12_trial [mR 133, mI x1, mI x2, mI x3] (SK, D, false) (rI v D') := CM.intro pn_X12 rfl rfl (Nat.le_of_ble_eq_true rfl) (fun _ => c_X12_trial_e hd h)
theorem c_X12_span_L53 {Ω : mO} {d : Nat} (hd : 11 ≤ d) {r : Int × mD} {x1 x2 x3 : Int} : ∀ (n : Nat) {x4 x5 : Int} {D : mD}, F_X12_span_L53 x1 x2 x3 n x4 x5 D = some r → J Ω M_X12_span d 0 0 (rI r.1 r.2) 53 [some (mR 133), some (mI x1), some (mI x2), some (mI x3), some (mI x4), some (mI x5), none] [] (SK, D, false) 0 0 := by
  intro n
  induction n with
  | zero => intro x4 x5 D h; exact absurd (show (none : Option (Int × mD)) = some r from h) nofun
  | succ n ih =>
    intro x4 x5 D h
    rw [F_X12_span_L53] at h
    refine j_iload (pc' := 55) dX12_span_53 rfl rfl ?_
    refine j_bipush (pc' := 57) dX12_span_55 rfl rfl ?_
    obtain ⟨q1, h⟩ := ck_o h
    refine j_icmp_gt (tgt := 124) (pc' := 60) dX12_span_57 rfl rfl q1 (by decide) (fun b1 => ?_) (fun b1 => ?_)
    · replace h := ite_t b1 h
      refine j_iload (pc' := 126) dX12_span_124 rfl rfl ?_
      exact j_iret dX12_span_126 rfl (by decide) (by decide) (rI_of h)
    · replace h := ite_f b1 h
      refine j_aload_n (pc' := 61) dX12_span_60 rfl rfl ?_
      refine k_getR (pc' := 64) (sl := 1) (r := 134) kc_11 w_1478 (Or.inl rfl) (by decide) dX12_span_61 rfl (by decide) sk_133 (by decide) rfl (by decide) ?_
      refine j_bipush (pc' := 66) dX12_span_64 rfl rfl ?_
      refine j_iload (pc' := 68) dX12_span_66 rfl rfl ?_
      refine k_iast (pc' := 69) dX12_span_68 rfl (by decide) sk_134 (by decide) (by decide) (by decide) ?_
      refine j_aload_n (pc' := 70) dX12_span_69 rfl rfl ?_
      refine j_iload_n (pc' := 71) dX12_span_70 rfl rfl ?_
      refine j_iload_n (pc' := 72) dX12_span_71 rfl rfl ?_
      obtain ⟨v1, D1, e1, h⟩ := bI_o h
      refine k_cVv (d' := 10) (pc' := 75) [mI x1, mI x2] [] (c_X12_tries (d := 10) (Nat.le_refl _) e1) cw_X12_498 kc_11 w_2185 ws_141 dX12_span_72 rfl (by omega) rfl rfl (by decide) sk_133 rfl rfl (by decide) (by decide) ?_
      refine j_aload_n (pc' := 76) dX12_span_75 rfl rfl ?_
      obtain ⟨v2, D2, e2, h⟩ := bI_o h
      refine k_cV (d' := 10) (pc' := 79) [] [] (c_X12_unevenNow (d := 10) (Nat.le_refl _) e2) cw_X12_435 kc_11 w_2021 ws_120 dX12_span_76 rfl (by omega) rfl rfl (by decide) sk_133 rfl rfl (by decide) (by decide) ?_
      refine j_istore (pc' := 81) (ls' := [some (mR 133), some (mI x1), some (mI x2), some (mI x3), some (mI x4), some (mI x5), some (mI v2)]) dX12_span_79 rfl (by decide) rfl ?_
      refine j_aload_n (pc' := 82) dX12_span_81 rfl rfl ?_
      obtain ⟨v3, D3, e3, h⟩ := bI_o h
      refine k_cVv (d' := 1) (pc' := 85) [] [] (c_X12_bringsBack (d := 1) (Nat.le_refl _) e3) cw_X12_423 kc_11 w_1998 ws_117 dX12_span_82 rfl (by omega) rfl rfl (by decide) sk_133 rfl rfl (by decide) (by decide) ?_
      refine j_iload (pc' := 87) dX12_span_85 rfl rfl ?_
      obtain ⟨q2, h⟩ := ck_o h
      obtain ⟨q3, h⟩ := ck_o h
      obtain ⟨q4, h⟩ := ck_o h
      obtain ⟨q5, h⟩ := ck_o h
      have hj : J Ω M_X12_span d 0 0 (rI r.1 r.2) 116 [some (mR 133), some (mI x1), some (mI x2), some (mI x3), none, some (mI x5), none] [mI (if 0 ≤ x4 then (if x3 = 0 then (min x4 v2) else (max x4 v2)) else v2)] (SK, D3, false) 0 0 := by
        refine j_istore (pc' := 118) (ls' := [some (mR 133), some (mI x1), some (mI x2), some (mI x3), some (mI (if 0 ≤ x4 then (if x3 = 0 then (min x4 v2) else (max x4 v2)) else v2)), some (mI x5), none]) dX12_span_116 rfl (by decide) rfl ?_
        refine j_iinc (pc' := 121) (z' := (x5 + 1)) (ls' := [some (mR 133), some (mI x1), some (mI x2), some (mI x3), some (mI (if 0 ≤ x4 then (if x3 = 0 then (min x4 v2) else (max x4 v2)) else v2)), some (mI (x5 + 1)), none]) dX12_span_118 rfl rfl rfl (by decide) rfl ?_
        refine j_goto (tgt := 53) dX12_span_121 rfl ?_
        exact j_wk (j_widen (ce := 0) (ke := 0) (by decide) (by decide) (ih h)) (And.intro rfl (And.intro rfl (And.intro rfl (And.intro rfl (And.intro rfl (And.intro rfl trivial))))))
      refine j_if_ge (tgt := 95) (pc' := 90) dX12_span_87 rfl rfl q2 (fun b2 => ?_) (fun b2 => ?_)
      · refine j_iload_n (pc' := 96) dX12_span_95 rfl rfl ?_
        refine j_if_eq (tgt := 109) (pc' := 99) dX12_span_96 rfl rfl (q3 b2) (fun b3 => ?_) (fun b3 => ?_)
        · refine j_iload (pc' := 111) dX12_span_109 rfl rfl ?_
          refine j_iload (pc' := 113) dX12_span_111 rfl rfl ?_
          refine k_min (pc' := 116) cw_X12_310 w_560 dX12_span_113 rfl (by omega) q2 (q4 b2 b3) rfl (by decide) (by decide) ?_
          have hj := hj
          try simp only [if_pos b2, if_pos b3] at hj
          exact j_wk hj (And.intro rfl (And.intro rfl (And.intro rfl (And.intro rfl (And.intro rfl trivial)))))
        · refine j_iload (pc' := 101) dX12_span_99 rfl rfl ?_
          refine j_iload (pc' := 103) dX12_span_101 rfl rfl ?_
          refine k_max (pc' := 106) cw_X12_72 w_541 dX12_span_103 rfl (by omega) q2 (q5 b2 b3) rfl (by decide) (by decide) ?_
          refine j_goto (tgt := 116) dX12_span_106 rfl ?_
          have hj := hj
          try simp only [if_pos b2, if_neg b3] at hj
          exact j_wk hj (And.intro rfl (And.intro rfl (And.intro rfl (And.intro rfl (And.intro rfl trivial)))))
      · refine j_iload (pc' := 92) dX12_span_90 rfl rfl ?_
        refine j_goto (tgt := 116) dX12_span_92 rfl ?_
        have hj := hj
        try simp only [if_neg b2] at hj
        exact j_wk hj (And.intro rfl (And.intro rfl (And.intro rfl (And.intro rfl (And.intro rfl trivial)))))
theorem c_X12_span_j34 {Ω : mO} {d : Nat} (hd : 11 ≤ d) {r : Int × mD} {x1 x2 x3 s1 : Int} {D : mD} (h : F_X12_span_j34 x1 x2 x3 s1 D = some r) : J Ω M_X12_span d 0 0 (rI r.1 r.2) 34 [some (mR 133), some (mI x1), some (mI x2), some (mI x3), none, none, none] [mI s1, mR 133] (SK, D, false) 0 0 := by
  rw [F_X12_span_j34] at h
  refine j_iconst (pc' := 35) dX12_span_34 rfl ?_
  obtain ⟨v1, D1, e1, h⟩ := bI_o h
  refine k_cV (d' := 1) (pc' := 38) [mI s1, mI 2] [] (c_X12_throwsIf (d := 1) (Nat.le_refl _) e1) cw_X12_282 kc_11 w_1753 ws_76 dX12_span_35 rfl (by omega) rfl rfl (by decide) sk_133 rfl rfl (by decide) (by decide) ?_
  obtain ⟨q1, h⟩ := ck_o h
  refine j_if_eq (tgt := 43) (pc' := 41) dX12_span_38 rfl rfl q1 (fun b1 => ?_) (fun b1 => ?_)
  · replace h := ite_t b1 h
    refine j_aload_n (pc' := 44) dX12_span_43 rfl rfl ?_
    obtain ⟨v2, D2, e2, h⟩ := bI_o h
    refine k_cVv (d' := 1) (pc' := 47) [] [] (c_X12_keepsAll (d := 1) (Nat.le_refl _) e2) cw_X12_414 kc_11 w_1986 ws_114 dX12_span_44 rfl (by omega) rfl rfl (by decide) sk_133 rfl rfl (by decide) (by decide) ?_
    refine j_iconst (pc' := 48) dX12_span_47 rfl ?_
    refine j_istore (pc' := 50) (ls' := [some (mR 133), some (mI x1), some (mI x2), some (mI x3), some (mI (-1)), none, none]) dX12_span_48 rfl (by decide) rfl ?_
    refine j_iconst (pc' := 51) dX12_span_50 rfl ?_
    refine j_istore (pc' := 53) (ls' := [some (mR 133), some (mI x1), some (mI x2), some (mI x3), some (mI (-1)), some (mI 1), none]) dX12_span_51 rfl (by decide) rfl ?_
    exact j_wk (j_widen (ce := 0) (ke := 0) (by decide) (by decide) (c_X12_span_L53 hd _ h)) (And.intro rfl (And.intro rfl (And.intro rfl (And.intro rfl (And.intro rfl (And.intro rfl trivial))))))
  · replace h := ite_f b1 h
    refine j_iconst (pc' := 42) dX12_span_41 rfl ?_
    exact j_iret dX12_span_42 rfl (by decide) (by decide) (rI_of h)
theorem c_X12_span_e {Ω : mO} {d : Nat} (hd : 11 ≤ d) {r : Int × mD} {x1 x2 x3 : Int} {D : mD} (h : F_X12_span x1 x2 x3 D = some r) : J Ω M_X12_span d 0 0 (rI r.1 r.2) 0 [some (mR 133), some (mI x1), some (mI x2), some (mI x3), none, none, none] [] (SK, D, false) 0 0 := by
  rw [F_X12_span] at h
  refine j_aload_n (pc' := 1) dX12_span_0 rfl rfl ?_
  refine j_iconst (pc' := 2) dX12_span_1 rfl ?_
  refine k_putI (pc' := 5) (sl := 0) (i' := 0) kc_11 w_1477 (by decide) (Or.inl rfl) dX12_span_2 rfl (by decide) sk_133 (by decide) ⟨rfl, rfl⟩ rfl ?_
  refine j_aload_n (pc' := 6) dX12_span_5 rfl rfl ?_
  refine j_aload_n (pc' := 7) dX12_span_6 rfl rfl ?_
  refine j_iload_n (pc' := 8) dX12_span_7 rfl rfl ?_
  obtain ⟨v1, D1, e1, h⟩ := bI_o h
  refine k_cV (d' := 2) (pc' := 11) [mI x1] [mR 133] (c_X12_noWriter (d := 2) (Nat.le_refl _) e1) cw_X12_408 kc_11 w_1949 ws_106 dX12_span_8 rfl (by omega) rfl rfl (by decide) sk_133 rfl rfl (by decide) (by decide) ?_
  refine j_iconst (pc' := 12) dX12_span_11 rfl ?_
  obtain ⟨v2, D2, e2, h⟩ := bI_o h
  refine k_cV (d' := 1) (pc' := 15) [mI v1, mI 1] [] (c_X12_throwsIf (d := 1) (Nat.le_refl _) e2) cw_X12_282 kc_11 w_1753 ws_76 dX12_span_12 rfl (by omega) rfl rfl (by decide) sk_133 rfl rfl (by decide) (by decide) ?_
  obtain ⟨q1, h⟩ := ck_o h
  refine j_if_ne (tgt := 41) (pc' := 18) dX12_span_15 rfl rfl q1 (fun b1 => ?_) (fun b1 => ?_)
  · replace h := ite_f b1 h
    refine j_iconst (pc' := 42) dX12_span_41 rfl ?_
    exact j_iret dX12_span_42 rfl (by decide) (by decide) (rI_of h)
  · replace h := ite_t b1 h
    refine j_aload_n (pc' := 19) dX12_span_18 rfl rfl ?_
    refine j_iload_n (pc' := 20) dX12_span_19 rfl rfl ?_
    refine j_iconst (pc' := 21) dX12_span_20 rfl ?_
    refine j_bipush (pc' := 23) dX12_span_21 rfl rfl ?_
    obtain ⟨v3, D3, e3, h⟩ := bI_o h
    refine k_cS (d' := 1) (pc' := 26) [mI x2, mI 0, mI 40] [mR 133] (c_X12_in (d := 1) (Nat.le_refl _) e3) cw_X12_90 w_1768 dX12_span_23 rfl (by omega) rfl rfl rfl rfl (by decide) (by decide) ?_
    obtain ⟨q2, h⟩ := ck_o h
    have hj : J Ω M_X12_span d 0 0 (rI r.1 r.2) 34 [some (mR 133), some (mI x1), some (mI x2), some (mI x3), none, none, none] [mI (if v3 = 0 then (1 : Int) else (0 : Int)), mR 133] (SK, D3, false) 0 0 := by
      exact j_wk (j_widen (ce := 0) (ke := 0) (by decide) (by decide) (c_X12_span_j34 hd h)) (And.intro rfl (And.intro rfl (And.intro rfl (And.intro rfl trivial))))
    refine j_if_ne (tgt := 33) (pc' := 29) dX12_span_26 rfl rfl q2 (fun b2 => ?_) (fun b2 => ?_)
    · refine j_iconst (pc' := 34) dX12_span_33 rfl ?_
      have hj := hj
      try simp only [if_neg b2] at hj
      exact j_wk hj (And.intro rfl (And.intro rfl (And.intro rfl (And.intro rfl trivial))))
    · refine j_iconst (pc' := 30) dX12_span_29 rfl ?_
      refine j_goto (tgt := 34) dX12_span_30 rfl ?_
      have hj := hj
      try simp only [if_pos b2] at hj
      exact j_wk hj (And.intro rfl (And.intro rfl (And.intro rfl (And.intro rfl trivial))))
theorem c_X12_span {d : Nat} (hd : 11 ≤ d) {x1 x2 x3 : Int} {D D' : mD} {v : Int} (h : F_X12_span x1 x2 x3 D = some (v, D')) : CM d 0 0 M_X12_span [mR 133, mI x1, mI x2, mI x3] (SK, D, false) (rI v D') := CM.intro pn_X12 rfl rfl (Nat.le_of_ble_eq_true rfl) (fun _ => c_X12_span_e hd h)
theorem c_X12_ofLog_e {Ω : mO} {d : Nat} (hd : 1 ≤ d) {r : Int × mD} {x1 x2 : Int} {D : mD} (h : F_X12_ofLog x1 x2 D = some r) : J Ω M_X12_ofLog d 0 0 (rI r.1 r.2) 0 [some (mR 133), some (mI x1), some (mI x2)] [] (SK, D, false) 0 0 := by
  rw [F_X12_ofLog] at h
  refine j_aload_n (pc' := 1) dX12_ofLog_0 rfl rfl ?_
  refine k_getR (pc' := 4) (sl := 1) (r := 134) kc_11 w_1478 (Or.inl rfl) (by decide) dX12_ofLog_1 rfl (by decide) sk_133 (by decide) rfl (by decide) ?_
  refine j_sipush (pc' := 7) dX12_ofLog_4 rfl rfl ?_
  refine j_iconst (pc' := 8) dX12_ofLog_7 rfl ?_
  refine j_iload_n (pc' := 9) dX12_ofLog_8 rfl rfl ?_
  refine j_imul (pc' := 10) dX12_ofLog_9 rfl ?_
  refine j_iadd (pc' := 11) dX12_ofLog_10 rfl ?_
  refine j_iload_n (pc' := 12) dX12_ofLog_11 rfl rfl ?_
  refine j_iadd (pc' := 13) dX12_ofLog_12 rfl ?_
  obtain ⟨q1, h⟩ := ck_o h
  refine k_iald (pc' := 14) (z := D 134 ((235 + (4 * x1)) + x2)) dX12_ofLog_13 rfl (by decide) sk_134 (by decide) q1.1 q1.2 rfl ?_
  exact j_iret dX12_ofLog_14 rfl (by decide) (by decide) (rI_of h)
theorem c_X12_ofLog {d : Nat} (hd : 1 ≤ d) {x1 x2 : Int} {D D' : mD} {v : Int} (h : F_X12_ofLog x1 x2 D = some (v, D')) : CM d 0 0 M_X12_ofLog [mR 133, mI x1, mI x2] (SK, D, false) (rI v D') := CM.intro pn_X12 rfl rfl (Nat.le_of_ble_eq_true rfl) (fun _ => c_X12_ofLog_e hd h)
theorem c_X12_slips_L37 {Ω : mO} {d : Nat} (hd : 3 ≤ d) {r : Int × mD} {x1 : Int} : ∀ (n : Nat) {x2 x3 : Int} {D : mD}, F_X12_slips_L37 x1 n x2 x3 D = some r → J Ω M_X12_slips d 0 0 (rI r.1 r.2) 37 [some (mR 133), some (mI x1), some (mI x2), some (mI x3)] [] (SK, D, false) 0 0 := by
  intro n
  induction n with
  | zero => intro x2 x3 D h; exact absurd (show (none : Option (Int × mD)) = some r from h) nofun
  | succ n ih =>
    intro x2 x3 D h
    rw [F_X12_slips_L37] at h
    refine j_iload_n (pc' := 38) dX12_slips_37 rfl rfl ?_
    refine j_aload_n (pc' := 39) dX12_slips_38 rfl rfl ?_
    refine k_getR (pc' := 42) (sl := 1) (r := 134) kc_11 w_1478 (Or.inl rfl) (by decide) dX12_slips_39 rfl (by decide) sk_133 (by decide) rfl (by decide) ?_
    refine j_bipush (pc' := 44) dX12_slips_42 rfl rfl ?_
    refine k_iald (pc' := 45) (z := D 134 13) dX12_slips_44 rfl (by decide) sk_134 (by decide) (by decide) (by decide) rfl ?_
    obtain ⟨q1, h⟩ := ck_o h
    obtain ⟨q2, h⟩ := ck_o h
    refine j_icmp_ge (tgt := 86) (pc' := 48) dX12_slips_45 rfl rfl q1 q2 (fun b1 => ?_) (fun b1 => ?_)
    · replace h := ite_t b1 h
      refine j_iload_n (pc' := 87) dX12_slips_86 rfl rfl ?_
      exact j_iret dX12_slips_87 rfl (by decide) (by decide) (rI_of h)
    · replace h := ite_f b1 h
      refine j_iload_n (pc' := 49) dX12_slips_48 rfl rfl ?_
      refine j_aload_n (pc' := 50) dX12_slips_49 rfl rfl ?_
      refine j_iload_n (pc' := 51) dX12_slips_50 rfl rfl ?_
      refine j_iconst (pc' := 52) dX12_slips_51 rfl ?_
      obtain ⟨v1, D1, e1, h⟩ := bI_o h
      refine k_cV (d' := 1) (pc' := 55) [mI x3, mI 3] [mI x2] (c_X12_ofLog (d := 1) (Nat.le_refl _) e1) cw_X12_506 kc_11 w_2198 ws_142 dX12_slips_52 rfl (by omega) rfl rfl (by decide) sk_133 rfl rfl (by decide) (by decide) ?_
      obtain ⟨q3, h⟩ := ck_o h
      refine j_if_eq (tgt := 77) (pc' := 58) dX12_slips_55 rfl rfl q3 (fun b2 => ?_) (fun b2 => ?_)
      · replace h := ite_t b2 h
        refine j_iconst (pc' := 78) dX12_slips_77 rfl ?_
        refine j_iadd (pc' := 79) dX12_slips_78 rfl ?_
        refine j_istore_n (pc' := 80) (ls' := [some (mR 133), some (mI x1), some (mI (x2 + 0)), some (mI x3)]) dX12_slips_79 rfl (by decide) rfl ?_
        refine j_iinc (pc' := 83) (z' := (x3 + 1)) (ls' := [some (mR 133), some (mI x1), some (mI (x2 + 0)), some (mI (x3 + 1))]) dX12_slips_80 rfl rfl rfl (by decide) rfl ?_
        refine j_goto (tgt := 37) dX12_slips_83 rfl ?_
        exact j_wk (j_widen (ce := 0) (ke := 0) (by decide) (by decide) (ih h)) (And.intro rfl (And.intro rfl (And.intro rfl (And.intro rfl trivial))))
      · replace h := ite_f b2 h
        refine j_iload_n (pc' := 59) dX12_slips_58 rfl rfl ?_
        refine j_iconst (pc' := 60) dX12_slips_59 rfl ?_
        obtain ⟨q4, h⟩ := ck_o h
        refine j_icmp_eq (tgt := 73) (pc' := 63) dX12_slips_60 rfl rfl q4 (by decide) (fun b3 => ?_) (fun b3 => ?_)
        · replace h := ite_t b3 h
          refine j_iconst (pc' := 74) dX12_slips_73 rfl ?_
          refine j_goto (tgt := 78) dX12_slips_74 rfl ?_
          refine j_iadd (pc' := 79) dX12_slips_78 rfl ?_
          refine j_istore_n (pc' := 80) (ls' := [some (mR 133), some (mI x1), some (mI (x2 + 1)), some (mI x3)]) dX12_slips_79 rfl (by decide) rfl ?_
          refine j_iinc (pc' := 83) (z' := (x3 + 1)) (ls' := [some (mR 133), some (mI x1), some (mI (x2 + 1)), some (mI (x3 + 1))]) dX12_slips_80 rfl rfl rfl (by decide) rfl ?_
          refine j_goto (tgt := 37) dX12_slips_83 rfl ?_
          exact j_wk (j_widen (ce := 0) (ke := 0) (by decide) (by decide) (ih h)) (And.intro rfl (And.intro rfl (And.intro rfl (And.intro rfl trivial))))
        · replace h := ite_f b3 h
          refine j_aload_n (pc' := 64) dX12_slips_63 rfl rfl ?_
          refine j_iload_n (pc' := 65) dX12_slips_64 rfl rfl ?_
          refine j_iconst (pc' := 66) dX12_slips_65 rfl ?_
          obtain ⟨v2, D2, e2, h⟩ := bI_o h
          refine k_cV (d' := 1) (pc' := 69) [mI x3, mI 2] [mI x2] (c_X12_ofLog (d := 1) (Nat.le_refl _) e2) cw_X12_506 kc_11 w_2198 ws_142 dX12_slips_66 rfl (by omega) rfl rfl (by decide) sk_133 rfl rfl (by decide) (by decide) ?_
          refine j_iload_n (pc' := 70) dX12_slips_69 rfl rfl ?_
          obtain ⟨q5, h⟩ := ck_o h
          have hj : J Ω M_X12_slips d 0 0 (rI r.1 r.2) 78 [some (mR 133), some (mI x1), none, some (mI x3)] [mI (if v2 = x1 then (1 : Int) else (0 : Int)), mI x2] (SK, D2, false) 0 0 := by
            refine j_iadd (pc' := 79) dX12_slips_78 rfl ?_
            refine j_istore_n (pc' := 80) (ls' := [some (mR 133), some (mI x1), some (mI (x2 + (if v2 = x1 then (1 : Int) else (0 : Int)))), some (mI x3)]) dX12_slips_79 rfl (by decide) rfl ?_
            refine j_iinc (pc' := 83) (z' := (x3 + 1)) (ls' := [some (mR 133), some (mI x1), some (mI (x2 + (if v2 = x1 then (1 : Int) else (0 : Int)))), some (mI (x3 + 1))]) dX12_slips_80 rfl rfl rfl (by decide) rfl ?_
            refine j_goto (tgt := 37) dX12_slips_83 rfl ?_
            exact j_wk (j_widen (ce := 0) (ke := 0) (by decide) (by decide) (ih h)) (And.intro rfl (And.intro rfl (And.intro rfl (And.intro rfl trivial))))
          refine j_icmp_ne (tgt := 77) (pc' := 73) dX12_slips_70 rfl rfl q5 q4 (fun b4 => ?_) (fun b4 => ?_)
          · refine j_iconst (pc' := 78) dX12_slips_77 rfl ?_
            have hj := hj
            try simp only [if_neg b4] at hj
            exact j_wk hj (And.intro rfl (And.intro rfl (And.intro rfl trivial)))
          · refine j_iconst (pc' := 74) dX12_slips_73 rfl ?_
            refine j_goto (tgt := 78) dX12_slips_74 rfl ?_
            have hj := hj
            try simp only [if_pos b4] at hj
            exact j_wk hj (And.intro rfl (And.intro rfl (And.intro rfl trivial)))
theorem c_X12_slips_j24 {Ω : mO} {d : Nat} (hd : 3 ≤ d) {r : Int × mD} {x1 s1 : Int} {D : mD} (h : F_X12_slips_j24 x1 s1 D = some r) : J Ω M_X12_slips d 0 0 (rI r.1 r.2) 24 [some (mR 133), some (mI x1), none, none] [mI s1, mR 133] (SK, D, false) 0 0 := by
  rw [F_X12_slips_j24] at h
  refine j_iconst (pc' := 25) dX12_slips_24 rfl ?_
  obtain ⟨v1, D1, e1, h⟩ := bI_o h
  refine k_cV (d' := 1) (pc' := 28) [mI s1, mI 1] [] (c_X12_throwsIf (d := 1) (Nat.le_refl _) e1) cw_X12_282 kc_11 w_1753 ws_76 dX12_slips_25 rfl (by omega) rfl rfl (by decide) sk_133 rfl rfl (by decide) (by decide) ?_
  obtain ⟨q1, h⟩ := ck_o h
  refine j_if_eq (tgt := 33) (pc' := 31) dX12_slips_28 rfl rfl q1 (fun b1 => ?_) (fun b1 => ?_)
  · replace h := ite_t b1 h
    refine j_iconst (pc' := 34) dX12_slips_33 rfl ?_
    refine j_istore_n (pc' := 35) (ls' := [some (mR 133), some (mI x1), some (mI 0), none]) dX12_slips_34 rfl (by decide) rfl ?_
    refine j_iconst (pc' := 36) dX12_slips_35 rfl ?_
    refine j_istore_n (pc' := 37) (ls' := [some (mR 133), some (mI x1), some (mI 0), some (mI 0)]) dX12_slips_36 rfl (by decide) rfl ?_
    exact j_wk (j_widen (ce := 0) (ke := 0) (by decide) (by decide) (c_X12_slips_L37 hd _ h)) (And.intro rfl (And.intro rfl (And.intro rfl (And.intro rfl trivial))))
  · replace h := ite_f b1 h
    refine j_iconst (pc' := 32) dX12_slips_31 rfl ?_
    exact j_iret dX12_slips_32 rfl (by decide) (by decide) (rI_of h)
theorem c_X12_slips_j23 {Ω : mO} {d : Nat} (hd : 3 ≤ d) {r : Int × mD} {x1 : Int} {D : mD} (h : F_X12_slips_j23 x1 D = some r) : J Ω M_X12_slips d 0 0 (rI r.1 r.2) 23 [some (mR 133), some (mI x1), none, none] [mR 133] (SK, D, false) 0 0 := by
  rw [F_X12_slips_j23] at h
  refine j_iconst (pc' := 24) dX12_slips_23 rfl ?_
  exact j_wk (j_widen (ce := 0) (ke := 0) (by decide) (by decide) (c_X12_slips_j24 hd h)) (And.intro rfl (And.intro rfl trivial))
theorem c_X12_slips_e {Ω : mO} {d : Nat} (hd : 3 ≤ d) {r : Int × mD} {x1 : Int} {D : mD} (h : F_X12_slips x1 D = some r) : J Ω M_X12_slips d 0 0 (rI r.1 r.2) 0 [some (mR 133), some (mI x1), none, none] [] (SK, D, false) 0 0 := by
  rw [F_X12_slips] at h
  refine j_aload_n (pc' := 1) dX12_slips_0 rfl rfl ?_
  refine j_iconst (pc' := 2) dX12_slips_1 rfl ?_
  refine k_putI (pc' := 5) (sl := 0) (i' := 0) kc_11 w_1477 (by decide) (Or.inl rfl) dX12_slips_2 rfl (by decide) sk_133 (by decide) ⟨rfl, rfl⟩ rfl ?_
  refine j_aload_n (pc' := 6) dX12_slips_5 rfl rfl ?_
  refine j_iload_n (pc' := 7) dX12_slips_6 rfl rfl ?_
  refine j_iconst (pc' := 8) dX12_slips_7 rfl ?_
  obtain ⟨q1, h⟩ := ck_o h
  refine j_icmp_eq (tgt := 23) (pc' := 11) dX12_slips_8 rfl rfl q1 (by decide) (fun b1 => ?_) (fun b1 => ?_)
  · replace h := ite_t b1 h
    exact j_wk (j_widen (ce := 0) (ke := 0) (by decide) (by decide) (c_X12_slips_j23 hd h)) (And.intro rfl (And.intro rfl trivial))
  · replace h := ite_f b1 h
    refine j_aload_n (pc' := 12) dX12_slips_11 rfl rfl ?_
    refine j_iload_n (pc' := 13) dX12_slips_12 rfl rfl ?_
    obtain ⟨v1, D1, e1, h⟩ := bI_o h
    refine k_cV (d' := 2) (pc' := 16) [mI x1] [mR 133] (c_X12_noWriter (d := 2) (Nat.le_refl _) e1) cw_X12_408 kc_11 w_1949 ws_106 dX12_slips_13 rfl (by omega) rfl rfl (by decide) sk_133 rfl rfl (by decide) (by decide) ?_
    obtain ⟨q2, h⟩ := ck_o h
    have hj : J Ω M_X12_slips d 0 0 (rI r.1 r.2) 24 [some (mR 133), some (mI x1), none, none] [mI (if v1 = 0 then (0 : Int) else (1 : Int)), mR 133] (SK, D1, false) 0 0 := by
      exact j_wk (j_widen (ce := 0) (ke := 0) (by decide) (by decide) (c_X12_slips_j24 hd h)) (And.intro rfl (And.intro rfl trivial))
    refine j_if_eq (tgt := 23) (pc' := 19) dX12_slips_16 rfl rfl q2 (fun b2 => ?_) (fun b2 => ?_)
    · refine j_iconst (pc' := 24) dX12_slips_23 rfl ?_
      have hj := hj
      try simp only [if_pos b2] at hj
      exact j_wk hj (And.intro rfl (And.intro rfl trivial))
    · refine j_iconst (pc' := 20) dX12_slips_19 rfl ?_
      refine j_goto (tgt := 24) dX12_slips_20 rfl ?_
      have hj := hj
      try simp only [if_neg b2] at hj
      exact j_wk hj (And.intro rfl (And.intro rfl trivial))
theorem c_X12_slips {d : Nat} (hd : 3 ≤ d) {x1 : Int} {D D' : mD} {v : Int} (h : F_X12_slips x1 D = some (v, D')) : CM d 0 0 M_X12_slips [mR 133, mI x1] (SK, D, false) (rI v D') := CM.intro pn_X12 rfl rfl (Nat.le_of_ble_eq_true rfl) (fun _ => c_X12_slips_e hd h)
theorem c_X12_log_j20 {Ω : mO} {d : Nat} (hd : 2 ≤ d) {r : Int × mD} {x1 x2 s1 : Int} {D : mD} (h : F_X12_log_j20 x1 x2 s1 D = some r) : J Ω M_X12_log d 0 0 (rI r.1 r.2) 20 [some (mR 133), some (mI x1), some (mI x2)] [mI s1, mR 133] (SK, D, false) 0 0 := by
  rw [F_X12_log_j20] at h
  refine j_iconst (pc' := 21) dX12_log_20 rfl ?_
  obtain ⟨v1, D1, e1, h⟩ := bI_o h
  refine k_cV (d' := 1) (pc' := 24) [mI s1, mI 1] [] (c_X12_throwsIf (d := 1) (Nat.le_refl _) e1) cw_X12_282 kc_11 w_1753 ws_76 dX12_log_21 rfl (by omega) rfl rfl (by decide) sk_133 rfl rfl (by decide) (by decide) ?_
  obtain ⟨q1, h⟩ := ck_o h
  refine j_if_eq (tgt := 29) (pc' := 27) dX12_log_24 rfl rfl q1 (fun b1 => ?_) (fun b1 => ?_)
  · replace h := ite_t b1 h
    refine j_iload_n (pc' := 30) dX12_log_29 rfl rfl ?_
    refine j_iconst (pc' := 31) dX12_log_30 rfl ?_
    refine j_aload_n (pc' := 32) dX12_log_31 rfl rfl ?_
    refine k_getR (pc' := 35) (sl := 1) (r := 134) kc_11 w_1478 (Or.inl rfl) (by decide) dX12_log_32 rfl (by decide) sk_133 (by decide) rfl (by decide) ?_
    refine j_bipush (pc' := 37) dX12_log_35 rfl rfl ?_
    refine k_iald (pc' := 38) (z := D1 134 13) dX12_log_37 rfl (by decide) sk_134 (by decide) (by decide) (by decide) rfl ?_
    refine j_iconst (pc' := 39) dX12_log_38 rfl ?_
    refine j_isub (pc' := 40) dX12_log_39 rfl ?_
    obtain ⟨v2, D2, e2, h⟩ := bI_o h
    refine k_cS (d' := 1) (pc' := 43) [mI x1, mI 0, mI ((D1 134 13) - 1)] [] (c_X12_in (d := 1) (Nat.le_refl _) e2) cw_X12_90 w_1768 dX12_log_40 rfl (by omega) rfl rfl rfl rfl (by decide) (by decide) ?_
    obtain ⟨q2, h⟩ := ck_o h
    refine j_if_eq (tgt := 55) (pc' := 46) dX12_log_43 rfl rfl q2 (fun b2 => ?_) (fun b2 => ?_)
    · replace h := ite_t b2 h
      refine j_bipush (pc' := 57) dX12_log_55 rfl rfl ?_
      exact j_iret dX12_log_57 rfl (by decide) (by decide) (rI_of h)
    · replace h := ite_f b2 h
      refine j_aload_n (pc' := 47) dX12_log_46 rfl rfl ?_
      refine j_iload_n (pc' := 48) dX12_log_47 rfl rfl ?_
      refine j_iload_n (pc' := 49) dX12_log_48 rfl rfl ?_
      obtain ⟨v3, D3, e3, h⟩ := bI_o h
      refine k_cV (d' := 1) (pc' := 52) [mI x1, mI x2] [] (c_X12_ofLog (d := 1) (Nat.le_refl _) e3) cw_X12_506 kc_11 w_2198 ws_142 dX12_log_49 rfl (by omega) rfl rfl (by decide) sk_133 rfl rfl (by decide) (by decide) ?_
      refine j_goto (tgt := 57) dX12_log_52 rfl ?_
      exact j_iret dX12_log_57 rfl (by decide) (by decide) (rI_of h)
  · replace h := ite_f b1 h
    refine j_iconst (pc' := 28) dX12_log_27 rfl ?_
    exact j_iret dX12_log_28 rfl (by decide) (by decide) (rI_of h)
theorem c_X12_log_e {Ω : mO} {d : Nat} (hd : 2 ≤ d) {r : Int × mD} {x1 x2 : Int} {D : mD} (h : F_X12_log x1 x2 D = some r) : J Ω M_X12_log d 0 0 (rI r.1 r.2) 0 [some (mR 133), some (mI x1), some (mI x2)] [] (SK, D, false) 0 0 := by
  rw [F_X12_log] at h
  refine j_aload_n (pc' := 1) dX12_log_0 rfl rfl ?_
  refine j_iconst (pc' := 2) dX12_log_1 rfl ?_
  refine k_putI (pc' := 5) (sl := 0) (i' := 0) kc_11 w_1477 (by decide) (Or.inl rfl) dX12_log_2 rfl (by decide) sk_133 (by decide) ⟨rfl, rfl⟩ rfl ?_
  refine j_aload_n (pc' := 6) dX12_log_5 rfl rfl ?_
  refine j_iload_n (pc' := 7) dX12_log_6 rfl rfl ?_
  refine j_iconst (pc' := 8) dX12_log_7 rfl ?_
  refine j_iconst (pc' := 9) dX12_log_8 rfl ?_
  obtain ⟨v1, D1, e1, h⟩ := bI_o h
  refine k_cS (d' := 1) (pc' := 12) [mI x2, mI 0, mI 3] [mR 133] (c_X12_in (d := 1) (Nat.le_refl _) e1) cw_X12_90 w_1768 dX12_log_9 rfl (by omega) rfl rfl rfl rfl (by decide) (by decide) ?_
  obtain ⟨q1, h⟩ := ck_o h
  have hj : J Ω M_X12_log d 0 0 (rI r.1 r.2) 20 [some (mR 133), some (mI x1), some (mI x2)] [mI (if v1 = 0 then (1 : Int) else (0 : Int)), mR 133] (SK, D1, false) 0 0 := by
    exact j_wk (j_widen (ce := 0) (ke := 0) (by decide) (by decide) (c_X12_log_j20 hd h)) (And.intro rfl (And.intro rfl (And.intro rfl trivial)))
  refine j_if_ne (tgt := 19) (pc' := 15) dX12_log_12 rfl rfl q1 (fun b1 => ?_) (fun b1 => ?_)
  · refine j_iconst (pc' := 20) dX12_log_19 rfl ?_
    have hj := hj
    try simp only [if_neg b1] at hj
    exact j_wk hj (And.intro rfl (And.intro rfl (And.intro rfl trivial)))
  · refine j_iconst (pc' := 16) dX12_log_15 rfl ?_
    refine j_goto (tgt := 20) dX12_log_16 rfl ?_
    have hj := hj
    try simp only [if_pos b1] at hj
    exact j_wk hj (And.intro rfl (And.intro rfl (And.intro rfl trivial)))
theorem c_X12_log {d : Nat} (hd : 2 ≤ d) {x1 x2 : Int} {D D' : mD} {v : Int} (h : F_X12_log x1 x2 D = some (v, D')) : CM d 0 0 M_X12_log [mR 133, mI x1, mI x2] (SK, D, false) (rI v D') := CM.intro pn_X12 rfl rfl (Nat.le_of_ble_eq_true rfl) (fun _ => c_X12_log_e hd h)
