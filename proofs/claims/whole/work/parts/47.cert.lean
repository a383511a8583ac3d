/-! CERTIFICATES: the bytecode does what F says (by program) -/
theorem c_X12_laysBy_j142 {Ω : mO} {d : Nat} (hd : 9 ≤ d) {r : Int × mD} {K70 : Int → mD → RI} {K78 : Int → mD → RI} {x1 x3 x4 x5 x6 : Int} (hK70 : ∀ {x4 : Int} {D : mD}, K70 x4 D = some r → J Ω M_X12_laysBy d 0 0 (rI r.1 r.2) 70 [some (mR 133), some (mI x1), none, some (mI x3), some (mI x4), none, none, none] [] (SK, D, false) 0 0) (hK78 : ∀ {x5 : Int} {D : mD}, K78 x5 D = some r → J Ω M_X12_laysBy d 0 0 (rI r.1 r.2) 78 [some (mR 133), some (mI x1), none, some (mI x3), some (mI x4), some (mI x5), none, none] [] (SK, D, false) 0 0) {D : mD} (h : F_X12_laysBy_j142 K70 K78 x1 x3 x4 x5 x6 D = some r) : J Ω M_X12_laysBy d 0 0 (rI r.1 r.2) 142 [some (mR 133), some (mI x1), none, some (mI x3), some (mI x4), some (mI x5), some (mI x6), none] [] (SK, D, false) 0 0 := by
  rw [F_X12_laysBy_j142] at h
  refine j_aload_n (pc' := 143) dX12_laysBy_142 rfl rfl ?_
  refine k_getR (pc' := 146) (sl := 23) (r := 143) kc_11 w_1500 (Or.inl rfl) (by decide) dX12_laysBy_143 rfl (by decide) sk_133 (by decide) rfl (by decide) ?_
  refine j_iload (pc' := 148) dX12_laysBy_146 rfl rfl ?_
  refine j_iload (pc' := 150) dX12_laysBy_148 rfl rfl ?_
  obtain ⟨v1, D1, e1, h⟩ := bI_o h
  refine k_cS (d' := 1) (pc' := 153) [mI x4, mI x5] [mR 143] (c_X12_leastAt (d := 1) (Nat.le_refl _) e1) cw_X12_362 w_1916 dX12_laysBy_150 rfl (by omega) rfl rfl rfl rfl (by decide) (by decide) ?_
  refine j_ldcwI (pc' := 156) (n := 1000000) w_1860 dX12_laysBy_153 rfl ?_
  refine j_iload (pc' := 158) dX12_laysBy_156 rfl rfl ?_
  obtain ⟨q1, h⟩ := ck_o h
  refine k_min (pc' := 161) cw_X12_310 w_560 dX12_laysBy_158 rfl (by omega) (by decide) q1 rfl (by decide) (by decide) ?_
  obtain ⟨q2, h⟩ := ck_o h
  refine k_iast (pc' := 162) dX12_laysBy_161 rfl (by decide) sk_143 (by decide) q2.1 q2.2 ?_
  refine j_iinc (pc' := 165) (z' := (x5 + 1)) (ls' := [some (mR 133), some (mI x1), none, some (mI x3), some (mI x4), some (mI (x5 + 1)), some (mI x6), none]) dX12_laysBy_162 rfl rfl rfl (by decide) rfl ?_
  refine j_goto (tgt := 78) dX12_laysBy_165 rfl ?_
  exact j_wk (j_widen (ce := 0) (ke := 0) (by decide) (by decide) (hK78 h)) (And.intro rfl (And.intro rfl (And.intro rfl (And.intro rfl (And.intro rfl trivial)))))
theorem c_X12_laysBy_L92 {Ω : mO} {d : Nat} (hd : 9 ≤ d) {r : Int × mD} {K70 : Int → mD → RI} {K78 : Int → mD → RI} {x1 x3 x4 x5 : Int} (hK70 : ∀ {x4 : Int} {D : mD}, K70 x4 D = some r → J Ω M_X12_laysBy d 0 0 (rI r.1 r.2) 70 [some (mR 133), some (mI x1), none, some (mI x3), some (mI x4), none, none, none] [] (SK, D, false) 0 0) (hK78 : ∀ {x5 : Int} {D : mD}, K78 x5 D = some r → J Ω M_X12_laysBy d 0 0 (rI r.1 r.2) 78 [some (mR 133), some (mI x1), none, some (mI x3), some (mI x4), some (mI x5), none, none] [] (SK, D, false) 0 0) : ∀ (n : Nat) {x6 x7 : Int} {D : mD}, F_X12_laysBy_L92 K70 K78 x1 x3 x4 x5 n x6 x7 D = some r → J Ω M_X12_laysBy d 0 0 (rI r.1 r.2) 92 [some (mR 133), some (mI x1), none, some (mI x3), some (mI x4), some (mI x5), some (mI x6), some (mI x7)] [] (SK, D, false) 0 0 := by
  intro n
  induction n with
  | zero => intro x6 x7 D h; exact absurd (show (none : Option (Int × mD)) = some r from h) nofun
  | succ n ih =>
    intro x6 x7 D h
    rw [F_X12_laysBy_L92] at h
    refine j_iload (pc' := 94) dX12_laysBy_92 rfl rfl ?_
    refine j_bipush (pc' := 96) dX12_laysBy_94 rfl rfl ?_
    obtain ⟨q1, h⟩ := ck_o h
    refine j_icmp_gt (tgt := 142) (pc' := 99) dX12_laysBy_96 rfl rfl q1 (by decide) (fun b1 => ?_) (fun b1 => ?_)
    · replace h := ite_t b1 h
      exact j_wk (j_widen (ce := 0) (ke := 0) (by decide) (by decide) (c_X12_laysBy_j142 hd hK70 hK78 h)) (And.intro rfl (And.intro rfl (And.intro rfl (And.intro rfl (And.intro rfl (And.intro rfl trivial))))))
    · replace h := ite_f b1 h
      refine j_iload (pc' := 101) dX12_laysBy_99 rfl rfl ?_
      refine j_iload (pc' := 103) dX12_laysBy_101 rfl rfl ?_
      obtain ⟨q2, h⟩ := ck_o h
      refine j_icmp_gt (tgt := 142) (pc' := 106) dX12_laysBy_103 rfl rfl q1 q2 (fun b2 => ?_) (fun b2 => ?_)
      · replace h := ite_t b2 h
        exact j_wk (j_widen (ce := 0) (ke := 0) (by decide) (by decide) (c_X12_laysBy_j142 hd hK70 hK78 h)) (And.intro rfl (And.intro rfl (And.intro rfl (And.intro rfl (And.intro rfl (And.intro rfl trivial))))))
      · replace h := ite_f b2 h
        refine j_iload (pc' := 108) dX12_laysBy_106 rfl rfl ?_
        refine j_aload_n (pc' := 109) dX12_laysBy_108 rfl rfl ?_
        refine j_iload (pc' := 111) dX12_laysBy_109 rfl rfl ?_
        refine j_iload (pc' := 113) dX12_laysBy_111 rfl rfl ?_
        refine j_iload_n (pc' := 114) dX12_laysBy_113 rfl rfl ?_
        obtain ⟨v1, D1, e1, h⟩ := bI_o h
        refine k_cV (d' := 6) (pc' := 117) [mI x4, mI x7, mI x1] [mI x6] (c_X12_offBy (d := 6) (Nat.le_refl _) e1) cw_X12_371 kc_11 w_1920 ws_103 dX12_laysBy_114 rfl (by omega) rfl rfl (by decide) sk_133 rfl rfl (by decide) (by decide) ?_
        refine j_aload_n (pc' := 118) dX12_laysBy_117 rfl rfl ?_
        refine j_iload (pc' := 120) dX12_laysBy_118 rfl rfl ?_
        refine j_iconst (pc' := 121) dX12_laysBy_120 rfl ?_
        refine j_iadd (pc' := 122) dX12_laysBy_121 rfl ?_
        refine j_iload (pc' := 124) dX12_laysBy_122 rfl rfl ?_
        refine j_iload (pc' := 126) dX12_laysBy_124 rfl rfl ?_
        refine j_isub (pc' := 127) dX12_laysBy_126 rfl ?_
        obtain ⟨v2, D2, e2, h⟩ := bI_o h
        refine k_cV (d' := 2) (pc' := 130) [mI (x4 + 1), mI (x5 - x7)] [mI v1, mI x6] (c_X12_rest (d := 2) (Nat.le_refl _) e2) cw_X12_374 kc_11 w_1925 ws_104 dX12_laysBy_127 rfl (by omega) rfl rfl (by decide) sk_133 rfl rfl (by decide) (by decide) ?_
        refine j_iadd (pc' := 131) dX12_laysBy_130 rfl ?_
        obtain ⟨q3, h⟩ := ck_o h
        obtain ⟨q4, h⟩ := ck_o h
        refine k_min (pc' := 134) cw_X12_310 w_560 dX12_laysBy_131 rfl (by omega) q3 q4 rfl (by decide) (by decide) ?_
        refine j_istore (pc' := 136) (ls' := [some (mR 133), some (mI x1), none, some (mI x3), some (mI x4), some (mI x5), some (mI (min x6 (v1 + v2))), some (mI x7)]) dX12_laysBy_134 rfl (by decide) rfl ?_
        refine j_iinc (pc' := 139) (z' := (x7 + 1)) (ls' := [some (mR 133), some (mI x1), none, some (mI x3), some (mI x4), some (mI x5), some (mI (min x6 (v1 + v2))), some (mI (x7 + 1))]) dX12_laysBy_136 rfl rfl rfl (by decide) rfl ?_
        refine j_goto (tgt := 92) dX12_laysBy_139 rfl ?_
        exact j_wk (j_widen (ce := 0) (ke := 0) (by decide) (by decide) (ih h)) (And.intro rfl (And.intro rfl (And.intro rfl (And.intro rfl (And.intro rfl (And.intro rfl (And.intro rfl trivial)))))))
theorem c_X12_laysBy_L78 {Ω : mO} {d : Nat} (hd : 9 ≤ d) {r : Int × mD} {K70 : Int → mD → RI} {x1 x3 x4 : Int} (hK70 : ∀ {x4 : Int} {D : mD}, K70 x4 D = some r → J Ω M_X12_laysBy d 0 0 (rI r.1 r.2) 70 [some (mR 133), some (mI x1), none, some (mI x3), some (mI x4), none, none, none] [] (SK, D, false) 0 0) : ∀ (n : Nat) {x5 : Int} {D : mD}, F_X12_laysBy_L78 K70 x1 x3 x4 n x5 D = some r → J Ω M_X12_laysBy d 0 0 (rI r.1 r.2) 78 [some (mR 133), some (mI x1), none, some (mI x3), some (mI x4), some (mI x5), none, none] [] (SK, D, false) 0 0 := by
  intro n
  induction n with
  | zero => intro x5 D h; exact absurd (show (none : Option (Int × mD)) = some r from h) nofun
  | succ n ih =>
    intro x5 D h
    rw [F_X12_laysBy_L78] at h
    refine j_iload (pc' := 80) dX12_laysBy_78 rfl rfl ?_
    refine j_iload_n (pc' := 81) dX12_laysBy_80 rfl rfl ?_
    obtain ⟨q1, h⟩ := ck_o h
    obtain ⟨q2, h⟩ := ck_o h
    refine j_icmp_gt (tgt := 168) (pc' := 84) dX12_laysBy_81 rfl rfl q1 q2 (fun b1 => ?_) (fun b1 => ?_)
    · replace h := ite_t b1 h
      refine j_iinc (pc' := 171) (z' := (x4 - 1)) (ls' := [some (mR 133), some (mI x1), none, some (mI x3), some (mI (x4 - 1)), some (mI x5), none, none]) dX12_laysBy_168 rfl rfl (by omega) (by decide) rfl ?_
      refine j_goto (tgt := 70) dX12_laysBy_171 rfl ?_
      exact j_wk (j_widen (ce := 0) (ke := 0) (by decide) (by decide) (hK70 h)) (And.intro rfl (And.intro rfl (And.intro rfl (And.intro rfl trivial))))
    · replace h := ite_f b1 h
      refine j_ldcwI (pc' := 87) (n := 1000000) w_1860 dX12_laysBy_84 rfl ?_
      refine j_istore (pc' := 89) (ls' := [some (mR 133), some (mI x1), none, some (mI x3), some (mI x4), some (mI x5), some (mI 1000000), none]) dX12_laysBy_87 rfl (by decide) rfl ?_
      refine j_iconst (pc' := 90) dX12_laysBy_89 rfl ?_
      refine j_istore (pc' := 92) (ls' := [some (mR 133), some (mI x1), none, some (mI x3), some (mI x4), some (mI x5), some (mI 1000000), some (mI 0)]) dX12_laysBy_90 rfl (by decide) rfl ?_
      exact j_wk (j_widen (ce := 0) (ke := 0) (by decide) (by decide) (c_X12_laysBy_L92 hd hK70 ih _ h)) (And.intro rfl (And.intro rfl (And.intro rfl (And.intro rfl (And.intro rfl (And.intro rfl (And.intro rfl trivial)))))))
theorem c_X12_laysBy_L70 {Ω : mO} {d : Nat} (hd : 9 ≤ d) {r : Int × mD} {x1 x3 : Int} : ∀ (n : Nat) {x4 : Int} {D : mD}, F_X12_laysBy_L70 x1 x3 n x4 D = some r → J Ω M_X12_laysBy d 0 0 (rI r.1 r.2) 70 [some (mR 133), some (mI x1), none, some (mI x3), some (mI x4), none, none, none] [] (SK, D, false) 0 0 := by
  intro n
  induction n with
  | zero => intro x4 D h; exact absurd (show (none : Option (Int × mD)) = some r from h) nofun
  | succ n ih =>
    intro x4 D h
    rw [F_X12_laysBy_L70] at h
    refine j_iload (pc' := 72) dX12_laysBy_70 rfl rfl ?_
    obtain ⟨q1, h⟩ := ck_o h
    refine j_if_lt (tgt := 174) (pc' := 75) dX12_laysBy_72 rfl rfl q1 (fun b1 => ?_) (fun b1 => ?_)
    · replace h := ite_t b1 h
      refine j_aload_n (pc' := 175) dX12_laysBy_174 rfl rfl ?_
      refine k_getR (pc' := 178) (sl := 23) (r := 143) kc_11 w_1500 (Or.inl rfl) (by decide) dX12_laysBy_175 rfl (by decide) sk_133 (by decide) rfl (by decide) ?_
      refine j_iconst (pc' := 179) dX12_laysBy_178 rfl ?_
      refine j_iload_n (pc' := 180) dX12_laysBy_179 rfl rfl ?_
      obtain ⟨v1, D1, e1, h⟩ := bI_o h
      refine k_cS (d' := 1) (pc' := 183) [mI 0, mI x3] [mR 143] (c_X12_leastAt (d := 1) (Nat.le_refl _) e1) cw_X12_362 w_1916 dX12_laysBy_180 rfl (by omega) rfl rfl rfl rfl (by decide) (by decide) ?_
      obtain ⟨q2, h⟩ := ck_o h
      refine k_iald (pc' := 184) (z := D1 143 v1) dX12_laysBy_183 rfl (by decide) sk_143 (by decide) q2.1 q2.2 rfl ?_
      exact j_iret dX12_laysBy_184 rfl (by decide) (by decide) (rI_of h)
    · replace h := ite_f b1 h
      refine j_iconst (pc' := 76) dX12_laysBy_75 rfl ?_
      refine j_istore (pc' := 78) (ls' := [some (mR 133), some (mI x1), none, some (mI x3), some (mI x4), some (mI 0), none, none]) dX12_laysBy_76 rfl (by decide) rfl ?_
      exact j_wk (j_widen (ce := 0) (ke := 0) (by decide) (by decide) (c_X12_laysBy_L78 hd ih _ h)) (And.intro rfl (And.intro rfl (And.intro rfl (And.intro rfl (And.intro rfl trivial)))))
theorem c_X12_laysBy_L24 {Ω : mO} {d : Nat} (hd : 9 ≤ d) {r : Int × mD} {x1 x3 : Int} : ∀ (n : Nat) {x4 : Int} {D : mD}, F_X12_laysBy_L24 x1 x3 n x4 D = some r → J Ω M_X12_laysBy d 0 0 (rI r.1 r.2) 24 [some (mR 133), some (mI x1), none, some (mI x3), some (mI x4), none, none, none] [] (SK, D, false) 0 0 := by
  intro n
  induction n with
  | zero => intro x4 D h; exact absurd (show (none : Option (Int × mD)) = some r from h) nofun
  | succ n ih =>
    intro x4 D h
    rw [F_X12_laysBy_L24] at h
    refine j_iload (pc' := 26) dX12_laysBy_24 rfl rfl ?_
    refine j_iload_n (pc' := 27) dX12_laysBy_26 rfl rfl ?_
    obtain ⟨q1, h⟩ := ck_o h
    obtain ⟨q2, h⟩ := ck_o h
    refine j_icmp_gt (tgt := 62) (pc' := 30) dX12_laysBy_27 rfl rfl q1 q2 (fun b1 => ?_) (fun b1 => ?_)
    · replace h := ite_t b1 h
      refine j_aload_n (pc' := 63) dX12_laysBy_62 rfl rfl ?_
      obtain ⟨v1, D1, e1, h⟩ := bI_o h
      refine k_cV (d' := 6) (pc' := 66) [] [] (c_X12_gaps (d := 6) (Nat.le_refl _) e1) cw_X12_94 kc_11 w_1821 ws_87 dX12_laysBy_63 rfl (by omega) rfl rfl (by decide) sk_133 rfl rfl (by decide) (by decide) ?_
      refine j_iconst (pc' := 67) dX12_laysBy_66 rfl ?_
      refine j_isub (pc' := 68) dX12_laysBy_67 rfl ?_
      refine j_istore (pc' := 70) (ls' := [some (mR 133), some (mI x1), none, some (mI x3), some (mI (v1 - 1)), none, none, none]) dX12_laysBy_68 rfl (by decide) rfl ?_
      exact j_wk (j_widen (ce := 0) (ke := 0) (by decide) (by decide) (c_X12_laysBy_L70 hd _ h)) (And.intro rfl (And.intro rfl (And.intro rfl (And.intro rfl trivial))))
    · replace h := ite_f b1 h
      refine j_aload_n (pc' := 31) dX12_laysBy_30 rfl rfl ?_
      refine k_getR (pc' := 34) (sl := 23) (r := 143) kc_11 w_1500 (Or.inl rfl) (by decide) dX12_laysBy_31 rfl (by decide) sk_133 (by decide) rfl (by decide) ?_
      refine j_aload_n (pc' := 35) dX12_laysBy_34 rfl rfl ?_
      obtain ⟨v2, D2, e2, h⟩ := bI_o h
      refine k_cV (d' := 6) (pc' := 38) [] [mR 143] (c_X12_gaps (d := 6) (Nat.le_refl _) e2) cw_X12_94 kc_11 w_1821 ws_87 dX12_laysBy_35 rfl (by omega) rfl rfl (by decide) sk_133 rfl rfl (by decide) (by decide) ?_
      refine j_iload (pc' := 40) dX12_laysBy_38 rfl rfl ?_
      obtain ⟨v3, D3, e3, h⟩ := bI_o h
      refine k_cS (d' := 1) (pc' := 43) [mI v2, mI x4] [mR 143] (c_X12_leastAt (d := 1) (Nat.le_refl _) e3) cw_X12_362 w_1916 dX12_laysBy_40 rfl (by omega) rfl rfl rfl rfl (by decide) (by decide) ?_
      refine j_iload (pc' := 45) dX12_laysBy_43 rfl rfl ?_
      have hj : J Ω M_X12_laysBy d 0 0 (rI r.1 r.2) 55 [some (mR 133), some (mI x1), none, some (mI x3), some (mI x4), none, none, none] [mI (if x4 = 0 then (0 : Int) else (1000000 : Int)), mI v3, mR 143] (SK, D3, false) 0 0 := by
        obtain ⟨q3, h⟩ := ck_o h
        refine k_iast (pc' := 56) dX12_laysBy_55 rfl (by decide) sk_143 (by decide) q3.1 q3.2 ?_
        refine j_iinc (pc' := 59) (z' := (x4 + 1)) (ls' := [some (mR 133), some (mI x1), none, some (mI x3), some (mI (x4 + 1)), none, none, none]) dX12_laysBy_56 rfl rfl rfl (by decide) rfl ?_
        refine j_goto (tgt := 24) dX12_laysBy_59 rfl ?_
        exact j_wk (j_widen (ce := 0) (ke := 0) (by decide) (by decide) (ih h)) (And.intro rfl (And.intro rfl (And.intro rfl (And.intro rfl trivial))))
      refine j_if_ne (tgt := 52) (pc' := 48) dX12_laysBy_45 rfl rfl q1 (fun b2 => ?_) (fun b2 => ?_)
      · refine j_ldcwI (pc' := 55) (n := 1000000) w_1860 dX12_laysBy_52 rfl ?_
        have hj := hj
        try simp only [if_neg b2] at hj
        exact j_wk hj (And.intro rfl (And.intro rfl (And.intro rfl (And.intro rfl trivial))))
      · refine j_iconst (pc' := 49) dX12_laysBy_48 rfl ?_
        refine j_goto (tgt := 55) dX12_laysBy_49 rfl ?_
        have hj := hj
        try simp only [if_pos b2] at hj
        exact j_wk hj (And.intro rfl (And.intro rfl (And.intro rfl (And.intro rfl trivial))))
theorem c_X12_laysBy_e {Ω : mO} {d : Nat} (hd : 9 ≤ d) {r : Int × mD} {x1 x2 : Int} {D : mD} (h : F_X12_laysBy x1 x2 D = some r) : J Ω M_X12_laysBy d 0 0 (rI r.1 r.2) 0 [some (mR 133), some (mI x1), some (mI x2), none, none, none, none, none] [] (SK, D, false) 0 0 := by
  rw [F_X12_laysBy] at h
  refine j_aload_n (pc' := 1) dX12_laysBy_0 rfl rfl ?_
  refine j_iload_n (pc' := 2) dX12_laysBy_1 rfl rfl ?_
  obtain ⟨v1, D1, e1, h⟩ := bI_o h
  refine k_cV (d' := 8) (pc' := 5) [mI x2] [] (c_X12_room (d := 8) (Nat.le_refl _) e1) cw_X12_368 kc_11 w_1909 ws_101 dX12_laysBy_2 rfl (by omega) rfl rfl (by decide) sk_133 rfl rfl (by decide) (by decide) ?_
  refine j_istore_n (pc' := 6) (ls' := [some (mR 133), some (mI x1), some (mI x2), some (mI v1), none, none, none, none]) dX12_laysBy_5 rfl (by decide) rfl ?_
  refine j_aload_n (pc' := 7) dX12_laysBy_6 rfl rfl ?_
  obtain ⟨v2, D2, e2, h⟩ := bI_o h
  refine k_cV (d' := 1) (pc' := 10) [] [] (c_X12_letters (d := 1) (Nat.le_refl _) e2) cw_X12_68 kc_11 w_1788 ws_80 dX12_laysBy_7 rfl (by omega) rfl rfl (by decide) sk_133 rfl rfl (by decide) (by decide) ?_
  obtain ⟨q1, h⟩ := ck_o h
  refine j_if_eq (tgt := 17) (pc' := 13) dX12_laysBy_10 rfl rfl q1 (fun b1 => ?_) (fun b1 => ?_)
  · replace h := ite_t b1 h
    refine j_ldcwI (pc' := 20) (n := 1000000) w_1860 dX12_laysBy_17 rfl ?_
    exact j_iret dX12_laysBy_20 rfl (by decide) (by decide) (rI_of h)
  · replace h := ite_f b1 h
    refine j_iload_n (pc' := 14) dX12_laysBy_13 rfl rfl ?_
    obtain ⟨q2, h⟩ := ck_o h
    refine j_if_ge (tgt := 21) (pc' := 17) dX12_laysBy_14 rfl rfl q2 (fun b2 => ?_) (fun b2 => ?_)
    · replace h := ite_t b2 h
      refine j_iconst (pc' := 22) dX12_laysBy_21 rfl ?_
      refine j_istore (pc' := 24) (ls' := [some (mR 133), some (mI x1), some (mI x2), some (mI v1), some (mI 0), none, none, none]) dX12_laysBy_22 rfl (by decide) rfl ?_
      exact j_wk (j_widen (ce := 0) (ke := 0) (by decide) (by decide) (c_X12_laysBy_L24 hd _ h)) (And.intro rfl (And.intro rfl (And.intro rfl (And.intro rfl trivial))))
    · replace h := ite_f b2 h
      refine j_ldcwI (pc' := 20) (n := 1000000) w_1860 dX12_laysBy_17 rfl ?_
      exact j_iret dX12_laysBy_20 rfl (by decide) (by decide) (rI_of h)
theorem c_X12_laysBy {d : Nat} (hd : 9 ≤ d) {x1 x2 : Int} {D D' : mD} {v : Int} (h : F_X12_laysBy x1 x2 D = some (v, D')) : CM d 0 0 M_X12_laysBy [mR 133, mI x1, mI x2] (SK, D, false) (rI v D') := CM.intro pn_X12 rfl rfl (Nat.le_of_ble_eq_true rfl) (fun _ => c_X12_laysBy_e hd h)
theorem c_X12_firstWay_L19 {Ω : mO} {d : Nat} (hd : 9 ≤ d) {r : Int × mD} {K8 : Int → Int → mD → RI} {x1 x2 x3 : Int} (hK8 : ∀ {x2 x3 : Int} {D : mD}, K8 x2 x3 D = some r → J Ω M_X12_firstWay d 0 0 (rV r.2) 8 [some (mR 133), some (mI x1), some (mI x2), some (mI x3), none] [] (SK, D, false) 0 0) : ∀ (n : Nat) {x4 : Int} {D : mD}, F_X12_firstWay_L19 K8 x1 x2 x3 n x4 D = some r → J Ω M_X12_firstWay d 0 0 (rV r.2) 19 [some (mR 133), some (mI x1), some (mI x2), some (mI x3), some (mI x4)] [] (SK, D, false) 0 0 := by
  intro n
  induction n with
  | zero => intro x4 D h; exact absurd (show (none : Option (Int × mD)) = some r from h) nofun
  | succ n ih =>
    intro x4 D h
    rw [F_X12_firstWay_L19] at h
    refine j_aload_n (pc' := 20) dX12_firstWay_19 rfl rfl ?_
    refine j_iload_n (pc' := 21) dX12_firstWay_20 rfl rfl ?_
    refine j_iload (pc' := 23) dX12_firstWay_21 rfl rfl ?_
    refine j_iload_n (pc' := 24) dX12_firstWay_23 rfl rfl ?_
    obtain ⟨v1, D1, e1, h⟩ := bI_o h
    refine k_cV (d' := 6) (pc' := 27) [mI x3, mI x4, mI x1] [] (c_X12_offBy (d := 6) (Nat.le_refl _) e1) cw_X12_371 kc_11 w_1920 ws_103 dX12_firstWay_24 rfl (by omega) rfl rfl (by decide) sk_133 rfl rfl (by decide) (by decide) ?_
    refine j_aload_n (pc' := 28) dX12_firstWay_27 rfl rfl ?_
    refine j_iload_n (pc' := 29) dX12_firstWay_28 rfl rfl ?_
    refine j_iconst (pc' := 30) dX12_firstWay_29 rfl ?_
    refine j_iadd (pc' := 31) dX12_firstWay_30 rfl ?_
    refine j_iload_n (pc' := 32) dX12_firstWay_31 rfl rfl ?_
    refine j_iload (pc' := 34) dX12_firstWay_32 rfl rfl ?_
    refine j_isub (pc' := 35) dX12_firstWay_34 rfl ?_
    obtain ⟨v2, D2, e2, h⟩ := bI_o h
    refine k_cV (d' := 2) (pc' := 38) [mI (x3 + 1), mI (x2 - x4)] [mI v1] (c_X12_rest (d := 2) (Nat.le_refl _) e2) cw_X12_374 kc_11 w_1925 ws_104 dX12_firstWay_35 rfl (by omega) rfl rfl (by decide) sk_133 rfl rfl (by decide) (by decide) ?_
    refine j_iadd (pc' := 39) dX12_firstWay_38 rfl ?_
    refine j_aload_n (pc' := 40) dX12_firstWay_39 rfl rfl ?_
    refine j_iload_n (pc' := 41) dX12_firstWay_40 rfl rfl ?_
    refine j_iload_n (pc' := 42) dX12_firstWay_41 rfl rfl ?_
    obtain ⟨v3, D3, e3, h⟩ := bI_o h
    refine k_cV (d' := 2) (pc' := 45) [mI x3, mI x2] [mI (v1 + v2)] (c_X12_rest (d := 2) (Nat.le_refl _) e3) cw_X12_374 kc_11 w_1925 ws_104 dX12_firstWay_42 rfl (by omega) rfl rfl (by decide) sk_133 rfl rfl (by decide) (by decide) ?_
    obtain ⟨q1, h⟩ := ck_o h
    obtain ⟨q2, h⟩ := ck_o h
    refine j_icmp_eq (tgt := 54) (pc' := 48) dX12_firstWay_45 rfl rfl q1 q2 (fun b1 => ?_) (fun b1 => ?_)
    · replace h := ite_t b1 h
      refine j_aload_n (pc' := 55) dX12_firstWay_54 rfl rfl ?_
      refine k_getR (pc' := 58) (sl := 24) (r := 144) kc_11 w_1501 (Or.inl rfl) (by decide) dX12_firstWay_55 rfl (by decide) sk_133 (by decide) rfl (by decide) ?_
      refine j_iload_n (pc' := 59) dX12_firstWay_58 rfl rfl ?_
      refine j_iload (pc' := 61) dX12_firstWay_59 rfl rfl ?_
      obtain ⟨q3, h⟩ := ck_o h
      refine k_iast (pc' := 62) dX12_firstWay_61 rfl (by decide) sk_144 (by decide) q3.1 q3.2 ?_
      refine j_iload_n (pc' := 63) dX12_firstWay_62 rfl rfl ?_
      refine j_iload (pc' := 65) dX12_firstWay_63 rfl rfl ?_
      refine j_isub (pc' := 66) dX12_firstWay_65 rfl ?_
      refine j_istore_n (pc' := 67) (ls' := [some (mR 133), some (mI x1), some (mI (x2 - x4)), some (mI x3), some (mI x4)]) dX12_firstWay_66 rfl (by decide) rfl ?_
      refine j_iinc (pc' := 70) (z' := (x3 + 1)) (ls' := [some (mR 133), some (mI x1), some (mI (x2 - x4)), some (mI (x3 + 1)), some (mI x4)]) dX12_firstWay_67 rfl rfl rfl (by decide) rfl ?_
      refine j_goto (tgt := 8) dX12_firstWay_70 rfl ?_
      exact j_wk (j_widen (ce := 0) (ke := 0) (by decide) (by decide) (hK8 h)) (And.intro rfl (And.intro rfl (And.intro rfl (And.intro rfl trivial))))
    · replace h := ite_f b1 h
      refine j_iinc (pc' := 51) (z' := (x4 + 1)) (ls' := [some (mR 133), some (mI x1), some (mI x2), some (mI x3), some (mI (x4 + 1))]) dX12_firstWay_48 rfl rfl rfl (by decide) rfl ?_
      refine j_goto (tgt := 19) dX12_firstWay_51 rfl ?_
      exact j_wk (j_widen (ce := 0) (ke := 0) (by decide) (by decide) (ih h)) (And.intro rfl (And.intro rfl (And.intro rfl (And.intro rfl (And.intro rfl trivial)))))
theorem c_X12_firstWay_L8 {Ω : mO} {d : Nat} (hd : 9 ≤ d) {r : Int × mD} {x1 : Int} : ∀ (n : Nat) {x2 x3 : Int} {D : mD}, F_X12_firstWay_L8 x1 n x2 x3 D = some r → J Ω M_X12_firstWay d 0 0 (rV r.2) 8 [some (mR 133), some (mI x1), some (mI x2), some (mI x3), none] [] (SK, D, false) 0 0 := by
  intro n
  induction n with
  | zero => intro x2 x3 D h; exact absurd (show (none : Option (Int × mD)) = some r from h) nofun
  | succ n ih =>
    intro x2 x3 D h
    rw [F_X12_firstWay_L8] at h
    refine j_iload_n (pc' := 9) dX12_firstWay_8 rfl rfl ?_
    refine j_aload_n (pc' := 10) dX12_firstWay_9 rfl rfl ?_
    obtain ⟨v1, D1, e1, h⟩ := bI_o h
    refine k_cV (d' := 6) (pc' := 13) [] [mI x3] (c_X12_gaps (d := 6) (Nat.le_refl _) e1) cw_X12_94 kc_11 w_1821 ws_87 dX12_firstWay_10 rfl (by omega) rfl rfl (by decide) sk_133 rfl rfl (by decide) (by decide) ?_
    obtain ⟨q1, h⟩ := ck_o h
    obtain ⟨q2, h⟩ := ck_o h
    refine j_icmp_ge (tgt := 73) (pc' := 16) dX12_firstWay_13 rfl rfl q1 q2 (fun b1 => ?_) (fun b1 => ?_)
    · replace h := ite_t b1 h
      exact j_vret dX12_firstWay_73 rfl (by decide) (by decide) (rV_of h)
    · replace h := ite_f b1 h
      refine j_iconst (pc' := 17) dX12_firstWay_16 rfl ?_
      refine j_istore (pc' := 19) (ls' := [some (mR 133), some (mI x1), some (mI x2), some (mI x3), some (mI 0)]) dX12_firstWay_17 rfl (by decide) rfl ?_
      exact j_wk (j_widen (ce := 0) (ke := 0) (by decide) (by decide) (c_X12_firstWay_L19 hd ih _ h)) (And.intro rfl (And.intro rfl (And.intro rfl (And.intro rfl (And.intro rfl trivial)))))
theorem c_X12_firstWay_e {Ω : mO} {d : Nat} (hd : 9 ≤ d) {r : Int × mD} {x1 : Int} {D : mD} (h : F_X12_firstWay x1 D = some r) : J Ω M_X12_firstWay d 0 0 (rV r.2) 0 [some (mR 133), some (mI x1), none, none, none] [] (SK, D, false) 0 0 := by
  rw [F_X12_firstWay] at h
  refine j_aload_n (pc' := 1) dX12_firstWay_0 rfl rfl ?_
  refine j_iconst (pc' := 2) dX12_firstWay_1 rfl ?_
  obtain ⟨v1, D1, e1, h⟩ := bI_o h
  refine k_cV (d' := 8) (pc' := 5) [mI 0] [] (c_X12_room (d := 8) (Nat.le_refl _) e1) cw_X12_368 kc_11 w_1909 ws_101 dX12_firstWay_2 rfl (by omega) rfl rfl (by decide) sk_133 rfl rfl (by decide) (by decide) ?_
  refine j_istore_n (pc' := 6) (ls' := [some (mR 133), some (mI x1), some (mI v1), none, none]) dX12_firstWay_5 rfl (by decide) rfl ?_
  refine j_iconst (pc' := 7) dX12_firstWay_6 rfl ?_
  refine j_istore_n (pc' := 8) (ls' := [some (mR 133), some (mI x1), some (mI v1), some (mI 0), none]) dX12_firstWay_7 rfl (by decide) rfl ?_
  exact j_wk (j_widen (ce := 0) (ke := 0) (by decide) (by decide) (c_X12_firstWay_L8 hd _ h)) (And.intro rfl (And.intro rfl (And.intro rfl (And.intro rfl trivial))))
theorem c_X12_firstWay {d : Nat} (hd : 9 ≤ d) {x1 : Int} {D D' : mD} {v : Int} (h : F_X12_firstWay x1 D = some (v, D')) : CM d 0 0 M_X12_firstWay [mR 133, mI x1] (SK, D, false) (rV D') := CM.intro pn_X12 rfl rfl (Nat.le_of_ble_eq_true rfl) (fun _ => c_X12_firstWay_e hd h)
theorem c_X12_lays_L63 {Ω : mO} {d : Nat} (hd : 10 ≤ d) {r : Int × mD} {x2 : Int} : ∀ (n : Nat) {x3 : Int} {D : mD}, F_X12_lays_L63 x2 n x3 D = some r → J Ω M_X12_lays d 0 0 (rI r.1 r.2) 63 [some (mR 133), none, some (mI x2), some (mI x3)] [] (SK, D, false) 0 0 := by
  intro n
  induction n with
  | zero => intro x3 D h; exact absurd (show (none : Option (Int × mD)) = some r from h) nofun
  | succ n ih =>
    intro x3 D h
    rw [F_X12_lays_L63] at h
    refine j_iload_n (pc' := 64) dX12_lays_63 rfl rfl ?_
    refine j_aload_n (pc' := 65) dX12_lays_64 rfl rfl ?_
    obtain ⟨v1, D1, e1, h⟩ := bI_o h
    refine k_cV (d' := 6) (pc' := 68) [] [mI x3] (c_X12_gaps (d := 6) (Nat.le_refl _) e1) cw_X12_94 kc_11 w_1821 ws_87 dX12_lays_65 rfl (by omega) rfl rfl (by decide) sk_133 rfl rfl (by decide) (by decide) ?_
    obtain ⟨q1, h⟩ := ck_o h
    obtain ⟨q2, h⟩ := ck_o h
    refine j_icmp_ge (tgt := 89) (pc' := 71) dX12_lays_68 rfl rfl q1 q2 (fun b1 => ?_) (fun b1 => ?_)
    · replace h := ite_t b1 h
      refine j_iload_n (pc' := 90) dX12_lays_89 rfl rfl ?_
      exact j_iret dX12_lays_90 rfl (by decide) (by decide) (rI_of h)
    · replace h := ite_f b1 h
      refine j_aload_n (pc' := 72) dX12_lays_71 rfl rfl ?_
      refine j_iload_n (pc' := 73) dX12_lays_72 rfl rfl ?_
      refine j_iconst (pc' := 74) dX12_lays_73 rfl ?_
      refine j_aload_n (pc' := 75) dX12_lays_74 rfl rfl ?_
      refine k_getR (pc' := 78) (sl := 24) (r := 144) kc_11 w_1501 (Or.inl rfl) (by decide) dX12_lays_75 rfl (by decide) sk_133 (by decide) rfl (by decide) ?_
      refine j_iload_n (pc' := 79) dX12_lays_78 rfl rfl ?_
      obtain ⟨q3, h⟩ := ck_o h
      refine k_iald (pc' := 80) (z := D1 144 x3) dX12_lays_79 rfl (by decide) sk_144 (by decide) q3.1 q3.2 rfl ?_
      obtain ⟨v2, D2, e2, h⟩ := bI_o h
      refine k_cVv (d' := 1) (pc' := 83) [mI x3, mI 3, mI (D1 144 x3)] [] (c_X12_sets (d := 1) (Nat.le_refl _) e2) cw_X12_166 kc_11 w_1679 ws_61 dX12_lays_80 rfl (by omega) rfl rfl (by decide) sk_133 rfl rfl (by decide) (by decide) ?_
      refine j_iinc (pc' := 86) (z' := (x3 + 1)) (ls' := [some (mR 133), none, some (mI x2), some (mI (x3 + 1))]) dX12_lays_83 rfl rfl rfl (by decide) rfl ?_
      refine j_goto (tgt := 63) dX12_lays_86 rfl ?_
      exact j_wk (j_widen (ce := 0) (ke := 0) (by decide) (by decide) (ih h)) (And.intro rfl (And.intro rfl (And.intro rfl trivial)))
theorem c_X12_lays_j43 {Ω : mO} {d : Nat} (hd : 10 ≤ d) {r : Int × mD} {x1 x2 s1 : Int} {D : mD} (h : F_X12_lays_j43 x1 x2 s1 D = some r) : J Ω M_X12_lays d 0 0 (rI r.1 r.2) 43 [some (mR 133), some (mI x1), some (mI x2), none] [mI s1, mR 133] (SK, D, false) 0 0 := by
  rw [F_X12_lays_j43] at h
  refine j_iconst (pc' := 44) dX12_lays_43 rfl ?_
  obtain ⟨v1, D1, e1, h⟩ := bI_o h
  refine k_cV (d' := 1) (pc' := 47) [mI s1, mI 2] [] (c_X12_throwsIf (d := 1) (Nat.le_refl _) e1) cw_X12_282 kc_11 w_1753 ws_76 dX12_lays_44 rfl (by omega) rfl rfl (by decide) sk_133 rfl rfl (by decide) (by decide) ?_
  obtain ⟨q1, h⟩ := ck_o h
  refine j_if_eq (tgt := 52) (pc' := 50) dX12_lays_47 rfl rfl q1 (fun b1 => ?_) (fun b1 => ?_)
  · replace h := ite_t b1 h
    refine j_aload_n (pc' := 53) dX12_lays_52 rfl rfl ?_
    obtain ⟨v2, D2, e2, h⟩ := bI_o h
    refine k_cVv (d' := 1) (pc' := 56) [] [] (c_X12_remembers (d := 1) (Nat.le_refl _) e2) cw_X12_356 kc_11 w_1882 ws_98 dX12_lays_53 rfl (by omega) rfl rfl (by decide) sk_133 rfl rfl (by decide) (by decide) ?_
    refine j_aload_n (pc' := 57) dX12_lays_56 rfl rfl ?_
    refine j_iload_n (pc' := 58) dX12_lays_57 rfl rfl ?_
    obtain ⟨v3, D3, e3, h⟩ := bI_o h
    refine k_cVv (d' := 9) (pc' := 61) [mI x1] [] (c_X12_firstWay (d := 9) (Nat.le_refl _) e3) cw_X12_386 kc_11 w_1929 ws_105 dX12_lays_58 rfl (by omega) rfl rfl (by decide) sk_133 rfl rfl (by decide) (by decide) ?_
    refine j_iconst (pc' := 62) dX12_lays_61 rfl ?_
    refine j_istore_n (pc' := 63) (ls' := [some (mR 133), some (mI x1), some (mI x2), some (mI 0)]) dX12_lays_62 rfl (by decide) rfl ?_
    exact j_wk (j_widen (ce := 0) (ke := 0) (by decide) (by decide) (c_X12_lays_L63 hd _ h)) (And.intro rfl (And.intro rfl (And.intro rfl trivial)))
  · replace h := ite_f b1 h
    refine j_iconst (pc' := 51) dX12_lays_50 rfl ?_
    exact j_iret dX12_lays_51 rfl (by decide) (by decide) (rI_of h)
theorem c_X12_lays_e {Ω : mO} {d : Nat} (hd : 10 ≤ d) {r : Int × mD} {x1 : Int} {D : mD} (h : F_X12_lays x1 D = some r) : J Ω M_X12_lays d 0 0 (rI r.1 r.2) 0 [some (mR 133), some (mI x1), none, none] [] (SK, D, false) 0 0 := by
  rw [F_X12_lays] at h
  refine j_aload_n (pc' := 1) dX12_lays_0 rfl rfl ?_
  refine j_iconst (pc' := 2) dX12_lays_1 rfl ?_
  refine k_putI (pc' := 5) (sl := 0) (i' := 0) kc_11 w_1477 (by decide) (Or.inl rfl) dX12_lays_2 rfl (by decide) sk_133 (by decide) ⟨rfl, rfl⟩ rfl ?_
  refine j_aload_n (pc' := 6) dX12_lays_5 rfl rfl ?_
  refine j_iload_n (pc' := 7) dX12_lays_6 rfl rfl ?_
  obtain ⟨v1, D1, e1, h⟩ := bI_o h
  refine k_cS (d' := 2) (pc' := 10) [mI x1] [mR 133] (c_X12_noWhite (d := 2) (Nat.le_refl _) e1) cw_X12_377 w_1897 dX12_lays_7 rfl (by omega) rfl rfl rfl rfl (by decide) (by decide) ?_
  refine j_iconst (pc' := 11) dX12_lays_10 rfl ?_
  obtain ⟨v2, D2, e2, h⟩ := bI_o h
  refine k_cV (d' := 1) (pc' := 14) [mI v1, mI 1] [] (c_X12_throwsIf (d := 1) (Nat.le_refl _) e2) cw_X12_282 kc_11 w_1753 ws_76 dX12_lays_11 rfl (by omega) rfl rfl (by decide) sk_133 rfl rfl (by decide) (by decide) ?_
  obtain ⟨q1, h⟩ := ck_o h
  refine j_if_eq (tgt := 19) (pc' := 17) dX12_lays_14 rfl rfl q1 (fun b1 => ?_) (fun b1 => ?_)
  · replace h := ite_t b1 h
    refine j_aload_n (pc' := 20) dX12_lays_19 rfl rfl ?_
    obtain ⟨v3, D3, e3, h⟩ := bI_o h
    refine k_cVv (d' := 9) (pc' := 23) [] [] (c_X12_laysWhites (d := 9) (Nat.le_refl _) e3) cw_X12_380 kc_11 w_1901 ws_99 dX12_lays_20 rfl (by omega) rfl rfl (by decide) sk_133 rfl rfl (by decide) (by decide) ?_
    refine j_aload_n (pc' := 24) dX12_lays_23 rfl rfl ?_
    refine j_iload_n (pc' := 25) dX12_lays_24 rfl rfl ?_
    refine j_iconst (pc' := 26) dX12_lays_25 rfl ?_
    obtain ⟨v4, D4, e4, h⟩ := bI_o h
    refine k_cV (d' := 9) (pc' := 29) [mI x1, mI 0] [] (c_X12_laysBy (d := 9) (Nat.le_refl _) e4) cw_X12_383 kc_11 w_1905 ws_100 dX12_lays_26 rfl (by omega) rfl rfl (by decide) sk_133 rfl rfl (by decide) (by decide) ?_
    refine j_istore_n (pc' := 30) (ls' := [some (mR 133), some (mI x1), some (mI v4), none]) dX12_lays_29 rfl (by decide) rfl ?_
    refine j_aload_n (pc' := 31) dX12_lays_30 rfl rfl ?_
    refine j_iload_n (pc' := 32) dX12_lays_31 rfl rfl ?_
    refine j_ldcwI (pc' := 35) (n := 1000000) w_1860 dX12_lays_32 rfl ?_
    obtain ⟨q2, h⟩ := ck_o h
    have hj : J Ω M_X12_lays d 0 0 (rI r.1 r.2) 43 [some (mR 133), some (mI x1), some (mI v4), none] [mI (if v4 = 1000000 then (1 : Int) else (0 : Int)), mR 133] (SK, D4, false) 0 0 := by
      exact j_wk (j_widen (ce := 0) (ke := 0) (by decide) (by decide) (c_X12_lays_j43 hd h)) (And.intro rfl (And.intro rfl (And.intro rfl trivial)))
    refine j_icmp_ne (tgt := 42) (pc' := 38) dX12_lays_35 rfl rfl q2 (by decide) (fun b2 => ?_) (fun b2 => ?_)
    · refine j_iconst (pc' := 43) dX12_lays_42 rfl ?_
      have hj := hj
      try simp only [if_neg b2] at hj
      exact j_wk hj (And.intro rfl (And.intro rfl (And.intro rfl trivial)))
    · refine j_iconst (pc' := 39) dX12_lays_38 rfl ?_
      refine j_goto (tgt := 43) dX12_lays_39 rfl ?_
      have hj := hj
      try simp only [if_pos b2] at hj
      exact j_wk hj (And.intro rfl (And.intro rfl (And.intro rfl trivial)))
  · replace h := ite_f b1 h
    refine j_iconst (pc' := 18) dX12_lays_17 rfl ?_
    exact j_iret dX12_lays_18 rfl (by decide) (by decide) (rI_of h)
theorem c_X12_lays {d : Nat} (hd : 10 ≤ d) {x1 : Int} {D D' : mD} {v : Int} (h : F_X12_lays x1 D = some (v, D')) : CM d 0 0 M_X12_lays [mR 133, mI x1] (SK, D, false) (rI v D') := CM.intro pn_X12 rfl rfl (Nat.le_of_ble_eq_true rfl) (fun _ => c_X12_lays_e hd h)
theorem c_X12_laid_j42 {Ω : mO} {d : Nat} (hd : 10 ≤ d) {r : Int × mD} {x3 : Int} {D : mD} (h : F_X12_laid_j42 x3 D = some r) : J Ω M_X12_laid d 0 0 (rI r.1 r.2) 42 [none, none, none, some (mI x3)] [] (SK, D, false) 0 0 := by
  rw [F_X12_laid_j42] at h
  refine j_iload_n (pc' := 43) dX12_laid_42 rfl rfl ?_
  refine j_ldcwI (pc' := 46) (n := 1000000) w_1860 dX12_laid_43 rfl ?_
  obtain ⟨q1, h⟩ := ck_o h
  have hj : J Ω M_X12_laid d 0 0 (rI r.1 r.2) 54 [none, none, none, none] [mI (if x3 = 1000000 then (-1 : Int) else x3)] (SK, D, false) 0 0 := by
    exact j_iret dX12_laid_54 rfl (by decide) (by decide) (rI_of h)
  refine j_icmp_ne (tgt := 53) (pc' := 49) dX12_laid_46 rfl rfl q1 (by decide) (fun b1 => ?_) (fun b1 => ?_)
  · refine j_iload_n (pc' := 54) dX12_laid_53 rfl rfl ?_
    have hj := hj
    try simp only [if_neg b1] at hj
    exact j_wk hj (trivial)
  · refine j_iconst (pc' := 50) dX12_laid_49 rfl ?_
    refine j_goto (tgt := 54) dX12_laid_50 rfl ?_
    have hj := hj
    try simp only [if_pos b1] at hj
    exact j_wk hj (trivial)
theorem c_X12_laid_e {Ω : mO} {d : Nat} (hd : 10 ≤ d) {r : Int × mD} {x1 x2 : Int} {D : mD} (h : F_X12_laid x1 x2 D = some r) : J Ω M_X12_laid d 0 0 (rI r.1 r.2) 0 [some (mR 133), some (mI x1), some (mI x2), none] [] (SK, D, false) 0 0 := by
  rw [F_X12_laid] at h
  refine j_aload_n (pc' := 1) dX12_laid_0 rfl rfl ?_
  refine j_iconst (pc' := 2) dX12_laid_1 rfl ?_
  refine k_putI (pc' := 5) (sl := 0) (i' := 0) kc_11 w_1477 (by decide) (Or.inl rfl) dX12_laid_2 rfl (by decide) sk_133 (by decide) ⟨rfl, rfl⟩ rfl ?_
  refine j_aload_n (pc' := 6) dX12_laid_5 rfl rfl ?_
  refine j_iload_n (pc' := 7) dX12_laid_6 rfl rfl ?_
  obtain ⟨v1, D1, e1, h⟩ := bI_o h
  refine k_cS (d' := 2) (pc' := 10) [mI x1] [mR 133] (c_X12_noWhite (d := 2) (Nat.le_refl _) e1) cw_X12_377 w_1897 dX12_laid_7 rfl (by omega) rfl rfl rfl rfl (by decide) (by decide) ?_
  refine j_iconst (pc' := 11) dX12_laid_10 rfl ?_
  obtain ⟨v2, D2, e2, h⟩ := bI_o h
  refine k_cV (d' := 1) (pc' := 14) [mI v1, mI 1] [] (c_X12_throwsIf (d := 1) (Nat.le_refl _) e2) cw_X12_282 kc_11 w_1753 ws_76 dX12_laid_11 rfl (by omega) rfl rfl (by decide) sk_133 rfl rfl (by decide) (by decide) ?_
  obtain ⟨q1, h⟩ := ck_o h
  refine j_if_eq (tgt := 19) (pc' := 17) dX12_laid_14 rfl rfl q1 (fun b1 => ?_) (fun b1 => ?_)
  · replace h := ite_t b1 h
    refine j_aload_n (pc' := 20) dX12_laid_19 rfl rfl ?_
    obtain ⟨v3, D3, e3, h⟩ := bI_o h
    refine k_cVv (d' := 9) (pc' := 23) [] [] (c_X12_laysWhites (d := 9) (Nat.le_refl _) e3) cw_X12_380 kc_11 w_1901 ws_99 dX12_laid_20 rfl (by omega) rfl rfl (by decide) sk_133 rfl rfl (by decide) (by decide) ?_
    refine j_aload_n (pc' := 24) dX12_laid_23 rfl rfl ?_
    refine j_iload_n (pc' := 25) dX12_laid_24 rfl rfl ?_
    refine j_iconst (pc' := 26) dX12_laid_25 rfl ?_
    obtain ⟨v4, D4, e4, h⟩ := bI_o h
    refine k_cV (d' := 9) (pc' := 29) [mI x1, mI 0] [] (c_X12_laysBy (d := 9) (Nat.le_refl _) e4) cw_X12_383 kc_11 w_1905 ws_100 dX12_laid_26 rfl (by omega) rfl rfl (by decide) sk_133 rfl rfl (by decide) (by decide) ?_
    refine j_istore_n (pc' := 30) (ls' := [some (mR 133), some (mI x1), some (mI x2), some (mI v4)]) dX12_laid_29 rfl (by decide) rfl ?_
    refine j_iload_n (pc' := 31) dX12_laid_30 rfl rfl ?_
    refine j_ldcwI (pc' := 34) (n := 1000000) w_1860 dX12_laid_31 rfl ?_
    obtain ⟨q2, h⟩ := ck_o h
    refine j_icmp_eq (tgt := 42) (pc' := 37) dX12_laid_34 rfl rfl q2 (by decide) (fun b2 => ?_) (fun b2 => ?_)
    · replace h := ite_t b2 h
      exact j_wk (j_widen (ce := 0) (ke := 0) (by decide) (by decide) (c_X12_laid_j42 hd h)) (And.intro rfl trivial)
    · replace h := ite_f b2 h
      refine j_iload_n (pc' := 38) dX12_laid_37 rfl rfl ?_
      refine j_iconst (pc' := 39) dX12_laid_38 rfl ?_
      obtain ⟨q3, h⟩ := ck_o h
      refine j_icmp_ne (tgt := 55) (pc' := 42) dX12_laid_39 rfl rfl q3 (by decide) (fun b3 => ?_) (fun b3 => ?_)
      · replace h := ite_f b3 h
        refine j_aload_n (pc' := 56) dX12_laid_55 rfl rfl ?_
        refine j_iload_n (pc' := 57) dX12_laid_56 rfl rfl ?_
        obtain ⟨v5, D5, e5, h⟩ := bI_o h
        refine k_cVv (d' := 9) (pc' := 60) [mI x1] [] (c_X12_firstWay (d := 9) (Nat.le_refl _) e5) cw_X12_386 kc_11 w_1929 ws_105 dX12_laid_57 rfl (by omega) rfl rfl (by decide) sk_133 rfl rfl (by decide) (by decide) ?_
        refine j_iload_n (pc' := 61) dX12_laid_60 rfl rfl ?_
        refine j_iconst (pc' := 62) dX12_laid_61 rfl ?_
        refine j_aload_n (pc' := 63) dX12_laid_62 rfl rfl ?_
        obtain ⟨v6, D6, e6, h⟩ := bI_o h
        refine k_cV (d' := 6) (pc' := 66) [] [mI 0, mI x2] (c_X12_gaps (d := 6) (Nat.le_refl _) e6) cw_X12_94 kc_11 w_1821 ws_87 dX12_laid_63 rfl (by omega) rfl rfl (by decide) sk_133 rfl rfl (by decide) (by decide) ?_
        refine j_iconst (pc' := 67) dX12_laid_66 rfl ?_
        refine j_isub (pc' := 68) dX12_laid_67 rfl ?_
        obtain ⟨v7, D7, e7, h⟩ := bI_o h
        refine k_cS (d' := 1) (pc' := 71) [mI x2, mI 0, mI (v6 - 1)] [] (c_X12_in (d := 1) (Nat.le_refl _) e7) cw_X12_90 w_1768 dX12_laid_68 rfl (by omega) rfl rfl rfl rfl (by decide) (by decide) ?_
        obtain ⟨q4, h⟩ := ck_o h
        obtain ⟨q5, h⟩ := ck_o h
        have hj : J Ω M_X12_laid d 0 0 (rI r.1 r.2) 84 [none, none, none, none] [mI (if v7 = 0 then (-1 : Int) else (D7 144 x2))] (SK, D7, false) 0 0 := by
          exact j_iret dX12_laid_84 rfl (by decide) (by decide) (rI_of h)
        refine j_if_eq (tgt := 83) (pc' := 74) dX12_laid_71 rfl rfl q4 (fun b4 => ?_) (fun b4 => ?_)
        · refine j_iconst (pc' := 84) dX12_laid_83 rfl ?_
          have hj := hj
          try simp only [if_pos b4] at hj
          exact j_wk hj (trivial)
        · refine j_aload_n (pc' := 75) dX12_laid_74 rfl rfl ?_
          refine k_getR (pc' := 78) (sl := 24) (r := 144) kc_11 w_1501 (Or.inl rfl) (by decide) dX12_laid_75 rfl (by decide) sk_133 (by decide) rfl (by decide) ?_
          refine j_iload_n (pc' := 79) dX12_laid_78 rfl rfl ?_
          refine k_iald (pc' := 80) (z := D7 144 x2) dX12_laid_79 rfl (by decide) sk_144 (by decide) (q5 b4).1 (q5 b4).2 rfl ?_
          refine j_goto (tgt := 84) dX12_laid_80 rfl ?_
          have hj := hj
          try simp only [if_neg b4] at hj
          exact j_wk hj (trivial)
      · replace h := ite_t b3 h
        exact j_wk (j_widen (ce := 0) (ke := 0) (by decide) (by decide) (c_X12_laid_j42 hd h)) (And.intro rfl trivial)
  · replace h := ite_f b1 h
    refine j_iconst (pc' := 18) dX12_laid_17 rfl ?_
    exact j_iret dX12_laid_18 rfl (by decide) (by decide) (rI_of h)
theorem c_X12_laid {d : Nat} (hd : 10 ≤ d) {x1 x2 : Int} {D D' : mD} {v : Int} (h : F_X12_laid x1 x2 D = some (v, D')) : CM d 0 0 M_X12_laid [mR 133, mI x1, mI x2] (SK, D, false) (rI v D') := CM.intro pn_X12 rfl rfl (Nat.le_of_ble_eq_true rfl) (fun _ => c_X12_laid_e hd h)
theorem c_X12_best_L18 {Ω : mO} {d : Nat} (hd : 10 ≤ d) {r : Int × mD} {x1 : Int} : ∀ (n : Nat) {x2 x3 x4 : Int} {D : mD}, F_X12_best_L18 x1 n x2 x3 x4 D = some r → J Ω M_X12_best d 0 0 (rI r.1 r.2) 18 [some (mR 133), some (mI x1), some (mI x2), some (mI x3), some (mI x4), none] [] (SK, D, false) 0 0 := by
  intro n
  induction n with
  | zero => intro x2 x3 x4 D h; exact absurd (show (none : Option (Int × mD)) = some r from h) nofun
  | succ n ih =>
    intro x2 x3 x4 D h
    rw [F_X12_best_L18] at h
    refine j_iload (pc' := 20) dX12_best_18 rfl rfl ?_
    refine j_bipush (pc' := 22) dX12_best_20 rfl rfl ?_
    obtain ⟨q1, h⟩ := ck_o h
    refine j_icmp_gt (tgt := 55) (pc' := 25) dX12_best_22 rfl rfl q1 (by decide) (fun b1 => ?_) (fun b1 => ?_)
    · replace h := ite_t b1 h
      refine j_iload_n (pc' := 56) dX12_best_55 rfl rfl ?_
      refine j_ldcwI (pc' := 59) (n := 1000000) w_1860 dX12_best_56 rfl ?_
      obtain ⟨q2, h⟩ := ck_o h
      obtain ⟨q3, h⟩ := ck_o h
      have hj : J Ω M_X12_best d 0 0 (rI r.1 r.2) 75 [none, none, none, none, none, none] [mI (if x3 = 1000000 then (-1 : Int) else (if x1 = 0 then x2 else x3))] (SK, D, false) 0 0 := by
        exact j_iret dX12_best_75 rfl (by decide) (by decide) (rI_of h)
      refine j_icmp_ne (tgt := 66) (pc' := 62) dX12_best_59 rfl rfl q2 (by decide) (fun b2 => ?_) (fun b2 => ?_)
      · refine j_iload_n (pc' := 67) dX12_best_66 rfl rfl ?_
        refine j_if_eq (tgt := 74) (pc' := 70) dX12_best_67 rfl rfl (q3 b2) (fun b3 => ?_) (fun b3 => ?_)
        · refine j_iload_n (pc' := 75) dX12_best_74 rfl rfl ?_
          have hj := hj
          try simp only [if_neg b2, if_pos b3] at hj
          exact j_wk hj (trivial)
        · refine j_iload_n (pc' := 71) dX12_best_70 rfl rfl ?_
          refine j_goto (tgt := 75) dX12_best_71 rfl ?_
          have hj := hj
          try simp only [if_neg b2, if_neg b3] at hj
          exact j_wk hj (trivial)
      · refine j_iconst (pc' := 63) dX12_best_62 rfl ?_
        refine j_goto (tgt := 75) dX12_best_63 rfl ?_
        have hj := hj
        try simp only [if_pos b2] at hj
        exact j_wk hj (trivial)
    · replace h := ite_f b1 h
      refine j_aload_n (pc' := 26) dX12_best_25 rfl rfl ?_
      refine j_iload (pc' := 28) dX12_best_26 rfl rfl ?_
      refine j_iconst (pc' := 29) dX12_best_28 rfl ?_
      obtain ⟨v1, D1, e1, h⟩ := bI_o h
      refine k_cV (d' := 9) (pc' := 32) [mI x4, mI 0] [] (c_X12_laysBy (d := 9) (Nat.le_refl _) e1) cw_X12_383 kc_11 w_1905 ws_100 dX12_best_29 rfl (by omega) rfl rfl (by decide) sk_133 rfl rfl (by decide) (by decide) ?_
      refine j_istore (pc' := 34) (ls' := [some (mR 133), some (mI x1), some (mI x2), some (mI x3), some (mI x4), some (mI v1)]) dX12_best_32 rfl (by decide) rfl ?_
      refine j_iload (pc' := 36) dX12_best_34 rfl rfl ?_
      refine j_iload_n (pc' := 37) dX12_best_36 rfl rfl ?_
      obtain ⟨q4, h⟩ := ck_o h
      obtain ⟨q5, h⟩ := ck_o h
      have hj : J Ω M_X12_best d 0 0 (rI r.1 r.2) 49 [some (mR 133), some (mI x1), some (mI (if v1 < x3 then x4 else x2)), some (mI (if v1 < x3 then v1 else x3)), some (mI x4), none] [] (SK, D1, false) 0 0 := by
        refine j_iinc (pc' := 52) (z' := (x4 + 1)) (ls' := [some (mR 133), some (mI x1), some (mI (if v1 < x3 then x4 else x2)), some (mI (if v1 < x3 then v1 else x3)), some (mI (x4 + 1)), none]) dX12_best_49 rfl rfl rfl (by decide) rfl ?_
        refine j_goto (tgt := 18) dX12_best_52 rfl ?_
        exact j_wk (j_widen (ce := 0) (ke := 0) (by decide) (by decide) (ih h)) (And.intro rfl (And.intro rfl (And.intro rfl (And.intro rfl (And.intro rfl trivial)))))
      refine j_icmp_lt (tgt := 43) (pc' := 40) dX12_best_37 rfl rfl q4 q5 (fun b4 => ?_) (fun b4 => ?_)
      · refine j_iload (pc' := 45) dX12_best_43 rfl rfl ?_
        refine j_istore_n (pc' := 46) (ls' := [some (mR 133), some (mI x1), some (mI x4), some (mI x3), some (mI x4), some (mI v1)]) dX12_best_45 rfl (by decide) rfl ?_
        refine j_iload (pc' := 48) dX12_best_46 rfl rfl ?_
        refine j_istore_n (pc' := 49) (ls' := [some (mR 133), some (mI x1), some (mI x4), some (mI v1), some (mI x4), some (mI v1)]) dX12_best_48 rfl (by decide) rfl ?_
        have hj := hj
        try simp only [if_pos b4] at hj
        exact j_wk hj (And.intro rfl (And.intro rfl (And.intro rfl (And.intro rfl (And.intro rfl trivial)))))
      · refine j_goto (tgt := 49) dX12_best_40 rfl ?_
        have hj := hj
        try simp only [if_neg b4] at hj
        exact j_wk hj (And.intro rfl (And.intro rfl (And.intro rfl (And.intro rfl (And.intro rfl trivial)))))
theorem c_X12_best_e {Ω : mO} {d : Nat} (hd : 10 ≤ d) {r : Int × mD} {x1 : Int} {D : mD} (h : F_X12_best x1 D = some r) : J Ω M_X12_best d 0 0 (rI r.1 r.2) 0 [some (mR 133), some (mI x1), none, none, none, none] [] (SK, D, false) 0 0 := by
  rw [F_X12_best] at h
  refine j_aload_n (pc' := 1) dX12_best_0 rfl rfl ?_
  refine j_iconst (pc' := 2) dX12_best_1 rfl ?_
  refine k_putI (pc' := 5) (sl := 0) (i' := 0) kc_11 w_1477 (by decide) (Or.inl rfl) dX12_best_2 rfl (by decide) sk_133 (by decide) ⟨rfl, rfl⟩ rfl ?_
  refine j_aload_n (pc' := 6) dX12_best_5 rfl rfl ?_
  obtain ⟨v1, D1, e1, h⟩ := bI_o h
  refine k_cVv (d' := 9) (pc' := 9) [] [] (c_X12_laysWhites (d := 9) (Nat.le_refl _) e1) cw_X12_380 kc_11 w_1901 ws_99 dX12_best_6 rfl (by omega) rfl rfl (by decide) sk_133 rfl rfl (by decide) (by decide) ?_
  refine j_iconst (pc' := 10) dX12_best_9 rfl ?_
  refine j_istore_n (pc' := 11) (ls' := [some (mR 133), some (mI x1), some (mI 0), none, none, none]) dX12_best_10 rfl (by decide) rfl ?_
  refine j_ldcwI (pc' := 14) (n := 1000000) w_1860 dX12_best_11 rfl ?_
  refine j_istore_n (pc' := 15) (ls' := [some (mR 133), some (mI x1), some (mI 0), some (mI 1000000), none, none]) dX12_best_14 rfl (by decide) rfl ?_
  refine j_iconst (pc' := 16) dX12_best_15 rfl ?_
  refine j_istore (pc' := 18) (ls' := [some (mR 133), some (mI x1), some (mI 0), some (mI 1000000), some (mI 0), none]) dX12_best_16 rfl (by decide) rfl ?_
  exact j_wk (j_widen (ce := 0) (ke := 0) (by decide) (by decide) (c_X12_best_L18 hd _ h)) (And.intro rfl (And.intro rfl (And.intro rfl (And.intro rfl (And.intro rfl trivial)))))
theorem c_X12_best {d : Nat} (hd : 10 ≤ d) {x1 : Int} {D D' : mD} {v : Int} (h : F_X12_best x1 D = some (v, D')) : CM d 0 0 M_X12_best [mR 133, mI x1] (SK, D, false) (rI v D') := CM.intro pn_X12 rfl rfl (Nat.le_of_ble_eq_true rfl) (fun _ => c_X12_best_e hd h)
theorem c_X12_inch_e {Ω : mO} {d : Nat} (hd : 10 ≤ d) {r : Int × mD} {x1 : Int} {D : mD} (h : F_X12_inch x1 D = some r) : J Ω M_X12_inch d 0 0 (rI r.1 r.2) 0 [some (mR 133), some (mI x1), none, none] [] (SK, D, false) 0 0 := by
  rw [F_X12_inch] at h
  refine j_aload_n (pc' := 1) dX12_inch_0 rfl rfl ?_
  refine j_iconst (pc' := 2) dX12_inch_1 rfl ?_
  refine k_putI (pc' := 5) (sl := 0) (i' := 0) kc_11 w_1477 (by decide) (Or.inl rfl) dX12_inch_2 rfl (by decide) sk_133 (by decide) ⟨rfl, rfl⟩ rfl ?_
  refine j_aload_n (pc' := 6) dX12_inch_5 rfl rfl ?_
  refine j_iload_n (pc' := 7) dX12_inch_6 rfl rfl ?_
  obtain ⟨v1, D1, e1, h⟩ := bI_o h
  refine k_cS (d' := 2) (pc' := 10) [mI x1] [mR 133] (c_X12_noWhite (d := 2) (Nat.le_refl _) e1) cw_X12_377 w_1897 dX12_inch_7 rfl (by omega) rfl rfl rfl rfl (by decide) (by decide) ?_
  refine j_iconst (pc' := 11) dX12_inch_10 rfl ?_
  obtain ⟨v2, D2, e2, h⟩ := bI_o h
  refine k_cV (d' := 1) (pc' := 14) [mI v1, mI 1] [] (c_X12_throwsIf (d := 1) (Nat.le_refl _) e2) cw_X12_282 kc_11 w_1753 ws_76 dX12_inch_11 rfl (by omega) rfl rfl (by decide) sk_133 rfl rfl (by decide) (by decide) ?_
  obtain ⟨q1, h⟩ := ck_o h
  refine j_if_eq (tgt := 19) (pc' := 17) dX12_inch_14 rfl rfl q1 (fun b1 => ?_) (fun b1 => ?_)
  · replace h := ite_t b1 h
    refine j_aload_n (pc' := 20) dX12_inch_19 rfl rfl ?_
    obtain ⟨v3, D3, e3, h⟩ := bI_o h
    refine k_cVv (d' := 9) (pc' := 23) [] [] (c_X12_laysWhites (d := 9) (Nat.le_refl _) e3) cw_X12_380 kc_11 w_1901 ws_99 dX12_inch_20 rfl (by omega) rfl rfl (by decide) sk_133 rfl rfl (by decide) (by decide) ?_
    refine j_aload_n (pc' := 24) dX12_inch_23 rfl rfl ?_
    refine j_iload_n (pc' := 25) dX12_inch_24 rfl rfl ?_
    refine j_iconst (pc' := 26) dX12_inch_25 rfl ?_
    obtain ⟨v4, D4, e4, h⟩ := bI_o h
    refine k_cV (d' := 9) (pc' := 29) [mI x1, mI 0] [] (c_X12_laysBy (d := 9) (Nat.le_refl _) e4) cw_X12_383 kc_11 w_1905 ws_100 dX12_inch_26 rfl (by omega) rfl rfl (by decide) sk_133 rfl rfl (by decide) (by decide) ?_
    refine j_istore_n (pc' := 30) (ls' := [some (mR 133), some (mI x1), some (mI v4), none]) dX12_inch_29 rfl (by decide) rfl ?_
    refine j_aload_n (pc' := 31) dX12_inch_30 rfl rfl ?_
    refine j_iload_n (pc' := 32) dX12_inch_31 rfl rfl ?_
    refine j_bipush (pc' := 34) dX12_inch_32 rfl rfl ?_
    obtain ⟨v5, D5, e5, h⟩ := bI_o h
    refine k_cV (d' := 9) (pc' := 37) [mI x1, mI 12] [] (c_X12_laysBy (d := 9) (Nat.le_refl _) e5) cw_X12_383 kc_11 w_1905 ws_100 dX12_inch_34 rfl (by omega) rfl rfl (by decide) sk_133 rfl rfl (by decide) (by decide) ?_
    refine j_istore_n (pc' := 38) (ls' := [some (mR 133), some (mI x1), some (mI v4), some (mI v5)]) dX12_inch_37 rfl (by decide) rfl ?_
    refine j_iload_n (pc' := 39) dX12_inch_38 rfl rfl ?_
    refine j_ldcwI (pc' := 42) (n := 1000000) w_1860 dX12_inch_39 rfl ?_
    obtain ⟨q2, h⟩ := ck_o h
    obtain ⟨q3, h⟩ := ck_o h
    have hj : J Ω M_X12_inch d 0 0 (rI r.1 r.2) 61 [none, none, none, none] [mI (if v4 = 1000000 then (-9999 : Int) else (if v5 = 1000000 then (-9999 : Int) else (v4 - v5)))] (SK, D5, false) 0 0 := by
      exact j_iret dX12_inch_61 rfl (by decide) (by decide) (rI_of h)
    refine j_icmp_eq (tgt := 52) (pc' := 45) dX12_inch_42 rfl rfl q2 (by decide) (fun b2 => ?_) (fun b2 => ?_)
    · refine j_sipush (pc' := 55) dX12_inch_52 rfl rfl ?_
      refine j_goto (tgt := 61) dX12_inch_55 rfl ?_
      have hj := hj
      try simp only [if_pos b2] at hj
      exact j_wk hj (trivial)
    · refine j_iload_n (pc' := 46) dX12_inch_45 rfl rfl ?_
      refine j_ldcwI (pc' := 49) (n := 1000000) w_1860 dX12_inch_46 rfl ?_
      refine j_icmp_ne (tgt := 58) (pc' := 52) dX12_inch_49 rfl rfl (q3 b2) (by decide) (fun b3 => ?_) (fun b3 => ?_)
      · refine j_iload_n (pc' := 59) dX12_inch_58 rfl rfl ?_
        refine j_iload_n (pc' := 60) dX12_inch_59 rfl rfl ?_
        refine j_isub (pc' := 61) dX12_inch_60 rfl ?_
        have hj := hj
        try simp only [if_neg b2, if_neg b3] at hj
        exact j_wk hj (trivial)
      · refine j_sipush (pc' := 55) dX12_inch_52 rfl rfl ?_
        refine j_goto (tgt := 61) dX12_inch_55 rfl ?_
        have hj := hj
        try simp only [if_neg b2, if_pos b3] at hj
        exact j_wk hj (trivial)
  · replace h := ite_f b1 h
    refine j_iconst (pc' := 18) dX12_inch_17 rfl ?_
    exact j_iret dX12_inch_18 rfl (by decide) (by decide) (rI_of h)
theorem c_X12_inch {d : Nat} (hd : 10 ≤ d) {x1 : Int} {D D' : mD} {v : Int} (h : F_X12_inch x1 D = some (v, D')) : CM d 0 0 M_X12_inch [mR 133, mI x1] (SK, D, false) (rI v D') := CM.intro pn_X12 rfl rfl (Nat.le_of_ble_eq_true rfl) (fun _ => c_X12_inch_e hd h)
theorem c_X12_nextLetter_L10 {Ω : mO} {d : Nat} (hd : 6 ≤ d) {r : Int × mD} {x1 : Int} : ∀ (n : Nat) {x2 : Int} {D : mD}, F_X12_nextLetter_L10 x1 n x2 D = some r → J Ω M_X12_nextLetter d 0 0 (rI r.1 r.2) 10 [some (mR 133), some (mI x1), some (mI x2)] [] (SK, D, false) 0 0 := by
  intro n
  induction n with
  | zero => intro x2 D h; exact absurd (show (none : Option (Int × mD)) = some r from h) nofun
  | succ n ih =>
    intro x2 D h
    rw [F_X12_nextLetter_L10] at h
    refine j_iload_n (pc' := 11) dX12_nextLetter_10 rfl rfl ?_
    refine j_aload_n (pc' := 12) dX12_nextLetter_11 rfl rfl ?_
    obtain ⟨v1, D1, e1, h⟩ := bI_o h
    refine k_cV (d' := 1) (pc' := 15) [] [mI x2] (c_X12_letters (d := 1) (Nat.le_refl _) e1) cw_X12_68 kc_11 w_1788 ws_80 dX12_nextLetter_12 rfl (by omega) rfl rfl (by decide) sk_133 rfl rfl (by decide) (by decide) ?_
    obtain ⟨q1, h⟩ := ck_o h
    obtain ⟨q2, h⟩ := ck_o h
    refine j_icmp_ge (tgt := 48) (pc' := 18) dX12_nextLetter_15 rfl rfl q1 q2 (fun b1 => ?_) (fun b1 => ?_)
    · replace h := ite_t b1 h
      refine j_iconst (pc' := 49) dX12_nextLetter_48 rfl ?_
      exact j_iret dX12_nextLetter_49 rfl (by decide) (by decide) (rI_of h)
    · replace h := ite_f b1 h
      refine j_aload_n (pc' := 19) dX12_nextLetter_18 rfl rfl ?_
      refine j_iload_n (pc' := 20) dX12_nextLetter_19 rfl rfl ?_
      obtain ⟨v2, D2, e2, h⟩ := bI_o h
      refine k_cV (d' := 2) (pc' := 23) [mI x2] [] (c_X12_isPainted (d := 2) (Nat.le_refl _) e2) cw_X12_390 kc_11 w_1961 ws_109 dX12_nextLetter_20 rfl (by omega) rfl rfl (by decide) sk_133 rfl rfl (by decide) (by decide) ?_
      obtain ⟨q3, h⟩ := ck_o h
      refine j_if_ne (tgt := 42) (pc' := 26) dX12_nextLetter_23 rfl rfl q3 (fun b2 => ?_) (fun b2 => ?_)
      · replace h := ite_f b2 h
        refine j_iinc (pc' := 45) (z' := (x2 + 1)) (ls' := [some (mR 133), some (mI x1), some (mI (x2 + 1))]) dX12_nextLetter_42 rfl rfl rfl (by decide) rfl ?_
        refine j_goto (tgt := 10) dX12_nextLetter_45 rfl ?_
        exact j_wk (j_widen (ce := 0) (ke := 0) (by decide) (by decide) (ih h)) (And.intro rfl (And.intro rfl (And.intro rfl trivial)))
      · replace h := ite_t b2 h
        refine j_iload_n (pc' := 27) dX12_nextLetter_26 rfl rfl ?_
        obtain ⟨q4, h⟩ := ck_o h
        refine j_if_lt (tgt := 40) (pc' := 30) dX12_nextLetter_27 rfl rfl q4 (fun b3 => ?_) (fun b3 => ?_)
        · replace h := ite_t b3 h
          refine j_iload_n (pc' := 41) dX12_nextLetter_40 rfl rfl ?_
          exact j_iret dX12_nextLetter_41 rfl (by decide) (by decide) (rI_of h)
        · replace h := ite_f b3 h
          refine j_iload_n (pc' := 31) dX12_nextLetter_30 rfl rfl ?_
          refine j_iload_n (pc' := 32) dX12_nextLetter_31 rfl rfl ?_
          refine j_isub (pc' := 33) dX12_nextLetter_32 rfl ?_
          obtain ⟨q5, h⟩ := ck_o h
          refine k_abs (pc' := 36) cw_X12_359 w_614 dX12_nextLetter_33 rfl (by omega) q5 rfl (by decide) (by decide) ?_
          refine j_iconst (pc' := 37) dX12_nextLetter_36 rfl ?_
          obtain ⟨q6, h⟩ := ck_o h
          refine j_icmp_eq (tgt := 42) (pc' := 40) dX12_nextLetter_37 rfl rfl q6 (by decide) (fun b4 => ?_) (fun b4 => ?_)
          · replace h := ite_t b4 h
            refine j_iinc (pc' := 45) (z' := (x2 + 1)) (ls' := [some (mR 133), some (mI x1), some (mI (x2 + 1))]) dX12_nextLetter_42 rfl rfl rfl (by decide) rfl ?_
            refine j_goto (tgt := 10) dX12_nextLetter_45 rfl ?_
            exact j_wk (j_widen (ce := 0) (ke := 0) (by decide) (by decide) (ih h)) (And.intro rfl (And.intro rfl (And.intro rfl trivial)))
          · replace h := ite_f b4 h
            refine j_iload_n (pc' := 41) dX12_nextLetter_40 rfl rfl ?_
            exact j_iret dX12_nextLetter_41 rfl (by decide) (by decide) (rI_of h)
theorem c_X12_nextLetter_e {Ω : mO} {d : Nat} (hd : 6 ≤ d) {r : Int × mD} {D : mD} (h : F_X12_nextLetter D = some r) : J Ω M_X12_nextLetter d 0 0 (rI r.1 r.2) 0 [some (mR 133), none, none] [] (SK, D, false) 0 0 := by
  rw [F_X12_nextLetter] at h
  refine j_aload_n (pc' := 1) dX12_nextLetter_0 rfl rfl ?_
  refine k_getR (pc' := 4) (sl := 1) (r := 134) kc_11 w_1478 (Or.inl rfl) (by decide) dX12_nextLetter_1 rfl (by decide) sk_133 (by decide) rfl (by decide) ?_
  refine j_bipush (pc' := 6) dX12_nextLetter_4 rfl rfl ?_
  refine k_iald (pc' := 7) (z := D 134 12) dX12_nextLetter_6 rfl (by decide) sk_134 (by decide) (by decide) (by decide) rfl ?_
  refine j_istore_n (pc' := 8) (ls' := [some (mR 133), some (mI (D 134 12)), none]) dX12_nextLetter_7 rfl (by decide) rfl ?_
  refine j_iconst (pc' := 9) dX12_nextLetter_8 rfl ?_
  refine j_istore_n (pc' := 10) (ls' := [some (mR 133), some (mI (D 134 12)), some (mI 0)]) dX12_nextLetter_9 rfl (by decide) rfl ?_
  exact j_wk (j_widen (ce := 0) (ke := 0) (by decide) (by decide) (c_X12_nextLetter_L10 hd _ h)) (And.intro rfl (And.intro rfl (And.intro rfl trivial)))
theorem c_X12_nextLetter {d : Nat} (hd : 6 ≤ d) {D D' : mD} {v : Int} (h : F_X12_nextLetter D = some (v, D')) : CM d 0 0 M_X12_nextLetter [mR 133] (SK, D, false) (rI v D') := CM.intro pn_X12 rfl rfl (Nat.le_of_ble_eq_true rfl) (fun _ => c_X12_nextLetter_e hd h)
theorem c_X12_gapOf_e {Ω : mO} {d : Nat} (hd : 7 ≤ d) {r : Int × mD} {x1 : Int} {D : mD} (h : F_X12_gapOf x1 D = some r) : J Ω M_X12_gapOf d 0 0 (rI r.1 r.2) 0 [some (mR 133), some (mI x1)] [] (SK, D, false) 0 0 := by
  rw [F_X12_gapOf] at h
  refine j_iload_n (pc' := 1) dX12_gapOf_0 rfl rfl ?_
  refine j_aload_n (pc' := 2) dX12_gapOf_1 rfl rfl ?_
  obtain ⟨v1, D1, e1, h⟩ := bI_o h
  refine k_cV (d' := 6) (pc' := 5) [] [mI x1] (c_X12_gaps (d := 6) (Nat.le_refl _) e1) cw_X12_94 kc_11 w_1821 ws_87 dX12_gapOf_2 rfl (by omega) rfl rfl (by decide) sk_133 rfl rfl (by decide) (by decide) ?_
  obtain ⟨q1, h⟩ := ck_o h
  obtain ⟨q2, h⟩ := ck_o h
  refine j_icmp_ge (tgt := 12) (pc' := 8) dX12_gapOf_5 rfl rfl q1 q2 (fun b1 => ?_) (fun b1 => ?_)
  · replace h := ite_t b1 h
    refine j_aload_n (pc' := 13) dX12_gapOf_12 rfl rfl ?_
    obtain ⟨v2, D2, e2, h⟩ := bI_o h
    refine k_cV (d' := 6) (pc' := 16) [] [] (c_X12_gaps (d := 6) (Nat.le_refl _) e2) cw_X12_94 kc_11 w_1821 ws_87 dX12_gapOf_13 rfl (by omega) rfl rfl (by decide) sk_133 rfl rfl (by decide) (by decide) ?_
    refine j_iconst (pc' := 17) dX12_gapOf_16 rfl ?_
    refine j_isub (pc' := 18) dX12_gapOf_17 rfl ?_
    exact j_iret dX12_gapOf_18 rfl (by decide) (by decide) (rI_of h)
  · replace h := ite_f b1 h
    refine j_iload_n (pc' := 9) dX12_gapOf_8 rfl rfl ?_
    refine j_goto (tgt := 18) dX12_gapOf_9 rfl ?_
    exact j_iret dX12_gapOf_18 rfl (by decide) (by decide) (rI_of h)
theorem c_X12_gapOf {d : Nat} (hd : 7 ≤ d) {x1 : Int} {D D' : mD} {v : Int} (h : F_X12_gapOf x1 D = some (v, D')) : CM d 0 0 M_X12_gapOf [mR 133, mI x1] (SK, D, false) (rI v D') := CM.intro pn_X12 rfl rfl (Nat.le_of_ble_eq_true rfl) (fun _ => c_X12_gapOf_e hd h)
theorem c_X12_slipsBy_e {Ω : mO} {d : Nat} (hd : 8 ≤ d) {r : Int × mD} {x1 x2 : Int} {D : mD} (h : F_X12_slipsBy x1 x2 D = some r) : J Ω M_X12_slipsBy d 0 0 (rI r.1 r.2) 0 [some (mR 133), some (mI x1), some (mI x2), none, none] [] (SK, D, false) 0 0 := by
  rw [F_X12_slipsBy] at h
  refine j_aload_n (pc' := 1) dX12_slipsBy_0 rfl rfl ?_
  refine j_bipush (pc' := 3) dX12_slipsBy_1 rfl rfl ?_
  obtain ⟨v1, D1, e1, h⟩ := bI_o h
  refine k_cV (d' := 1) (pc' := 6) [mI 100] [] (c_X12_draw (d := 1) (Nat.le_refl _) e1) cw_X12_393 kc_11 w_1969 ws_111 dX12_slipsBy_3 rfl (by omega) rfl rfl (by decide) sk_133 rfl rfl (by decide) (by decide) ?_
  refine j_aload_n (pc' := 7) dX12_slipsBy_6 rfl rfl ?_
  refine k_getR (pc' := 10) (sl := 1) (r := 134) kc_11 w_1478 (Or.inl rfl) (by decide) dX12_slipsBy_7 rfl (by decide) sk_133 (by decide) rfl (by decide) ?_
  refine j_sipush (pc' := 13) dX12_slipsBy_10 rfl rfl ?_
  refine j_iconst (pc' := 14) dX12_slipsBy_13 rfl ?_
  refine j_iload_n (pc' := 15) dX12_slipsBy_14 rfl rfl ?_
  refine j_imul (pc' := 16) dX12_slipsBy_15 rfl ?_
  refine j_iadd (pc' := 17) dX12_slipsBy_16 rfl ?_
  refine j_iconst (pc' := 18) dX12_slipsBy_17 rfl ?_
  refine j_iadd (pc' := 19) dX12_slipsBy_18 rfl ?_
  obtain ⟨q1, h⟩ := ck_o h
  refine k_iald (pc' := 20) (z := D1 134 ((215 + (2 * x2)) + 1)) dX12_slipsBy_19 rfl (by decide) sk_134 (by decide) q1.1 q1.2 rfl ?_
  obtain ⟨q2, h⟩ := ck_o h
  obtain ⟨q3, h⟩ := ck_o h
  refine j_icmp_ge (tgt := 30) (pc' := 23) dX12_slipsBy_20 rfl rfl q2 q3 (fun b1 => ?_) (fun b1 => ?_)
  · replace h := ite_t b1 h
    refine j_iconst (pc' := 31) dX12_slipsBy_30 rfl ?_
    exact j_iret dX12_slipsBy_31 rfl (by decide) (by decide) (rI_of h)
  · replace h := ite_f b1 h
    refine j_aload_n (pc' := 24) dX12_slipsBy_23 rfl rfl ?_
    obtain ⟨v2, D2, e2, h⟩ := bI_o h
    refine k_cV (d' := 6) (pc' := 27) [] [] (c_X12_gaps (d := 6) (Nat.le_refl _) e2) cw_X12_94 kc_11 w_1821 ws_87 dX12_slipsBy_24 rfl (by omega) rfl rfl (by decide) sk_133 rfl rfl (by decide) (by decide) ?_
    obtain ⟨q4, h⟩ := ck_o h
    refine j_if_ne (tgt := 32) (pc' := 30) dX12_slipsBy_27 rfl rfl q4 (fun b2 => ?_) (fun b2 => ?_)
    · replace h := ite_f b2 h
      refine j_aload_n (pc' := 33) dX12_slipsBy_32 rfl rfl ?_
      refine j_iload_n (pc' := 34) dX12_slipsBy_33 rfl rfl ?_
      obtain ⟨v3, D3, e3, h⟩ := bI_o h
      refine k_cV (d' := 7) (pc' := 37) [mI x1] [] (c_X12_gapOf (d := 7) (Nat.le_refl _) e3) cw_X12_396 kc_11 w_1974 ws_112 dX12_slipsBy_34 rfl (by omega) rfl rfl (by decide) sk_133 rfl rfl (by decide) (by decide) ?_
      refine j_istore_n (pc' := 38) (ls' := [some (mR 133), some (mI x1), some (mI x2), some (mI v3), none]) dX12_slipsBy_37 rfl (by decide) rfl ?_
      refine j_aload_n (pc' := 39) dX12_slipsBy_38 rfl rfl ?_
      refine j_iload_n (pc' := 40) dX12_slipsBy_39 rfl rfl ?_
      obtain ⟨v4, D4, e4, h⟩ := bI_o h
      refine k_cV (d' := 2) (pc' := 43) [mI v3] [] (c_X12_distance (d := 2) (Nat.le_refl _) e4) cw_X12_319 kc_11 w_1809 ws_85 dX12_slipsBy_40 rfl (by omega) rfl rfl (by decide) sk_133 rfl rfl (by decide) (by decide) ?_
      refine j_istore (pc' := 45) (ls' := [some (mR 133), some (mI x1), some (mI x2), some (mI v3), some (mI v4)]) dX12_slipsBy_43 rfl (by decide) rfl ?_
      refine j_aload_n (pc' := 46) dX12_slipsBy_45 rfl rfl ?_
      refine j_iload_n (pc' := 47) dX12_slipsBy_46 rfl rfl ?_
      refine j_iconst (pc' := 48) dX12_slipsBy_47 rfl ?_
      refine j_iconst (pc' := 49) dX12_slipsBy_48 rfl ?_
      refine j_bipush (pc' := 51) dX12_slipsBy_49 rfl rfl ?_
      refine j_iload (pc' := 53) dX12_slipsBy_51 rfl rfl ?_
      refine j_iconst (pc' := 54) dX12_slipsBy_53 rfl ?_
      refine j_aload_n (pc' := 55) dX12_slipsBy_54 rfl rfl ?_
      refine j_iconst (pc' := 56) dX12_slipsBy_55 rfl ?_
      obtain ⟨v5, D5, e5, h⟩ := bI_o h
      refine k_cV (d' := 1) (pc' := 59) [mI 2] [mI 2, mI v4, mI 30, mI 0, mI 3, mI v3, mR 133] (c_X12_draw (d := 1) (Nat.le_refl _) e5) cw_X12_393 kc_11 w_1969 ws_111 dX12_slipsBy_56 rfl (by omega) rfl rfl (by decide) sk_133 rfl rfl (by decide) (by decide) ?_
      refine j_imul (pc' := 60) dX12_slipsBy_59 rfl ?_
      refine j_iadd (pc' := 61) dX12_slipsBy_60 rfl ?_
      refine j_iconst (pc' := 62) dX12_slipsBy_61 rfl ?_
      refine j_isub (pc' := 63) dX12_slipsBy_62 rfl ?_
      obtain ⟨q5, h⟩ := ck_o h
      refine k_min (pc' := 66) cw_X12_310 w_560 dX12_slipsBy_63 rfl (by omega) (by decide) q5 rfl (by decide) (by decide) ?_
      obtain ⟨q6, h⟩ := ck_o h
      refine k_max (pc' := 69) cw_X12_72 w_541 dX12_slipsBy_66 rfl (by omega) (by decide) q6 rfl (by decide) (by decide) ?_
      obtain ⟨v6, D6, e6, h⟩ := bI_o h
      refine k_cVv (d' := 1) (pc' := 72) [mI v3, mI 3, mI (max 0 (min 30 ((v4 + (2 * v5)) - 1)))] [] (c_X12_sets (d := 1) (Nat.le_refl _) e6) cw_X12_166 kc_11 w_1679 ws_61 dX12_slipsBy_69 rfl (by omega) rfl rfl (by decide) sk_133 rfl rfl (by decide) (by decide) ?_
      refine j_aload_n (pc' := 73) dX12_slipsBy_72 rfl rfl ?_
      refine j_iload_n (pc' := 74) dX12_slipsBy_73 rfl rfl ?_
      obtain ⟨v7, D7, e7, h⟩ := bI_o h
      refine k_cV (d' := 2) (pc' := 77) [mI v3] [] (c_X12_distance (d := 2) (Nat.le_refl _) e7) cw_X12_319 kc_11 w_1809 ws_85 dX12_slipsBy_74 rfl (by omega) rfl rfl (by decide) sk_133 rfl rfl (by decide) (by decide) ?_
      refine j_iload (pc' := 79) dX12_slipsBy_77 rfl rfl ?_
      refine j_isub (pc' := 80) dX12_slipsBy_79 rfl ?_
      exact j_iret dX12_slipsBy_80 rfl (by decide) (by decide) (rI_of h)
    · replace h := ite_t b2 h
      refine j_iconst (pc' := 31) dX12_slipsBy_30 rfl ?_
      exact j_iret dX12_slipsBy_31 rfl (by decide) (by decide) (rI_of h)
theorem c_X12_slipsBy {d : Nat} (hd : 8 ≤ d) {x1 x2 : Int} {D D' : mD} {v : Int} (h : F_X12_slipsBy x1 x2 D = some (v, D')) : CM d 0 0 M_X12_slipsBy [mR 133, mI x1, mI x2] (SK, D, false) (rI v D') := CM.intro pn_X12 rfl rfl (Nat.le_of_ble_eq_true rfl) (fun _ => c_X12_slipsBy_e hd h)
theorem c_X12_isLogged_L5 {Ω : mO} {d : Nat} (hd : 6 ≤ d) {r : Int × mD} {x1 x2 x3 : Int} : ∀ (n : Nat) {x4 : Int} {D : mD}, F_X12_isLogged_L5 x1 x2 x3 n x4 D = some r → J Ω M_X12_isLogged d 0 0 (rV r.2) 5 [some (mR 133), some (mI x1), some (mI x2), some (mI x3), some (mI x4)] [] (SK, D, false) 0 0 := by
  intro n
  induction n with
  | zero => intro x4 D h; exact absurd (show (none : Option (Int × mD)) = some r from h) nofun
  | succ n ih =>
    intro x4 D h
    rw [F_X12_isLogged_L5] at h
    refine j_iload (pc' := 7) dX12_isLogged_5 rfl rfl ?_
    refine j_iconst (pc' := 8) dX12_isLogged_7 rfl ?_
    obtain ⟨q1, h⟩ := ck_o h
    refine j_icmp_lt (tgt := 41) (pc' := 11) dX12_isLogged_8 rfl rfl q1 (by decide) (fun b1 => ?_) (fun b1 => ?_)
    · replace h := ite_t b1 h
      refine j_aload_n (pc' := 42) dX12_isLogged_41 rfl rfl ?_
      refine k_getR (pc' := 45) (sl := 1) (r := 134) kc_11 w_1478 (Or.inl rfl) (by decide) dX12_isLogged_42 rfl (by decide) sk_133 (by decide) rfl (by decide) ?_
      refine j_sipush (pc' := 48) dX12_isLogged_45 rfl rfl ?_
      refine j_aload_n (pc' := 49) dX12_isLogged_48 rfl rfl ?_
      refine k_getR (pc' := 52) (sl := 1) (r := 134) kc_11 w_1478 (Or.inl rfl) (by decide) dX12_isLogged_49 rfl (by decide) sk_133 (by decide) rfl (by decide) ?_
      refine j_bipush (pc' := 54) dX12_isLogged_52 rfl rfl ?_
      refine k_iald (pc' := 55) (z := D 134 11) dX12_isLogged_54 rfl (by decide) sk_134 (by decide) (by decide) (by decide) rfl ?_
      refine k_iast (pc' := 56) dX12_isLogged_55 rfl (by decide) sk_134 (by decide) (by decide) (by decide) ?_
      refine j_aload_n (pc' := 57) dX12_isLogged_56 rfl rfl ?_
      refine k_getR (pc' := 60) (sl := 1) (r := 134) kc_11 w_1478 (Or.inl rfl) (by decide) dX12_isLogged_57 rfl (by decide) sk_133 (by decide) rfl (by decide) ?_
      refine j_sipush (pc' := 63) dX12_isLogged_60 rfl rfl ?_
      refine j_iload_n (pc' := 64) dX12_isLogged_63 rfl rfl ?_
      refine k_iast (pc' := 65) dX12_isLogged_64 rfl (by decide) sk_134 (by decide) (by decide) (by decide) ?_
      refine j_aload_n (pc' := 66) dX12_isLogged_65 rfl rfl ?_
      refine k_getR (pc' := 69) (sl := 1) (r := 134) kc_11 w_1478 (Or.inl rfl) (by decide) dX12_isLogged_66 rfl (by decide) sk_133 (by decide) rfl (by decide) ?_
      refine j_sipush (pc' := 72) dX12_isLogged_69 rfl rfl ?_
      refine j_iload_n (pc' := 73) dX12_isLogged_72 rfl rfl ?_
      refine k_iast (pc' := 74) dX12_isLogged_73 rfl (by decide) sk_134 (by decide) (by decide) (by decide) ?_
      refine j_aload_n (pc' := 75) dX12_isLogged_74 rfl rfl ?_
      refine k_getR (pc' := 78) (sl := 1) (r := 134) kc_11 w_1478 (Or.inl rfl) (by decide) dX12_isLogged_75 rfl (by decide) sk_133 (by decide) rfl (by decide) ?_
      refine j_sipush (pc' := 81) dX12_isLogged_78 rfl rfl ?_
      refine j_iload_n (pc' := 82) dX12_isLogged_81 rfl rfl ?_
      refine k_iast (pc' := 83) dX12_isLogged_82 rfl (by decide) sk_134 (by decide) (by decide) (by decide) ?_
      refine j_aload_n (pc' := 84) dX12_isLogged_83 rfl rfl ?_
      refine k_getR (pc' := 87) (sl := 1) (r := 134) kc_11 w_1478 (Or.inl rfl) (by decide) dX12_isLogged_84 rfl (by decide) sk_133 (by decide) rfl (by decide) ?_
      refine j_bipush (pc' := 89) dX12_isLogged_87 rfl rfl ?_
      refine j_bipush (pc' := 91) dX12_isLogged_89 rfl rfl ?_
      refine j_aload_n (pc' := 92) dX12_isLogged_91 rfl rfl ?_
      refine k_getR (pc' := 95) (sl := 1) (r := 134) kc_11 w_1478 (Or.inl rfl) (by decide) dX12_isLogged_92 rfl (by decide) sk_133 (by decide) rfl (by decide) ?_
      refine j_bipush (pc' := 97) dX12_isLogged_95 rfl rfl ?_
      refine k_iald (pc' := 98) (z := (pD (pD (pD (pD D 134 235 (D 134 11)) 134 236 x1) 134 237 x2) 134 238 x3) 134 13) dX12_isLogged_97 rfl (by decide) sk_134 (by decide) (by decide) (by decide) rfl ?_
      refine j_iconst (pc' := 99) dX12_isLogged_98 rfl ?_
      refine j_iadd (pc' := 100) dX12_isLogged_99 rfl ?_
      obtain ⟨q2, h⟩ := ck_o h
      refine k_min (pc' := 103) cw_X12_310 w_560 dX12_isLogged_100 rfl (by omega) (by decide) q2 rfl (by decide) (by decide) ?_
      refine k_iast (pc' := 104) dX12_isLogged_103 rfl (by decide) sk_134 (by decide) (by decide) (by decide) ?_
      exact j_vret dX12_isLogged_104 rfl (by decide) (by decide) (rV_of h)
    · replace h := ite_f b1 h
      refine j_aload_n (pc' := 12) dX12_isLogged_11 rfl rfl ?_
      refine k_getR (pc' := 15) (sl := 1) (r := 134) kc_11 w_1478 (Or.inl rfl) (by decide) dX12_isLogged_12 rfl (by decide) sk_133 (by decide) rfl (by decide) ?_
      refine j_sipush (pc' := 18) dX12_isLogged_15 rfl rfl ?_
      refine j_iload (pc' := 20) dX12_isLogged_18 rfl rfl ?_
      refine j_iadd (pc' := 21) dX12_isLogged_20 rfl ?_
      refine j_aload_n (pc' := 22) dX12_isLogged_21 rfl rfl ?_
      refine k_getR (pc' := 25) (sl := 1) (r := 134) kc_11 w_1478 (Or.inl rfl) (by decide) dX12_isLogged_22 rfl (by decide) sk_133 (by decide) rfl (by decide) ?_
      refine j_sipush (pc' := 28) dX12_isLogged_25 rfl rfl ?_
      refine j_iload (pc' := 30) dX12_isLogged_28 rfl rfl ?_
      refine j_iadd (pc' := 31) dX12_isLogged_30 rfl ?_
      refine j_iconst (pc' := 32) dX12_isLogged_31 rfl ?_
      refine j_isub (pc' := 33) dX12_isLogged_32 rfl ?_
      obtain ⟨q3, h⟩ := ck_o h
      refine k_iald (pc' := 34) (z := D 134 ((235 + x4) - 4)) dX12_isLogged_33 rfl (by decide) sk_134 (by decide) q3.1 q3.2 rfl ?_
      obtain ⟨q4, h⟩ := ck_o h
      refine k_iast (pc' := 35) dX12_isLogged_34 rfl (by decide) sk_134 (by decide) q4.1 q4.2 ?_
      refine j_iinc (pc' := 38) (z' := (x4 - 1)) (ls' := [some (mR 133), some (mI x1), some (mI x2), some (mI x3), some (mI (x4 - 1))]) dX12_isLogged_35 rfl rfl (by omega) (by decide) rfl ?_
      refine j_goto (tgt := 5) dX12_isLogged_38 rfl ?_
      exact j_wk (j_widen (ce := 0) (ke := 0) (by decide) (by decide) (ih h)) (And.intro rfl (And.intro rfl (And.intro rfl (And.intro rfl (And.intro rfl trivial)))))
theorem c_X12_isLogged_e {Ω : mO} {d : Nat} (hd : 6 ≤ d) {r : Int × mD} {x1 x2 x3 : Int} {D : mD} (h : F_X12_isLogged x1 x2 x3 D = some r) : J Ω M_X12_isLogged d 0 0 (rV r.2) 0 [some (mR 133), some (mI x1), some (mI x2), some (mI x3), none] [] (SK, D, false) 0 0 := by
  rw [F_X12_isLogged] at h
  refine j_sipush (pc' := 3) dX12_isLogged_0 rfl rfl ?_
  refine j_istore (pc' := 5) (ls' := [some (mR 133), some (mI x1), some (mI x2), some (mI x3), some (mI 239)]) dX12_isLogged_3 rfl (by decide) rfl ?_
  exact j_wk (j_widen (ce := 0) (ke := 0) (by decide) (by decide) (c_X12_isLogged_L5 hd _ h)) (And.intro rfl (And.intro rfl (And.intro rfl (And.intro rfl (And.intro rfl trivial)))))
theorem c_X12_isLogged {d : Nat} (hd : 6 ≤ d) {x1 x2 x3 : Int} {D D' : mD} {v : Int} (h : F_X12_isLogged x1 x2 x3 D = some (v, D')) : CM d 0 0 M_X12_isLogged [mR 133, mI x1, mI x2, mI x3] (SK, D, false) (rV D') := CM.intro pn_X12 rfl rfl (Nat.le_of_ble_eq_true rfl) (fun _ => c_X12_isLogged_e hd h)
theorem c_X12_paints_j34 {Ω : mO} {d : Nat} (hd : 9 ≤ d) {r : Int × mD} {x2 : Int} {D : mD} (h : F_X12_paints_j34 x2 D = some r) : J Ω M_X12_paints d 0 0 (rI r.1 r.2) 34 [some (mR 133), none, some (mI x2)] [] (SK, D, false) 0 0 := by
  rw [F_X12_paints_j34] at h
  refine j_aload_n (pc' := 35) dX12_paints_34 rfl rfl ?_
  refine k_getR (pc' := 38) (sl := 1) (r := 134) kc_11 w_1478 (Or.inl rfl) (by decide) dX12_paints_35 rfl (by decide) sk_133 (by decide) rfl (by decide) ?_
  refine j_bipush (pc' := 40) dX12_paints_38 rfl rfl ?_
  refine j_iload_n (pc' := 41) dX12_paints_40 rfl rfl ?_
  refine k_iast (pc' := 42) dX12_paints_41 rfl (by decide) sk_134 (by decide) (by decide) (by decide) ?_
  refine j_aload_n (pc' := 43) dX12_paints_42 rfl rfl ?_
  refine k_getR (pc' := 46) (sl := 1) (r := 134) kc_11 w_1478 (Or.inl rfl) (by decide) dX12_paints_43 rfl (by decide) sk_133 (by decide) rfl (by decide) ?_
  refine j_bipush (pc' := 48) dX12_paints_46 rfl rfl ?_
  refine j_dup2 (pc' := 49) dX12_paints_48 rfl rfl rfl ?_
  refine k_iald (pc' := 50) (z := (pD D 134 12 x2) 134 11) dX12_paints_49 rfl (by decide) sk_134 (by decide) (by decide) (by decide) rfl ?_
  refine j_iconst (pc' := 51) dX12_paints_50 rfl ?_
  refine j_iadd (pc' := 52) dX12_paints_51 rfl ?_
  refine k_iast (pc' := 53) dX12_paints_52 rfl (by decide) sk_134 (by decide) (by decide) (by decide) ?_
  refine j_iload_n (pc' := 54) dX12_paints_53 rfl rfl ?_
  exact j_iret dX12_paints_54 rfl (by decide) (by decide) (rI_of h)
theorem c_X12_paints_e {Ω : mO} {d : Nat} (hd : 9 ≤ d) {r : Int × mD} {x1 : Int} {D : mD} (h : F_X12_paints x1 D = some r) : J Ω M_X12_paints d 0 0 (rI r.1 r.2) 0 [some (mR 133), some (mI x1), none] [] (SK, D, false) 0 0 := by
  rw [F_X12_paints] at h
  refine j_aload_n (pc' := 1) dX12_paints_0 rfl rfl ?_
  obtain ⟨v1, D1, e1, h⟩ := bI_o h
  refine k_cV (d' := 6) (pc' := 4) [] [] (c_X12_nextLetter (d := 6) (Nat.le_refl _) e1) cw_X12_399 kc_11 w_1957 ws_108 dX12_paints_1 rfl (by omega) rfl rfl (by decide) sk_133 rfl rfl (by decide) (by decide) ?_
  refine j_istore_n (pc' := 5) (ls' := [some (mR 133), some (mI x1), some (mI v1)]) dX12_paints_4 rfl (by decide) rfl ?_
  refine j_iload_n (pc' := 6) dX12_paints_5 rfl rfl ?_
  obtain ⟨q1, h⟩ := ck_o h
  refine j_if_lt (tgt := 34) (pc' := 9) dX12_paints_6 rfl rfl q1 (fun b1 => ?_) (fun b1 => ?_)
  · replace h := ite_t b1 h
    exact j_wk (j_widen (ce := 0) (ke := 0) (by decide) (by decide) (c_X12_paints_j34 hd h)) (And.intro rfl (And.intro rfl trivial))
  · replace h := ite_f b1 h
    refine j_aload_n (pc' := 10) dX12_paints_9 rfl rfl ?_
    refine j_iload_n (pc' := 11) dX12_paints_10 rfl rfl ?_
    refine j_iconst (pc' := 12) dX12_paints_11 rfl ?_
    refine j_aload_n (pc' := 13) dX12_paints_12 rfl rfl ?_
    refine k_getR (pc' := 16) (sl := 1) (r := 134) kc_11 w_1478 (Or.inl rfl) (by decide) dX12_paints_13 rfl (by decide) sk_133 (by decide) rfl (by decide) ?_
    refine j_bipush (pc' := 18) dX12_paints_16 rfl rfl ?_
    refine k_iald (pc' := 19) (z := D1 134 11) dX12_paints_18 rfl (by decide) sk_134 (by decide) (by decide) (by decide) rfl ?_
    obtain ⟨v2, D2, e2, h⟩ := bI_o h
    refine k_cVv (d' := 1) (pc' := 22) [mI v1, mI 2, mI (D1 134 11)] [] (c_X12_sets (d := 1) (Nat.le_refl _) e2) cw_X12_166 kc_11 w_1679 ws_61 dX12_paints_19 rfl (by omega) rfl rfl (by decide) sk_133 rfl rfl (by decide) (by decide) ?_
    refine j_aload_n (pc' := 23) dX12_paints_22 rfl rfl ?_
    refine j_iload_n (pc' := 24) dX12_paints_23 rfl rfl ?_
    refine j_iload_n (pc' := 25) dX12_paints_24 rfl rfl ?_
    refine j_aload_n (pc' := 26) dX12_paints_25 rfl rfl ?_
    refine j_iload_n (pc' := 27) dX12_paints_26 rfl rfl ?_
    refine j_iload_n (pc' := 28) dX12_paints_27 rfl rfl ?_
    obtain ⟨v3, D3, e3, h⟩ := bI_o h
    refine k_cV (d' := 8) (pc' := 31) [mI v1, mI x1] [mI x1, mI v1, mR 133] (c_X12_slipsBy (d := 8) (Nat.le_refl _) e3) cw_X12_402 kc_11 w_1965 ws_110 dX12_paints_28 rfl (by omega) rfl rfl (by decide) sk_133 rfl rfl (by decide) (by decide) ?_
    obtain ⟨v4, D4, e4, h⟩ := bI_o h
    refine k_cVv (d' := 6) (pc' := 34) [mI v1, mI x1, mI v3] [] (c_X12_isLogged (d := 6) (Nat.le_refl _) e4) cw_X12_405 kc_11 w_1978 ws_113 dX12_paints_31 rfl (by omega) rfl rfl (by decide) sk_133 rfl rfl (by decide) (by decide) ?_
    exact j_wk (j_widen (ce := 0) (ke := 0) (by decide) (by decide) (c_X12_paints_j34 hd h)) (And.intro rfl (And.intro rfl trivial))
theorem c_X12_paints {d : Nat} (hd : 9 ≤ d) {x1 : Int} {D D' : mD} {v : Int} (h : F_X12_paints x1 D = some (v, D')) : CM d 0 0 M_X12_paints [mR 133, mI x1] (SK, D, false) (rI v D') := CM.intro pn_X12 rfl rfl (Nat.le_of_ble_eq_true rfl) (fun _ => c_X12_paints_e hd h)
theorem c_X12_paint_e {Ω : mO} {d : Nat} (hd : 10 ≤ d) {r : Int × mD} {x1 : Int} {D : mD} (h : F_X12_paint x1 D = some r) : J Ω M_X12_paint d 0 0 (rI r.1 r.2) 0 [some (mR 133), some (mI x1)] [] (SK, D, false) 0 0 := by
  rw [F_X12_paint] at h
  refine j_aload_n (pc' := 1) dX12_paint_0 rfl rfl ?_
  refine j_iconst (pc' := 2) dX12_paint_1 rfl ?_
  refine k_putI (pc' := 5) (sl := 0) (i' := 0) kc_11 w_1477 (by decide) (Or.inl rfl) dX12_paint_2 rfl (by decide) sk_133 (by decide) ⟨rfl, rfl⟩ rfl ?_
  refine j_aload_n (pc' := 6) dX12_paint_5 rfl rfl ?_
  refine j_aload_n (pc' := 7) dX12_paint_6 rfl rfl ?_
  refine j_iload_n (pc' := 8) dX12_paint_7 rfl rfl ?_
  obtain ⟨v1, D1, e1, h⟩ := bI_o h
  refine k_cV (d' := 2) (pc' := 11) [mI x1] [mR 133] (c_X12_noWriter (d := 2) (Nat.le_refl _) e1) cw_X12_408 kc_11 w_1949 ws_106 dX12_paint_8 rfl (by omega) rfl rfl (by decide) sk_133 rfl rfl (by decide) (by decide) ?_
  refine j_iconst (pc' := 12) dX12_paint_11 rfl ?_
  obtain ⟨v2, D2, e2, h⟩ := bI_o h
  refine k_cV (d' := 1) (pc' := 15) [mI v1, mI 1] [] (c_X12_throwsIf (d := 1) (Nat.le_refl _) e2) cw_X12_282 kc_11 w_1753 ws_76 dX12_paint_12 rfl (by omega) rfl rfl (by decide) sk_133 rfl rfl (by decide) (by decide) ?_
  obtain ⟨q1, h⟩ := ck_o h
  refine j_if_eq (tgt := 20) (pc' := 18) dX12_paint_15 rfl rfl q1 (fun b1 => ?_) (fun b1 => ?_)
  · replace h := ite_t b1 h
    refine j_aload_n (pc' := 21) dX12_paint_20 rfl rfl ?_
    obtain ⟨v3, D3, e3, h⟩ := bI_o h
    refine k_cVv (d' := 1) (pc' := 24) [] [] (c_X12_remembers (d := 1) (Nat.le_refl _) e3) cw_X12_356 kc_11 w_1882 ws_98 dX12_paint_21 rfl (by omega) rfl rfl (by decide) sk_133 rfl rfl (by decide) (by decide) ?_
    refine j_aload_n (pc' := 25) dX12_paint_24 rfl rfl ?_
    refine j_iload_n (pc' := 26) dX12_paint_25 rfl rfl ?_
    obtain ⟨v4, D4, e4, h⟩ := bI_o h
    refine k_cV (d' := 9) (pc' := 29) [mI x1] [] (c_X12_paints (d := 9) (Nat.le_refl _) e4) cw_X12_411 kc_11 w_1953 ws_107 dX12_paint_26 rfl (by omega) rfl rfl (by decide) sk_133 rfl rfl (by decide) (by decide) ?_
    exact j_iret dX12_paint_29 rfl (by decide) (by decide) (rI_of h)
  · replace h := ite_f b1 h
    refine j_iconst (pc' := 19) dX12_paint_18 rfl ?_
    exact j_iret dX12_paint_19 rfl (by decide) (by decide) (rI_of h)
theorem c_X12_paint {d : Nat} (hd : 10 ≤ d) {x1 : Int} {D D' : mD} {v : Int} (h : F_X12_paint x1 D = some (v, D')) : CM d 0 0 M_X12_paint [mR 133, mI x1] (SK, D, false) (rI v D') := CM.intro pn_X12 rfl rfl (Nat.le_of_ble_eq_true rfl) (fun _ => c_X12_paint_e hd h)
theorem c_X12_painted_L4 {Ω : mO} {d : Nat} (hd : 3 ≤ d) {r : Int × mD} : ∀ (n : Nat) {x1 x2 : Int} {D : mD}, F_X12_painted_L4 n x1 x2 D = some r → J Ω M_X12_painted d 0 0 (rI r.1 r.2) 4 [some (mR 133), some (mI x1), some (mI x2)] [] (SK, D, false) 0 0 := by
  intro n
  induction n with
  | zero => intro x1 x2 D h; exact absurd (show (none : Option (Int × mD)) = some r from h) nofun
  | succ n ih =>
    intro x1 x2 D h
    rw [F_X12_painted_L4] at h
    refine j_iload_n (pc' := 5) dX12_painted_4 rfl rfl ?_
    refine j_aload_n (pc' := 6) dX12_painted_5 rfl rfl ?_
    obtain ⟨v1, D1, e1, h⟩ := bI_o h
    refine k_cV (d' := 1) (pc' := 9) [] [mI x2] (c_X12_letters (d := 1) (Nat.le_refl _) e1) cw_X12_68 kc_11 w_1788 ws_80 dX12_painted_6 rfl (by omega) rfl rfl (by decide) sk_133 rfl rfl (by decide) (by decide) ?_
    obtain ⟨q1, h⟩ := ck_o h
    obtain ⟨q2, h⟩ := ck_o h
    refine j_icmp_ge (tgt := 36) (pc' := 12) dX12_painted_9 rfl rfl q1 q2 (fun b1 => ?_) (fun b1 => ?_)
    · replace h := ite_t b1 h
      refine j_iload_n (pc' := 37) dX12_painted_36 rfl rfl ?_
      exact j_iret dX12_painted_37 rfl (by decide) (by decide) (rI_of h)
    · replace h := ite_f b1 h
      refine j_iload_n (pc' := 13) dX12_painted_12 rfl rfl ?_
      refine j_aload_n (pc' := 14) dX12_painted_13 rfl rfl ?_
      refine j_iload_n (pc' := 15) dX12_painted_14 rfl rfl ?_
      obtain ⟨v2, D2, e2, h⟩ := bI_o h
      refine k_cV (d' := 2) (pc' := 18) [mI x2] [mI x1] (c_X12_isPainted (d := 2) (Nat.le_refl _) e2) cw_X12_390 kc_11 w_1961 ws_109 dX12_painted_15 rfl (by omega) rfl rfl (by decide) sk_133 rfl rfl (by decide) (by decide) ?_
      obtain ⟨q3, h⟩ := ck_o h
      have hj : J Ω M_X12_painted d 0 0 (rI r.1 r.2) 28 [some (mR 133), none, some (mI x2)] [mI (if v2 = 0 then (0 : Int) else (bShl 1 x2)), mI x1] (SK, D2, false) 0 0 := by
        refine j_ior (pc' := 29) dX12_painted_28 rfl ?_
        refine j_istore_n (pc' := 30) (ls' := [some (mR 133), some (mI (bOr x1 (if v2 = 0 then (0 : Int) else (bShl 1 x2)))), some (mI x2)]) dX12_painted_29 rfl (by decide) rfl ?_
        refine j_iinc (pc' := 33) (z' := (x2 + 1)) (ls' := [some (mR 133), some (mI (bOr x1 (if v2 = 0 then (0 : Int) else (bShl 1 x2)))), some (mI (x2 + 1))]) dX12_painted_30 rfl rfl rfl (by decide) rfl ?_
        refine j_goto (tgt := 4) dX12_painted_33 rfl ?_
        exact j_wk (j_widen (ce := 0) (ke := 0) (by decide) (by decide) (ih h)) (And.intro rfl (And.intro rfl (And.intro rfl trivial)))
      refine j_if_eq (tgt := 27) (pc' := 21) dX12_painted_18 rfl rfl q3 (fun b2 => ?_) (fun b2 => ?_)
      · refine j_iconst (pc' := 28) dX12_painted_27 rfl ?_
        have hj := hj
        try simp only [if_pos b2] at hj
        exact j_wk hj (And.intro rfl (And.intro rfl trivial))
      · refine j_iconst (pc' := 22) dX12_painted_21 rfl ?_
        refine j_iload_n (pc' := 23) dX12_painted_22 rfl rfl ?_
        refine j_ishl (pc' := 24) dX12_painted_23 rfl ?_
        refine j_goto (tgt := 28) dX12_painted_24 rfl ?_
        have hj := hj
        try simp only [if_neg b2] at hj
        exact j_wk hj (And.intro rfl (And.intro rfl trivial))
theorem c_X12_painted_e {Ω : mO} {d : Nat} (hd : 3 ≤ d) {r : Int × mD} {D : mD} (h : F_X12_painted D = some r) : J Ω M_X12_painted d 0 0 (rI r.1 r.2) 0 [some (mR 133), none, none] [] (SK, D, false) 0 0 := by
  rw [F_X12_painted] at h
  refine j_iconst (pc' := 1) dX12_painted_0 rfl ?_
  refine j_istore_n (pc' := 2) (ls' := [some (mR 133), some (mI 0), none]) dX12_painted_1 rfl (by decide) rfl ?_
  refine j_iconst (pc' := 3) dX12_painted_2 rfl ?_
  refine j_istore_n (pc' := 4) (ls' := [some (mR 133), some (mI 0), some (mI 0)]) dX12_painted_3 rfl (by decide) rfl ?_
  exact j_wk (j_widen (ce := 0) (ke := 0) (by decide) (by decide) (c_X12_painted_L4 hd _ h)) (And.intro rfl (And.intro rfl (And.intro rfl trivial)))
theorem c_X12_painted {d : Nat} (hd : 3 ≤ d) {D D' : mD} {v : Int} (h : F_X12_painted D = some (v, D')) : CM d 0 0 M_X12_painted [mR 133] (SK, D, false) (rI v D') := CM.intro pn_X12 rfl rfl (Nat.le_of_ble_eq_true rfl) (fun _ => c_X12_painted_e hd h)
theorem c_X12_allLetters_e {Ω : mO} {d : Nat} (hd : 2 ≤ d) {r : Int × mD} {D : mD} (h : F_X12_allLetters D = some r) : J Ω M_X12_allLetters d 0 0 (rI r.1 r.2) 0 [some (mR 133)] [] (SK, D, false) 0 0 := by
  rw [F_X12_allLetters] at h
  refine j_iconst (pc' := 1) dX12_allLetters_0 rfl ?_
  refine j_aload_n (pc' := 2) dX12_allLetters_1 rfl rfl ?_
  obtain ⟨v1, D1, e1, h⟩ := bI_o h
  refine k_cV (d' := 1) (pc' := 5) [] [mI 1] (c_X12_letters (d := 1) (Nat.le_refl _) e1) cw_X12_68 kc_11 w_1788 ws_80 dX12_allLetters_2 rfl (by omega) rfl rfl (by decide) sk_133 rfl rfl (by decide) (by decide) ?_
  refine j_ishl (pc' := 6) dX12_allLetters_5 rfl ?_
  refine j_iconst (pc' := 7) dX12_allLetters_6 rfl ?_
  refine j_isub (pc' := 8) dX12_allLetters_7 rfl ?_
  exact j_iret dX12_allLetters_8 rfl (by decide) (by decide) (rI_of h)
theorem c_X12_allLetters {d : Nat} (hd : 2 ≤ d) {D D' : mD} {v : Int} (h : F_X12_allLetters D = some (v, D')) : CM d 0 0 M_X12_allLetters [mR 133] (SK, D, false) (rI v D') := CM.intro pn_X12 rfl rfl (Nat.le_of_ble_eq_true rfl) (fun _ => c_X12_allLetters_e hd h)
theorem c_X12_keepsAll_L2 {Ω : mO} {d : Nat} (hd : 1 ≤ d) {r : Int × mD} : ∀ (n : Nat) {x1 : Int} {D : mD}, F_X12_keepsAll_L2 n x1 D = some r → J Ω M_X12_keepsAll d 0 0 (rV r.2) 2 [some (mR 133), some (mI x1)] [] (SK, D, false) 0 0 := by
  intro n
  induction n with
  | zero => intro x1 D h; exact absurd (show (none : Option (Int × mD)) = some r from h) nofun
  | succ n ih =>
    intro x1 D h
    rw [F_X12_keepsAll_L2] at h
    refine j_iload_n (pc' := 3) dX12_keepsAll_2 rfl rfl ?_
    refine j_sipush (pc' := 6) dX12_keepsAll_3 rfl rfl ?_
    obtain ⟨q1, h⟩ := ck_o h
    refine j_icmp_ge (tgt := 27) (pc' := 9) dX12_keepsAll_6 rfl rfl q1 (by decide) (fun b1 => ?_) (fun b1 => ?_)
    · replace h := ite_t b1 h
      exact j_vret dX12_keepsAll_27 rfl (by decide) (by decide) (rV_of h)
    · replace h := ite_f b1 h
      refine j_aload_n (pc' := 10) dX12_keepsAll_9 rfl rfl ?_
      refine k_getR (pc' := 13) (sl := 4) (r := 137) kc_11 w_1481 (Or.inl rfl) (by decide) dX12_keepsAll_10 rfl (by decide) sk_133 (by decide) rfl (by decide) ?_
      refine j_iload_n (pc' := 14) dX12_keepsAll_13 rfl rfl ?_
      refine j_aload_n (pc' := 15) dX12_keepsAll_14 rfl rfl ?_
      refine k_getR (pc' := 18) (sl := 1) (r := 134) kc_11 w_1478 (Or.inl rfl) (by decide) dX12_keepsAll_15 rfl (by decide) sk_133 (by decide) rfl (by decide) ?_
      refine j_iload_n (pc' := 19) dX12_keepsAll_18 rfl rfl ?_
      obtain ⟨q2, h⟩ := ck_o h
      refine k_iald (pc' := 20) (z := D 134 x1) dX12_keepsAll_19 rfl (by decide) sk_134 (by decide) q2.1 q2.2 rfl ?_
      obtain ⟨q3, h⟩ := ck_o h
      refine k_iast (pc' := 21) dX12_keepsAll_20 rfl (by decide) sk_137 (by decide) q3.1 q3.2 ?_
      refine j_iinc (pc' := 24) (z' := (x1 + 1)) (ls' := [some (mR 133), some (mI (x1 + 1))]) dX12_keepsAll_21 rfl rfl rfl (by decide) rfl ?_
      refine j_goto (tgt := 2) dX12_keepsAll_24 rfl ?_
      exact j_wk (j_widen (ce := 0) (ke := 0) (by decide) (by decide) (ih h)) (And.intro rfl (And.intro rfl trivial))
theorem c_X12_keepsAll_e {Ω : mO} {d : Nat} (hd : 1 ≤ d) {r : Int × mD} {D : mD} (h : F_X12_keepsAll D = some r) : J Ω M_X12_keepsAll d 0 0 (rV r.2) 0 [some (mR 133), none] [] (SK, D, false) 0 0 := by
  rw [F_X12_keepsAll] at h
  refine j_iconst (pc' := 1) dX12_keepsAll_0 rfl ?_
  refine j_istore_n (pc' := 2) (ls' := [some (mR 133), some (mI 0)]) dX12_keepsAll_1 rfl (by decide) rfl ?_
  exact j_wk (j_widen (ce := 0) (ke := 0) (by decide) (by decide) (c_X12_keepsAll_L2 hd _ h)) (And.intro rfl (And.intro rfl trivial))
theorem c_X12_keepsAll {d : Nat} (hd : 1 ≤ d) {D D' : mD} {v : Int} (h : F_X12_keepsAll D = some (v, D')) : CM d 0 0 M_X12_keepsAll [mR 133] (SK, D, false) (rV D') := CM.intro pn_X12 rfl rfl (Nat.le_of_ble_eq_true rfl) (fun _ => c_X12_keepsAll_e hd h)
theorem c_X12_bringsBack_L2 {Ω : mO} {d : Nat} (hd : 1 ≤ d) {r : Int × mD} : ∀ (n : Nat) {x1 : Int} {D : mD}, F_X12_bringsBack_L2 n x1 D = some r → J Ω M_X12_bringsBack d 0 0 (rV r.2) 2 [some (mR 133), some (mI x1)] [] (SK, D, false) 0 0 := by
  intro n
  induction n with
  | zero => intro x1 D h; exact absurd (show (none : Option (Int × mD)) = some r from h) nofun
  | succ n ih =>
    intro x1 D h
    rw [F_X12_bringsBack_L2] at h
    refine j_iload_n (pc' := 3) dX12_bringsBack_2 rfl rfl ?_
    refine j_sipush (pc' := 6) dX12_bringsBack_3 rfl rfl ?_
    obtain ⟨q1, h⟩ := ck_o h
    refine j_icmp_ge (tgt := 27) (pc' := 9) dX12_bringsBack_6 rfl rfl q1 (by decide) (fun b1 => ?_) (fun b1 => ?_)
    · replace h := ite_t b1 h
      exact j_vret dX12_bringsBack_27 rfl (by decide) (by decide) (rV_of h)
    · replace h := ite_f b1 h
      refine j_aload_n (pc' := 10) dX12_bringsBack_9 rfl rfl ?_
      refine k_getR (pc' := 13) (sl := 1) (r := 134) kc_11 w_1478 (Or.inl rfl) (by decide) dX12_bringsBack_10 rfl (by decide) sk_133 (by decide) rfl (by decide) ?_
      refine j_iload_n (pc' := 14) dX12_bringsBack_13 rfl rfl ?_
      refine j_aload_n (pc' := 15) dX12_bringsBack_14 rfl rfl ?_
      refine k_getR (pc' := 18) (sl := 4) (r := 137) kc_11 w_1481 (Or.inl rfl) (by decide) dX12_bringsBack_15 rfl (by decide) sk_133 (by decide) rfl (by decide) ?_
      refine j_iload_n (pc' := 19) dX12_bringsBack_18 rfl rfl ?_
      obtain ⟨q2, h⟩ := ck_o h
      refine k_iald (pc' := 20) (z := D 137 x1) dX12_bringsBack_19 rfl (by decide) sk_137 (by decide) q2.1 q2.2 rfl ?_
      obtain ⟨q3, h⟩ := ck_o h
      refine k_iast (pc' := 21) dX12_bringsBack_20 rfl (by decide) sk_134 (by decide) q3.1 q3.2 ?_
      refine j_iinc (pc' := 24) (z' := (x1 + 1)) (ls' := [some (mR 133), some (mI (x1 + 1))]) dX12_bringsBack_21 rfl rfl rfl (by decide) rfl ?_
      refine j_goto (tgt := 2) dX12_bringsBack_24 rfl ?_
      exact j_wk (j_widen (ce := 0) (ke := 0) (by decide) (by decide) (ih h)) (And.intro rfl (And.intro rfl trivial))
theorem c_X12_bringsBack_e {Ω : mO} {d : Nat} (hd : 1 ≤ d) {r : Int × mD} {D : mD} (h : F_X12_bringsBack D = some r) : J Ω M_X12_bringsBack d 0 0 (rV r.2) 0 [some (mR 133), none] [] (SK, D, false) 0 0 := by
  rw [F_X12_bringsBack] at h
  refine j_iconst (pc' := 1) dX12_bringsBack_0 rfl ?_
  refine j_istore_n (pc' := 2) (ls' := [some (mR 133), some (mI 0)]) dX12_bringsBack_1 rfl (by decide) rfl ?_
  exact j_wk (j_widen (ce := 0) (ke := 0) (by decide) (by decide) (c_X12_bringsBack_L2 hd _ h)) (And.intro rfl (And.intro rfl trivial))
theorem c_X12_bringsBack {d : Nat} (hd : 1 ≤ d) {D D' : mD} {v : Int} (h : F_X12_bringsBack D = some (v, D')) : CM d 0 0 M_X12_bringsBack [mR 133] (SK, D, false) (rV D') := CM.intro pn_X12 rfl rfl (Nat.le_of_ble_eq_true rfl) (fun _ => c_X12_bringsBack_e hd h)
theorem c_X12_order_j43 {Ω : mO} {d : Nat} (hd : 7 ≤ d) {r : Int × mD} {K13 : Int → Int → mD → RI} {x1 x2 x3 x4 : Int} (hK13 : ∀ {x2 x3 : Int} {D : mD}, K13 x2 x3 D = some r → J Ω M_X12_order d 0 0 (rI r.1 r.2) 13 [some (mR 133), some (mI x1), some (mI x2), some (mI x3), none] [] (SK, D, false) 0 0) {D : mD} (h : F_X12_order_j43 K13 x1 x2 x3 x4 D = some r) : J Ω M_X12_order d 0 0 (rI r.1 r.2) 43 [some (mR 133), some (mI x1), some (mI x2), some (mI x3), some (mI x4)] [] (SK, D, false) 0 0 := by
  rw [F_X12_order_j43] at h
  refine j_aload_n (pc' := 44) dX12_order_43 rfl rfl ?_
  refine k_getR (pc' := 47) (sl := 1) (r := 134) kc_11 w_1478 (Or.inl rfl) (by decide) dX12_order_44 rfl (by decide) sk_133 (by decide) rfl (by decide) ?_
  refine j_bipush (pc' := 49) dX12_order_47 rfl rfl ?_
  refine j_iload (pc' := 51) dX12_order_49 rfl rfl ?_
  refine k_iast (pc' := 52) dX12_order_51 rfl (by decide) sk_134 (by decide) (by decide) (by decide) ?_
  refine j_iload_n (pc' := 53) dX12_order_52 rfl rfl ?_
  refine j_iload_n (pc' := 54) dX12_order_53 rfl rfl ?_
  obtain ⟨q1, h⟩ := ck_o h
  obtain ⟨q2, h⟩ := ck_o h
  have hj : J Ω M_X12_order d 0 0 (rI r.1 r.2) 63 [some (mR 133), some (mI x1), some (mI x2), none, none] [mI (if x2 = x1 then x4 else x3)] (SK, (pD D 134 12 x4), false) 0 0 := by
    refine j_istore_n (pc' := 64) (ls' := [some (mR 133), some (mI x1), some (mI x2), some (mI (if x2 = x1 then x4 else x3)), none]) dX12_order_63 rfl (by decide) rfl ?_
    refine j_iinc (pc' := 67) (z' := (x2 + 1)) (ls' := [some (mR 133), some (mI x1), some (mI (x2 + 1)), some (mI (if x2 = x1 then x4 else x3)), none]) dX12_order_64 rfl rfl rfl (by decide) rfl ?_
    refine j_goto (tgt := 13) dX12_order_67 rfl ?_
    exact j_wk (j_widen (ce := 0) (ke := 0) (by decide) (by decide) (hK13 h)) (And.intro rfl (And.intro rfl (And.intro rfl (And.intro rfl trivial))))
  refine j_icmp_ne (tgt := 62) (pc' := 57) dX12_order_54 rfl rfl q1 q2 (fun b1 => ?_) (fun b1 => ?_)
  · refine j_iload_n (pc' := 63) dX12_order_62 rfl rfl ?_
    have hj := hj
    try simp only [if_neg b1] at hj
    exact j_wk hj (And.intro rfl (And.intro rfl (And.intro rfl trivial)))
  · refine j_iload (pc' := 59) dX12_order_57 rfl rfl ?_
    refine j_goto (tgt := 63) dX12_order_59 rfl ?_
    have hj := hj
    try simp only [if_pos b1] at hj
    exact j_wk hj (And.intro rfl (And.intro rfl (And.intro rfl trivial)))
theorem c_X12_order_L13 {Ω : mO} {d : Nat} (hd : 7 ≤ d) {r : Int × mD} {x1 : Int} : ∀ (n : Nat) {x2 x3 : Int} {D : mD}, F_X12_order_L13 x1 n x2 x3 D = some r → J Ω M_X12_order d 0 0 (rI r.1 r.2) 13 [some (mR 133), some (mI x1), some (mI x2), some (mI x3), none] [] (SK, D, false) 0 0 := by
  intro n
  induction n with
  | zero => intro x2 x3 D h; exact absurd (show (none : Option (Int × mD)) = some r from h) nofun
  | succ n ih =>
    intro x2 x3 D h
    rw [F_X12_order_L13] at h
    refine j_aload_n (pc' := 14) dX12_order_13 rfl rfl ?_
    obtain ⟨v1, D1, e1, h⟩ := bI_o h
    refine k_cV (d' := 3) (pc' := 17) [] [] (c_X12_painted (d := 3) (Nat.le_refl _) e1) cw_X12_417 kc_11 w_1990 ws_115 dX12_order_14 rfl (by omega) rfl rfl (by decide) sk_133 rfl rfl (by decide) (by decide) ?_
    refine j_aload_n (pc' := 18) dX12_order_17 rfl rfl ?_
    obtain ⟨v2, D2, e2, h⟩ := bI_o h
    refine k_cV (d' := 2) (pc' := 21) [] [mI v1] (c_X12_allLetters (d := 2) (Nat.le_refl _) e2) cw_X12_420 kc_11 w_1994 ws_116 dX12_order_18 rfl (by omega) rfl rfl (by decide) sk_133 rfl rfl (by decide) (by decide) ?_
    obtain ⟨q1, h⟩ := ck_o h
    obtain ⟨q2, h⟩ := ck_o h
    refine j_icmp_eq (tgt := 70) (pc' := 24) dX12_order_21 rfl rfl q1 q2 (fun b1 => ?_) (fun b1 => ?_)
    · replace h := ite_t b1 h
      refine j_aload_n (pc' := 71) dX12_order_70 rfl rfl ?_
      obtain ⟨v3, D3, e3, h⟩ := bI_o h
      refine k_cVv (d' := 1) (pc' := 74) [] [] (c_X12_bringsBack (d := 1) (Nat.le_refl _) e3) cw_X12_423 kc_11 w_1998 ws_117 dX12_order_71 rfl (by omega) rfl rfl (by decide) sk_133 rfl rfl (by decide) (by decide) ?_
      refine j_iload_n (pc' := 75) dX12_order_74 rfl rfl ?_
      refine j_iconst (pc' := 76) dX12_order_75 rfl ?_
      obtain ⟨q3, h⟩ := ck_o h
      have hj : J Ω M_X12_order d 0 0 (rI r.1 r.2) 84 [none, none, none, none, none] [mI (if x1 = (-1) then x2 else x3)] (SK, D3, false) 0 0 := by
        exact j_iret dX12_order_84 rfl (by decide) (by decide) (rI_of h)
      refine j_icmp_ne (tgt := 83) (pc' := 79) dX12_order_76 rfl rfl q3 (by decide) (fun b2 => ?_) (fun b2 => ?_)
      · refine j_iload_n (pc' := 84) dX12_order_83 rfl rfl ?_
        have hj := hj
        try simp only [if_neg b2] at hj
        exact j_wk hj (trivial)
      · refine j_iload_n (pc' := 80) dX12_order_79 rfl rfl ?_
        refine j_goto (tgt := 84) dX12_order_80 rfl ?_
        have hj := hj
        try simp only [if_pos b2] at hj
        exact j_wk hj (trivial)
    · replace h := ite_f b1 h
      refine j_aload_n (pc' := 25) dX12_order_24 rfl rfl ?_
      obtain ⟨v4, D4, e4, h⟩ := bI_o h
      refine k_cV (d' := 6) (pc' := 28) [] [] (c_X12_nextLetter (d := 6) (Nat.le_refl _) e4) cw_X12_399 kc_11 w_1957 ws_108 dX12_order_25 rfl (by omega) rfl rfl (by decide) sk_133 rfl rfl (by decide) (by decide) ?_
      refine j_istore (pc' := 30) (ls' := [some (mR 133), some (mI x1), some (mI x2), some (mI x3), some (mI v4)]) dX12_order_28 rfl (by decide) rfl ?_
      refine j_iload (pc' := 32) dX12_order_30 rfl rfl ?_
      obtain ⟨q4, h⟩ := ck_o h
      refine j_if_lt (tgt := 43) (pc' := 35) dX12_order_32 rfl rfl q4 (fun b3 => ?_) (fun b3 => ?_)
      · replace h := ite_t b3 h
        exact j_wk (j_widen (ce := 0) (ke := 0) (by decide) (by decide) (c_X12_order_j43 hd ih h)) (And.intro rfl (And.intro rfl (And.intro rfl (And.intro rfl (And.intro rfl trivial)))))
      · replace h := ite_f b3 h
        refine j_aload_n (pc' := 36) dX12_order_35 rfl rfl ?_
        refine j_iload (pc' := 38) dX12_order_36 rfl rfl ?_
        refine j_iconst (pc' := 39) dX12_order_38 rfl ?_
        refine j_iconst (pc' := 40) dX12_order_39 rfl ?_
        obtain ⟨v5, D5, e5, h⟩ := bI_o h
        refine k_cVv (d' := 1) (pc' := 43) [mI v4, mI 2, mI 0] [] (c_X12_sets (d := 1) (Nat.le_refl _) e5) cw_X12_166 kc_11 w_1679 ws_61 dX12_order_40 rfl (by omega) rfl rfl (by decide) sk_133 rfl rfl (by decide) (by decide) ?_
        exact j_wk (j_widen (ce := 0) (ke := 0) (by decide) (by decide) (c_X12_order_j43 hd ih h)) (And.intro rfl (And.intro rfl (And.intro rfl (And.intro rfl (And.intro rfl trivial)))))
theorem c_X12_order_e {Ω : mO} {d : Nat} (hd : 7 ≤ d) {r : Int × mD} {x1 : Int} {D : mD} (h : F_X12_order x1 D = some r) : J Ω M_X12_order d 0 0 (rI r.1 r.2) 0 [some (mR 133), some (mI x1), none, none, none] [] (SK, D, false) 0 0 := by
  rw [F_X12_order] at h
  refine j_aload_n (pc' := 1) dX12_order_0 rfl rfl ?_
  refine j_iconst (pc' := 2) dX12_order_1 rfl ?_
  refine k_putI (pc' := 5) (sl := 0) (i' := 0) kc_11 w_1477 (by decide) (Or.inl rfl) dX12_order_2 rfl (by decide) sk_133 (by decide) ⟨rfl, rfl⟩ rfl ?_
  refine j_aload_n (pc' := 6) dX12_order_5 rfl rfl ?_
  obtain ⟨v1, D1, e1, h⟩ := bI_o h
  refine k_cVv (d' := 1) (pc' := 9) [] [] (c_X12_keepsAll (d := 1) (Nat.le_refl _) e1) cw_X12_414 kc_11 w_1986 ws_114 dX12_order_6 rfl (by omega) rfl rfl (by decide) sk_133 rfl rfl (by decide) (by decide) ?_
  refine j_iconst (pc' := 10) dX12_order_9 rfl ?_
  refine j_istore_n (pc' := 11) (ls' := [some (mR 133), some (mI x1), some (mI 0), none, none]) dX12_order_10 rfl (by decide) rfl ?_
  refine j_iconst (pc' := 12) dX12_order_11 rfl ?_
  refine j_istore_n (pc' := 13) (ls' := [some (mR 133), some (mI x1), some (mI 0), some (mI (-1)), none]) dX12_order_12 rfl (by decide) rfl ?_
  exact j_wk (j_widen (ce := 0) (ke := 0) (by decide) (by decide) (c_X12_order_L13 hd _ h)) (And.intro rfl (And.intro rfl (And.intro rfl (And.intro rfl trivial))))
theorem c_X12_order {d : Nat} (hd : 7 ≤ d) {x1 : Int} {D D' : mD} {v : Int} (h : F_X12_order x1 D = some (v, D')) : CM d 0 0 M_X12_order [mR 133, mI x1] (SK, D, false) (rI v D') := CM.intro pn_X12 rfl rfl (Nat.le_of_ble_eq_true rfl) (fun _ => c_X12_order_e hd h)
theorem c_X12_brushAt_e {Ω : mO} {d : Nat} (hd : 1 ≤ d) {r : Int × mD} {x1 x2 : Int} {D : mD} (h : F_X12_brushAt x1 x2 D = some r) : J Ω M_X12_brushAt d 0 0 (rI r.1 r.2) 0 [some (mR 133), some (mI x1), some (mI x2)] [] (SK, D, false) 0 0 := by
  rw [F_X12_brushAt] at h
  refine j_iload_n (pc' := 1) dX12_brushAt_0 rfl rfl ?_
  obtain ⟨q1, h⟩ := ck_o h
  have hj : J Ω M_X12_brushAt d 0 0 (rI r.1 r.2) 10 [none, some (mI x1), none] [mI (if 0 ≤ x2 then x2 else (14 : Int))] (SK, D, false) 0 0 := by
    refine j_bipush (pc' := 12) dX12_brushAt_10 rfl rfl ?_
    refine j_ishl (pc' := 13) dX12_brushAt_12 rfl ?_
    refine j_iload_n (pc' := 14) dX12_brushAt_13 rfl rfl ?_
    refine j_ior (pc' := 15) dX12_brushAt_14 rfl ?_
    exact j_iret dX12_brushAt_15 rfl (by decide) (by decide) (rI_of h)
  refine j_if_ge (tgt := 9) (pc' := 4) dX12_brushAt_1 rfl rfl q1 (fun b1 => ?_) (fun b1 => ?_)
  · refine j_iload_n (pc' := 10) dX12_brushAt_9 rfl rfl ?_
    have hj := hj
    try simp only [if_pos b1] at hj
    exact j_wk hj (And.intro rfl trivial)
  · refine j_bipush (pc' := 6) dX12_brushAt_4 rfl rfl ?_
    refine j_goto (tgt := 10) dX12_brushAt_6 rfl ?_
    have hj := hj
    try simp only [if_neg b1] at hj
    exact j_wk hj (And.intro rfl trivial)
theorem c_X12_brushAt {d : Nat} (hd : 1 ≤ d) {x1 x2 : Int} {D D' : mD} {v : Int} (h : F_X12_brushAt x1 x2 D = some (v, D')) : CM d 0 0 M_X12_brushAt [mR 133, mI x1, mI x2] (SK, D, false) (rI v D') := CM.intro pn_X12 rfl rfl (Nat.le_of_ble_eq_true rfl) (fun _ => c_X12_brushAt_e hd h)
theorem c_X12_brushes_j63 {Ω : mO} {d : Nat} (hd : 6 ≤ d) {r : Int × mD} {K28 : Int → Int → mD → RI} {x1 x2 x3 x4 x5 : Int} (hK28 : ∀ {x4 x5 : Int} {D : mD}, K28 x4 x5 D = some r → J Ω M_X12_brushes d 0 0 (rI r.1 r.2) 28 [some (mR 133), some (mI x1), some (mI x2), some (mI x3), some (mI x4), some (mI x5)] [] (SK, D, false) 0 0) {D : mD} (h : F_X12_brushes_j63 K28 x1 x2 x3 x4 x5 D = some r) : J Ω M_X12_brushes d 0 0 (rI r.1 r.2) 63 [some (mR 133), some (mI x1), some (mI x2), some (mI x3), some (mI x4), some (mI x5)] [] (SK, D, false) 0 0 := by
  rw [F_X12_brushes_j63] at h
  refine j_iload (pc' := 65) dX12_brushes_63 rfl rfl ?_
  refine j_iconst (pc' := 66) dX12_brushes_65 rfl ?_
  refine j_aload_n (pc' := 67) dX12_brushes_66 rfl rfl ?_
  refine k_getR (pc' := 70) (sl := 25) (r := 145) kc_11 w_1502 (Or.inl rfl) (by decide) dX12_brushes_67 rfl (by decide) sk_133 (by decide) rfl (by decide) ?_
  refine j_aload_n (pc' := 71) dX12_brushes_70 rfl rfl ?_
  refine j_iload_n (pc' := 72) dX12_brushes_71 rfl rfl ?_
  refine j_iconst (pc' := 73) dX12_brushes_72 rfl ?_
  refine j_iload (pc' := 75) dX12_brushes_73 rfl rfl ?_
  refine j_ishl (pc' := 76) dX12_brushes_75 rfl ?_
  refine j_ior (pc' := 77) dX12_brushes_76 rfl ?_
  refine j_aload_n (pc' := 78) dX12_brushes_77 rfl rfl ?_
  refine k_getR (pc' := 81) (sl := 26) (r := 146) kc_11 w_1503 (Or.inl rfl) (by decide) dX12_brushes_78 rfl (by decide) sk_133 (by decide) rfl (by decide) ?_
  refine j_iload (pc' := 83) dX12_brushes_81 rfl rfl ?_
  obtain ⟨q1, h⟩ := ck_o h
  refine k_iald (pc' := 84) (z := D 146 x5) dX12_brushes_83 rfl (by decide) sk_146 (by decide) q1.1 q1.2 rfl ?_
  obtain ⟨v1, D1, e1, h⟩ := bI_o h
  refine k_cV (d' := 1) (pc' := 87) [mI (bOr x2 (bShl 1 x5)), mI (D 146 x5)] [mR 145, mI 1, mI x4] (c_X12_brushAt (d := 1) (Nat.le_refl _) e1) cw_X12_426 kc_11 w_2006 ws_118 dX12_brushes_84 rfl (by omega) rfl rfl (by decide) sk_133 rfl rfl (by decide) (by decide) ?_
  obtain ⟨q2, h⟩ := ck_o h
  refine k_iald (pc' := 88) (z := D1 145 v1) dX12_brushes_87 rfl (by decide) sk_145 (by decide) q2.1 q2.2 rfl ?_
  refine j_iadd (pc' := 89) dX12_brushes_88 rfl ?_
  obtain ⟨q3, h⟩ := ck_o h
  obtain ⟨q4, h⟩ := ck_o h
  refine k_min (pc' := 92) cw_X12_310 w_560 dX12_brushes_89 rfl (by omega) q3 q4 rfl (by decide) (by decide) ?_
  refine j_istore (pc' := 94) (ls' := [some (mR 133), some (mI x1), some (mI x2), some (mI x3), some (mI (min x4 (1 + (D1 145 v1)))), some (mI x5)]) dX12_brushes_92 rfl (by decide) rfl ?_
  refine j_iinc (pc' := 97) (z' := (x5 + 1)) (ls' := [some (mR 133), some (mI x1), some (mI x2), some (mI x3), some (mI (min x4 (1 + (D1 145 v1)))), some (mI (x5 + 1))]) dX12_brushes_94 rfl rfl rfl (by decide) rfl ?_
  refine j_goto (tgt := 28) dX12_brushes_97 rfl ?_
  exact j_wk (j_widen (ce := 0) (ke := 0) (by decide) (by decide) (hK28 h)) (And.intro rfl (And.intro rfl (And.intro rfl (And.intro rfl (And.intro rfl (And.intro rfl trivial))))))
theorem c_X12_brushes_L28 {Ω : mO} {d : Nat} (hd : 6 ≤ d) {r : Int × mD} {x1 x2 x3 : Int} : ∀ (n : Nat) {x4 x5 : Int} {D : mD}, F_X12_brushes_L28 x1 x2 x3 n x4 x5 D = some r → J Ω M_X12_brushes d 0 0 (rI r.1 r.2) 28 [some (mR 133), some (mI x1), some (mI x2), some (mI x3), some (mI x4), some (mI x5)] [] (SK, D, false) 0 0 := by
  intro n
  induction n with
  | zero => intro x4 x5 D h; exact absurd (show (none : Option (Int × mD)) = some r from h) nofun
  | succ n ih =>
    intro x4 x5 D h
    rw [F_X12_brushes_L28] at h
    refine j_iload (pc' := 30) dX12_brushes_28 rfl rfl ?_
    refine j_iload_n (pc' := 31) dX12_brushes_30 rfl rfl ?_
    obtain ⟨q1, h⟩ := ck_o h
    obtain ⟨q2, h⟩ := ck_o h
    refine j_icmp_ge (tgt := 100) (pc' := 34) dX12_brushes_31 rfl rfl q1 q2 (fun b1 => ?_) (fun b1 => ?_)
    · replace h := ite_t b1 h
      refine j_iload (pc' := 102) dX12_brushes_100 rfl rfl ?_
      exact j_iret dX12_brushes_102 rfl (by decide) (by decide) (rI_of h)
    · replace h := ite_f b1 h
      refine j_iload_n (pc' := 35) dX12_brushes_34 rfl rfl ?_
      refine j_iload (pc' := 37) dX12_brushes_35 rfl rfl ?_
      obtain ⟨v1, D1, e1, h⟩ := bI_o h
      refine k_cS (d' := 1) (pc' := 40) [mI x2, mI x5] [] (c_X12_has (d := 1) (Nat.le_refl _) e1) cw_X12_429 w_2013 dX12_brushes_37 rfl (by omega) rfl rfl rfl rfl (by decide) (by decide) ?_
      obtain ⟨q3, h⟩ := ck_o h
      refine j_if_ne (tgt := 94) (pc' := 43) dX12_brushes_40 rfl rfl q3 (fun b2 => ?_) (fun b2 => ?_)
      · replace h := ite_f b2 h
        refine j_iinc (pc' := 97) (z' := (x5 + 1)) (ls' := [some (mR 133), some (mI x1), some (mI x2), some (mI x3), some (mI x4), some (mI (x5 + 1))]) dX12_brushes_94 rfl rfl rfl (by decide) rfl ?_
        refine j_goto (tgt := 28) dX12_brushes_97 rfl ?_
        exact j_wk (j_widen (ce := 0) (ke := 0) (by decide) (by decide) (ih h)) (And.intro rfl (And.intro rfl (And.intro rfl (And.intro rfl (And.intro rfl (And.intro rfl trivial))))))
      · replace h := ite_t b2 h
        refine j_iload_n (pc' := 44) dX12_brushes_43 rfl rfl ?_
        obtain ⟨q4, h⟩ := ck_o h
        refine j_if_lt (tgt := 63) (pc' := 47) dX12_brushes_44 rfl rfl q4 (fun b3 => ?_) (fun b3 => ?_)
        · replace h := ite_t b3 h
          exact j_wk (j_widen (ce := 0) (ke := 0) (by decide) (by decide) (c_X12_brushes_j63 hd ih h)) (And.intro rfl (And.intro rfl (And.intro rfl (And.intro rfl (And.intro rfl (And.intro rfl trivial))))))
        · replace h := ite_f b3 h
          refine j_aload_n (pc' := 48) dX12_brushes_47 rfl rfl ?_
          refine k_getR (pc' := 51) (sl := 26) (r := 146) kc_11 w_1503 (Or.inl rfl) (by decide) dX12_brushes_48 rfl (by decide) sk_133 (by decide) rfl (by decide) ?_
          refine j_iload (pc' := 53) dX12_brushes_51 rfl rfl ?_
          obtain ⟨q5, h⟩ := ck_o h
          refine k_iald (pc' := 54) (z := D1 146 x5) dX12_brushes_53 rfl (by decide) sk_146 (by decide) q5.1 q5.2 rfl ?_
          refine j_iload_n (pc' := 55) dX12_brushes_54 rfl rfl ?_
          refine j_isub (pc' := 56) dX12_brushes_55 rfl ?_
          obtain ⟨q6, h⟩ := ck_o h
          refine k_abs (pc' := 59) cw_X12_359 w_614 dX12_brushes_56 rfl (by omega) q6 rfl (by decide) (by decide) ?_
          refine j_iconst (pc' := 60) dX12_brushes_59 rfl ?_
          obtain ⟨q7, h⟩ := ck_o h
          refine j_icmp_eq (tgt := 94) (pc' := 63) dX12_brushes_60 rfl rfl q7 (by decide) (fun b4 => ?_) (fun b4 => ?_)
          · replace h := ite_t b4 h
            refine j_iinc (pc' := 97) (z' := (x5 + 1)) (ls' := [some (mR 133), some (mI x1), some (mI x2), some (mI x3), some (mI x4), some (mI (x5 + 1))]) dX12_brushes_94 rfl rfl rfl (by decide) rfl ?_
            refine j_goto (tgt := 28) dX12_brushes_97 rfl ?_
            exact j_wk (j_widen (ce := 0) (ke := 0) (by decide) (by decide) (ih h)) (And.intro rfl (And.intro rfl (And.intro rfl (And.intro rfl (And.intro rfl (And.intro rfl trivial))))))
          · replace h := ite_f b4 h
            exact j_wk (j_widen (ce := 0) (ke := 0) (by decide) (by decide) (c_X12_brushes_j63 hd ih h)) (And.intro rfl (And.intro rfl (And.intro rfl (And.intro rfl (And.intro rfl (And.intro rfl trivial))))))
theorem c_X12_brushes_e {Ω : mO} {d : Nat} (hd : 6 ≤ d) {r : Int × mD} {x1 x2 x3 : Int} {D : mD} (h : F_X12_brushes x1 x2 x3 D = some r) : J Ω M_X12_brushes d 0 0 (rI r.1 r.2) 0 [some (mR 133), some (mI x1), some (mI x2), some (mI x3), none, none] [] (SK, D, false) 0 0 := by
  rw [F_X12_brushes] at h
  refine j_iload_n (pc' := 1) dX12_brushes_0 rfl rfl ?_
  obtain ⟨q1, h⟩ := ck_o h
  refine j_if_ge (tgt := 10) (pc' := 4) dX12_brushes_1 rfl rfl q1 (fun b1 => ?_) (fun b1 => ?_)
  · replace h := ite_t b1 h
    refine j_iconst (pc' := 11) dX12_brushes_10 rfl ?_
    refine j_aload_n (pc' := 12) dX12_brushes_11 rfl rfl ?_
    refine k_getR (pc' := 15) (sl := 25) (r := 145) kc_11 w_1502 (Or.inl rfl) (by decide) dX12_brushes_12 rfl (by decide) sk_133 (by decide) rfl (by decide) ?_
    refine j_aload_n (pc' := 16) dX12_brushes_15 rfl rfl ?_
    refine j_iload_n (pc' := 17) dX12_brushes_16 rfl rfl ?_
    refine j_iconst (pc' := 18) dX12_brushes_17 rfl ?_
    obtain ⟨v1, D1, e1, h⟩ := bI_o h
    refine k_cV (d' := 1) (pc' := 21) [mI x2, mI (-1)] [mR 145, mI 1] (c_X12_brushAt (d := 1) (Nat.le_refl _) e1) cw_X12_426 kc_11 w_2006 ws_118 dX12_brushes_18 rfl (by omega) rfl rfl (by decide) sk_133 rfl rfl (by decide) (by decide) ?_
    obtain ⟨q2, h⟩ := ck_o h
    refine k_iald (pc' := 22) (z := D1 145 v1) dX12_brushes_21 rfl (by decide) sk_145 (by decide) q2.1 q2.2 rfl ?_
    refine j_iadd (pc' := 23) dX12_brushes_22 rfl ?_
    refine j_istore (pc' := 25) (ls' := [some (mR 133), some (mI x1), some (mI x2), some (mI x3), some (mI (1 + (D1 145 v1))), none]) dX12_brushes_23 rfl (by decide) rfl ?_
    refine j_iconst (pc' := 26) dX12_brushes_25 rfl ?_
    refine j_istore (pc' := 28) (ls' := [some (mR 133), some (mI x1), some (mI x2), some (mI x3), some (mI (1 + (D1 145 v1))), some (mI 0)]) dX12_brushes_26 rfl (by decide) rfl ?_
    exact j_wk (j_widen (ce := 0) (ke := 0) (by decide) (by decide) (c_X12_brushes_L28 hd _ h)) (And.intro rfl (And.intro rfl (And.intro rfl (And.intro rfl (And.intro rfl (And.intro rfl trivial))))))
  · replace h := ite_f b1 h
    refine j_ldcwI (pc' := 7) (n := 1000000) w_1860 dX12_brushes_4 rfl ?_
    refine j_goto (tgt := 23) dX12_brushes_7 rfl ?_
    refine j_istore (pc' := 25) (ls' := [some (mR 133), some (mI x1), some (mI x2), some (mI x3), some (mI 1000000), none]) dX12_brushes_23 rfl (by decide) rfl ?_
    refine j_iconst (pc' := 26) dX12_brushes_25 rfl ?_
    refine j_istore (pc' := 28) (ls' := [some (mR 133), some (mI x1), some (mI x2), some (mI x3), some (mI 1000000), some (mI 0)]) dX12_brushes_26 rfl (by decide) rfl ?_
    exact j_wk (j_widen (ce := 0) (ke := 0) (by decide) (by decide) (c_X12_brushes_L28 hd _ h)) (And.intro rfl (And.intro rfl (And.intro rfl (And.intro rfl (And.intro rfl (And.intro rfl trivial))))))
theorem c_X12_brushes {d : Nat} (hd : 6 ≤ d) {x1 x2 x3 : Int} {D D' : mD} {v : Int} (h : F_X12_brushes x1 x2 x3 D = some (v, D')) : CM d 0 0 M_X12_brushes [mR 133, mI x1, mI x2, mI x3] (SK, D, false) (rI v D') := CM.intro pn_X12 rfl rfl (Nat.le_of_ble_eq_true rfl) (fun _ => c_X12_brushes_e hd h)
theorem c_X12_brush_L68 {Ω : mO} {d : Nat} (hd : 7 ≤ d) {r : Int × mD} {K61 : Int → mD → RI} {x1 x2 x3 : Int} (hK61 : ∀ {x3 : Int} {D : mD}, K61 x3 D = some r → J Ω M_X12_brush d 0 0 (rI r.1 r.2) 61 [some (mR 133), some (mI x1), some (mI x2), some (mI x3), none] [] (SK, D, false) 0 0) : ∀ (n : Nat) {x4 : Int} {D : mD}, F_X12_brush_L68 K61 x1 x2 x3 n x4 D = some r → J Ω M_X12_brush d 0 0 (rI r.1 r.2) 68 [some (mR 133), some (mI x1), some (mI x2), some (mI x3), some (mI x4)] [] (SK, D, false) 0 0 := by
  intro n
  induction n with
  | zero => intro x4 D h; exact absurd (show (none : Option (Int × mD)) = some r from h) nofun
  | succ n ih =>
    intro x4 D h
    rw [F_X12_brush_L68] at h
    refine j_iload (pc' := 70) dX12_brush_68 rfl rfl ?_
    refine j_aload_n (pc' := 71) dX12_brush_70 rfl rfl ?_
    obtain ⟨v1, D1, e1, h⟩ := bI_o h
    refine k_cV (d' := 1) (pc' := 74) [] [mI x4] (c_X12_letters (d := 1) (Nat.le_refl _) e1) cw_X12_68 kc_11 w_1788 ws_80 dX12_brush_71 rfl (by omega) rfl rfl (by decide) sk_133 rfl rfl (by decide) (by decide) ?_
    obtain ⟨q1, h⟩ := ck_o h
    obtain ⟨q2, h⟩ := ck_o h
    refine j_icmp_ge (tgt := 112) (pc' := 77) dX12_brush_74 rfl rfl q1 q2 (fun b1 => ?_) (fun b1 => ?_)
    · replace h := ite_t b1 h
      refine j_iinc (pc' := 115) (z' := (x3 - 1)) (ls' := [some (mR 133), some (mI x1), some (mI x2), some (mI (x3 - 1)), some (mI x4)]) dX12_brush_112 rfl rfl (by omega) (by decide) rfl ?_
      refine j_goto (tgt := 61) dX12_brush_115 rfl ?_
      exact j_wk (j_widen (ce := 0) (ke := 0) (by decide) (by decide) (hK61 h)) (And.intro rfl (And.intro rfl (And.intro rfl (And.intro rfl trivial))))
    · replace h := ite_f b1 h
      refine j_aload_n (pc' := 78) dX12_brush_77 rfl rfl ?_
      refine k_getR (pc' := 81) (sl := 25) (r := 145) kc_11 w_1502 (Or.inl rfl) (by decide) dX12_brush_78 rfl (by decide) sk_133 (by decide) rfl (by decide) ?_
      refine j_aload_n (pc' := 82) dX12_brush_81 rfl rfl ?_
      refine j_iload_n (pc' := 83) dX12_brush_82 rfl rfl ?_
      refine j_iload (pc' := 85) dX12_brush_83 rfl rfl ?_
      obtain ⟨v2, D2, e2, h⟩ := bI_o h
      refine k_cV (d' := 1) (pc' := 88) [mI x3, mI x4] [mR 145] (c_X12_brushAt (d := 1) (Nat.le_refl _) e2) cw_X12_426 kc_11 w_2006 ws_118 dX12_brush_85 rfl (by omega) rfl rfl (by decide) sk_133 rfl rfl (by decide) (by decide) ?_
      refine j_iload_n (pc' := 89) dX12_brush_88 rfl rfl ?_
      refine j_iload_n (pc' := 90) dX12_brush_89 rfl rfl ?_
      obtain ⟨q3, h⟩ := ck_o h
      obtain ⟨q4, h⟩ := ck_o h
      refine j_icmp_ne (tgt := 97) (pc' := 93) dX12_brush_90 rfl rfl q3 q4 (fun b2 => ?_) (fun b2 => ?_)
      · replace h := ite_f b2 h
        refine j_aload_n (pc' := 98) dX12_brush_97 rfl rfl ?_
        refine j_iload_n (pc' := 99) dX12_brush_98 rfl rfl ?_
        refine j_iload_n (pc' := 100) dX12_brush_99 rfl rfl ?_
        refine j_iload (pc' := 102) dX12_brush_100 rfl rfl ?_
        obtain ⟨v3, D3, e3, h⟩ := bI_o h
        refine k_cV (d' := 6) (pc' := 105) [mI x1, mI x3, mI x4] [mI v2, mR 145] (c_X12_brushes (d := 6) (Nat.le_refl _) e3) cw_X12_432 kc_11 w_2010 ws_119 dX12_brush_102 rfl (by omega) rfl rfl (by decide) sk_133 rfl rfl (by decide) (by decide) ?_
        obtain ⟨q5, h⟩ := ck_o h
        refine k_iast (pc' := 106) dX12_brush_105 rfl (by decide) sk_145 (by decide) q5.1 q5.2 ?_
        refine j_iinc (pc' := 109) (z' := (x4 + 1)) (ls' := [some (mR 133), some (mI x1), some (mI x2), some (mI x3), some (mI (x4 + 1))]) dX12_brush_106 rfl rfl rfl (by decide) rfl ?_
        refine j_goto (tgt := 68) dX12_brush_109 rfl ?_
        exact j_wk (j_widen (ce := 0) (ke := 0) (by decide) (by decide) (ih h)) (And.intro rfl (And.intro rfl (And.intro rfl (And.intro rfl (And.intro rfl trivial)))))
      · replace h := ite_t b2 h
        refine j_iconst (pc' := 94) dX12_brush_93 rfl ?_
        refine j_goto (tgt := 105) dX12_brush_94 rfl ?_
        obtain ⟨q6, h⟩ := ck_o h
        refine k_iast (pc' := 106) dX12_brush_105 rfl (by decide) sk_145 (by decide) q6.1 q6.2 ?_
        refine j_iinc (pc' := 109) (z' := (x4 + 1)) (ls' := [some (mR 133), some (mI x1), some (mI x2), some (mI x3), some (mI (x4 + 1))]) dX12_brush_106 rfl rfl rfl (by decide) rfl ?_
        refine j_goto (tgt := 68) dX12_brush_109 rfl ?_
        exact j_wk (j_widen (ce := 0) (ke := 0) (by decide) (by decide) (ih h)) (And.intro rfl (And.intro rfl (And.intro rfl (And.intro rfl (And.intro rfl trivial)))))
theorem c_X12_brush_L61 {Ω : mO} {d : Nat} (hd : 7 ≤ d) {r : Int × mD} {x1 x2 : Int} : ∀ (n : Nat) {x3 : Int} {D : mD}, F_X12_brush_L61 x1 x2 n x3 D = some r → J Ω M_X12_brush d 0 0 (rI r.1 r.2) 61 [some (mR 133), some (mI x1), some (mI x2), some (mI x3), none] [] (SK, D, false) 0 0 := by
  intro n
  induction n with
  | zero => intro x3 D h; exact absurd (show (none : Option (Int × mD)) = some r from h) nofun
  | succ n ih =>
    intro x3 D h
    rw [F_X12_brush_L61] at h
    refine j_iload_n (pc' := 62) dX12_brush_61 rfl rfl ?_
    obtain ⟨q1, h⟩ := ck_o h
    refine j_if_lt (tgt := 118) (pc' := 65) dX12_brush_62 rfl rfl q1 (fun b1 => ?_) (fun b1 => ?_)
    · replace h := ite_t b1 h
      refine j_aload_n (pc' := 119) dX12_brush_118 rfl rfl ?_
      refine k_getR (pc' := 122) (sl := 25) (r := 145) kc_11 w_1502 (Or.inl rfl) (by decide) dX12_brush_119 rfl (by decide) sk_133 (by decide) rfl (by decide) ?_
      refine j_aload_n (pc' := 123) dX12_brush_122 rfl rfl ?_
      refine j_iconst (pc' := 124) dX12_brush_123 rfl ?_
      refine j_aload_n (pc' := 125) dX12_brush_124 rfl rfl ?_
      refine k_getR (pc' := 128) (sl := 1) (r := 134) kc_11 w_1478 (Or.inl rfl) (by decide) dX12_brush_125 rfl (by decide) sk_133 (by decide) rfl (by decide) ?_
      refine j_bipush (pc' := 130) dX12_brush_128 rfl rfl ?_
      refine k_iald (pc' := 131) (z := D 134 12) dX12_brush_130 rfl (by decide) sk_134 (by decide) (by decide) (by decide) rfl ?_
      obtain ⟨v1, D1, e1, h⟩ := bI_o h
      refine k_cV (d' := 1) (pc' := 134) [mI 0, mI (D 134 12)] [mR 145] (c_X12_brushAt (d := 1) (Nat.le_refl _) e1) cw_X12_426 kc_11 w_2006 ws_118 dX12_brush_131 rfl (by omega) rfl rfl (by decide) sk_133 rfl rfl (by decide) (by decide) ?_
      obtain ⟨q2, h⟩ := ck_o h
      refine k_iald (pc' := 135) (z := D1 145 v1) dX12_brush_134 rfl (by decide) sk_145 (by decide) q2.1 q2.2 rfl ?_
      exact j_iret dX12_brush_135 rfl (by decide) (by decide) (rI_of h)
    · replace h := ite_f b1 h
      refine j_iconst (pc' := 66) dX12_brush_65 rfl ?_
      refine j_istore (pc' := 68) (ls' := [some (mR 133), some (mI x1), some (mI x2), some (mI x3), some (mI (-1))]) dX12_brush_66 rfl (by decide) rfl ?_
      exact j_wk (j_widen (ce := 0) (ke := 0) (by decide) (by decide) (c_X12_brush_L68 hd ih _ h)) (And.intro rfl (And.intro rfl (And.intro rfl (And.intro rfl (And.intro rfl trivial)))))
theorem c_X12_brush_L9 {Ω : mO} {d : Nat} (hd : 7 ≤ d) {r : Int × mD} : ∀ (n : Nat) {x1 x2 : Int} {D : mD}, F_X12_brush_L9 n x1 x2 D = some r → J Ω M_X12_brush d 0 0 (rI r.1 r.2) 9 [some (mR 133), some (mI x1), some (mI x2), none, none] [] (SK, D, false) 0 0 := by
  intro n
  induction n with
  | zero => intro x1 x2 D h; exact absurd (show (none : Option (Int × mD)) = some r from h) nofun
  | succ n ih =>
    intro x1 x2 D h
    rw [F_X12_brush_L9] at h
    refine j_iload_n (pc' := 10) dX12_brush_9 rfl rfl ?_
    refine j_aload_n (pc' := 11) dX12_brush_10 rfl rfl ?_
    obtain ⟨v1, D1, e1, h⟩ := bI_o h
    refine k_cV (d' := 1) (pc' := 14) [] [mI x2] (c_X12_letters (d := 1) (Nat.le_refl _) e1) cw_X12_68 kc_11 w_1788 ws_80 dX12_brush_11 rfl (by omega) rfl rfl (by decide) sk_133 rfl rfl (by decide) (by decide) ?_
    obtain ⟨q1, h⟩ := ck_o h
    obtain ⟨q2, h⟩ := ck_o h
    refine j_icmp_ge (tgt := 44) (pc' := 17) dX12_brush_14 rfl rfl q1 q2 (fun b1 => ?_) (fun b1 => ?_)
    · replace h := ite_t b1 h
      refine j_iload_n (pc' := 45) dX12_brush_44 rfl rfl ?_
      refine j_bipush (pc' := 47) dX12_brush_45 rfl rfl ?_
      obtain ⟨q3, h⟩ := ck_o h
      refine j_icmp_le (tgt := 53) (pc' := 50) dX12_brush_47 rfl rfl q3 (by decide) (fun b2 => ?_) (fun b2 => ?_)
      · replace h := ite_t b2 h
        refine j_iconst (pc' := 54) dX12_brush_53 rfl ?_
        refine j_iload_n (pc' := 55) dX12_brush_54 rfl rfl ?_
        refine j_ishl (pc' := 56) dX12_brush_55 rfl ?_
        refine j_iconst (pc' := 57) dX12_brush_56 rfl ?_
        refine j_isub (pc' := 58) dX12_brush_57 rfl ?_
        refine j_istore_n (pc' := 59) (ls' := [some (mR 133), some (mI x1), some (mI ((bShl 1 x1) - 1)), none, none]) dX12_brush_58 rfl (by decide) rfl ?_
        refine j_iload_n (pc' := 60) dX12_brush_59 rfl rfl ?_
        refine j_istore_n (pc' := 61) (ls' := [some (mR 133), some (mI x1), some (mI ((bShl 1 x1) - 1)), some (mI ((bShl 1 x1) - 1)), none]) dX12_brush_60 rfl (by decide) rfl ?_
        exact j_wk (j_widen (ce := 0) (ke := 0) (by decide) (by decide) (c_X12_brush_L61 hd _ h)) (And.intro rfl (And.intro rfl (And.intro rfl (And.intro rfl trivial))))
      · replace h := ite_f b2 h
        refine j_bipush (pc' := 52) dX12_brush_50 rfl rfl ?_
        exact j_iret dX12_brush_52 rfl (by decide) (by decide) (rI_of h)
    · replace h := ite_f b1 h
      refine j_aload_n (pc' := 18) dX12_brush_17 rfl rfl ?_
      refine j_iload_n (pc' := 19) dX12_brush_18 rfl rfl ?_
      obtain ⟨v2, D2, e2, h⟩ := bI_o h
      refine k_cV (d' := 2) (pc' := 22) [mI x2] [] (c_X12_isPainted (d := 2) (Nat.le_refl _) e2) cw_X12_390 kc_11 w_1961 ws_109 dX12_brush_19 rfl (by omega) rfl rfl (by decide) sk_133 rfl rfl (by decide) (by decide) ?_
      obtain ⟨q4, h⟩ := ck_o h
      refine j_if_eq (tgt := 28) (pc' := 25) dX12_brush_22 rfl rfl q4 (fun b3 => ?_) (fun b3 => ?_)
      · replace h := ite_t b3 h
        refine j_aload_n (pc' := 29) dX12_brush_28 rfl rfl ?_
        refine k_getR (pc' := 32) (sl := 26) (r := 146) kc_11 w_1503 (Or.inl rfl) (by decide) dX12_brush_29 rfl (by decide) sk_133 (by decide) rfl (by decide) ?_
        refine j_iload_n (pc' := 33) dX12_brush_32 rfl rfl ?_
        refine j_iload_n (pc' := 34) dX12_brush_33 rfl rfl ?_
        obtain ⟨q5, h⟩ := ck_o h
        refine k_iast (pc' := 35) dX12_brush_34 rfl (by decide) sk_146 (by decide) q5.1 q5.2 ?_
        refine j_iinc (pc' := 38) (z' := (x1 + 1)) (ls' := [some (mR 133), some (mI (x1 + 1)), some (mI x2), none, none]) dX12_brush_35 rfl rfl rfl (by decide) rfl ?_
        refine j_iinc (pc' := 41) (z' := (x2 + 1)) (ls' := [some (mR 133), some (mI (x1 + 1)), some (mI (x2 + 1)), none, none]) dX12_brush_38 rfl rfl rfl (by decide) rfl ?_
        refine j_goto (tgt := 9) dX12_brush_41 rfl ?_
        exact j_wk (j_widen (ce := 0) (ke := 0) (by decide) (by decide) (ih h)) (And.intro rfl (And.intro rfl (And.intro rfl trivial)))
      · replace h := ite_f b3 h
        refine j_goto (tgt := 38) dX12_brush_25 rfl ?_
        refine j_iinc (pc' := 41) (z' := (x2 + 1)) (ls' := [some (mR 133), some (mI x1), some (mI (x2 + 1)), none, none]) dX12_brush_38 rfl rfl rfl (by decide) rfl ?_
        refine j_goto (tgt := 9) dX12_brush_41 rfl ?_
        exact j_wk (j_widen (ce := 0) (ke := 0) (by decide) (by decide) (ih h)) (And.intro rfl (And.intro rfl (And.intro rfl trivial)))
theorem c_X12_brush_e {Ω : mO} {d : Nat} (hd : 7 ≤ d) {r : Int × mD} {D : mD} (h : F_X12_brush D = some r) : J Ω M_X12_brush d 0 0 (rI r.1 r.2) 0 [some (mR 133), none, none, none, none] [] (SK, D, false) 0 0 := by
  rw [F_X12_brush] at h
  refine j_aload_n (pc' := 1) dX12_brush_0 rfl rfl ?_
  refine j_iconst (pc' := 2) dX12_brush_1 rfl ?_
  refine k_putI (pc' := 5) (sl := 0) (i' := 0) kc_11 w_1477 (by decide) (Or.inl rfl) dX12_brush_2 rfl (by decide) sk_133 (by decide) ⟨rfl, rfl⟩ rfl ?_
  refine j_iconst (pc' := 6) dX12_brush_5 rfl ?_
  refine j_istore_n (pc' := 7) (ls' := [some (mR 133), some (mI 0), none, none, none]) dX12_brush_6 rfl (by decide) rfl ?_
  refine j_iconst (pc' := 8) dX12_brush_7 rfl ?_
  refine j_istore_n (pc' := 9) (ls' := [some (mR 133), some (mI 0), some (mI 0), none, none]) dX12_brush_8 rfl (by decide) rfl ?_
  exact j_wk (j_widen (ce := 0) (ke := 0) (by decide) (by decide) (c_X12_brush_L9 hd _ h)) (And.intro rfl (And.intro rfl (And.intro rfl trivial)))
theorem c_X12_brush {d : Nat} (hd : 7 ≤ d) {D D' : mD} {v : Int} (h : F_X12_brush D = some (v, D')) : CM d 0 0 M_X12_brush [mR 133] (SK, D, false) (rI v D') := CM.intro pn_X12 rfl rfl (Nat.le_of_ble_eq_true rfl) (fun _ => c_X12_brush_e hd h)
theorem c_X12_unevenNow_L8 {Ω : mO} {d : Nat} (hd : 10 ≤ d) {r : Int × mD} : ∀ (n : Nat) {x1 x2 x3 : Int} {D : mD}, F_X12_unevenNow_L8 n x1 x2 x3 D = some r → J Ω M_X12_unevenNow d 0 0 (rI r.1 r.2) 8 [some (mR 133), some (mI x1), some (mI x2), some (mI x3)] [] (SK, D, false) 0 0 := by
  intro n
  induction n with
  | zero => intro x1 x2 x3 D h; exact absurd (show (none : Option (Int × mD)) = some r from h) nofun
  | succ n ih =>
    intro x1 x2 x3 D h
    rw [F_X12_unevenNow_L8] at h
    refine j_iload_n (pc' := 9) dX12_unevenNow_8 rfl rfl ?_
    refine j_aload_n (pc' := 10) dX12_unevenNow_9 rfl rfl ?_
    obtain ⟨v1, D1, e1, h⟩ := bI_o h
    refine k_cV (d' := 6) (pc' := 13) [] [mI x3] (c_X12_gaps (d := 6) (Nat.le_refl _) e1) cw_X12_94 kc_11 w_1821 ws_87 dX12_unevenNow_10 rfl (by omega) rfl rfl (by decide) sk_133 rfl rfl (by decide) (by decide) ?_
    obtain ⟨q1, h⟩ := ck_o h
    obtain ⟨q2, h⟩ := ck_o h
    refine j_icmp_ge (tgt := 42) (pc' := 16) dX12_unevenNow_13 rfl rfl q1 q2 (fun b1 => ?_) (fun b1 => ?_)
    · replace h := ite_t b1 h
      refine j_aload_n (pc' := 43) dX12_unevenNow_42 rfl rfl ?_
      obtain ⟨v2, D2, e2, h⟩ := bI_o h
      refine k_cV (d' := 6) (pc' := 46) [] [] (c_X12_gaps (d := 6) (Nat.le_refl _) e2) cw_X12_94 kc_11 w_1821 ws_87 dX12_unevenNow_43 rfl (by omega) rfl rfl (by decide) sk_133 rfl rfl (by decide) (by decide) ?_
      refine j_iconst (pc' := 47) dX12_unevenNow_46 rfl ?_
      obtain ⟨q3, h⟩ := ck_o h
      have hj : J Ω M_X12_unevenNow d 0 0 (rI r.1 r.2) 57 [none, none, none, none] [mI (if 2 ≤ v2 then (x1 - x2) else (0 : Int))] (SK, D2, false) 0 0 := by
        exact j_iret dX12_unevenNow_57 rfl (by decide) (by decide) (rI_of h)
      refine j_icmp_ge (tgt := 54) (pc' := 50) dX12_unevenNow_47 rfl rfl q3 (by decide) (fun b2 => ?_) (fun b2 => ?_)
      · refine j_iload_n (pc' := 55) dX12_unevenNow_54 rfl rfl ?_
        refine j_iload_n (pc' := 56) dX12_unevenNow_55 rfl rfl ?_
        refine j_isub (pc' := 57) dX12_unevenNow_56 rfl ?_
        have hj := hj
        try simp only [if_pos b2] at hj
        exact j_wk hj (trivial)
      · refine j_iconst (pc' := 51) dX12_unevenNow_50 rfl ?_
        refine j_goto (tgt := 57) dX12_unevenNow_51 rfl ?_
        have hj := hj
        try simp only [if_neg b2] at hj
        exact j_wk hj (trivial)
    · replace h := ite_f b1 h
      refine j_iload_n (pc' := 17) dX12_unevenNow_16 rfl rfl ?_
      refine j_aload_n (pc' := 18) dX12_unevenNow_17 rfl rfl ?_
      refine j_iload_n (pc' := 19) dX12_unevenNow_18 rfl rfl ?_
      obtain ⟨v3, D3, e3, h⟩ := bI_o h
      refine k_cV (d' := 9) (pc' := 22) [mI x3] [mI x1] (c_X12_white (d := 9) (Nat.le_refl _) e3) cw_X12_345 kc_11 w_1825 ws_88 dX12_unevenNow_19 rfl (by omega) rfl rfl (by decide) sk_133 rfl rfl (by decide) (by decide) ?_
      obtain ⟨q4, h⟩ := ck_o h
      obtain ⟨q5, h⟩ := ck_o h
      refine k_max (pc' := 25) cw_X12_72 w_541 dX12_unevenNow_22 rfl (by omega) q4 q5 rfl (by decide) (by decide) ?_
      refine j_istore_n (pc' := 26) (ls' := [some (mR 133), some (mI (max x1 v3)), some (mI x2), some (mI x3)]) dX12_unevenNow_25 rfl (by decide) rfl ?_
      refine j_iload_n (pc' := 27) dX12_unevenNow_26 rfl rfl ?_
      refine j_aload_n (pc' := 28) dX12_unevenNow_27 rfl rfl ?_
      refine j_iload_n (pc' := 29) dX12_unevenNow_28 rfl rfl ?_
      obtain ⟨v4, D4, e4, h⟩ := bI_o h
      refine k_cV (d' := 9) (pc' := 32) [mI x3] [mI x2] (c_X12_white (d := 9) (Nat.le_refl _) e4) cw_X12_345 kc_11 w_1825 ws_88 dX12_unevenNow_29 rfl (by omega) rfl rfl (by decide) sk_133 rfl rfl (by decide) (by decide) ?_
      obtain ⟨q6, h⟩ := ck_o h
      obtain ⟨q7, h⟩ := ck_o h
      refine k_min (pc' := 35) cw_X12_310 w_560 dX12_unevenNow_32 rfl (by omega) q6 q7 rfl (by decide) (by decide) ?_
      refine j_istore_n (pc' := 36) (ls' := [some (mR 133), some (mI (max x1 v3)), some (mI (min x2 v4)), some (mI x3)]) dX12_unevenNow_35 rfl (by decide) rfl ?_
      refine j_iinc (pc' := 39) (z' := (x3 + 1)) (ls' := [some (mR 133), some (mI (max x1 v3)), some (mI (min x2 v4)), some (mI (x3 + 1))]) dX12_unevenNow_36 rfl rfl rfl (by decide) rfl ?_
      refine j_goto (tgt := 8) dX12_unevenNow_39 rfl ?_
      exact j_wk (j_widen (ce := 0) (ke := 0) (by decide) (by decide) (ih h)) (And.intro rfl (And.intro rfl (And.intro rfl (And.intro rfl trivial))))
theorem c_X12_unevenNow_e {Ω : mO} {d : Nat} (hd : 10 ≤ d) {r : Int × mD} {D : mD} (h : F_X12_unevenNow D = some r) : J Ω M_X12_unevenNow d 0 0 (rI r.1 r.2) 0 [some (mR 133), none, none, none] [] (SK, D, false) 0 0 := by
  rw [F_X12_unevenNow] at h
  refine j_iconst (pc' := 1) dX12_unevenNow_0 rfl ?_
  refine j_istore_n (pc' := 2) (ls' := [some (mR 133), some (mI 0), none, none]) dX12_unevenNow_1 rfl (by decide) rfl ?_
  refine j_ldcwI (pc' := 5) (n := 1000000) w_1860 dX12_unevenNow_2 rfl ?_
  refine j_istore_n (pc' := 6) (ls' := [some (mR 133), some (mI 0), some (mI 1000000), none]) dX12_unevenNow_5 rfl (by decide) rfl ?_
  refine j_iconst (pc' := 7) dX12_unevenNow_6 rfl ?_
  refine j_istore_n (pc' := 8) (ls' := [some (mR 133), some (mI 0), some (mI 1000000), some (mI 0)]) dX12_unevenNow_7 rfl (by decide) rfl ?_
  exact j_wk (j_widen (ce := 0) (ke := 0) (by decide) (by decide) (c_X12_unevenNow_L8 hd _ h)) (And.intro rfl (And.intro rfl (And.intro rfl (And.intro rfl trivial))))
theorem c_X12_unevenNow {d : Nat} (hd : 10 ≤ d) {D D' : mD} {v : Int} (h : F_X12_unevenNow D = some (v, D')) : CM d 0 0 M_X12_unevenNow [mR 133] (SK, D, false) (rI v D') := CM.intro pn_X12 rfl rfl (Nat.le_of_ble_eq_true rfl) (fun _ => c_X12_unevenNow_e hd h)
theorem c_X12_uneven_e {Ω : mO} {d : Nat} (hd : 11 ≤ d) {r : Int × mD} {D : mD} (h : F_X12_uneven D = some r) : J Ω M_X12_uneven d 0 0 (rI r.1 r.2) 0 [some (mR 133)] [] (SK, D, false) 0 0 := by
  rw [F_X12_uneven] at h
  refine j_aload_n (pc' := 1) dX12_uneven_0 rfl rfl ?_
  refine j_iconst (pc' := 2) dX12_uneven_1 rfl ?_
  refine k_putI (pc' := 5) (sl := 0) (i' := 0) kc_11 w_1477 (by decide) (Or.inl rfl) dX12_uneven_2 rfl (by decide) sk_133 (by decide) ⟨rfl, rfl⟩ rfl ?_
  refine j_aload_n (pc' := 6) dX12_uneven_5 rfl rfl ?_
  obtain ⟨v1, D1, e1, h⟩ := bI_o h
  refine k_cV (d' := 10) (pc' := 9) [] [] (c_X12_unevenNow (d := 10) (Nat.le_refl _) e1) cw_X12_435 kc_11 w_2021 ws_120 dX12_uneven_6 rfl (by omega) rfl rfl (by decide) sk_133 rfl rfl (by decide) (by decide) ?_
  exact j_iret dX12_uneven_9 rfl (by decide) (by decide) (rI_of h)
theorem c_X12_uneven {d : Nat} (hd : 11 ≤ d) {D D' : mD} {v : Int} (h : F_X12_uneven D = some (v, D')) : CM d 0 0 M_X12_uneven [mR 133] (SK, D, false) (rI v D') := CM.intro pn_X12 rfl rfl (Nat.le_of_ble_eq_true rfl) (fun _ => c_X12_uneven_e hd h)
theorem c_X12_off_L23 {Ω : mO} {d : Nat} (hd : 10 ≤ d) {r : Int × mD} {x1 : Int} : ∀ (n : Nat) {x2 x3 : Int} {D : mD}, F_X12_off_L23 x1 n x2 x3 D = some r → J Ω M_X12_off d 0 0 (rI r.1 r.2) 23 [some (mR 133), some (mI x1), some (mI x2), some (mI x3)] [] (SK, D, false) 0 0 := by
  intro n
  induction n with
  | zero => intro x2 x3 D h; exact absurd (show (none : Option (Int × mD)) = some r from h) nofun
  | succ n ih =>
    intro x2 x3 D h
    rw [F_X12_off_L23] at h
    refine j_iload_n (pc' := 24) dX12_off_23 rfl rfl ?_
    refine j_aload_n (pc' := 25) dX12_off_24 rfl rfl ?_
    obtain ⟨v1, D1, e1, h⟩ := bI_o h
    refine k_cV (d' := 6) (pc' := 28) [] [mI x3] (c_X12_gaps (d := 6) (Nat.le_refl _) e1) cw_X12_94 kc_11 w_1821 ws_87 dX12_off_25 rfl (by omega) rfl rfl (by decide) sk_133 rfl rfl (by decide) (by decide) ?_
    obtain ⟨q1, h⟩ := ck_o h
    obtain ⟨q2, h⟩ := ck_o h
    refine j_icmp_ge (tgt := 50) (pc' := 31) dX12_off_28 rfl rfl q1 q2 (fun b1 => ?_) (fun b1 => ?_)
    · replace h := ite_t b1 h
      refine j_iload_n (pc' := 51) dX12_off_50 rfl rfl ?_
      exact j_iret dX12_off_51 rfl (by decide) (by decide) (rI_of h)
    · replace h := ite_f b1 h
      refine j_iload_n (pc' := 32) dX12_off_31 rfl rfl ?_
      refine j_aload_n (pc' := 33) dX12_off_32 rfl rfl ?_
      refine j_iload_n (pc' := 34) dX12_off_33 rfl rfl ?_
      obtain ⟨v2, D2, e2, h⟩ := bI_o h
      refine k_cV (d' := 9) (pc' := 37) [mI x3] [mI x2] (c_X12_white (d := 9) (Nat.le_refl _) e2) cw_X12_345 kc_11 w_1825 ws_88 dX12_off_34 rfl (by omega) rfl rfl (by decide) sk_133 rfl rfl (by decide) (by decide) ?_
      refine j_iload_n (pc' := 38) dX12_off_37 rfl rfl ?_
      refine j_isub (pc' := 39) dX12_off_38 rfl ?_
      obtain ⟨q3, h⟩ := ck_o h
      refine k_abs (pc' := 42) cw_X12_359 w_614 dX12_off_39 rfl (by omega) q3 rfl (by decide) (by decide) ?_
      refine j_iadd (pc' := 43) dX12_off_42 rfl ?_
      refine j_istore_n (pc' := 44) (ls' := [some (mR 133), some (mI x1), some (mI (x2 + (Int.natAbs (v2 - x1) : Int))), some (mI x3)]) dX12_off_43 rfl (by decide) rfl ?_
      refine j_iinc (pc' := 47) (z' := (x3 + 1)) (ls' := [some (mR 133), some (mI x1), some (mI (x2 + (Int.natAbs (v2 - x1) : Int))), some (mI (x3 + 1))]) dX12_off_44 rfl rfl rfl (by decide) rfl ?_
      refine j_goto (tgt := 23) dX12_off_47 rfl ?_
      exact j_wk (j_widen (ce := 0) (ke := 0) (by decide) (by decide) (ih h)) (And.intro rfl (And.intro rfl (And.intro rfl (And.intro rfl trivial))))
theorem c_X12_off_e {Ω : mO} {d : Nat} (hd : 10 ≤ d) {r : Int × mD} {x1 : Int} {D : mD} (h : F_X12_off x1 D = some r) : J Ω M_X12_off d 0 0 (rI r.1 r.2) 0 [some (mR 133), some (mI x1), none, none] [] (SK, D, false) 0 0 := by
  rw [F_X12_off] at h
  refine j_aload_n (pc' := 1) dX12_off_0 rfl rfl ?_
  refine j_iconst (pc' := 2) dX12_off_1 rfl ?_
  refine k_putI (pc' := 5) (sl := 0) (i' := 0) kc_11 w_1477 (by decide) (Or.inl rfl) dX12_off_2 rfl (by decide) sk_133 (by decide) ⟨rfl, rfl⟩ rfl ?_
  refine j_aload_n (pc' := 6) dX12_off_5 rfl rfl ?_
  refine j_iload_n (pc' := 7) dX12_off_6 rfl rfl ?_
  obtain ⟨v1, D1, e1, h⟩ := bI_o h
  refine k_cS (d' := 2) (pc' := 10) [mI x1] [mR 133] (c_X12_noWhite (d := 2) (Nat.le_refl _) e1) cw_X12_377 w_1897 dX12_off_7 rfl (by omega) rfl rfl rfl rfl (by decide) (by decide) ?_
  refine j_iconst (pc' := 11) dX12_off_10 rfl ?_
  obtain ⟨v2, D2, e2, h⟩ := bI_o h
  refine k_cV (d' := 1) (pc' := 14) [mI v1, mI 1] [] (c_X12_throwsIf (d := 1) (Nat.le_refl _) e2) cw_X12_282 kc_11 w_1753 ws_76 dX12_off_11 rfl (by omega) rfl rfl (by decide) sk_133 rfl rfl (by decide) (by decide) ?_
  obtain ⟨q1, h⟩ := ck_o h
  refine j_if_eq (tgt := 19) (pc' := 17) dX12_off_14 rfl rfl q1 (fun b1 => ?_) (fun b1 => ?_)
  · replace h := ite_t b1 h
    refine j_iconst (pc' := 20) dX12_off_19 rfl ?_
    refine j_istore_n (pc' := 21) (ls' := [some (mR 133), some (mI x1), some (mI 0), none]) dX12_off_20 rfl (by decide) rfl ?_
    refine j_iconst (pc' := 22) dX12_off_21 rfl ?_
    refine j_istore_n (pc' := 23) (ls' := [some (mR 133), some (mI x1), some (mI 0), some (mI 0)]) dX12_off_22 rfl (by decide) rfl ?_
    exact j_wk (j_widen (ce := 0) (ke := 0) (by decide) (by decide) (c_X12_off_L23 hd _ h)) (And.intro rfl (And.intro rfl (And.intro rfl (And.intro rfl trivial))))
  · replace h := ite_f b1 h
    refine j_iconst (pc' := 18) dX12_off_17 rfl ?_
    exact j_iret dX12_off_18 rfl (by decide) (by decide) (rI_of h)
theorem c_X12_off {d : Nat} (hd : 10 ≤ d) {x1 : Int} {D D' : mD} {v : Int} (h : F_X12_off x1 D = some (v, D')) : CM d 0 0 M_X12_off [mR 133, mI x1] (SK, D, false) (rI v D') := CM.intro pn_X12 rfl rfl (Nat.le_of_ble_eq_true rfl) (fun _ => c_X12_off_e hd h)
theorem c_X12_isFit_e {Ω : mO} {d : Nat} (hd : 9 ≤ d) {r : Int × mD} {D : mD} (h : F_X12_isFit D = some r) : J Ω M_X12_isFit d 0 0 (rI r.1 r.2) 0 [some (mR 133)] [] (SK, D, false) 0 0 := by
  rw [F_X12_isFit] at h
  refine j_aload_n (pc' := 1) dX12_isFit_0 rfl rfl ?_
  obtain ⟨v1, D1, e1, h⟩ := bI_o h
  refine k_cV (d' := 8) (pc' := 4) [] [] (c_X12_endOfLast (d := 8) (Nat.le_refl _) e1) cw_X12_438 kc_11 w_2037 ws_122 dX12_isFit_1 rfl (by omega) rfl rfl (by decide) sk_133 rfl rfl (by decide) (by decide) ?_
  refine j_aload_n (pc' := 5) dX12_isFit_4 rfl rfl ?_
  refine k_getR (pc' := 8) (sl := 1) (r := 134) kc_11 w_1478 (Or.inl rfl) (by decide) dX12_isFit_5 rfl (by decide) sk_133 (by decide) rfl (by decide) ?_
  refine j_iconst (pc' := 9) dX12_isFit_8 rfl ?_
  refine k_iald (pc' := 10) (z := D1 134 5) dX12_isFit_9 rfl (by decide) sk_134 (by decide) (by decide) (by decide) rfl ?_
  refine j_iadd (pc' := 11) dX12_isFit_10 rfl ?_
  refine j_aload_n (pc' := 12) dX12_isFit_11 rfl rfl ?_
  refine k_getR (pc' := 15) (sl := 1) (r := 134) kc_11 w_1478 (Or.inl rfl) (by decide) dX12_isFit_12 rfl (by decide) sk_133 (by decide) rfl (by decide) ?_
  refine j_iconst (pc' := 16) dX12_isFit_15 rfl ?_
  refine k_iald (pc' := 17) (z := D1 134 2) dX12_isFit_16 rfl (by decide) sk_134 (by decide) (by decide) (by decide) rfl ?_
  refine j_aload_n (pc' := 18) dX12_isFit_17 rfl rfl ?_
  refine k_getR (pc' := 21) (sl := 1) (r := 134) kc_11 w_1478 (Or.inl rfl) (by decide) dX12_isFit_18 rfl (by decide) sk_133 (by decide) rfl (by decide) ?_
  refine j_iconst (pc' := 22) dX12_isFit_21 rfl ?_
  refine k_iald (pc' := 23) (z := D1 134 3) dX12_isFit_22 rfl (by decide) sk_134 (by decide) (by decide) (by decide) rfl ?_
  refine j_isub (pc' := 24) dX12_isFit_23 rfl ?_
  obtain ⟨q1, h⟩ := ck_o h
  obtain ⟨q2, h⟩ := ck_o h
  have hj : J Ω M_X12_isFit d 0 0 (rI r.1 r.2) 32 [none] [mI (if ((D1 134 2) - (D1 134 3)) < (v1 + (D1 134 5)) then (0 : Int) else (1 : Int))] (SK, D1, false) 0 0 := by
    obtain ⟨q3, h⟩ := ck_o h
    exact j_zret dX12_isFit_32 rfl q3 (by decide) (by decide) (rI_of h)
  refine j_icmp_gt (tgt := 31) (pc' := 27) dX12_isFit_24 rfl rfl q1 q2 (fun b1 => ?_) (fun b1 => ?_)
  · refine j_iconst (pc' := 32) dX12_isFit_31 rfl ?_
    have hj := hj
    try simp only [if_pos b1] at hj
    exact j_wk hj (trivial)
  · refine j_iconst (pc' := 28) dX12_isFit_27 rfl ?_
    refine j_goto (tgt := 32) dX12_isFit_28 rfl ?_
    have hj := hj
    try simp only [if_neg b1] at hj
    exact j_wk hj (trivial)
theorem c_X12_isFit {d : Nat} (hd : 9 ≤ d) {D D' : mD} {v : Int} (h : F_X12_isFit D = some (v, D')) : CM d 0 0 M_X12_isFit [mR 133] (SK, D, false) (rI v D') := CM.intro pn_X12 rfl rfl (Nat.le_of_ble_eq_true rfl) (fun _ => c_X12_isFit_e hd h)
theorem c_X12_fits_e {Ω : mO} {d : Nat} (hd : 10 ≤ d) {r : Int × mD} {D : mD} (h : F_X12_fits D = some r) : J Ω M_X12_fits d 0 0 (rI r.1 r.2) 0 [some (mR 133)] [] (SK, D, false) 0 0 := by
  rw [F_X12_fits] at h
  refine j_aload_n (pc' := 1) dX12_fits_0 rfl rfl ?_
  refine j_iconst (pc' := 2) dX12_fits_1 rfl ?_
  refine k_putI (pc' := 5) (sl := 0) (i' := 0) kc_11 w_1477 (by decide) (Or.inl rfl) dX12_fits_2 rfl (by decide) sk_133 (by decide) ⟨rfl, rfl⟩ rfl ?_
  refine j_aload_n (pc' := 6) dX12_fits_5 rfl rfl ?_
  obtain ⟨v1, D1, e1, h⟩ := bI_o h
  refine k_cV (d' := 9) (pc' := 9) [] [] (c_X12_isFit (d := 9) (Nat.le_refl _) e1) cw_X12_441 kc_11 w_2033 ws_121 dX12_fits_6 rfl (by omega) rfl rfl (by decide) sk_133 rfl rfl (by decide) (by decide) ?_
  obtain ⟨q1, h⟩ := ck_o h
  exact j_zret dX12_fits_9 rfl q1 (by decide) (by decide) (rI_of h)
theorem c_X12_fits {d : Nat} (hd : 10 ≤ d) {D D' : mD} {v : Int} (h : F_X12_fits D = some (v, D')) : CM d 0 0 M_X12_fits [mR 133] (SK, D, false) (rI v D') := CM.intro pn_X12 rfl rfl (Nat.le_of_ble_eq_true rfl) (fun _ => c_X12_fits_e hd h)
theorem c_X12_nearest_L41 {Ω : mO} {d : Nat} (hd : 10 ≤ d) {r : Int × mD} {x1 x2 : Int} : ∀ (n : Nat) {x3 x4 : Int} {D : mD}, F_X12_nearest_L41 x1 x2 n x3 x4 D = some r → J Ω M_X12_nearest d 0 0 (rI r.1 r.2) 41 [some (mR 133), some (mI x1), some (mI x2), some (mI x3), some (mI x4)] [] (SK, D, false) 0 0 := by
  intro n
  induction n with
  | zero => intro x3 x4 D h; exact absurd (show (none : Option (Int × mD)) = some r from h) nofun
  | succ n ih =>
    intro x3 x4 D h
    rw [F_X12_nearest_L41] at h
    refine j_iload (pc' := 43) dX12_nearest_41 rfl rfl ?_
    refine j_bipush (pc' := 45) dX12_nearest_43 rfl rfl ?_
    obtain ⟨q1, h⟩ := ck_o h
    refine j_icmp_ge (tgt := 79) (pc' := 48) dX12_nearest_45 rfl rfl q1 (by decide) (fun b1 => ?_) (fun b1 => ?_)
    · replace h := ite_t b1 h
      refine j_iload_n (pc' := 80) dX12_nearest_79 rfl rfl ?_
      exact j_iret dX12_nearest_80 rfl (by decide) (by decide) (rI_of h)
    · replace h := ite_f b1 h
      refine j_aload_n (pc' := 49) dX12_nearest_48 rfl rfl ?_
      refine j_iload_n (pc' := 50) dX12_nearest_49 rfl rfl ?_
      refine j_iload (pc' := 52) dX12_nearest_50 rfl rfl ?_
      refine j_iload_n (pc' := 53) dX12_nearest_52 rfl rfl ?_
      obtain ⟨v1, D1, e1, h⟩ := bI_o h
      refine k_cV (d' := 6) (pc' := 56) [mI x1, mI x4, mI x2] [] (c_X12_offBy (d := 6) (Nat.le_refl _) e1) cw_X12_371 kc_11 w_1920 ws_103 dX12_nearest_53 rfl (by omega) rfl rfl (by decide) sk_133 rfl rfl (by decide) (by decide) ?_
      refine j_aload_n (pc' := 57) dX12_nearest_56 rfl rfl ?_
      refine j_iload_n (pc' := 58) dX12_nearest_57 rfl rfl ?_
      refine j_iload_n (pc' := 59) dX12_nearest_58 rfl rfl ?_
      refine j_iload_n (pc' := 60) dX12_nearest_59 rfl rfl ?_
      obtain ⟨v2, D2, e2, h⟩ := bI_o h
      refine k_cV (d' := 6) (pc' := 63) [mI x1, mI x3, mI x2] [mI v1] (c_X12_offBy (d := 6) (Nat.le_refl _) e2) cw_X12_371 kc_11 w_1920 ws_103 dX12_nearest_60 rfl (by omega) rfl rfl (by decide) sk_133 rfl rfl (by decide) (by decide) ?_
      obtain ⟨q2, h⟩ := ck_o h
      obtain ⟨q3, h⟩ := ck_o h
      have hj : J Ω M_X12_nearest d 0 0 (rI r.1 r.2) 72 [some (mR 133), some (mI x1), some (mI x2), none, some (mI x4)] [mI (if v2 ≤ v1 then x3 else x4)] (SK, D2, false) 0 0 := by
        refine j_istore_n (pc' := 73) (ls' := [some (mR 133), some (mI x1), some (mI x2), some (mI (if v2 ≤ v1 then x3 else x4)), some (mI x4)]) dX12_nearest_72 rfl (by decide) rfl ?_
        refine j_iinc (pc' := 76) (z' := (x4 + 1)) (ls' := [some (mR 133), some (mI x1), some (mI x2), some (mI (if v2 ≤ v1 then x3 else x4)), some (mI (x4 + 1))]) dX12_nearest_73 rfl rfl rfl (by decide) rfl ?_
        refine j_goto (tgt := 41) dX12_nearest_76 rfl ?_
        exact j_wk (j_widen (ce := 0) (ke := 0) (by decide) (by decide) (ih h)) (And.intro rfl (And.intro rfl (And.intro rfl (And.intro rfl (And.intro rfl trivial)))))
      refine j_icmp_ge (tgt := 71) (pc' := 66) dX12_nearest_63 rfl rfl q2 q3 (fun b2 => ?_) (fun b2 => ?_)
      · refine j_iload_n (pc' := 72) dX12_nearest_71 rfl rfl ?_
        have hj := hj
        try simp only [if_pos b2] at hj
        exact j_wk hj (And.intro rfl (And.intro rfl (And.intro rfl (And.intro rfl trivial))))
      · refine j_iload (pc' := 68) dX12_nearest_66 rfl rfl ?_
        refine j_goto (tgt := 72) dX12_nearest_68 rfl ?_
        have hj := hj
        try simp only [if_neg b2] at hj
        exact j_wk hj (And.intro rfl (And.intro rfl (And.intro rfl (And.intro rfl trivial))))
theorem c_X12_nearest_e {Ω : mO} {d : Nat} (hd : 10 ≤ d) {r : Int × mD} {x1 x2 : Int} {D : mD} (h : F_X12_nearest x1 x2 D = some r) : J Ω M_X12_nearest d 0 0 (rI r.1 r.2) 0 [some (mR 133), some (mI x1), some (mI x2), none, none] [] (SK, D, false) 0 0 := by
  rw [F_X12_nearest] at h
  refine j_aload_n (pc' := 1) dX12_nearest_0 rfl rfl ?_
  refine j_iconst (pc' := 2) dX12_nearest_1 rfl ?_
  refine k_putI (pc' := 5) (sl := 0) (i' := 0) kc_11 w_1477 (by decide) (Or.inl rfl) dX12_nearest_2 rfl (by decide) sk_133 (by decide) ⟨rfl, rfl⟩ rfl ?_
  refine j_aload_n (pc' := 6) dX12_nearest_5 rfl rfl ?_
  refine j_aload_n (pc' := 7) dX12_nearest_6 rfl rfl ?_
  refine j_iload_n (pc' := 8) dX12_nearest_7 rfl rfl ?_
  obtain ⟨v1, D1, e1, h⟩ := bI_o h
  refine k_cV (d' := 7) (pc' := 11) [mI x1] [mR 133] (c_X12_noGap (d := 7) (Nat.le_refl _) e1) cw_X12_342 kc_11 w_1817 ws_86 dX12_nearest_8 rfl (by omega) rfl rfl (by decide) sk_133 rfl rfl (by decide) (by decide) ?_
  refine j_iconst (pc' := 12) dX12_nearest_11 rfl ?_
  obtain ⟨v2, D2, e2, h⟩ := bI_o h
  refine k_cV (d' := 1) (pc' := 15) [mI v1, mI 1] [] (c_X12_throwsIf (d := 1) (Nat.le_refl _) e2) cw_X12_282 kc_11 w_1753 ws_76 dX12_nearest_12 rfl (by omega) rfl rfl (by decide) sk_133 rfl rfl (by decide) (by decide) ?_
  obtain ⟨q1, h⟩ := ck_o h
  refine j_if_ne (tgt := 30) (pc' := 18) dX12_nearest_15 rfl rfl q1 (fun b1 => ?_) (fun b1 => ?_)
  · replace h := ite_f b1 h
    refine j_iconst (pc' := 31) dX12_nearest_30 rfl ?_
    exact j_iret dX12_nearest_31 rfl (by decide) (by decide) (rI_of h)
  · replace h := ite_t b1 h
    refine j_aload_n (pc' := 19) dX12_nearest_18 rfl rfl ?_
    refine j_iload_n (pc' := 20) dX12_nearest_19 rfl rfl ?_
    obtain ⟨v3, D3, e3, h⟩ := bI_o h
    refine k_cS (d' := 2) (pc' := 23) [mI x2] [mR 133] (c_X12_noWhite (d := 2) (Nat.le_refl _) e3) cw_X12_377 w_1897 dX12_nearest_20 rfl (by omega) rfl rfl rfl rfl (by decide) (by decide) ?_
    refine j_iconst (pc' := 24) dX12_nearest_23 rfl ?_
    obtain ⟨v4, D4, e4, h⟩ := bI_o h
    refine k_cV (d' := 1) (pc' := 27) [mI v3, mI 2] [] (c_X12_throwsIf (d := 1) (Nat.le_refl _) e4) cw_X12_282 kc_11 w_1753 ws_76 dX12_nearest_24 rfl (by omega) rfl rfl (by decide) sk_133 rfl rfl (by decide) (by decide) ?_
    obtain ⟨q2, h⟩ := ck_o h
    refine j_if_eq (tgt := 32) (pc' := 30) dX12_nearest_27 rfl rfl q2 (fun b2 => ?_) (fun b2 => ?_)
    · replace h := ite_t b2 h
      refine j_aload_n (pc' := 33) dX12_nearest_32 rfl rfl ?_
      obtain ⟨v5, D5, e5, h⟩ := bI_o h
      refine k_cVv (d' := 9) (pc' := 36) [] [] (c_X12_laysWhites (d := 9) (Nat.le_refl _) e5) cw_X12_380 kc_11 w_1901 ws_99 dX12_nearest_33 rfl (by omega) rfl rfl (by decide) sk_133 rfl rfl (by decide) (by decide) ?_
      refine j_iconst (pc' := 37) dX12_nearest_36 rfl ?_
      refine j_istore_n (pc' := 38) (ls' := [some (mR 133), some (mI x1), some (mI x2), some (mI 0), none]) dX12_nearest_37 rfl (by decide) rfl ?_
      refine j_iconst (pc' := 39) dX12_nearest_38 rfl ?_
      refine j_istore (pc' := 41) (ls' := [some (mR 133), some (mI x1), some (mI x2), some (mI 0), some (mI 1)]) dX12_nearest_39 rfl (by decide) rfl ?_
      exact j_wk (j_widen (ce := 0) (ke := 0) (by decide) (by decide) (c_X12_nearest_L41 hd _ h)) (And.intro rfl (And.intro rfl (And.intro rfl (And.intro rfl (And.intro rfl trivial)))))
    · replace h := ite_f b2 h
      refine j_iconst (pc' := 31) dX12_nearest_30 rfl ?_
      exact j_iret dX12_nearest_31 rfl (by decide) (by decide) (rI_of h)
theorem c_X12_nearest {d : Nat} (hd : 10 ≤ d) {x1 x2 : Int} {D D' : mD} {v : Int} (h : F_X12_nearest x1 x2 D = some (v, D')) : CM d 0 0 M_X12_nearest [mR 133, mI x1, mI x2] (SK, D, false) (rI v D') := CM.intro pn_X12 rfl rfl (Nat.le_of_ble_eq_true rfl) (fun _ => c_X12_nearest_e hd h)
theorem c_X12_cannot_L23 {Ω : mO} {d : Nat} (hd : 9 ≤ d) {r : Int × mD} {x1 : Int} : ∀ (n : Nat) {x2 x3 : Int} {D : mD}, F_X12_cannot_L23 x1 n x2 x3 D = some r → J Ω M_X12_cannot d 0 0 (rI r.1 r.2) 23 [some (mR 133), some (mI x1), some (mI x2), some (mI x3)] [] (SK, D, false) 0 0 := by
  intro n
  induction n with
  | zero => intro x2 x3 D h; exact absurd (show (none : Option (Int × mD)) = some r from h) nofun
  | succ n ih =>
    intro x2 x3 D h
    rw [F_X12_cannot_L23] at h
    refine j_iload_n (pc' := 24) dX12_cannot_23 rfl rfl ?_
    refine j_aload_n (pc' := 25) dX12_cannot_24 rfl rfl ?_
    obtain ⟨v1, D1, e1, h⟩ := bI_o h
    refine k_cV (d' := 6) (pc' := 28) [] [mI x3] (c_X12_gaps (d := 6) (Nat.le_refl _) e1) cw_X12_94 kc_11 w_1821 ws_87 dX12_cannot_25 rfl (by omega) rfl rfl (by decide) sk_133 rfl rfl (by decide) (by decide) ?_
    obtain ⟨q1, h⟩ := ck_o h
    obtain ⟨q2, h⟩ := ck_o h
    refine j_icmp_ge (tgt := 57) (pc' := 31) dX12_cannot_28 rfl rfl q1 q2 (fun b1 => ?_) (fun b1 => ?_)
    · replace h := ite_t b1 h
      refine j_iload_n (pc' := 58) dX12_cannot_57 rfl rfl ?_
      exact j_iret dX12_cannot_58 rfl (by decide) (by decide) (rI_of h)
    · replace h := ite_f b1 h
      refine j_iload_n (pc' := 32) dX12_cannot_31 rfl rfl ?_
      refine j_aload_n (pc' := 33) dX12_cannot_32 rfl rfl ?_
      refine j_iload_n (pc' := 34) dX12_cannot_33 rfl rfl ?_
      refine j_iconst (pc' := 35) dX12_cannot_34 rfl ?_
      obtain ⟨v2, D2, e2, h⟩ := bI_o h
      refine k_cV (d' := 8) (pc' := 38) [mI x3, mI 0] [mI x2] (c_X12_whiteBy (d := 8) (Nat.le_refl _) e2) cw_X12_323 kc_11 w_1829 ws_89 dX12_cannot_35 rfl (by omega) rfl rfl (by decide) sk_133 rfl rfl (by decide) (by decide) ?_
      refine j_iload_n (pc' := 39) dX12_cannot_38 rfl rfl ?_
      obtain ⟨q3, h⟩ := ck_o h
      obtain ⟨q4, h⟩ := ck_o h
      have hj : J Ω M_X12_cannot d 0 0 (rI r.1 r.2) 49 [some (mR 133), some (mI x1), none, some (mI x3)] [mI (if v2 ≤ x1 then (0 : Int) else (bShl 1 x3)), mI x2] (SK, D2, false) 0 0 := by
        refine j_ior (pc' := 50) dX12_cannot_49 rfl ?_
        refine j_istore_n (pc' := 51) (ls' := [some (mR 133), some (mI x1), some (mI (bOr x2 (if v2 ≤ x1 then (0 : Int) else (bShl 1 x3)))), some (mI x3)]) dX12_cannot_50 rfl (by decide) rfl ?_
        refine j_iinc (pc' := 54) (z' := (x3 + 1)) (ls' := [some (mR 133), some (mI x1), some (mI (bOr x2 (if v2 ≤ x1 then (0 : Int) else (bShl 1 x3)))), some (mI (x3 + 1))]) dX12_cannot_51 rfl rfl rfl (by decide) rfl ?_
        refine j_goto (tgt := 23) dX12_cannot_54 rfl ?_
        exact j_wk (j_widen (ce := 0) (ke := 0) (by decide) (by decide) (ih h)) (And.intro rfl (And.intro rfl (And.intro rfl (And.intro rfl trivial))))
      refine j_icmp_le (tgt := 48) (pc' := 42) dX12_cannot_39 rfl rfl q3 q4 (fun b2 => ?_) (fun b2 => ?_)
      · refine j_iconst (pc' := 49) dX12_cannot_48 rfl ?_
        have hj := hj
        try simp only [if_pos b2] at hj
        exact j_wk hj (And.intro rfl (And.intro rfl (And.intro rfl trivial)))
      · refine j_iconst (pc' := 43) dX12_cannot_42 rfl ?_
        refine j_iload_n (pc' := 44) dX12_cannot_43 rfl rfl ?_
        refine j_ishl (pc' := 45) dX12_cannot_44 rfl ?_
        refine j_goto (tgt := 49) dX12_cannot_45 rfl ?_
        have hj := hj
        try simp only [if_neg b2] at hj
        exact j_wk hj (And.intro rfl (And.intro rfl (And.intro rfl trivial)))
theorem c_X12_cannot_e {Ω : mO} {d : Nat} (hd : 9 ≤ d) {r : Int × mD} {x1 : Int} {D : mD} (h : F_X12_cannot x1 D = some r) : J Ω M_X12_cannot d 0 0 (rI r.1 r.2) 0 [some (mR 133), some (mI x1), none, none] [] (SK, D, false) 0 0 := by
  rw [F_X12_cannot] at h
  refine j_aload_n (pc' := 1) dX12_cannot_0 rfl rfl ?_
  refine j_iconst (pc' := 2) dX12_cannot_1 rfl ?_
  refine k_putI (pc' := 5) (sl := 0) (i' := 0) kc_11 w_1477 (by decide) (Or.inl rfl) dX12_cannot_2 rfl (by decide) sk_133 (by decide) ⟨rfl, rfl⟩ rfl ?_
  refine j_aload_n (pc' := 6) dX12_cannot_5 rfl rfl ?_
  refine j_iload_n (pc' := 7) dX12_cannot_6 rfl rfl ?_
  obtain ⟨v1, D1, e1, h⟩ := bI_o h
  refine k_cS (d' := 2) (pc' := 10) [mI x1] [mR 133] (c_X12_noWhite (d := 2) (Nat.le_refl _) e1) cw_X12_377 w_1897 dX12_cannot_7 rfl (by omega) rfl rfl rfl rfl (by decide) (by decide) ?_
  refine j_iconst (pc' := 11) dX12_cannot_10 rfl ?_
  obtain ⟨v2, D2, e2, h⟩ := bI_o h
  refine k_cV (d' := 1) (pc' := 14) [mI v1, mI 1] [] (c_X12_throwsIf (d := 1) (Nat.le_refl _) e2) cw_X12_282 kc_11 w_1753 ws_76 dX12_cannot_11 rfl (by omega) rfl rfl (by decide) sk_133 rfl rfl (by decide) (by decide) ?_
  obtain ⟨q1, h⟩ := ck_o h
  refine j_if_eq (tgt := 19) (pc' := 17) dX12_cannot_14 rfl rfl q1 (fun b1 => ?_) (fun b1 => ?_)
  · replace h := ite_t b1 h
    refine j_iconst (pc' := 20) dX12_cannot_19 rfl ?_
    refine j_istore_n (pc' := 21) (ls' := [some (mR 133), some (mI x1), some (mI 0), none]) dX12_cannot_20 rfl (by decide) rfl ?_
    refine j_iconst (pc' := 22) dX12_cannot_21 rfl ?_
    refine j_istore_n (pc' := 23) (ls' := [some (mR 133), some (mI x1), some (mI 0), some (mI 0)]) dX12_cannot_22 rfl (by decide) rfl ?_
    exact j_wk (j_widen (ce := 0) (ke := 0) (by decide) (by decide) (c_X12_cannot_L23 hd _ h)) (And.intro rfl (And.intro rfl (And.intro rfl (And.intro rfl trivial))))
  · replace h := ite_f b1 h
    refine j_iconst (pc' := 18) dX12_cannot_17 rfl ?_
    exact j_iret dX12_cannot_18 rfl (by decide) (by decide) (rI_of h)
theorem c_X12_cannot {d : Nat} (hd : 9 ≤ d) {x1 : Int} {D D' : mD} {v : Int} (h : F_X12_cannot x1 D = some (v, D')) : CM d 0 0 M_X12_cannot [mR 133, mI x1] (SK, D, false) (rI v D') := CM.intro pn_X12 rfl rfl (Nat.le_of_ble_eq_true rfl) (fun _ => c_X12_cannot_e hd h)
theorem c_X12_leastFor_L2 {Ω : mO} {d : Nat} (hd : 1 ≤ d) {r : Int × mD} {x1 x2 : Int} : ∀ (n : Nat) {x3 : Int} {D : mD}, F_X12_leastFor_L2 x1 x2 n x3 D = some r → J Ω M_X12_leastFor d 0 0 (rI r.1 r.2) 2 [some (mR 133), some (mI x1), some (mI x2), some (mI x3)] [] (SK, D, false) 0 0 := by
  intro n
  induction n with
  | zero => intro x3 D h; exact absurd (show (none : Option (Int × mD)) = some r from h) nofun
  | succ n ih =>
    intro x3 D h
    rw [F_X12_leastFor_L2] at h
    refine j_iload_n (pc' := 3) dX12_leastFor_2 rfl rfl ?_
    refine j_bipush (pc' := 5) dX12_leastFor_3 rfl rfl ?_
    obtain ⟨q1, h⟩ := ck_o h
    refine j_icmp_ge (tgt := 29) (pc' := 8) dX12_leastFor_5 rfl rfl q1 (by decide) (fun b1 => ?_) (fun b1 => ?_)
    · replace h := ite_t b1 h
      refine j_iload_n (pc' := 30) dX12_leastFor_29 rfl rfl ?_
      exact j_iret dX12_leastFor_30 rfl (by decide) (by decide) (rI_of h)
    · replace h := ite_f b1 h
      refine j_aload_n (pc' := 9) dX12_leastFor_8 rfl rfl ?_
      refine k_getR (pc' := 12) (sl := 22) (r := 142) kc_11 w_1499 (Or.inl rfl) (by decide) dX12_leastFor_9 rfl (by decide) sk_133 (by decide) rfl (by decide) ?_
      refine j_bipush (pc' := 14) dX12_leastFor_12 rfl rfl ?_
      refine j_iload_n (pc' := 15) dX12_leastFor_14 rfl rfl ?_
      refine j_imul (pc' := 16) dX12_leastFor_15 rfl ?_
      refine j_iload_n (pc' := 17) dX12_leastFor_16 rfl rfl ?_
      refine j_iadd (pc' := 18) dX12_leastFor_17 rfl ?_
      obtain ⟨q2, h⟩ := ck_o h
      refine k_iald (pc' := 19) (z := D 142 ((31 * x1) + x3)) dX12_leastFor_18 rfl (by decide) sk_142 (by decide) q2.1 q2.2 rfl ?_
      refine j_iload_n (pc' := 20) dX12_leastFor_19 rfl rfl ?_
      obtain ⟨q3, h⟩ := ck_o h
      obtain ⟨q4, h⟩ := ck_o h
      refine j_icmp_ge (tgt := 29) (pc' := 23) dX12_leastFor_20 rfl rfl q3 q4 (fun b2 => ?_) (fun b2 => ?_)
      · replace h := ite_t b2 h
        refine j_iload_n (pc' := 30) dX12_leastFor_29 rfl rfl ?_
        exact j_iret dX12_leastFor_30 rfl (by decide) (by decide) (rI_of h)
      · replace h := ite_f b2 h
        refine j_iinc (pc' := 26) (z' := (x3 + 1)) (ls' := [some (mR 133), some (mI x1), some (mI x2), some (mI (x3 + 1))]) dX12_leastFor_23 rfl rfl rfl (by decide) rfl ?_
        refine j_goto (tgt := 2) dX12_leastFor_26 rfl ?_
        exact j_wk (j_widen (ce := 0) (ke := 0) (by decide) (by decide) (ih h)) (And.intro rfl (And.intro rfl (And.intro rfl (And.intro rfl trivial))))
theorem c_X12_leastFor_e {Ω : mO} {d : Nat} (hd : 1 ≤ d) {r : Int × mD} {x1 x2 : Int} {D : mD} (h : F_X12_leastFor x1 x2 D = some r) : J Ω M_X12_leastFor d 0 0 (rI r.1 r.2) 0 [some (mR 133), some (mI x1), some (mI x2), none] [] (SK, D, false) 0 0 := by
  rw [F_X12_leastFor] at h
  refine j_iconst (pc' := 1) dX12_leastFor_0 rfl ?_
  refine j_istore_n (pc' := 2) (ls' := [some (mR 133), some (mI x1), some (mI x2), some (mI 0)]) dX12_leastFor_1 rfl (by decide) rfl ?_
  exact j_wk (j_widen (ce := 0) (ke := 0) (by decide) (by decide) (c_X12_leastFor_L2 hd _ h)) (And.intro rfl (And.intro rfl (And.intro rfl (And.intro rfl trivial))))
theorem c_X12_leastFor {d : Nat} (hd : 1 ≤ d) {x1 x2 : Int} {D D' : mD} {v : Int} (h : F_X12_leastFor x1 x2 D = some (v, D')) : CM d 0 0 M_X12_leastFor [mR 133, mI x1, mI x2] (SK, D, false) (rI v D') := CM.intro pn_X12 rfl rfl (Nat.le_of_ble_eq_true rfl) (fun _ => c_X12_leastFor_e hd h)
theorem c_X12_shortBy_L26 {Ω : mO} {d : Nat} (hd : 7 ≤ d) {r : Int × mD} {x1 x2 : Int} : ∀ (n : Nat) {x3 x4 : Int} {D : mD}, F_X12_shortBy_L26 x1 x2 n x3 x4 D = some r → J Ω M_X12_shortBy d 0 0 (rI r.1 r.2) 26 [some (mR 133), some (mI x1), some (mI x2), some (mI x3), some (mI x4)] [] (SK, D, false) 0 0 := by
  intro n
  induction n with
  | zero => intro x3 x4 D h; exact absurd (show (none : Option (Int × mD)) = some r from h) nofun
  | succ n ih =>
    intro x3 x4 D h
    rw [F_X12_shortBy_L26] at h
    refine j_iload (pc' := 28) dX12_shortBy_26 rfl rfl ?_
    refine j_iload_n (pc' := 29) dX12_shortBy_28 rfl rfl ?_
    obtain ⟨q1, h⟩ := ck_o h
    obtain ⟨q2, h⟩ := ck_o h
    refine j_icmp_ge (tgt := 67) (pc' := 32) dX12_shortBy_29 rfl rfl q1 q2 (fun b1 => ?_) (fun b1 => ?_)
    · replace h := ite_t b1 h
      refine j_iload_n (pc' := 68) dX12_shortBy_67 rfl rfl ?_
      exact j_iret dX12_shortBy_68 rfl (by decide) (by decide) (rI_of h)
    · replace h := ite_f b1 h
      refine j_iload_n (pc' := 33) dX12_shortBy_32 rfl rfl ?_
      refine j_aload_n (pc' := 34) dX12_shortBy_33 rfl rfl ?_
      refine j_iload (pc' := 36) dX12_shortBy_34 rfl rfl ?_
      obtain ⟨v1, D1, e1, h⟩ := bI_o h
      refine k_cV (d' := 6) (pc' := 39) [mI x4] [mI x3] (c_X12_widthOf (d := 6) (Nat.le_refl _) e1) cw_X12_333 kc_11 w_1792 ws_81 dX12_shortBy_36 rfl (by omega) rfl rfl (by decide) sk_133 rfl rfl (by decide) (by decide) ?_
      refine j_iload (pc' := 41) dX12_shortBy_39 rfl rfl ?_
      refine j_iload_n (pc' := 42) dX12_shortBy_41 rfl rfl ?_
      refine j_iconst (pc' := 43) dX12_shortBy_42 rfl ?_
      refine j_isub (pc' := 44) dX12_shortBy_43 rfl ?_
      obtain ⟨q3, h⟩ := ck_o h
      refine j_icmp_ge (tgt := 57) (pc' := 47) dX12_shortBy_44 rfl rfl q1 q3 (fun b2 => ?_) (fun b2 => ?_)
      · replace h := ite_t b2 h
        refine j_iconst (pc' := 58) dX12_shortBy_57 rfl ?_
        refine j_iadd (pc' := 59) dX12_shortBy_58 rfl ?_
        refine j_iadd (pc' := 60) dX12_shortBy_59 rfl ?_
        refine j_istore_n (pc' := 61) (ls' := [some (mR 133), some (mI x1), some (mI x2), some (mI (x3 + (v1 + 0))), some (mI x4)]) dX12_shortBy_60 rfl (by decide) rfl ?_
        refine j_iinc (pc' := 64) (z' := (x4 + 1)) (ls' := [some (mR 133), some (mI x1), some (mI x2), some (mI (x3 + (v1 + 0))), some (mI (x4 + 1))]) dX12_shortBy_61 rfl rfl rfl (by decide) rfl ?_
        refine j_goto (tgt := 26) dX12_shortBy_64 rfl ?_
        exact j_wk (j_widen (ce := 0) (ke := 0) (by decide) (by decide) (ih h)) (And.intro rfl (And.intro rfl (And.intro rfl (And.intro rfl (And.intro rfl trivial)))))
      · replace h := ite_f b2 h
        refine j_aload_n (pc' := 48) dX12_shortBy_47 rfl rfl ?_
        refine j_iload (pc' := 50) dX12_shortBy_48 rfl rfl ?_
        refine j_iload_n (pc' := 51) dX12_shortBy_50 rfl rfl ?_
        obtain ⟨v2, D2, e2, h⟩ := bI_o h
        refine k_cV (d' := 1) (pc' := 54) [mI x4, mI x1] [mI v1, mI x3] (c_X12_leastFor (d := 1) (Nat.le_refl _) e2) cw_X12_444 kc_11 w_2057 ws_124 dX12_shortBy_51 rfl (by omega) rfl rfl (by decide) sk_133 rfl rfl (by decide) (by decide) ?_
        refine j_goto (tgt := 58) dX12_shortBy_54 rfl ?_
        refine j_iadd (pc' := 59) dX12_shortBy_58 rfl ?_
        refine j_iadd (pc' := 60) dX12_shortBy_59 rfl ?_
        refine j_istore_n (pc' := 61) (ls' := [some (mR 133), some (mI x1), some (mI x2), some (mI (x3 + (v1 + v2))), some (mI x4)]) dX12_shortBy_60 rfl (by decide) rfl ?_
        refine j_iinc (pc' := 64) (z' := (x4 + 1)) (ls' := [some (mR 133), some (mI x1), some (mI x2), some (mI (x3 + (v1 + v2))), some (mI (x4 + 1))]) dX12_shortBy_61 rfl rfl rfl (by decide) rfl ?_
        refine j_goto (tgt := 26) dX12_shortBy_64 rfl ?_
        exact j_wk (j_widen (ce := 0) (ke := 0) (by decide) (by decide) (ih h)) (And.intro rfl (And.intro rfl (And.intro rfl (And.intro rfl (And.intro rfl trivial)))))
theorem c_X12_shortBy_e {Ω : mO} {d : Nat} (hd : 7 ≤ d) {r : Int × mD} {x1 x2 : Int} {D : mD} (h : F_X12_shortBy x1 x2 D = some r) : J Ω M_X12_shortBy d 0 0 (rI r.1 r.2) 0 [some (mR 133), some (mI x1), some (mI x2), none, none] [] (SK, D, false) 0 0 := by
  rw [F_X12_shortBy] at h
  refine j_iconst (pc' := 1) dX12_shortBy_0 rfl ?_
  refine j_aload_n (pc' := 2) dX12_shortBy_1 rfl rfl ?_
  refine k_getR (pc' := 5) (sl := 1) (r := 134) kc_11 w_1478 (Or.inl rfl) (by decide) dX12_shortBy_2 rfl (by decide) sk_133 (by decide) rfl (by decide) ?_
  refine j_iconst (pc' := 6) dX12_shortBy_5 rfl ?_
  refine k_iald (pc' := 7) (z := D 134 3) dX12_shortBy_6 rfl (by decide) sk_134 (by decide) (by decide) (by decide) rfl ?_
  refine j_imul (pc' := 8) dX12_shortBy_7 rfl ?_
  refine j_aload_n (pc' := 9) dX12_shortBy_8 rfl rfl ?_
  refine k_getR (pc' := 12) (sl := 1) (r := 134) kc_11 w_1478 (Or.inl rfl) (by decide) dX12_shortBy_9 rfl (by decide) sk_133 (by decide) rfl (by decide) ?_
  refine j_iconst (pc' := 13) dX12_shortBy_12 rfl ?_
  refine k_iald (pc' := 14) (z := D 134 5) dX12_shortBy_13 rfl (by decide) sk_134 (by decide) (by decide) (by decide) rfl ?_
  refine j_iadd (pc' := 15) dX12_shortBy_14 rfl ?_
  refine j_aload_n (pc' := 16) dX12_shortBy_15 rfl rfl ?_
  refine k_getR (pc' := 19) (sl := 1) (r := 134) kc_11 w_1478 (Or.inl rfl) (by decide) dX12_shortBy_16 rfl (by decide) sk_133 (by decide) rfl (by decide) ?_
  refine j_iconst (pc' := 20) dX12_shortBy_19 rfl ?_
  refine k_iald (pc' := 21) (z := D 134 2) dX12_shortBy_20 rfl (by decide) sk_134 (by decide) (by decide) (by decide) rfl ?_
  refine j_isub (pc' := 22) dX12_shortBy_21 rfl ?_
  refine j_istore_n (pc' := 23) (ls' := [some (mR 133), some (mI x1), some (mI x2), some (mI (((2 * (D 134 3)) + (D 134 5)) - (D 134 2))), none]) dX12_shortBy_22 rfl (by decide) rfl ?_
  refine j_iconst (pc' := 24) dX12_shortBy_23 rfl ?_
  refine j_istore (pc' := 26) (ls' := [some (mR 133), some (mI x1), some (mI x2), some (mI (((2 * (D 134 3)) + (D 134 5)) - (D 134 2))), some (mI 0)]) dX12_shortBy_24 rfl (by decide) rfl ?_
  exact j_wk (j_widen (ce := 0) (ke := 0) (by decide) (by decide) (c_X12_shortBy_L26 hd _ h)) (And.intro rfl (And.intro rfl (And.intro rfl (And.intro rfl (And.intro rfl trivial)))))
theorem c_X12_shortBy {d : Nat} (hd : 7 ≤ d) {x1 x2 : Int} {D D' : mD} {v : Int} (h : F_X12_shortBy x1 x2 D = some (v, D')) : CM d 0 0 M_X12_shortBy [mR 133, mI x1, mI x2] (SK, D, false) (rI v D') := CM.intro pn_X12 rfl rfl (Nat.le_of_ble_eq_true rfl) (fun _ => c_X12_shortBy_e hd h)
theorem c_X12_lacks_e {Ω : mO} {d : Nat} (hd : 10 ≤ d) {r : Int × mD} {x1 : Int} {D : mD} (h : F_X12_lacks x1 D = some r) : J Ω M_X12_lacks d 0 0 (rI r.1 r.2) 0 [some (mR 133), some (mI x1)] [] (SK, D, false) 0 0 := by
  rw [F_X12_lacks] at h
  refine j_aload_n (pc' := 1) dX12_lacks_0 rfl rfl ?_
  refine j_iconst (pc' := 2) dX12_lacks_1 rfl ?_
  refine k_putI (pc' := 5) (sl := 0) (i' := 0) kc_11 w_1477 (by decide) (Or.inl rfl) dX12_lacks_2 rfl (by decide) sk_133 (by decide) ⟨rfl, rfl⟩ rfl ?_
  refine j_aload_n (pc' := 6) dX12_lacks_5 rfl rfl ?_
  refine j_iload_n (pc' := 7) dX12_lacks_6 rfl rfl ?_
  obtain ⟨v1, D1, e1, h⟩ := bI_o h
  refine k_cS (d' := 2) (pc' := 10) [mI x1] [mR 133] (c_X12_noWhite (d := 2) (Nat.le_refl _) e1) cw_X12_377 w_1897 dX12_lacks_7 rfl (by omega) rfl rfl rfl rfl (by decide) (by decide) ?_
  refine j_iconst (pc' := 11) dX12_lacks_10 rfl ?_
  obtain ⟨v2, D2, e2, h⟩ := bI_o h
  refine k_cV (d' := 1) (pc' := 14) [mI v1, mI 1] [] (c_X12_throwsIf (d := 1) (Nat.le_refl _) e2) cw_X12_282 kc_11 w_1753 ws_76 dX12_lacks_11 rfl (by omega) rfl rfl (by decide) sk_133 rfl rfl (by decide) (by decide) ?_
  obtain ⟨q1, h⟩ := ck_o h
  refine j_if_eq (tgt := 19) (pc' := 17) dX12_lacks_14 rfl rfl q1 (fun b1 => ?_) (fun b1 => ?_)
  · replace h := ite_t b1 h
    refine j_aload_n (pc' := 20) dX12_lacks_19 rfl rfl ?_
    obtain ⟨v3, D3, e3, h⟩ := bI_o h
    refine k_cVv (d' := 9) (pc' := 23) [] [] (c_X12_laysWhites (d := 9) (Nat.le_refl _) e3) cw_X12_380 kc_11 w_1901 ws_99 dX12_lacks_20 rfl (by omega) rfl rfl (by decide) sk_133 rfl rfl (by decide) (by decide) ?_
    refine j_aload_n (pc' := 24) dX12_lacks_23 rfl rfl ?_
    refine j_iload_n (pc' := 25) dX12_lacks_24 rfl rfl ?_
    refine j_aload_n (pc' := 26) dX12_lacks_25 rfl rfl ?_
    obtain ⟨v4, D4, e4, h⟩ := bI_o h
    refine k_cV (d' := 1) (pc' := 29) [] [mI x1, mR 133] (c_X12_letters (d := 1) (Nat.le_refl _) e4) cw_X12_68 kc_11 w_1788 ws_80 dX12_lacks_26 rfl (by omega) rfl rfl (by decide) sk_133 rfl rfl (by decide) (by decide) ?_
    obtain ⟨v5, D5, e5, h⟩ := bI_o h
    refine k_cV (d' := 7) (pc' := 32) [mI x1, mI v4] [] (c_X12_shortBy (d := 7) (Nat.le_refl _) e5) cw_X12_447 kc_11 w_2053 ws_123 dX12_lacks_29 rfl (by omega) rfl rfl (by decide) sk_133 rfl rfl (by decide) (by decide) ?_
    exact j_iret dX12_lacks_32 rfl (by decide) (by decide) (rI_of h)
  · replace h := ite_f b1 h
    refine j_iconst (pc' := 18) dX12_lacks_17 rfl ?_
    exact j_iret dX12_lacks_18 rfl (by decide) (by decide) (rI_of h)
theorem c_X12_lacks {d : Nat} (hd : 10 ≤ d) {x1 : Int} {D D' : mD} {v : Int} (h : F_X12_lacks x1 D = some (v, D')) : CM d 0 0 M_X12_lacks [mR 133, mI x1] (SK, D, false) (rI v D') := CM.intro pn_X12 rfl rfl (Nat.le_of_ble_eq_true rfl) (fun _ => c_X12_lacks_e hd h)
theorem c_X12_harmBy_e {Ω : mO} {d : Nat} (hd : 3 ≤ d) {r : Int × mD} {x1 x2 : Int} {D : mD} (h : F_X12_harmBy x1 x2 D = some r) : J Ω M_X12_harmBy d 0 0 (rI r.1 r.2) 0 [some (mR 133), some (mI x1), some (mI x2)] [] (SK, D, false) 0 0 := by
  rw [F_X12_harmBy] at h
  refine j_iload_n (pc' := 1) dX12_harmBy_0 rfl rfl ?_
  refine j_iload_n (pc' := 2) dX12_harmBy_1 rfl rfl ?_
  refine j_imul (pc' := 3) dX12_harmBy_2 rfl ?_
  refine j_aload_n (pc' := 4) dX12_harmBy_3 rfl rfl ?_
  refine j_aload_n (pc' := 5) dX12_harmBy_4 rfl rfl ?_
  refine j_iload_n (pc' := 6) dX12_harmBy_5 rfl rfl ?_
  refine j_iconst (pc' := 7) dX12_harmBy_6 rfl ?_
  obtain ⟨v1, D1, e1, h⟩ := bI_o h
  refine k_cV (d' := 1) (pc' := 10) [mI x1, mI 0] [mR 133, mI (x2 * x2)] (c_X12_of (d := 1) (Nat.le_refl _) e1) cw_X12_78 kc_11 w_1800 ws_83 dX12_harmBy_7 rfl (by omega) rfl rfl (by decide) sk_133 rfl rfl (by decide) (by decide) ?_
  obtain ⟨v2, D2, e2, h⟩ := bI_o h
  refine k_cV (d' := 2) (pc' := 13) [mI v1] [mI (x2 * x2)] (c_X12_inkOf (d := 2) (Nat.le_refl _) e2) cw_X12_330 kc_11 w_1772 ws_78 dX12_harmBy_10 rfl (by omega) rfl rfl (by decide) sk_133 rfl rfl (by decide) (by decide) ?_
  refine j_imul (pc' := 14) dX12_harmBy_13 rfl ?_
  exact j_iret dX12_harmBy_14 rfl (by decide) (by decide) (rI_of h)
theorem c_X12_harmBy {d : Nat} (hd : 3 ≤ d) {x1 x2 : Int} {D D' : mD} {v : Int} (h : F_X12_harmBy x1 x2 D = some (v, D')) : CM d 0 0 M_X12_harmBy [mR 133, mI x1, mI x2] (SK, D, false) (rI v D') := CM.intro pn_X12 rfl rfl (Nat.le_of_ble_eq_true rfl) (fun _ => c_X12_harmBy_e hd h)
theorem c_X12_canBe_e {Ω : mO} {d : Nat} (hd : 3 ≤ d) {r : Int × mD} {x1 x2 : Int} {D : mD} (h : F_X12_canBe x1 x2 D = some r) : J Ω M_X12_canBe d 0 0 (rI r.1 r.2) 0 [some (mR 133), some (mI x1), some (mI x2)] [] (SK, D, false) 0 0 := by
  rw [F_X12_canBe] at h
  refine j_iload_n (pc' := 1) dX12_canBe_0 rfl rfl ?_
  obtain ⟨q1, h⟩ := ck_o h
  refine j_if_eq (tgt := 25) (pc' := 4) dX12_canBe_1 rfl rfl q1 (fun b1 => ?_) (fun b1 => ?_)
  · replace h := ite_t b1 h
    refine j_iconst (pc' := 26) dX12_canBe_25 rfl ?_
    refine j_goto (tgt := 30) dX12_canBe_26 rfl ?_
    exact j_zret dX12_canBe_30 rfl (Or.inr rfl) (by decide) (by decide) (rI_of h)
  · replace h := ite_f b1 h
    refine j_aload_n (pc' := 5) dX12_canBe_4 rfl rfl ?_
    refine j_iload_n (pc' := 6) dX12_canBe_5 rfl rfl ?_
    refine j_iconst (pc' := 7) dX12_canBe_6 rfl ?_
    obtain ⟨v1, D1, e1, h⟩ := bI_o h
    refine k_cV (d' := 1) (pc' := 10) [mI x1, mI 1] [] (c_X12_of (d := 1) (Nat.le_refl _) e1) cw_X12_78 kc_11 w_1800 ws_83 dX12_canBe_7 rfl (by omega) rfl rfl (by decide) sk_133 rfl rfl (by decide) (by decide) ?_
    obtain ⟨q2, h⟩ := ck_o h
    refine j_if_ne (tgt := 29) (pc' := 13) dX12_canBe_10 rfl rfl q2 (fun b2 => ?_) (fun b2 => ?_)
    · replace h := ite_f b2 h
      refine j_iconst (pc' := 30) dX12_canBe_29 rfl ?_
      exact j_zret dX12_canBe_30 rfl (Or.inl rfl) (by decide) (by decide) (rI_of h)
    · replace h := ite_t b2 h
      refine j_aload_n (pc' := 14) dX12_canBe_13 rfl rfl ?_
      refine j_iload_n (pc' := 15) dX12_canBe_14 rfl rfl ?_
      refine j_iconst (pc' := 16) dX12_canBe_15 rfl ?_
      obtain ⟨v2, D2, e2, h⟩ := bI_o h
      refine k_cV (d' := 2) (pc' := 19) [mI x1, mI 1] [] (c_X12_its (d := 2) (Nat.le_refl _) e2) cw_X12_84 kc_11 w_1796 ws_82 dX12_canBe_16 rfl (by omega) rfl rfl (by decide) sk_133 rfl rfl (by decide) (by decide) ?_
      refine j_iload_n (pc' := 20) dX12_canBe_19 rfl rfl ?_
      refine j_isub (pc' := 21) dX12_canBe_20 rfl ?_
      refine j_iconst (pc' := 22) dX12_canBe_21 rfl ?_
      obtain ⟨q3, h⟩ := ck_o h
      have hj : J Ω M_X12_canBe d 0 0 (rI r.1 r.2) 30 [none, none, none] [mI (if (v2 - x2) < 1 then (0 : Int) else (1 : Int))] (SK, D2, false) 0 0 := by
        obtain ⟨q4, h⟩ := ck_o h
        exact j_zret dX12_canBe_30 rfl q4 (by decide) (by decide) (rI_of h)
      refine j_icmp_lt (tgt := 29) (pc' := 25) dX12_canBe_22 rfl rfl q3 (by decide) (fun b3 => ?_) (fun b3 => ?_)
      · refine j_iconst (pc' := 30) dX12_canBe_29 rfl ?_
        have hj := hj
        try simp only [if_pos b3] at hj
        exact j_wk hj (trivial)
      · refine j_iconst (pc' := 26) dX12_canBe_25 rfl ?_
        refine j_goto (tgt := 30) dX12_canBe_26 rfl ?_
        have hj := hj
        try simp only [if_neg b3] at hj
        exact j_wk hj (trivial)
theorem c_X12_canBe {d : Nat} (hd : 3 ≤ d) {x1 x2 : Int} {D D' : mD} {v : Int} (h : F_X12_canBe x1 x2 D = some (v, D')) : CM d 0 0 M_X12_canBe [mR 133, mI x1, mI x2] (SK, D, false) (rI v D') := CM.intro pn_X12 rfl rfl (Nat.le_of_ble_eq_true rfl) (fun _ => c_X12_canBe_e hd h)
theorem c_X12_harmFrom_e {Ω : mO} {d : Nat} (hd : 6 ≤ d) {r : Int × mD} {x1 x2 : Int} {D : mD} (h : F_X12_harmFrom x1 x2 D = some r) : J Ω M_X12_harmFrom d 0 0 (rI r.1 r.2) 0 [some (mR 133), some (mI x1), some (mI x2)] [] (SK, D, false) 0 0 := by
  rw [F_X12_harmFrom] at h
  refine j_aload_n (pc' := 1) dX12_harmFrom_0 rfl rfl ?_
  refine k_getR (pc' := 4) (sl := 27) (r := 147) kc_11 w_1504 (Or.inl rfl) (by decide) dX12_harmFrom_1 rfl (by decide) sk_133 (by decide) rfl (by decide) ?_
  refine j_bipush (pc' := 6) dX12_harmFrom_4 rfl rfl ?_
  refine j_iload_n (pc' := 7) dX12_harmFrom_6 rfl rfl ?_
  refine j_imul (pc' := 8) dX12_harmFrom_7 rfl ?_
  refine j_iconst (pc' := 9) dX12_harmFrom_8 rfl ?_
  refine j_iload_n (pc' := 10) dX12_harmFrom_9 rfl rfl ?_
  obtain ⟨q1, h⟩ := ck_o h
  refine k_max (pc' := 13) cw_X12_72 w_541 dX12_harmFrom_10 rfl (by omega) (by decide) q1 rfl (by decide) (by decide) ?_
  refine j_iadd (pc' := 14) dX12_harmFrom_13 rfl ?_
  obtain ⟨q2, h⟩ := ck_o h
  refine k_iald (pc' := 15) (z := D 147 ((43 * x1) + (max 0 x2))) dX12_harmFrom_14 rfl (by decide) sk_147 (by decide) q2.1 q2.2 rfl ?_
  exact j_iret dX12_harmFrom_15 rfl (by decide) (by decide) (rI_of h)
theorem c_X12_harmFrom {d : Nat} (hd : 6 ≤ d) {x1 x2 : Int} {D D' : mD} {v : Int} (h : F_X12_harmFrom x1 x2 D = some (v, D')) : CM d 0 0 M_X12_harmFrom [mR 133, mI x1, mI x2] (SK, D, false) (rI v D') := CM.intro pn_X12 rfl rfl (Nat.le_of_ble_eq_true rfl) (fun _ => c_X12_harmFrom_e hd h)
