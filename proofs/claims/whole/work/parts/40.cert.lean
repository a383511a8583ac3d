/-! CERTIFICATES: the bytecode does what F says (by program) -/
theorem c_X0_forgetWhites_e {Ω : mO} {d : Nat} (hd : 6 ≤ d) {r : Int × mD} {D : mD} (h : F_X0_forgetWhites D = some r) : J Ω M_X0_forgetWhites d 0 0 (rV r.2) 0 [some (mR 22)] [] (SK, D, false) 0 0 := by
  rw [F_X0_forgetWhites] at h
  refine j_aload_n (pc' := 1) dX0_forgetWhites_0 rfl rfl ?_
  refine k_getR (pc' := 4) (sl := 5) (r := 25) kc_0 w_267 (Or.inl rfl) (by decide) dX0_forgetWhites_1 rfl (by decide) sk_22 (by decide) rfl (by decide) ?_
  refine j_iconst (pc' := 5) dX0_forgetWhites_4 rfl ?_
  refine k_cSv (d' := 1) (pc' := 8) [mR 25, mI (-1)] [] (k_fill (d := 1) (n := 403) (Nat.le_refl _) (by decide) sk_25 (by decide) rfl) cw_X0_35 w_207 dX0_forgetWhites_5 rfl (by omega) rfl rfl rfl rfl (by decide) (by decide) ?_
  exact j_vret dX0_forgetWhites_8 rfl (by decide) (by decide) (rV_of h)
theorem c_X0_forgetWhites {d : Nat} (hd : 6 ≤ d) {D D' : mD} {v : Int} (h : F_X0_forgetWhites D = some (v, D')) : CM d 0 0 M_X0_forgetWhites [mR 22] (SK, D, false) (rV D') := CM.intro pn_X0 rfl rfl (Nat.le_of_ble_eq_true rfl) (fun _ => c_X0_forgetWhites_e hd h)
theorem c_X0_widthOf_e {Ω : mO} {d : Nat} (hd : 1 ≤ d) {r : Int × mD} {x1 : Int} {D : mD} (h : F_X0_widthOf x1 D = some r) : J Ω M_X0_widthOf d 0 0 (rI r.1 r.2) 0 [some (mR 22), some (mI x1)] [] (SK, D, false) 0 0 := by
  rw [F_X0_widthOf] at h
  refine j_aload_n (pc' := 1) dX0_widthOf_0 rfl rfl ?_
  refine k_getR (pc' := 4) (sl := 0) (r := 3) kc_0 w_262 (Or.inl rfl) (by decide) dX0_widthOf_1 rfl (by decide) sk_22 (by decide) rfl (by decide) ?_
  refine k_getR (pc' := 7) (sl := 2) (r := 5) kc_6 w_79 (Or.inl rfl) (by decide) dX0_widthOf_4 rfl (by decide) sk_3 (by decide) rfl (by decide) ?_
  refine j_aload_n (pc' := 8) dX0_widthOf_7 rfl rfl ?_
  refine k_getR (pc' := 11) (sl := 0) (r := 3) kc_0 w_262 (Or.inl rfl) (by decide) dX0_widthOf_8 rfl (by decide) sk_22 (by decide) rfl (by decide) ?_
  refine k_getR (pc' := 14) (sl := 6) (r := 8) kc_6 w_93 (Or.inl rfl) (by decide) dX0_widthOf_11 rfl (by decide) sk_3 (by decide) rfl (by decide) ?_
  refine j_iload_n (pc' := 15) dX0_widthOf_14 rfl rfl ?_
  obtain ⟨q1, h⟩ := ck_o h
  refine k_iald (pc' := 16) (z := D 8 x1) dX0_widthOf_15 rfl (by decide) sk_8 (by decide) q1.1 q1.2 rfl ?_
  obtain ⟨q2, h⟩ := ck_o h
  refine k_iald (pc' := 17) (z := D 5 (D 8 x1)) dX0_widthOf_16 rfl (by decide) sk_5 (by decide) q2.1 q2.2 rfl ?_
  refine j_aload_n (pc' := 18) dX0_widthOf_17 rfl rfl ?_
  refine k_getR (pc' := 21) (sl := 2) (r := 17) kc_0 w_264 (Or.inl rfl) (by decide) dX0_widthOf_18 rfl (by decide) sk_22 (by decide) rfl (by decide) ?_
  refine k_getR (pc' := 24) (sl := 1) (r := 19) kc_9 w_213 (Or.inl rfl) (by decide) dX0_widthOf_21 rfl (by decide) sk_17 (by decide) rfl (by decide) ?_
  refine j_iload_n (pc' := 25) dX0_widthOf_24 rfl rfl ?_
  refine k_iald (pc' := 26) (z := D 19 x1) dX0_widthOf_25 rfl (by decide) sk_19 (by decide) q1.1 q1.2 rfl ?_
  refine j_isub (pc' := 27) dX0_widthOf_26 rfl ?_
  exact j_iret dX0_widthOf_27 rfl (by decide) (by decide) (rI_of h)
theorem c_X0_widthOf {d : Nat} (hd : 1 ≤ d) {x1 : Int} {D D' : mD} {v : Int} (h : F_X0_widthOf x1 D = some (v, D')) : CM d 0 0 M_X0_widthOf [mR 22, mI x1] (SK, D, false) (rI v D') := CM.intro pn_X0 rfl rfl (Nat.le_of_ble_eq_true rfl) (fun _ => c_X0_widthOf_e hd h)
theorem c_X0_beginOf_L10 {Ω : mO} {d : Nat} (hd : 2 ≤ d) {r : Int × mD} {x1 : Int} : ∀ (n : Nat) {x2 x3 : Int} {D : mD}, F_X0_beginOf_L10 x1 n x2 x3 D = some r → J Ω M_X0_beginOf d 0 0 (rI r.1 r.2) 10 [some (mR 22), some (mI x1), some (mI x2), some (mI x3)] [] (SK, D, false) 0 0 := by
  intro n
  induction n with
  | zero => intro x2 x3 D h; exact absurd (show (none : Option (Int × mD)) = some r from h) nofun
  | succ n ih =>
    intro x2 x3 D h
    rw [F_X0_beginOf_L10] at h
    refine j_iload_n (pc' := 11) dX0_beginOf_10 rfl rfl ?_
    refine j_iload_n (pc' := 12) dX0_beginOf_11 rfl rfl ?_
    obtain ⟨q1, h⟩ := ck_o h
    obtain ⟨q2, h⟩ := ck_o h
    refine j_icmp_ge (tgt := 39) (pc' := 15) dX0_beginOf_12 rfl rfl q1 q2 (fun b1 => ?_) (fun b1 => ?_)
    · replace h := ite_t b1 h
      refine j_iload_n (pc' := 40) dX0_beginOf_39 rfl rfl ?_
      exact j_iret dX0_beginOf_40 rfl (by decide) (by decide) (rI_of h)
    · replace h := ite_f b1 h
      refine j_iload_n (pc' := 16) dX0_beginOf_15 rfl rfl ?_
      refine j_aload_n (pc' := 17) dX0_beginOf_16 rfl rfl ?_
      refine j_iload_n (pc' := 18) dX0_beginOf_17 rfl rfl ?_
      obtain ⟨v1, D1, e1, h⟩ := bI_o h
      refine k_cV (d' := 1) (pc' := 21) [mI x3] [mI x2] (c_X0_widthOf (d := 1) (Nat.le_refl _) e1) cw_X0_58 kc_0 w_475 w_476 dX0_beginOf_18 rfl (by omega) rfl rfl (by decide) sk_22 rfl rfl (by decide) (by decide) ?_
      refine j_aload_n (pc' := 22) dX0_beginOf_21 rfl rfl ?_
      refine k_getR (pc' := 25) (sl := 2) (r := 17) kc_0 w_264 (Or.inl rfl) (by decide) dX0_beginOf_22 rfl (by decide) sk_22 (by decide) rfl (by decide) ?_
      refine k_getR (pc' := 28) (sl := 0) (r := 18) kc_9 w_210 (Or.inl rfl) (by decide) dX0_beginOf_25 rfl (by decide) sk_17 (by decide) rfl (by decide) ?_
      refine j_iload_n (pc' := 29) dX0_beginOf_28 rfl rfl ?_
      obtain ⟨q3, h⟩ := ck_o h
      refine k_iald (pc' := 30) (z := D1 18 x3) dX0_beginOf_29 rfl (by decide) sk_18 (by decide) q3.1 q3.2 rfl ?_
      refine j_iadd (pc' := 31) dX0_beginOf_30 rfl ?_
      refine j_iadd (pc' := 32) dX0_beginOf_31 rfl ?_
      refine j_istore_n (pc' := 33) (ls' := [some (mR 22), some (mI x1), some (mI (x2 + (v1 + (D1 18 x3)))), some (mI x3)]) dX0_beginOf_32 rfl (by decide) rfl ?_
      refine j_iinc (pc' := 36) (z' := (x3 + 1)) (ls' := [some (mR 22), some (mI x1), some (mI (x2 + (v1 + (D1 18 x3)))), some (mI (x3 + 1))]) dX0_beginOf_33 rfl rfl rfl (by decide) rfl ?_
      refine j_goto (tgt := 10) dX0_beginOf_36 rfl ?_
      exact j_wk (j_widen (ce := 0) (ke := 0) (by decide) (by decide) (ih h)) (And.intro rfl (And.intro rfl (And.intro rfl (And.intro rfl trivial))))
theorem c_X0_beginOf_e {Ω : mO} {d : Nat} (hd : 2 ≤ d) {r : Int × mD} {x1 : Int} {D : mD} (h : F_X0_beginOf x1 D = some r) : J Ω M_X0_beginOf d 0 0 (rI r.1 r.2) 0 [some (mR 22), some (mI x1), none, none] [] (SK, D, false) 0 0 := by
  rw [F_X0_beginOf] at h
  refine j_aload_n (pc' := 1) dX0_beginOf_0 rfl rfl ?_
  refine k_getR (pc' := 4) (sl := 0) (r := 3) kc_0 w_262 (Or.inl rfl) (by decide) dX0_beginOf_1 rfl (by decide) sk_22 (by decide) rfl (by decide) ?_
  refine k_getI (pc' := 7) (sl := 8) (z := D 3 8) kc_6 w_102 (by decide) dX0_beginOf_4 rfl (by decide) sk_3 (by decide) rfl rfl ?_
  refine j_istore_n (pc' := 8) (ls' := [some (mR 22), some (mI x1), some (mI (D 3 8)), none]) dX0_beginOf_7 rfl (by decide) rfl ?_
  refine j_iconst (pc' := 9) dX0_beginOf_8 rfl ?_
  refine j_istore_n (pc' := 10) (ls' := [some (mR 22), some (mI x1), some (mI (D 3 8)), some (mI 0)]) dX0_beginOf_9 rfl (by decide) rfl ?_
  exact j_wk (j_widen (ce := 0) (ke := 0) (by decide) (by decide) (c_X0_beginOf_L10 hd _ h)) (And.intro rfl (And.intro rfl (And.intro rfl (And.intro rfl trivial))))
theorem c_X0_beginOf {d : Nat} (hd : 2 ≤ d) {x1 : Int} {D D' : mD} {v : Int} (h : F_X0_beginOf x1 D = some (v, D')) : CM d 0 0 M_X0_beginOf [mR 22, mI x1] (SK, D, false) (rI v D') := CM.intro pn_X0 rfl rfl (Nat.le_of_ble_eq_true rfl) (fun _ => c_X0_beginOf_e hd h)
theorem c_X0_endOfWord_e {Ω : mO} {d : Nat} (hd : 3 ≤ d) {r : Int × mD} {D : mD} (h : F_X0_endOfWord D = some r) : J Ω M_X0_endOfWord d 0 0 (rI r.1 r.2) 0 [some (mR 22), none] [] (SK, D, false) 0 0 := by
  rw [F_X0_endOfWord] at h
  refine j_aload_n (pc' := 1) dX0_endOfWord_0 rfl rfl ?_
  refine k_getR (pc' := 4) (sl := 0) (r := 3) kc_0 w_262 (Or.inl rfl) (by decide) dX0_endOfWord_1 rfl (by decide) sk_22 (by decide) rfl (by decide) ?_
  refine k_getI (pc' := 7) (sl := 5) (z := D 3 5) kc_6 w_89 (by decide) dX0_endOfWord_4 rfl (by decide) sk_3 (by decide) rfl rfl ?_
  refine j_iconst (pc' := 8) dX0_endOfWord_7 rfl ?_
  refine j_isub (pc' := 9) dX0_endOfWord_8 rfl ?_
  refine j_istore_n (pc' := 10) (ls' := [some (mR 22), some (mI ((D 3 5) - 1))]) dX0_endOfWord_9 rfl (by decide) rfl ?_
  refine j_iload_n (pc' := 11) dX0_endOfWord_10 rfl rfl ?_
  obtain ⟨q1, h⟩ := ck_o h
  refine j_if_ge (tgt := 24) (pc' := 14) dX0_endOfWord_11 rfl rfl q1 (fun b1 => ?_) (fun b1 => ?_)
  · replace h := ite_t b1 h
    refine j_aload_n (pc' := 25) dX0_endOfWord_24 rfl rfl ?_
    refine j_iload_n (pc' := 26) dX0_endOfWord_25 rfl rfl ?_
    obtain ⟨v1, D1, e1, h⟩ := bI_o h
    refine k_cV (d' := 2) (pc' := 29) [mI ((D 3 5) - 1)] [] (c_X0_beginOf (d := 2) (Nat.le_refl _) e1) cw_X0_68 kc_0 w_471 w_472 dX0_endOfWord_26 rfl (by omega) rfl rfl (by decide) sk_22 rfl rfl (by decide) (by decide) ?_
    refine j_aload_n (pc' := 30) dX0_endOfWord_29 rfl rfl ?_
    refine j_iload_n (pc' := 31) dX0_endOfWord_30 rfl rfl ?_
    obtain ⟨v2, D2, e2, h⟩ := bI_o h
    refine k_cV (d' := 1) (pc' := 34) [mI ((D 3 5) - 1)] [mI v1] (c_X0_widthOf (d := 1) (Nat.le_refl _) e2) cw_X0_58 kc_0 w_475 w_476 dX0_endOfWord_31 rfl (by omega) rfl rfl (by decide) sk_22 rfl rfl (by decide) (by decide) ?_
    refine j_iadd (pc' := 35) dX0_endOfWord_34 rfl ?_
    exact j_iret dX0_endOfWord_35 rfl (by decide) (by decide) (rI_of h)
  · replace h := ite_f b1 h
    refine j_aload_n (pc' := 15) dX0_endOfWord_14 rfl rfl ?_
    refine k_getR (pc' := 18) (sl := 0) (r := 3) kc_0 w_262 (Or.inl rfl) (by decide) dX0_endOfWord_15 rfl (by decide) sk_22 (by decide) rfl (by decide) ?_
    refine k_getI (pc' := 21) (sl := 8) (z := D 3 8) kc_6 w_102 (by decide) dX0_endOfWord_18 rfl (by decide) sk_3 (by decide) rfl rfl ?_
    refine j_goto (tgt := 35) dX0_endOfWord_21 rfl ?_
    exact j_iret dX0_endOfWord_35 rfl (by decide) (by decide) (rI_of h)
theorem c_X0_endOfWord {d : Nat} (hd : 3 ≤ d) {D D' : mD} {v : Int} (h : F_X0_endOfWord D = some (v, D')) : CM d 0 0 M_X0_endOfWord [mR 22] (SK, D, false) (rI v D') := CM.intro pn_X0 rfl rfl (Nat.le_of_ble_eq_true rfl) (fun _ => c_X0_endOfWord_e hd h)
theorem c_X0_fitsWith_e {Ω : mO} {d : Nat} (hd : 4 ≤ d) {r : Int × mD} {x1 : Int} {D : mD} (h : F_X0_fitsWith x1 D = some r) : J Ω M_X0_fitsWith d 0 0 (rI r.1 r.2) 0 [some (mR 22), some (mI x1)] [] (SK, D, false) 0 0 := by
  rw [F_X0_fitsWith] at h
  refine j_aload_n (pc' := 1) dX0_fitsWith_0 rfl rfl ?_
  obtain ⟨v1, D1, e1, h⟩ := bI_o h
  refine k_cV (d' := 3) (pc' := 4) [] [] (c_X0_endOfWord (d := 3) (Nat.le_refl _) e1) cw_X0_71 kc_0 w_467 w_468 dX0_fitsWith_1 rfl (by omega) rfl rfl (by decide) sk_22 rfl rfl (by decide) (by decide) ?_
  refine j_iload_n (pc' := 5) dX0_fitsWith_4 rfl rfl ?_
  refine j_iadd (pc' := 6) dX0_fitsWith_5 rfl ?_
  refine j_aload_n (pc' := 7) dX0_fitsWith_6 rfl rfl ?_
  refine k_getR (pc' := 10) (sl := 0) (r := 3) kc_0 w_262 (Or.inl rfl) (by decide) dX0_fitsWith_7 rfl (by decide) sk_22 (by decide) rfl (by decide) ?_
  refine k_getI (pc' := 13) (sl := 7) (z := D1 3 7) kc_6 w_98 (by decide) dX0_fitsWith_10 rfl (by decide) sk_3 (by decide) rfl rfl ?_
  refine j_aload_n (pc' := 14) dX0_fitsWith_13 rfl rfl ?_
  refine k_getR (pc' := 17) (sl := 0) (r := 3) kc_0 w_262 (Or.inl rfl) (by decide) dX0_fitsWith_14 rfl (by decide) sk_22 (by decide) rfl (by decide) ?_
  refine k_getI (pc' := 20) (sl := 8) (z := D1 3 8) kc_6 w_102 (by decide) dX0_fitsWith_17 rfl (by decide) sk_3 (by decide) rfl rfl ?_
  refine j_isub (pc' := 21) dX0_fitsWith_20 rfl ?_
  obtain ⟨q1, h⟩ := ck_o h
  obtain ⟨q2, h⟩ := ck_o h
  have hj : J Ω M_X0_fitsWith d 0 0 (rI r.1 r.2) 29 [none, none] [mI (if ((D1 3 7) - (D1 3 8)) < (v1 + x1) then (0 : Int) else (1 : Int))] (SK, D1, false) 0 0 := by
    obtain ⟨q3, h⟩ := ck_o h
    exact j_zret dX0_fitsWith_29 rfl q3 (by decide) (by decide) (rI_of h)
  refine j_icmp_gt (tgt := 28) (pc' := 24) dX0_fitsWith_21 rfl rfl q1 q2 (fun b1 => ?_) (fun b1 => ?_)
  · refine j_iconst (pc' := 29) dX0_fitsWith_28 rfl ?_
    have hj := hj
    try simp only [if_pos b1] at hj
    exact j_wk hj (trivial)
  · refine j_iconst (pc' := 25) dX0_fitsWith_24 rfl ?_
    refine j_goto (tgt := 29) dX0_fitsWith_25 rfl ?_
    have hj := hj
    try simp only [if_neg b1] at hj
    exact j_wk hj (trivial)
theorem c_X0_fitsWith {d : Nat} (hd : 4 ≤ d) {x1 : Int} {D D' : mD} {v : Int} (h : F_X0_fitsWith x1 D = some (v, D')) : CM d 0 0 M_X0_fitsWith [mR 22, mI x1] (SK, D, false) (rI v D') := CM.intro pn_X0 rfl rfl (Nat.le_of_ble_eq_true rfl) (fun _ => c_X0_fitsWith_e hd h)
theorem c_X0_freeHairs_L30 {Ω : mO} {d : Nat} (hd : 2 ≤ d) {r : Int × mD} : ∀ (n : Nat) {x2 x3 : Int} {D : mD}, F_X0_freeHairs_L30 n x2 x3 D = some r → J Ω M_X0_freeHairs d 0 0 (rI r.1 r.2) 30 [some (mR 22), none, some (mI x2), some (mI x3)] [] (SK, D, false) 0 0 := by
  intro n
  induction n with
  | zero => intro x2 x3 D h; exact absurd (show (none : Option (Int × mD)) = some r from h) nofun
  | succ n ih =>
    intro x2 x3 D h
    rw [F_X0_freeHairs_L30] at h
    refine j_iload_n (pc' := 31) dX0_freeHairs_30 rfl rfl ?_
    refine j_aload_n (pc' := 32) dX0_freeHairs_31 rfl rfl ?_
    refine k_getR (pc' := 35) (sl := 0) (r := 3) kc_0 w_262 (Or.inl rfl) (by decide) dX0_freeHairs_32 rfl (by decide) sk_22 (by decide) rfl (by decide) ?_
    refine k_getI (pc' := 38) (sl := 5) (z := D 3 5) kc_6 w_89 (by decide) dX0_freeHairs_35 rfl (by decide) sk_3 (by decide) rfl rfl ?_
    obtain ⟨q1, h⟩ := ck_o h
    obtain ⟨q2, h⟩ := ck_o h
    refine j_icmp_ge (tgt := 55) (pc' := 41) dX0_freeHairs_38 rfl rfl q1 q2 (fun b1 => ?_) (fun b1 => ?_)
    · replace h := ite_t b1 h
      refine j_iload_n (pc' := 56) dX0_freeHairs_55 rfl rfl ?_
      exact j_iret dX0_freeHairs_56 rfl (by decide) (by decide) (rI_of h)
    · replace h := ite_f b1 h
      refine j_iload_n (pc' := 42) dX0_freeHairs_41 rfl rfl ?_
      refine j_aload_n (pc' := 43) dX0_freeHairs_42 rfl rfl ?_
      refine j_iload_n (pc' := 44) dX0_freeHairs_43 rfl rfl ?_
      obtain ⟨v1, D1, e1, h⟩ := bI_o h
      refine k_cV (d' := 1) (pc' := 47) [mI x3] [mI x2] (c_X0_widthOf (d := 1) (Nat.le_refl _) e1) cw_X0_58 kc_0 w_475 w_476 dX0_freeHairs_44 rfl (by omega) rfl rfl (by decide) sk_22 rfl rfl (by decide) (by decide) ?_
      refine j_isub (pc' := 48) dX0_freeHairs_47 rfl ?_
      refine j_istore_n (pc' := 49) (ls' := [some (mR 22), none, some (mI (x2 - v1)), some (mI x3)]) dX0_freeHairs_48 rfl (by decide) rfl ?_
      refine j_iinc (pc' := 52) (z' := (x3 + 1)) (ls' := [some (mR 22), none, some (mI (x2 - v1)), some (mI (x3 + 1))]) dX0_freeHairs_49 rfl rfl rfl (by decide) rfl ?_
      refine j_goto (tgt := 30) dX0_freeHairs_52 rfl ?_
      exact j_wk (j_widen (ce := 0) (ke := 0) (by decide) (by decide) (ih h)) (And.intro rfl (And.intro rfl (And.intro rfl trivial)))
theorem c_X0_freeHairs_e {Ω : mO} {d : Nat} (hd : 2 ≤ d) {r : Int × mD} {x1 : Int} {D : mD} (h : F_X0_freeHairs x1 D = some r) : J Ω M_X0_freeHairs d 0 0 (rI r.1 r.2) 0 [some (mR 22), some (mI x1), none, none] [] (SK, D, false) 0 0 := by
  rw [F_X0_freeHairs] at h
  refine j_aload_n (pc' := 1) dX0_freeHairs_0 rfl rfl ?_
  refine k_getR (pc' := 4) (sl := 0) (r := 3) kc_0 w_262 (Or.inl rfl) (by decide) dX0_freeHairs_1 rfl (by decide) sk_22 (by decide) rfl (by decide) ?_
  refine k_getI (pc' := 7) (sl := 7) (z := D 3 7) kc_6 w_98 (by decide) dX0_freeHairs_4 rfl (by decide) sk_3 (by decide) rfl rfl ?_
  refine j_iload_n (pc' := 8) dX0_freeHairs_7 rfl rfl ?_
  refine j_iadd (pc' := 9) dX0_freeHairs_8 rfl ?_
  refine j_iconst (pc' := 10) dX0_freeHairs_9 rfl ?_
  refine j_aload_n (pc' := 11) dX0_freeHairs_10 rfl rfl ?_
  refine k_getR (pc' := 14) (sl := 0) (r := 3) kc_0 w_262 (Or.inl rfl) (by decide) dX0_freeHairs_11 rfl (by decide) sk_22 (by decide) rfl (by decide) ?_
  refine k_getI (pc' := 17) (sl := 8) (z := D 3 8) kc_6 w_102 (by decide) dX0_freeHairs_14 rfl (by decide) sk_3 (by decide) rfl rfl ?_
  refine j_imul (pc' := 18) dX0_freeHairs_17 rfl ?_
  refine j_isub (pc' := 19) dX0_freeHairs_18 rfl ?_
  refine j_aload_n (pc' := 20) dX0_freeHairs_19 rfl rfl ?_
  refine k_getR (pc' := 23) (sl := 2) (r := 17) kc_0 w_264 (Or.inl rfl) (by decide) dX0_freeHairs_20 rfl (by decide) sk_22 (by decide) rfl (by decide) ?_
  refine k_getI (pc' := 26) (sl := 5) (z := D 17 5) kc_9 w_222 (by decide) dX0_freeHairs_23 rfl (by decide) sk_17 (by decide) rfl rfl ?_
  refine j_isub (pc' := 27) dX0_freeHairs_26 rfl ?_
  refine j_istore_n (pc' := 28) (ls' := [some (mR 22), some (mI x1), some (mI ((((D 3 7) + x1) - (2 * (D 3 8))) - (D 17 5))), none]) dX0_freeHairs_27 rfl (by decide) rfl ?_
  refine j_iconst (pc' := 29) dX0_freeHairs_28 rfl ?_
  refine j_istore_n (pc' := 30) (ls' := [some (mR 22), some (mI x1), some (mI ((((D 3 7) + x1) - (2 * (D 3 8))) - (D 17 5))), some (mI 0)]) dX0_freeHairs_29 rfl (by decide) rfl ?_
  exact j_wk (j_widen (ce := 0) (ke := 0) (by decide) (by decide) (c_X0_freeHairs_L30 hd _ h)) (And.intro rfl (And.intro rfl (And.intro rfl trivial)))
theorem c_X0_freeHairs {d : Nat} (hd : 2 ≤ d) {x1 : Int} {D D' : mD} {v : Int} (h : F_X0_freeHairs x1 D = some (v, D')) : CM d 0 0 M_X0_freeHairs [mR 22, mI x1] (SK, D, false) (rI v D') := CM.intro pn_X0 rfl rfl (Nat.le_of_ble_eq_true rfl) (fun _ => c_X0_freeHairs_e hd h)
theorem c_X6_leftOf_e {Ω : mO} {d : Nat} (hd : 1 ≤ d) {t0 : Nat} (hT0 : IsShop t0) {r : Int × mD} {x1 x2 : Int} {D : mD} (h : F_X6_leftOf t0 x1 x2 D = some r) : J Ω M_X6_leftOf d 0 0 (rI r.1 r.2) 0 [some (mR t0), some (mI x1), some (mI x2)] [] (SK, D, false) 0 0 := by
  rw [F_X6_leftOf] at h
  refine j_aload_n (pc' := 1) dX6_leftOf_0 rfl rfl ?_
  refine k_getR (pc' := 4) (sl := 3) (r := (t0 + 3)) kc_6 w_82 (Or.inl rfl) (by decide) dX6_leftOf_1 rfl (shop_lt hT0) (shopA_0 hT0) (by decide) rfl (shopL_3 hT0) ?_
  refine j_iload_n (pc' := 5) dX6_leftOf_4 rfl rfl ?_
  refine j_iconst (pc' := 6) dX6_leftOf_5 rfl ?_
  refine j_imul (pc' := 7) dX6_leftOf_6 rfl ?_
  refine j_iload_n (pc' := 8) dX6_leftOf_7 rfl rfl ?_
  refine j_iadd (pc' := 9) dX6_leftOf_8 rfl ?_
  obtain ⟨q1, h⟩ := ck_o h
  refine k_iald (pc' := 10) (z := D (t0 + 3) ((x1 * 5) + x2)) dX6_leftOf_9 rfl (shopL_3 hT0) (shopA_3 hT0) (by decide) q1.1 q1.2 rfl ?_
  exact j_iret dX6_leftOf_10 rfl (by decide) (by decide) (rI_of h)
theorem c_X6_leftOf {d : Nat} (hd : 1 ≤ d) {t0 : Nat} (hT0 : IsShop t0) {x1 x2 : Int} {D D' : mD} {v : Int} (h : F_X6_leftOf t0 x1 x2 D = some (v, D')) : CM d 0 0 M_X6_leftOf [mR t0, mI x1, mI x2] (SK, D, false) (rI v D') := CM.intro pn_X6 rfl rfl (Nat.le_of_ble_eq_true rfl) (fun _ => c_X6_leftOf_e hd hT0 h)
theorem c_X6_rightOf_e {Ω : mO} {d : Nat} (hd : 1 ≤ d) {t0 : Nat} (hT0 : IsShop t0) {r : Int × mD} {x1 x2 : Int} {D : mD} (h : F_X6_rightOf t0 x1 x2 D = some r) : J Ω M_X6_rightOf d 0 0 (rI r.1 r.2) 0 [some (mR t0), some (mI x1), some (mI x2)] [] (SK, D, false) 0 0 := by
  rw [F_X6_rightOf] at h
  refine j_aload_n (pc' := 1) dX6_rightOf_0 rfl rfl ?_
  refine k_getR (pc' := 4) (sl := 4) (r := (t0 + 4)) kc_6 w_84 (Or.inl rfl) (by decide) dX6_rightOf_1 rfl (shop_lt hT0) (shopA_0 hT0) (by decide) rfl (shopL_4 hT0) ?_
  refine j_iload_n (pc' := 5) dX6_rightOf_4 rfl rfl ?_
  refine j_iconst (pc' := 6) dX6_rightOf_5 rfl ?_
  refine j_imul (pc' := 7) dX6_rightOf_6 rfl ?_
  refine j_iload_n (pc' := 8) dX6_rightOf_7 rfl rfl ?_
  refine j_iadd (pc' := 9) dX6_rightOf_8 rfl ?_
  obtain ⟨q1, h⟩ := ck_o h
  refine k_iald (pc' := 10) (z := D (t0 + 4) ((x1 * 5) + x2)) dX6_rightOf_9 rfl (shopL_4 hT0) (shopA_4 hT0) (by decide) q1.1 q1.2 rfl ?_
  exact j_iret dX6_rightOf_10 rfl (by decide) (by decide) (rI_of h)
theorem c_X6_rightOf {d : Nat} (hd : 1 ≤ d) {t0 : Nat} (hT0 : IsShop t0) {x1 x2 : Int} {D D' : mD} {v : Int} (h : F_X6_rightOf t0 x1 x2 D = some (v, D')) : CM d 0 0 M_X6_rightOf [mR t0, mI x1, mI x2] (SK, D, false) (rI v D') := CM.intro pn_X6 rfl rfl (Nat.le_of_ble_eq_true rfl) (fun _ => c_X6_rightOf_e hd hT0 h)
theorem c_X0_spaceOf_e {Ω : mO} {d : Nat} (hd : 6 ≤ d) {r : Int × mD} {x1 x2 x3 x4 : Int} {D : mD} (h : F_X0_spaceOf x1 x2 x3 x4 D = some r) : J Ω M_X0_spaceOf d 0 0 (rI r.1 r.2) 0 [some (mR 22), some (mI x1), some (mI x2), some (mI x3), some (mI x4), none] [] (SK, D, false) 0 0 := by
  rw [F_X0_spaceOf] at h
  refine j_iconst (pc' := 1) dX0_spaceOf_0 rfl ?_
  refine j_iload_n (pc' := 2) dX0_spaceOf_1 rfl rfl ?_
  refine j_iload (pc' := 4) dX0_spaceOf_2 rfl rfl ?_
  refine j_isub (pc' := 5) dX0_spaceOf_4 rfl ?_
  obtain ⟨q1, h⟩ := ck_o h
  refine k_max (pc' := 8) cw_X0_81 w_541 dX0_spaceOf_5 rfl (by omega) (by decide) q1 rfl (by decide) (by decide) ?_
  refine j_aload_n (pc' := 9) dX0_spaceOf_8 rfl rfl ?_
  refine k_getR (pc' := 12) (sl := 0) (r := 3) kc_0 w_262 (Or.inl rfl) (by decide) dX0_spaceOf_9 rfl (by decide) sk_22 (by decide) rfl (by decide) ?_
  refine j_aload_n (pc' := 13) dX0_spaceOf_12 rfl rfl ?_
  refine k_getR (pc' := 16) (sl := 0) (r := 3) kc_0 w_262 (Or.inl rfl) (by decide) dX0_spaceOf_13 rfl (by decide) sk_22 (by decide) rfl (by decide) ?_
  refine k_getR (pc' := 19) (sl := 6) (r := 8) kc_6 w_93 (Or.inl rfl) (by decide) dX0_spaceOf_16 rfl (by decide) sk_3 (by decide) rfl (by decide) ?_
  refine j_iload_n (pc' := 20) dX0_spaceOf_19 rfl rfl ?_
  obtain ⟨q2, h⟩ := ck_o h
  refine k_iald (pc' := 21) (z := D 8 x1) dX0_spaceOf_20 rfl (by decide) sk_8 (by decide) q2.1 q2.2 rfl ?_
  refine j_iload_n (pc' := 22) dX0_spaceOf_21 rfl rfl ?_
  obtain ⟨v1, D1, e1, h⟩ := bI_o h
  refine k_cV (d' := 1) (pc' := 25) [mI (D 8 x1), mI x2] [mI (max 0 (x3 - x4))] (c_X6_rightOf (d := 1) (Nat.le_refl _) shop_3 e1) cw_X0_87 kc_6 w_552 w_553 dX0_spaceOf_22 rfl (by omega) rfl rfl (by decide) sk_3 rfl rfl (by decide) (by decide) ?_
  refine j_iadd (pc' := 26) dX0_spaceOf_25 rfl ?_
  refine j_aload_n (pc' := 27) dX0_spaceOf_26 rfl rfl ?_
  refine k_getR (pc' := 30) (sl := 0) (r := 3) kc_0 w_262 (Or.inl rfl) (by decide) dX0_spaceOf_27 rfl (by decide) sk_22 (by decide) rfl (by decide) ?_
  refine j_aload_n (pc' := 31) dX0_spaceOf_30 rfl rfl ?_
  refine k_getR (pc' := 34) (sl := 0) (r := 3) kc_0 w_262 (Or.inl rfl) (by decide) dX0_spaceOf_31 rfl (by decide) sk_22 (by decide) rfl (by decide) ?_
  refine k_getR (pc' := 37) (sl := 6) (r := 8) kc_6 w_93 (Or.inl rfl) (by decide) dX0_spaceOf_34 rfl (by decide) sk_3 (by decide) rfl (by decide) ?_
  refine j_iload_n (pc' := 38) dX0_spaceOf_37 rfl rfl ?_
  refine j_iconst (pc' := 39) dX0_spaceOf_38 rfl ?_
  refine j_iadd (pc' := 40) dX0_spaceOf_39 rfl ?_
  obtain ⟨q3, h⟩ := ck_o h
  refine k_iald (pc' := 41) (z := D1 8 (x1 + 1)) dX0_spaceOf_40 rfl (by decide) sk_8 (by decide) q3.1 q3.2 rfl ?_
  refine j_iload_n (pc' := 42) dX0_spaceOf_41 rfl rfl ?_
  obtain ⟨v2, D2, e2, h⟩ := bI_o h
  refine k_cV (d' := 1) (pc' := 45) [mI (D1 8 (x1 + 1)), mI x2] [mI ((max 0 (x3 - x4)) + v1)] (c_X6_leftOf (d := 1) (Nat.le_refl _) shop_3 e2) cw_X0_90 kc_6 w_556 w_557 dX0_spaceOf_42 rfl (by omega) rfl rfl (by decide) sk_3 rfl rfl (by decide) (by decide) ?_
  refine j_iadd (pc' := 46) dX0_spaceOf_45 rfl ?_
  refine j_istore (pc' := 48) (ls' := [some (mR 22), some (mI x1), some (mI x2), some (mI x3), some (mI x4), some (mI (((max 0 (x3 - x4)) + v1) + v2))]) dX0_spaceOf_46 rfl (by decide) rfl ?_
  refine j_aload_n (pc' := 49) dX0_spaceOf_48 rfl rfl ?_
  refine k_getR (pc' := 52) (sl := 0) (r := 3) kc_0 w_262 (Or.inl rfl) (by decide) dX0_spaceOf_49 rfl (by decide) sk_22 (by decide) rfl (by decide) ?_
  refine k_getI (pc' := 55) (sl := 9) (z := D2 3 9) kc_6 w_107 (by decide) dX0_spaceOf_52 rfl (by decide) sk_3 (by decide) rfl rfl ?_
  refine j_iload (pc' := 57) dX0_spaceOf_55 rfl rfl ?_
  obtain ⟨q4, h⟩ := ck_o h
  obtain ⟨q5, h⟩ := ck_o h
  refine k_min (pc' := 60) cw_X0_96 w_560 dX0_spaceOf_57 rfl (by omega) q4 q5 rfl (by decide) (by decide) ?_
  exact j_iret dX0_spaceOf_60 rfl (by decide) (by decide) (rI_of h)
theorem c_X0_spaceOf {d : Nat} (hd : 6 ≤ d) {x1 x2 x3 x4 : Int} {D D' : mD} {v : Int} (h : F_X0_spaceOf x1 x2 x3 x4 D = some (v, D')) : CM d 0 0 M_X0_spaceOf [mR 22, mI x1, mI x2, mI x3, mI x4] (SK, D, false) (rI v D') := CM.intro pn_X0 rfl rfl (Nat.le_of_ble_eq_true rfl) (fun _ => c_X0_spaceOf_e hd h)
theorem c_X0_leastSpace_L12 {Ω : mO} {d : Nat} (hd : 7 ≤ d) {r : Int × mD} {x1 x2 x3 : Int} : ∀ (n : Nat) {x4 x5 : Int} {D : mD}, F_X0_leastSpace_L12 x1 x2 x3 n x4 x5 D = some r → J Ω M_X0_leastSpace d 0 0 (rI r.1 r.2) 12 [some (mR 22), some (mI x1), some (mI x2), some (mI x3), some (mI x4), some (mI x5)] [] (SK, D, false) 0 0 := by
  intro n
  induction n with
  | zero => intro x4 x5 D h; exact absurd (show (none : Option (Int × mD)) = some r from h) nofun
  | succ n ih =>
    intro x4 x5 D h
    rw [F_X0_leastSpace_L12] at h
    refine j_iload (pc' := 14) dX0_leastSpace_12 rfl rfl ?_
    refine j_iconst (pc' := 15) dX0_leastSpace_14 rfl ?_
    obtain ⟨q1, h⟩ := ck_o h
    refine j_icmp_ge (tgt := 40) (pc' := 18) dX0_leastSpace_15 rfl rfl q1 (by decide) (fun b1 => ?_) (fun b1 => ?_)
    · replace h := ite_t b1 h
      refine j_iload (pc' := 42) dX0_leastSpace_40 rfl rfl ?_
      exact j_iret dX0_leastSpace_42 rfl (by decide) (by decide) (rI_of h)
    · replace h := ite_f b1 h
      refine j_iload (pc' := 20) dX0_leastSpace_18 rfl rfl ?_
      refine j_aload_n (pc' := 21) dX0_leastSpace_20 rfl rfl ?_
      refine j_iload_n (pc' := 22) dX0_leastSpace_21 rfl rfl ?_
      refine j_iload (pc' := 24) dX0_leastSpace_22 rfl rfl ?_
      refine j_iload_n (pc' := 25) dX0_leastSpace_24 rfl rfl ?_
      refine j_iload_n (pc' := 26) dX0_leastSpace_25 rfl rfl ?_
      obtain ⟨v1, D1, e1, h⟩ := bI_o h
      refine k_cV (d' := 6) (pc' := 29) [mI x1, mI x5, mI x2, mI x3] [mI x4] (c_X0_spaceOf (d := 6) (Nat.le_refl _) e1) cw_X0_99 kc_0 w_548 w_549 dX0_leastSpace_26 rfl (by omega) rfl rfl (by decide) sk_22 rfl rfl (by decide) (by decide) ?_
      obtain ⟨q2, h⟩ := ck_o h
      obtain ⟨q3, h⟩ := ck_o h
      refine k_min (pc' := 32) cw_X0_96 w_560 dX0_leastSpace_29 rfl (by omega) q2 q3 rfl (by decide) (by decide) ?_
      refine j_istore (pc' := 34) (ls' := [some (mR 22), some (mI x1), some (mI x2), some (mI x3), some (mI (min x4 v1)), some (mI x5)]) dX0_leastSpace_32 rfl (by decide) rfl ?_
      refine j_iinc (pc' := 37) (z' := (x5 + 1)) (ls' := [some (mR 22), some (mI x1), some (mI x2), some (mI x3), some (mI (min x4 v1)), some (mI (x5 + 1))]) dX0_leastSpace_34 rfl rfl rfl (by decide) rfl ?_
      refine j_goto (tgt := 12) dX0_leastSpace_37 rfl ?_
      exact j_wk (j_widen (ce := 0) (ke := 0) (by decide) (by decide) (ih h)) (And.intro rfl (And.intro rfl (And.intro rfl (And.intro rfl (And.intro rfl (And.intro rfl trivial))))))
theorem c_X0_leastSpace_e {Ω : mO} {d : Nat} (hd : 7 ≤ d) {r : Int × mD} {x1 x2 x3 : Int} {D : mD} (h : F_X0_leastSpace x1 x2 x3 D = some r) : J Ω M_X0_leastSpace d 0 0 (rI r.1 r.2) 0 [some (mR 22), some (mI x1), some (mI x2), some (mI x3), none, none] [] (SK, D, false) 0 0 := by
  rw [F_X0_leastSpace] at h
  refine j_aload_n (pc' := 1) dX0_leastSpace_0 rfl rfl ?_
  refine k_getR (pc' := 4) (sl := 0) (r := 3) kc_0 w_262 (Or.inl rfl) (by decide) dX0_leastSpace_1 rfl (by decide) sk_22 (by decide) rfl (by decide) ?_
  refine k_getI (pc' := 7) (sl := 9) (z := D 3 9) kc_6 w_107 (by decide) dX0_leastSpace_4 rfl (by decide) sk_3 (by decide) rfl rfl ?_
  refine j_istore (pc' := 9) (ls' := [some (mR 22), some (mI x1), some (mI x2), some (mI x3), some (mI (D 3 9)), none]) dX0_leastSpace_7 rfl (by decide) rfl ?_
  refine j_iconst (pc' := 10) dX0_leastSpace_9 rfl ?_
  refine j_istore (pc' := 12) (ls' := [some (mR 22), some (mI x1), some (mI x2), some (mI x3), some (mI (D 3 9)), some (mI 0)]) dX0_leastSpace_10 rfl (by decide) rfl ?_
  exact j_wk (j_widen (ce := 0) (ke := 0) (by decide) (by decide) (c_X0_leastSpace_L12 hd _ h)) (And.intro rfl (And.intro rfl (And.intro rfl (And.intro rfl (And.intro rfl (And.intro rfl trivial))))))
theorem c_X0_leastSpace {d : Nat} (hd : 7 ≤ d) {x1 x2 x3 : Int} {D D' : mD} {v : Int} (h : F_X0_leastSpace x1 x2 x3 D = some (v, D')) : CM d 0 0 M_X0_leastSpace [mR 22, mI x1, mI x2, mI x3] (SK, D, false) (rI v D') := CM.intro pn_X0 rfl rfl (Nat.le_of_ble_eq_true rfl) (fun _ => c_X0_leastSpace_e hd h)
theorem c_X0_noteSort_e {Ω : mO} {d : Nat} (hd : 1 ≤ d) {r : Int × mD} {x1 : Int} {D : mD} (h : F_X0_noteSort x1 D = some r) : J Ω M_X0_noteSort d 0 0 (rV r.2) 0 [some (mR 22), some (mI x1)] [] (SK, D, false) 0 0 := by
  rw [F_X0_noteSort] at h
  refine j_iload_n (pc' := 1) dX0_noteSort_0 rfl rfl ?_
  obtain ⟨q1, h⟩ := ck_o h
  refine j_if_le (tgt := 16) (pc' := 4) dX0_noteSort_1 rfl rfl q1 (fun b1 => ?_) (fun b1 => ?_)
  · replace h := ite_t b1 h
    exact j_vret dX0_noteSort_16 rfl (by decide) (by decide) (rV_of h)
  · replace h := ite_f b1 h
    refine j_aload_n (pc' := 5) dX0_noteSort_4 rfl rfl ?_
    refine k_getR (pc' := 8) (sl := 3) (r := 23) kc_0 w_265 (Or.inl rfl) (by decide) dX0_noteSort_5 rfl (by decide) sk_22 (by decide) rfl (by decide) ?_
    refine j_bipush (pc' := 10) dX0_noteSort_8 rfl rfl ?_
    refine j_iload_n (pc' := 11) dX0_noteSort_10 rfl rfl ?_
    refine j_iadd (pc' := 12) dX0_noteSort_11 rfl ?_
    refine j_iconst (pc' := 13) dX0_noteSort_12 rfl ?_
    refine j_isub (pc' := 14) dX0_noteSort_13 rfl ?_
    refine j_iconst (pc' := 15) dX0_noteSort_14 rfl ?_
    obtain ⟨q2, h⟩ := ck_o h
    refine k_iast (pc' := 16) dX0_noteSort_15 rfl (by decide) sk_23 (by decide) q2.1 q2.2 ?_
    exact j_vret dX0_noteSort_16 rfl (by decide) (by decide) (rV_of h)
theorem c_X0_noteSort {d : Nat} (hd : 1 ≤ d) {x1 : Int} {D D' : mD} {v : Int} (h : F_X0_noteSort x1 D = some (v, D')) : CM d 0 0 M_X0_noteSort [mR 22, mI x1] (SK, D, false) (rV D') := CM.intro pn_X0 rfl rfl (Nat.le_of_ble_eq_true rfl) (fun _ => c_X0_noteSort_e hd h)
theorem c_X0_joinOnStack_e {Ω : mO} {d : Nat} (hd : 1 ≤ d) {r : Int × mD} {x1 x2 : Int} {D : mD} (h : F_X0_joinOnStack x1 x2 D = some r) : J Ω M_X0_joinOnStack d 0 0 (rV r.2) 0 [some (mR 22), some (mI x1), some (mI x2), none, none] [] (SK, D, false) 0 0 := by
  rw [F_X0_joinOnStack] at h
  refine j_aload_n (pc' := 1) dX0_joinOnStack_0 rfl rfl ?_
  refine k_getR (pc' := 4) (sl := 4) (r := 24) kc_0 w_266 (Or.inl rfl) (by decide) dX0_joinOnStack_1 rfl (by decide) sk_22 (by decide) rfl (by decide) ?_
  refine j_iload_n (pc' := 5) dX0_joinOnStack_4 rfl rfl ?_
  obtain ⟨q1, h⟩ := ck_o h
  refine k_iald (pc' := 6) (z := D 24 x2) dX0_joinOnStack_5 rfl (by decide) sk_24 (by decide) q1.1 q1.2 rfl ?_
  refine j_istore_n (pc' := 7) (ls' := [some (mR 22), some (mI x1), some (mI x2), some (mI (D 24 x2)), none]) dX0_joinOnStack_6 rfl (by decide) rfl ?_
  refine j_aload_n (pc' := 8) dX0_joinOnStack_7 rfl rfl ?_
  refine k_getR (pc' := 11) (sl := 4) (r := 24) kc_0 w_266 (Or.inl rfl) (by decide) dX0_joinOnStack_8 rfl (by decide) sk_22 (by decide) rfl (by decide) ?_
  refine j_iload_n (pc' := 12) dX0_joinOnStack_11 rfl rfl ?_
  refine j_iconst (pc' := 13) dX0_joinOnStack_12 rfl ?_
  refine j_iadd (pc' := 14) dX0_joinOnStack_13 rfl ?_
  obtain ⟨q2, h⟩ := ck_o h
  refine k_iald (pc' := 15) (z := D 24 (x2 + 1)) dX0_joinOnStack_14 rfl (by decide) sk_24 (by decide) q2.1 q2.2 rfl ?_
  refine j_istore (pc' := 17) (ls' := [some (mR 22), some (mI x1), some (mI x2), some (mI (D 24 x2)), some (mI (D 24 (x2 + 1)))]) dX0_joinOnStack_15 rfl (by decide) rfl ?_
  refine j_iload_n (pc' := 18) dX0_joinOnStack_17 rfl rfl ?_
  obtain ⟨q3, h⟩ := ck_o h
  by_cases b1 : x1 = 1009
  · replace h := ite_t b1 h
    refine j_tabIn (off := 30) (tgt := 48) dX0_joinOnStack_18 q3 (by rw [b1]; decide) (by rw [b1]; decide) (by rw [b1]; rfl) rfl ?_
    refine j_aload_n (pc' := 49) dX0_joinOnStack_48 rfl rfl ?_
    refine k_getR (pc' := 52) (sl := 4) (r := 24) kc_0 w_266 (Or.inl rfl) (by decide) dX0_joinOnStack_49 rfl (by decide) sk_22 (by decide) rfl (by decide) ?_
    refine j_iload_n (pc' := 53) dX0_joinOnStack_52 rfl rfl ?_
    refine j_iload_n (pc' := 54) dX0_joinOnStack_53 rfl rfl ?_
    refine j_iload (pc' := 56) dX0_joinOnStack_54 rfl rfl ?_
    refine j_iadd (pc' := 57) dX0_joinOnStack_56 rfl ?_
    refine k_iast (pc' := 58) dX0_joinOnStack_57 rfl (by decide) sk_24 (by decide) q1.1 q1.2 ?_
    refine j_goto (tgt := 124) dX0_joinOnStack_58 rfl ?_
    exact j_vret dX0_joinOnStack_124 rfl (by decide) (by decide) (rV_of h)
  replace h := ite_f b1 h
  by_cases b2 : x1 = 1010
  · replace h := ite_t b2 h
    refine j_tabIn (off := 43) (tgt := 61) dX0_joinOnStack_18 q3 (by rw [b2]; decide) (by rw [b2]; decide) (by rw [b2]; rfl) rfl ?_
    refine j_aload_n (pc' := 62) dX0_joinOnStack_61 rfl rfl ?_
    refine k_getR (pc' := 65) (sl := 4) (r := 24) kc_0 w_266 (Or.inl rfl) (by decide) dX0_joinOnStack_62 rfl (by decide) sk_22 (by decide) rfl (by decide) ?_
    refine j_iload_n (pc' := 66) dX0_joinOnStack_65 rfl rfl ?_
    refine j_iload_n (pc' := 67) dX0_joinOnStack_66 rfl rfl ?_
    refine j_iload (pc' := 69) dX0_joinOnStack_67 rfl rfl ?_
    obtain ⟨q4, h⟩ := ck_o h
    obtain ⟨q5, h⟩ := ck_o h
    have hj : J Ω M_X0_joinOnStack d 0 0 (rV r.2) 77 [none, none, none, none, none] [mI (if (D 24 (x2 + 1)) ≤ (D 24 x2) then (0 : Int) else (1 : Int)), mI x2, mR 24] (SK, D, false) 0 0 := by
      refine k_iast (pc' := 78) dX0_joinOnStack_77 rfl (by decide) sk_24 (by decide) q1.1 q1.2 ?_
      refine j_goto (tgt := 124) dX0_joinOnStack_78 rfl ?_
      exact j_vret dX0_joinOnStack_124 rfl (by decide) (by decide) (rV_of h)
    refine j_icmp_ge (tgt := 76) (pc' := 72) dX0_joinOnStack_69 rfl rfl q4 q5 (fun b3 => ?_) (fun b3 => ?_)
    · refine j_iconst (pc' := 77) dX0_joinOnStack_76 rfl ?_
      have hj := hj
      try simp only [if_pos b3] at hj
      exact j_wk hj (trivial)
    · refine j_iconst (pc' := 73) dX0_joinOnStack_72 rfl ?_
      refine j_goto (tgt := 77) dX0_joinOnStack_73 rfl ?_
      have hj := hj
      try simp only [if_neg b3] at hj
      exact j_wk hj (trivial)
  replace h := ite_f b2 h
  by_cases b4 : x1 = 1011
  · replace h := ite_t b4 h
    refine j_tabIn (off := 63) (tgt := 81) dX0_joinOnStack_18 q3 (by rw [b4]; decide) (by rw [b4]; decide) (by rw [b4]; rfl) rfl ?_
    refine j_aload_n (pc' := 82) dX0_joinOnStack_81 rfl rfl ?_
    refine k_getR (pc' := 85) (sl := 4) (r := 24) kc_0 w_266 (Or.inl rfl) (by decide) dX0_joinOnStack_82 rfl (by decide) sk_22 (by decide) rfl (by decide) ?_
    refine j_iload_n (pc' := 86) dX0_joinOnStack_85 rfl rfl ?_
    refine j_iload_n (pc' := 87) dX0_joinOnStack_86 rfl rfl ?_
    refine j_iload (pc' := 89) dX0_joinOnStack_87 rfl rfl ?_
    obtain ⟨q6, h⟩ := ck_o h
    obtain ⟨q7, h⟩ := ck_o h
    have hj : J Ω M_X0_joinOnStack d 0 0 (rV r.2) 97 [none, none, none, none, none] [mI (if (D 24 x2) ≤ (D 24 (x2 + 1)) then (0 : Int) else (1 : Int)), mI x2, mR 24] (SK, D, false) 0 0 := by
      refine k_iast (pc' := 98) dX0_joinOnStack_97 rfl (by decide) sk_24 (by decide) q1.1 q1.2 ?_
      refine j_goto (tgt := 124) dX0_joinOnStack_98 rfl ?_
      exact j_vret dX0_joinOnStack_124 rfl (by decide) (by decide) (rV_of h)
    refine j_icmp_le (tgt := 96) (pc' := 92) dX0_joinOnStack_89 rfl rfl q6 q7 (fun b5 => ?_) (fun b5 => ?_)
    · refine j_iconst (pc' := 97) dX0_joinOnStack_96 rfl ?_
      have hj := hj
      try simp only [if_pos b5] at hj
      exact j_wk hj (trivial)
    · refine j_iconst (pc' := 93) dX0_joinOnStack_92 rfl ?_
      refine j_goto (tgt := 97) dX0_joinOnStack_93 rfl ?_
      have hj := hj
      try simp only [if_neg b5] at hj
      exact j_wk hj (trivial)
  replace h := ite_f b4 h
  by_cases b6 : x1 = 1012
  · replace h := ite_t b6 h
    refine j_tabIn (off := 83) (tgt := 101) dX0_joinOnStack_18 q3 (by rw [b6]; decide) (by rw [b6]; decide) (by rw [b6]; rfl) rfl ?_
    refine j_aload_n (pc' := 102) dX0_joinOnStack_101 rfl rfl ?_
    refine k_getR (pc' := 105) (sl := 4) (r := 24) kc_0 w_266 (Or.inl rfl) (by decide) dX0_joinOnStack_102 rfl (by decide) sk_22 (by decide) rfl (by decide) ?_
    refine j_iload_n (pc' := 106) dX0_joinOnStack_105 rfl rfl ?_
    refine j_iload_n (pc' := 107) dX0_joinOnStack_106 rfl rfl ?_
    refine j_iload (pc' := 109) dX0_joinOnStack_107 rfl rfl ?_
    refine j_iand (pc' := 110) dX0_joinOnStack_109 rfl ?_
    refine k_iast (pc' := 111) dX0_joinOnStack_110 rfl (by decide) sk_24 (by decide) q1.1 q1.2 ?_
    refine j_goto (tgt := 124) dX0_joinOnStack_111 rfl ?_
    exact j_vret dX0_joinOnStack_124 rfl (by decide) (by decide) (rV_of h)
  replace h := ite_f b6 h
  refine j_tabOut (tgt := 114) dX0_joinOnStack_18 q3 (by omega) rfl ?_
  refine j_aload_n (pc' := 115) dX0_joinOnStack_114 rfl rfl ?_
  refine k_getR (pc' := 118) (sl := 4) (r := 24) kc_0 w_266 (Or.inl rfl) (by decide) dX0_joinOnStack_115 rfl (by decide) sk_22 (by decide) rfl (by decide) ?_
  refine j_iload_n (pc' := 119) dX0_joinOnStack_118 rfl rfl ?_
  refine j_iload_n (pc' := 120) dX0_joinOnStack_119 rfl rfl ?_
  refine j_iload (pc' := 122) dX0_joinOnStack_120 rfl rfl ?_
  refine j_ior (pc' := 123) dX0_joinOnStack_122 rfl ?_
  refine k_iast (pc' := 124) dX0_joinOnStack_123 rfl (by decide) sk_24 (by decide) q1.1 q1.2 ?_
  exact j_vret dX0_joinOnStack_124 rfl (by decide) (by decide) (rV_of h)
theorem c_X0_joinOnStack {d : Nat} (hd : 1 ≤ d) {x1 x2 : Int} {D D' : mD} {v : Int} (h : F_X0_joinOnStack x1 x2 D = some (v, D')) : CM d 0 0 M_X0_joinOnStack [mR 22, mI x1, mI x2] (SK, D, false) (rV D') := CM.intro pn_X0 rfl rfl (Nat.le_of_ble_eq_true rfl) (fun _ => c_X0_joinOnStack_e hd h)
theorem c_X0_holds_L5 {Ω : mO} {d : Nat} (hd : 2 ≤ d) {r : Int × mD} {x1 x2 : Int} : ∀ (n : Nat) {x3 x4 : Int} {D : mD}, F_X0_holds_L5 x1 x2 n x3 x4 D = some r → J Ω M_X0_holds d 0 0 (rI r.1 r.2) 5 [some (mR 22), some (mI x1), some (mI x2), some (mI x3), some (mI x4), none] [] (SK, D, false) 0 0 := by
  intro n
  induction n with
  | zero => intro x3 x4 D h; exact absurd (show (none : Option (Int × mD)) = some r from h) nofun
  | succ n ih =>
    intro x3 x4 D h
    rw [F_X0_holds_L5] at h
    refine j_iload (pc' := 7) dX0_holds_5 rfl rfl ?_
    refine j_iload_n (pc' := 8) dX0_holds_7 rfl rfl ?_
    obtain ⟨q1, h⟩ := ck_o h
    obtain ⟨q2, h⟩ := ck_o h
    refine j_icmp_ge (tgt := 129) (pc' := 11) dX0_holds_8 rfl rfl q1 q2 (fun b1 => ?_) (fun b1 => ?_)
    · replace h := ite_t b1 h
      refine j_iload_n (pc' := 130) dX0_holds_129 rfl rfl ?_
      refine j_iload_n (pc' := 131) dX0_holds_130 rfl rfl ?_
      obtain ⟨q3, h⟩ := ck_o h
      obtain ⟨q4, h⟩ := ck_o h
      have hj : J Ω M_X0_holds d 0 0 (rI r.1 r.2) 148 [none, none, none, none, none, none] [mI (if x2 ≤ x1 then (1 : Int) else (if (D 24 0) = 0 then (0 : Int) else (1 : Int)))] (SK, D, false) 0 0 := by
        obtain ⟨q5, h⟩ := ck_o h
        exact j_zret dX0_holds_148 rfl q5 (by decide) (by decide) (rI_of h)
      refine j_icmp_ge (tgt := 143) (pc' := 134) dX0_holds_131 rfl rfl q3 q2 (fun b2 => ?_) (fun b2 => ?_)
      · refine j_iconst (pc' := 144) dX0_holds_143 rfl ?_
        refine j_goto (tgt := 148) dX0_holds_144 rfl ?_
        have hj := hj
        try simp only [if_pos b2] at hj
        exact j_wk hj (trivial)
      · refine j_aload_n (pc' := 135) dX0_holds_134 rfl rfl ?_
        refine k_getR (pc' := 138) (sl := 4) (r := 24) kc_0 w_266 (Or.inl rfl) (by decide) dX0_holds_135 rfl (by decide) sk_22 (by decide) rfl (by decide) ?_
        refine j_iconst (pc' := 139) dX0_holds_138 rfl ?_
        refine k_iald (pc' := 140) (z := D 24 0) dX0_holds_139 rfl (by decide) sk_24 (by decide) (by decide) (by decide) rfl ?_
        refine j_if_eq (tgt := 147) (pc' := 143) dX0_holds_140 rfl rfl (q4 b2) (fun b3 => ?_) (fun b3 => ?_)
        · refine j_iconst (pc' := 148) dX0_holds_147 rfl ?_
          have hj := hj
          try simp only [if_neg b2, if_pos b3] at hj
          exact j_wk hj (trivial)
        · refine j_iconst (pc' := 144) dX0_holds_143 rfl ?_
          refine j_goto (tgt := 148) dX0_holds_144 rfl ?_
          have hj := hj
          try simp only [if_neg b2, if_neg b3] at hj
          exact j_wk hj (trivial)
    · replace h := ite_f b1 h
      refine j_aload_n (pc' := 12) dX0_holds_11 rfl rfl ?_
      refine k_getR (pc' := 15) (sl := 1) (r := 12) kc_0 w_263 (Or.inl rfl) (by decide) dX0_holds_12 rfl (by decide) sk_22 (by decide) rfl (by decide) ?_
      refine k_getR (pc' := 18) (sl := 4) (r := 16) kc_2 w_181 (Or.inl rfl) (by decide) dX0_holds_15 rfl (by decide) sk_12 (by decide) rfl (by decide) ?_
      refine j_iload (pc' := 20) dX0_holds_18 rfl rfl ?_
      obtain ⟨q6, h⟩ := ck_o h
      refine k_iald (pc' := 21) (z := D 16 x4) dX0_holds_20 rfl (by decide) sk_16 (by decide) q6.1 q6.2 rfl ?_
      refine j_istore (pc' := 23) (ls' := [some (mR 22), some (mI x1), some (mI x2), some (mI x3), some (mI x4), some (mI (D 16 x4))]) dX0_holds_21 rfl (by decide) rfl ?_
      refine j_iload (pc' := 25) dX0_holds_23 rfl rfl ?_
      refine j_sipush (pc' := 28) dX0_holds_25 rfl rfl ?_
      obtain ⟨q7, h⟩ := ck_o h
      refine j_icmp_ge (tgt := 73) (pc' := 31) dX0_holds_28 rfl rfl q7 (by decide) (fun b4 => ?_) (fun b4 => ?_)
      · replace h := ite_t b4 h
        refine j_iload (pc' := 75) dX0_holds_73 rfl rfl ?_
        refine j_sipush (pc' := 78) dX0_holds_75 rfl rfl ?_
        refine j_icmp_ne (tgt := 106) (pc' := 81) dX0_holds_78 rfl rfl q7 (by decide) (fun b5 => ?_) (fun b5 => ?_)
        · replace h := ite_f b5 h
          refine j_iload_n (pc' := 107) dX0_holds_106 rfl rfl ?_
          refine j_iconst (pc' := 108) dX0_holds_107 rfl ?_
          obtain ⟨q8, h⟩ := ck_o h
          refine j_icmp_le (tgt := 123) (pc' := 111) dX0_holds_108 rfl rfl q8 (by decide) (fun b6 => ?_) (fun b6 => ?_)
          · replace h := ite_t b6 h
            refine j_iinc (pc' := 126) (z' := (x4 + 1)) (ls' := [some (mR 22), some (mI x1), some (mI x2), some (mI x3), some (mI (x4 + 1)), some (mI (D 16 x4))]) dX0_holds_123 rfl rfl rfl (by decide) rfl ?_
            refine j_goto (tgt := 5) dX0_holds_126 rfl ?_
            exact j_wk (j_widen (ce := 0) (ke := 0) (by decide) (by decide) (ih h)) (And.intro rfl (And.intro rfl (And.intro rfl (And.intro rfl (And.intro rfl trivial)))))
          · replace h := ite_f b6 h
            refine j_iinc (pc' := 114) (z' := (x3 - 1)) (ls' := [some (mR 22), some (mI x1), some (mI x2), some (mI (x3 - 1)), some (mI x4), some (mI (D 16 x4))]) dX0_holds_111 rfl rfl (by omega) (by decide) rfl ?_
            refine j_aload_n (pc' := 115) dX0_holds_114 rfl rfl ?_
            refine j_iload (pc' := 117) dX0_holds_115 rfl rfl ?_
            refine j_iload_n (pc' := 118) dX0_holds_117 rfl rfl ?_
            refine j_iconst (pc' := 119) dX0_holds_118 rfl ?_
            refine j_isub (pc' := 120) dX0_holds_119 rfl ?_
            obtain ⟨v1, D1, e1, h⟩ := bI_o h
            refine k_cVv (d' := 1) (pc' := 123) [mI (D 16 x4), mI ((x3 - 1) - 1)] [] (c_X0_joinOnStack (d := 1) (Nat.le_refl _) e1) cw_X0_139 kc_0 w_584 ws_4 dX0_holds_120 rfl (by omega) rfl rfl (by decide) sk_22 rfl rfl (by decide) (by decide) ?_
            refine j_iinc (pc' := 126) (z' := (x4 + 1)) (ls' := [some (mR 22), some (mI x1), some (mI x2), some (mI (x3 - 1)), some (mI (x4 + 1)), some (mI (D 16 x4))]) dX0_holds_123 rfl rfl rfl (by decide) rfl ?_
            refine j_goto (tgt := 5) dX0_holds_126 rfl ?_
            exact j_wk (j_widen (ce := 0) (ke := 0) (by decide) (by decide) (ih h)) (And.intro rfl (And.intro rfl (And.intro rfl (And.intro rfl (And.intro rfl trivial)))))
        · replace h := ite_t b5 h
          refine j_iload_n (pc' := 82) dX0_holds_81 rfl rfl ?_
          obtain ⟨q9, h⟩ := ck_o h
          refine j_if_le (tgt := 123) (pc' := 85) dX0_holds_82 rfl rfl q9 (fun b7 => ?_) (fun b7 => ?_)
          · replace h := ite_t b7 h
            refine j_iinc (pc' := 126) (z' := (x4 + 1)) (ls' := [some (mR 22), some (mI x1), some (mI x2), some (mI x3), some (mI (x4 + 1)), some (mI (D 16 x4))]) dX0_holds_123 rfl rfl rfl (by decide) rfl ?_
            refine j_goto (tgt := 5) dX0_holds_126 rfl ?_
            exact j_wk (j_widen (ce := 0) (ke := 0) (by decide) (by decide) (ih h)) (And.intro rfl (And.intro rfl (And.intro rfl (And.intro rfl (And.intro rfl trivial)))))
          · replace h := ite_f b7 h
            refine j_aload_n (pc' := 86) dX0_holds_85 rfl rfl ?_
            refine k_getR (pc' := 89) (sl := 4) (r := 24) kc_0 w_266 (Or.inl rfl) (by decide) dX0_holds_86 rfl (by decide) sk_22 (by decide) rfl (by decide) ?_
            refine j_iload_n (pc' := 90) dX0_holds_89 rfl rfl ?_
            refine j_iconst (pc' := 91) dX0_holds_90 rfl ?_
            refine j_isub (pc' := 92) dX0_holds_91 rfl ?_
            refine j_iconst (pc' := 93) dX0_holds_92 rfl ?_
            refine j_aload_n (pc' := 94) dX0_holds_93 rfl rfl ?_
            refine k_getR (pc' := 97) (sl := 4) (r := 24) kc_0 w_266 (Or.inl rfl) (by decide) dX0_holds_94 rfl (by decide) sk_22 (by decide) rfl (by decide) ?_
            refine j_iload_n (pc' := 98) dX0_holds_97 rfl rfl ?_
            refine j_iconst (pc' := 99) dX0_holds_98 rfl ?_
            refine j_isub (pc' := 100) dX0_holds_99 rfl ?_
            obtain ⟨q10, h⟩ := ck_o h
            refine k_iald (pc' := 101) (z := D 24 (x3 - 1)) dX0_holds_100 rfl (by decide) sk_24 (by decide) q10.1 q10.2 rfl ?_
            refine j_isub (pc' := 102) dX0_holds_101 rfl ?_
            refine k_iast (pc' := 103) dX0_holds_102 rfl (by decide) sk_24 (by decide) q10.1 q10.2 ?_
            refine j_goto (tgt := 123) dX0_holds_103 rfl ?_
            refine j_iinc (pc' := 126) (z' := (x4 + 1)) (ls' := [some (mR 22), some (mI x1), some (mI x2), some (mI x3), some (mI (x4 + 1)), some (mI (D 16 x4))]) dX0_holds_123 rfl rfl rfl (by decide) rfl ?_
            refine j_goto (tgt := 5) dX0_holds_126 rfl ?_
            exact j_wk (j_widen (ce := 0) (ke := 0) (by decide) (by decide) (ih h)) (And.intro rfl (And.intro rfl (And.intro rfl (And.intro rfl (And.intro rfl trivial)))))
      · replace h := ite_f b4 h
        refine j_iload_n (pc' := 32) dX0_holds_31 rfl rfl ?_
        refine j_bipush (pc' := 34) dX0_holds_32 rfl rfl ?_
        obtain ⟨q11, h⟩ := ck_o h
        refine j_icmp_ge (tgt := 123) (pc' := 37) dX0_holds_34 rfl rfl q11 (by decide) (fun b8 => ?_) (fun b8 => ?_)
        · replace h := ite_t b8 h
          refine j_iinc (pc' := 126) (z' := (x4 + 1)) (ls' := [some (mR 22), some (mI x1), some (mI x2), some (mI x3), some (mI (x4 + 1)), some (mI (D 16 x4))]) dX0_holds_123 rfl rfl rfl (by decide) rfl ?_
          refine j_goto (tgt := 5) dX0_holds_126 rfl ?_
          exact j_wk (j_widen (ce := 0) (ke := 0) (by decide) (by decide) (ih h)) (And.intro rfl (And.intro rfl (And.intro rfl (And.intro rfl (And.intro rfl trivial)))))
        · replace h := ite_f b8 h
          refine j_aload_n (pc' := 38) dX0_holds_37 rfl rfl ?_
          refine k_getR (pc' := 41) (sl := 4) (r := 24) kc_0 w_266 (Or.inl rfl) (by decide) dX0_holds_38 rfl (by decide) sk_22 (by decide) rfl (by decide) ?_
          refine j_iload_n (pc' := 42) dX0_holds_41 rfl rfl ?_
          refine j_iload (pc' := 44) dX0_holds_42 rfl rfl ?_
          refine j_sipush (pc' := 47) dX0_holds_44 rfl rfl ?_
          obtain ⟨q12, h⟩ := ck_o h
          have hj : J Ω M_X0_holds d 0 0 (rI r.1 r.2) 66 [some (mR 22), some (mI x1), some (mI x2), some (mI x3), some (mI x4), none] [mI (if 1000 ≤ (D 16 x4) then (D 23 ((D 16 x4) - 1000)) else (D 16 x4)), mI x3, mR 24] (SK, D, false) 0 0 := by
            obtain ⟨q13, h⟩ := ck_o h
            refine k_iast (pc' := 67) dX0_holds_66 rfl (by decide) sk_24 (by decide) q13.1 q13.2 ?_
            refine j_iinc (pc' := 70) (z' := (x3 + 1)) (ls' := [some (mR 22), some (mI x1), some (mI x2), some (mI (x3 + 1)), some (mI x4), none]) dX0_holds_67 rfl rfl rfl (by decide) rfl ?_
            refine j_goto (tgt := 123) dX0_holds_70 rfl ?_
            refine j_iinc (pc' := 126) (z' := (x4 + 1)) (ls' := [some (mR 22), some (mI x1), some (mI x2), some (mI (x3 + 1)), some (mI (x4 + 1)), none]) dX0_holds_123 rfl rfl rfl (by decide) rfl ?_
            refine j_goto (tgt := 5) dX0_holds_126 rfl ?_
            exact j_wk (j_widen (ce := 0) (ke := 0) (by decide) (by decide) (ih h)) (And.intro rfl (And.intro rfl (And.intro rfl (And.intro rfl (And.intro rfl trivial)))))
          refine j_icmp_ge (tgt := 55) (pc' := 50) dX0_holds_47 rfl rfl q7 (by decide) (fun b9 => ?_) (fun b9 => ?_)
          · refine j_aload_n (pc' := 56) dX0_holds_55 rfl rfl ?_
            refine k_getR (pc' := 59) (sl := 3) (r := 23) kc_0 w_265 (Or.inl rfl) (by decide) dX0_holds_56 rfl (by decide) sk_22 (by decide) rfl (by decide) ?_
            refine j_iload (pc' := 61) dX0_holds_59 rfl rfl ?_
            refine j_sipush (pc' := 64) dX0_holds_61 rfl rfl ?_
            refine j_isub (pc' := 65) dX0_holds_64 rfl ?_
            refine k_iald (pc' := 66) (z := D 23 ((D 16 x4) - 1000)) dX0_holds_65 rfl (by decide) sk_23 (by decide) (q12 b9).1 (q12 b9).2 rfl ?_
            have hj := hj
            try simp only [if_pos b9] at hj
            exact j_wk hj (And.intro rfl (And.intro rfl (And.intro rfl (And.intro rfl (And.intro rfl trivial)))))
          · refine j_iload (pc' := 52) dX0_holds_50 rfl rfl ?_
            refine j_goto (tgt := 66) dX0_holds_52 rfl ?_
            have hj := hj
            try simp only [if_neg b9] at hj
            exact j_wk hj (And.intro rfl (And.intro rfl (And.intro rfl (And.intro rfl (And.intro rfl trivial)))))
theorem c_X0_holds_e {Ω : mO} {d : Nat} (hd : 2 ≤ d) {r : Int × mD} {x1 x2 : Int} {D : mD} (h : F_X0_holds x1 x2 D = some r) : J Ω M_X0_holds d 0 0 (rI r.1 r.2) 0 [some (mR 22), some (mI x1), some (mI x2), none, none, none] [] (SK, D, false) 0 0 := by
  rw [F_X0_holds] at h
  refine j_iconst (pc' := 1) dX0_holds_0 rfl ?_
  refine j_istore_n (pc' := 2) (ls' := [some (mR 22), some (mI x1), some (mI x2), some (mI 0), none, none]) dX0_holds_1 rfl (by decide) rfl ?_
  refine j_iload_n (pc' := 3) dX0_holds_2 rfl rfl ?_
  refine j_istore (pc' := 5) (ls' := [some (mR 22), some (mI x1), some (mI x2), some (mI 0), some (mI x1), none]) dX0_holds_3 rfl (by decide) rfl ?_
  exact j_wk (j_widen (ce := 0) (ke := 0) (by decide) (by decide) (c_X0_holds_L5 hd _ h)) (And.intro rfl (And.intro rfl (And.intro rfl (And.intro rfl (And.intro rfl trivial)))))
theorem c_X0_holds {d : Nat} (hd : 2 ≤ d) {x1 x2 : Int} {D D' : mD} {v : Int} (h : F_X0_holds x1 x2 D = some (v, D')) : CM d 0 0 M_X0_holds [mR 22, mI x1, mI x2] (SK, D, false) (rI v D') := CM.intro pn_X0 rfl rfl (Nat.le_of_ble_eq_true rfl) (fun _ => c_X0_holds_e hd h)
theorem c_X2_codeBegin_e {Ω : mO} {d : Nat} (hd : 1 ≤ d) {t0 : Nat} (hT0 : IsLaw t0) {r : Int × mD} {x1 : Int} {D : mD} (h : F_X2_codeBegin t0 x1 D = some r) : J Ω M_X2_codeBegin d 0 0 (rI r.1 r.2) 0 [some (mR t0), some (mI x1)] [] (SK, D, false) 0 0 := by
  rw [F_X2_codeBegin] at h
  refine j_iload_n (pc' := 1) dX2_codeBegin_0 rfl rfl ?_
  obtain ⟨q1, h⟩ := ck_o h
  obtain ⟨q2, h⟩ := ck_o h
  have hj : J Ω M_X2_codeBegin d 0 0 (rI r.1 r.2) 16 [none, none] [mI (if x1 ≤ 0 then (0 : Int) else (D (t0 + 3) (x1 - 1)))] (SK, D, false) 0 0 := by
    exact j_iret dX2_codeBegin_16 rfl (by decide) (by decide) (rI_of h)
  refine j_if_le (tgt := 15) (pc' := 4) dX2_codeBegin_1 rfl rfl q1 (fun b1 => ?_) (fun b1 => ?_)
  · refine j_iconst (pc' := 16) dX2_codeBegin_15 rfl ?_
    have hj := hj
    try simp only [if_pos b1] at hj
    exact j_wk hj (trivial)
  · refine j_aload_n (pc' := 5) dX2_codeBegin_4 rfl rfl ?_
    refine k_getR (pc' := 8) (sl := 3) (r := (t0 + 3)) kc_2 w_178 (Or.inl rfl) (by decide) dX2_codeBegin_5 rfl (law_lt hT0) (lawA_0 hT0) (by decide) rfl (lawL_3 hT0) ?_
    refine j_iload_n (pc' := 9) dX2_codeBegin_8 rfl rfl ?_
    refine j_iconst (pc' := 10) dX2_codeBegin_9 rfl ?_
    refine j_isub (pc' := 11) dX2_codeBegin_10 rfl ?_
    refine k_iald (pc' := 12) (z := D (t0 + 3) (x1 - 1)) dX2_codeBegin_11 rfl (lawL_3 hT0) (lawA_3 hT0) (by decide) (q2 b1).1 (q2 b1).2 rfl ?_
    refine j_goto (tgt := 16) dX2_codeBegin_12 rfl ?_
    have hj := hj
    try simp only [if_neg b1] at hj
    exact j_wk hj (trivial)
theorem c_X2_codeBegin {d : Nat} (hd : 1 ≤ d) {t0 : Nat} (hT0 : IsLaw t0) {x1 : Int} {D D' : mD} {v : Int} (h : F_X2_codeBegin t0 x1 D = some (v, D')) : CM d 0 0 M_X2_codeBegin [mR t0, mI x1] (SK, D, false) (rI v D') := CM.intro pn_X2 rfl rfl (Nat.le_of_ble_eq_true rfl) (fun _ => c_X2_codeBegin_e hd hT0 h)
theorem c_X0_sumOfLines_L4 {Ω : mO} {d : Nat} (hd : 3 ≤ d) {r : Int × mD} {x1 : Int} : ∀ (n : Nat) {x2 x3 : Int} {D : mD}, F_X0_sumOfLines_L4 x1 n x2 x3 D = some r → J Ω M_X0_sumOfLines d 0 0 (rI r.1 r.2) 4 [some (mR 22), some (mI x1), some (mI x2), some (mI x3)] [] (SK, D, false) 0 0 := by
  intro n
  induction n with
  | zero => intro x2 x3 D h; exact absurd (show (none : Option (Int × mD)) = some r from h) nofun
  | succ n ih =>
    intro x2 x3 D h
    rw [F_X0_sumOfLines_L4] at h
    refine j_iload_n (pc' := 5) dX0_sumOfLines_4 rfl rfl ?_
    refine j_aload_n (pc' := 6) dX0_sumOfLines_5 rfl rfl ?_
    refine k_getR (pc' := 9) (sl := 1) (r := 12) kc_0 w_263 (Or.inl rfl) (by decide) dX0_sumOfLines_6 rfl (by decide) sk_22 (by decide) rfl (by decide) ?_
    refine k_getI (pc' := 12) (sl := 0) (z := D 12 0) kc_2 w_173 (by decide) dX0_sumOfLines_9 rfl (by decide) sk_12 (by decide) rfl rfl ?_
    obtain ⟨q1, h⟩ := ck_o h
    obtain ⟨q2, h⟩ := ck_o h
    refine j_icmp_ge (tgt := 70) (pc' := 15) dX0_sumOfLines_12 rfl rfl q1 q2 (fun b1 => ?_) (fun b1 => ?_)
    · replace h := ite_t b1 h
      refine j_iload_n (pc' := 71) dX0_sumOfLines_70 rfl rfl ?_
      exact j_iret dX0_sumOfLines_71 rfl (by decide) (by decide) (rI_of h)
    · replace h := ite_f b1 h
      refine j_aload_n (pc' := 16) dX0_sumOfLines_15 rfl rfl ?_
      refine k_getR (pc' := 19) (sl := 1) (r := 12) kc_0 w_263 (Or.inl rfl) (by decide) dX0_sumOfLines_16 rfl (by decide) sk_22 (by decide) rfl (by decide) ?_
      refine k_getR (pc' := 22) (sl := 1) (r := 13) kc_2 w_175 (Or.inl rfl) (by decide) dX0_sumOfLines_19 rfl (by decide) sk_12 (by decide) rfl (by decide) ?_
      refine j_iload_n (pc' := 23) dX0_sumOfLines_22 rfl rfl ?_
      obtain ⟨q3, h⟩ := ck_o h
      refine k_iald (pc' := 24) (z := D 13 x3) dX0_sumOfLines_23 rfl (by decide) sk_13 (by decide) q3.1 q3.2 rfl ?_
      refine j_iload_n (pc' := 25) dX0_sumOfLines_24 rfl rfl ?_
      obtain ⟨q4, h⟩ := ck_o h
      obtain ⟨q5, h⟩ := ck_o h
      refine j_icmp_ne (tgt := 64) (pc' := 28) dX0_sumOfLines_25 rfl rfl q4 q5 (fun b2 => ?_) (fun b2 => ?_)
      · replace h := ite_f b2 h
        refine j_iinc (pc' := 67) (z' := (x3 + 1)) (ls' := [some (mR 22), some (mI x1), some (mI x2), some (mI (x3 + 1))]) dX0_sumOfLines_64 rfl rfl rfl (by decide) rfl ?_
        refine j_goto (tgt := 4) dX0_sumOfLines_67 rfl ?_
        exact j_wk (j_widen (ce := 0) (ke := 0) (by decide) (by decide) (ih h)) (And.intro rfl (And.intro rfl (And.intro rfl (And.intro rfl trivial))))
      · replace h := ite_t b2 h
        refine j_aload_n (pc' := 29) dX0_sumOfLines_28 rfl rfl ?_
        refine j_aload_n (pc' := 30) dX0_sumOfLines_29 rfl rfl ?_
        refine k_getR (pc' := 33) (sl := 1) (r := 12) kc_0 w_263 (Or.inl rfl) (by decide) dX0_sumOfLines_30 rfl (by decide) sk_22 (by decide) rfl (by decide) ?_
        refine j_iload_n (pc' := 34) dX0_sumOfLines_33 rfl rfl ?_
        obtain ⟨v1, D1, e1, h⟩ := bI_o h
        refine k_cV (d' := 1) (pc' := 37) [mI x3] [mR 22] (c_X2_codeBegin (d := 1) (Nat.le_refl _) law_12 e1) cw_X0_123 kc_2 w_575 w_576 dX0_sumOfLines_34 rfl (by omega) rfl rfl (by decide) sk_12 rfl rfl (by decide) (by decide) ?_
        refine j_aload_n (pc' := 38) dX0_sumOfLines_37 rfl rfl ?_
        refine k_getR (pc' := 41) (sl := 1) (r := 12) kc_0 w_263 (Or.inl rfl) (by decide) dX0_sumOfLines_38 rfl (by decide) sk_22 (by decide) rfl (by decide) ?_
        refine k_getR (pc' := 44) (sl := 3) (r := 15) kc_2 w_179 (Or.inl rfl) (by decide) dX0_sumOfLines_41 rfl (by decide) sk_12 (by decide) rfl (by decide) ?_
        refine j_iload_n (pc' := 45) dX0_sumOfLines_44 rfl rfl ?_
        refine k_iald (pc' := 46) (z := D1 15 x3) dX0_sumOfLines_45 rfl (by decide) sk_15 (by decide) q3.1 q3.2 rfl ?_
        obtain ⟨v2, D2, e2, h⟩ := bI_o h
        refine k_cV (d' := 2) (pc' := 49) [mI v1, mI (D1 15 x3)] [] (c_X0_holds (d := 2) (Nat.le_refl _) e2) cw_X0_129 kc_0 w_580 ws_3 dX0_sumOfLines_46 rfl (by omega) rfl rfl (by decide) sk_22 rfl rfl (by decide) (by decide) ?_
        obtain ⟨q6, h⟩ := ck_o h
        have hj : J Ω M_X0_sumOfLines d 0 0 (rI r.1 r.2) 64 [some (mR 22), some (mI x1), some (mI (if v2 = 0 then x2 else (x2 + (D2 14 x3)))), some (mI x3)] [] (SK, D2, false) 0 0 := by
          refine j_iinc (pc' := 67) (z' := (x3 + 1)) (ls' := [some (mR 22), some (mI x1), some (mI (if v2 = 0 then x2 else (x2 + (D2 14 x3)))), some (mI (x3 + 1))]) dX0_sumOfLines_64 rfl rfl rfl (by decide) rfl ?_
          refine j_goto (tgt := 4) dX0_sumOfLines_67 rfl ?_
          exact j_wk (j_widen (ce := 0) (ke := 0) (by decide) (by decide) (ih h)) (And.intro rfl (And.intro rfl (And.intro rfl (And.intro rfl trivial))))
        refine j_if_eq (tgt := 64) (pc' := 52) dX0_sumOfLines_49 rfl rfl q6 (fun b3 => ?_) (fun b3 => ?_)
        · have hj := hj
          try simp only [if_pos b3] at hj
          exact j_wk hj (And.intro rfl (And.intro rfl (And.intro rfl (And.intro rfl trivial))))
        · refine j_iload_n (pc' := 53) dX0_sumOfLines_52 rfl rfl ?_
          refine j_aload_n (pc' := 54) dX0_sumOfLines_53 rfl rfl ?_
          refine k_getR (pc' := 57) (sl := 1) (r := 12) kc_0 w_263 (Or.inl rfl) (by decide) dX0_sumOfLines_54 rfl (by decide) sk_22 (by decide) rfl (by decide) ?_
          refine k_getR (pc' := 60) (sl := 2) (r := 14) kc_2 w_177 (Or.inl rfl) (by decide) dX0_sumOfLines_57 rfl (by decide) sk_12 (by decide) rfl (by decide) ?_
          refine j_iload_n (pc' := 61) dX0_sumOfLines_60 rfl rfl ?_
          refine k_iald (pc' := 62) (z := D2 14 x3) dX0_sumOfLines_61 rfl (by decide) sk_14 (by decide) q3.1 q3.2 rfl ?_
          refine j_iadd (pc' := 63) dX0_sumOfLines_62 rfl ?_
          refine j_istore_n (pc' := 64) (ls' := [some (mR 22), some (mI x1), some (mI (x2 + (D2 14 x3))), some (mI x3)]) dX0_sumOfLines_63 rfl (by decide) rfl ?_
          have hj := hj
          try simp only [if_neg b3] at hj
          exact j_wk hj (And.intro rfl (And.intro rfl (And.intro rfl (And.intro rfl trivial))))
theorem c_X0_sumOfLines_e {Ω : mO} {d : Nat} (hd : 3 ≤ d) {r : Int × mD} {x1 : Int} {D : mD} (h : F_X0_sumOfLines x1 D = some r) : J Ω M_X0_sumOfLines d 0 0 (rI r.1 r.2) 0 [some (mR 22), some (mI x1), none, none] [] (SK, D, false) 0 0 := by
  rw [F_X0_sumOfLines] at h
  refine j_iconst (pc' := 1) dX0_sumOfLines_0 rfl ?_
  refine j_istore_n (pc' := 2) (ls' := [some (mR 22), some (mI x1), some (mI 0), none]) dX0_sumOfLines_1 rfl (by decide) rfl ?_
  refine j_iconst (pc' := 3) dX0_sumOfLines_2 rfl ?_
  refine j_istore_n (pc' := 4) (ls' := [some (mR 22), some (mI x1), some (mI 0), some (mI 0)]) dX0_sumOfLines_3 rfl (by decide) rfl ?_
  exact j_wk (j_widen (ce := 0) (ke := 0) (by decide) (by decide) (c_X0_sumOfLines_L4 hd _ h)) (And.intro rfl (And.intro rfl (And.intro rfl (And.intro rfl trivial))))
theorem c_X0_sumOfLines {d : Nat} (hd : 3 ≤ d) {x1 : Int} {D D' : mD} {v : Int} (h : F_X0_sumOfLines x1 D = some (v, D')) : CM d 0 0 M_X0_sumOfLines [mR 22, mI x1] (SK, D, false) (rI v D') := CM.intro pn_X0 rfl rfl (Nat.le_of_ble_eq_true rfl) (fun _ => c_X0_sumOfLines_e hd h)
theorem c_X0_weightOf_e {Ω : mO} {d : Nat} (hd : 6 ≤ d) {r : Int × mD} {x1 x2 x3 : Int} {D : mD} (h : F_X0_weightOf x1 x2 x3 D = some r) : J Ω M_X0_weightOf d 0 0 (rI r.1 r.2) 0 [some (mR 22), some (mI x1), some (mI x2), some (mI x3), none, none] [] (SK, D, false) 0 0 := by
  rw [F_X0_weightOf] at h
  refine j_aload_n (pc' := 1) dX0_weightOf_0 rfl rfl ?_
  refine k_getR (pc' := 4) (sl := 1) (r := 12) kc_0 w_263 (Or.inl rfl) (by decide) dX0_weightOf_1 rfl (by decide) sk_22 (by decide) rfl (by decide) ?_
  refine k_getI (pc' := 7) (sl := 0) (z := D 12 0) kc_2 w_173 (by decide) dX0_weightOf_4 rfl (by decide) sk_12 (by decide) rfl rfl ?_
  refine j_iconst (pc' := 8) dX0_weightOf_7 rfl ?_
  obtain ⟨q1, h⟩ := ck_o h
  refine j_icmp_ne (tgt := 13) (pc' := 11) dX0_weightOf_8 rfl rfl q1 (by decide) (fun b1 => ?_) (fun b1 => ?_)
  · replace h := ite_f b1 h
    refine j_aload_n (pc' := 14) dX0_weightOf_13 rfl rfl ?_
    refine k_getR (pc' := 17) (sl := 0) (r := 3) kc_0 w_262 (Or.inl rfl) (by decide) dX0_weightOf_14 rfl (by decide) sk_22 (by decide) rfl (by decide) ?_
    refine k_getR (pc' := 20) (sl := 6) (r := 8) kc_6 w_93 (Or.inl rfl) (by decide) dX0_weightOf_17 rfl (by decide) sk_3 (by decide) rfl (by decide) ?_
    refine j_iload_n (pc' := 21) dX0_weightOf_20 rfl rfl ?_
    obtain ⟨q2, h⟩ := ck_o h
    refine k_iald (pc' := 22) (z := D 8 x1) dX0_weightOf_21 rfl (by decide) sk_8 (by decide) q2.1 q2.2 rfl ?_
    refine j_istore (pc' := 24) (ls' := [some (mR 22), some (mI x1), some (mI x2), some (mI x3), some (mI (D 8 x1)), none]) dX0_weightOf_22 rfl (by decide) rfl ?_
    refine j_aload_n (pc' := 25) dX0_weightOf_24 rfl rfl ?_
    refine k_getR (pc' := 28) (sl := 0) (r := 3) kc_0 w_262 (Or.inl rfl) (by decide) dX0_weightOf_25 rfl (by decide) sk_22 (by decide) rfl (by decide) ?_
    refine k_getR (pc' := 31) (sl := 6) (r := 8) kc_6 w_93 (Or.inl rfl) (by decide) dX0_weightOf_28 rfl (by decide) sk_3 (by decide) rfl (by decide) ?_
    refine j_iload_n (pc' := 32) dX0_weightOf_31 rfl rfl ?_
    refine j_iconst (pc' := 33) dX0_weightOf_32 rfl ?_
    refine j_iadd (pc' := 34) dX0_weightOf_33 rfl ?_
    obtain ⟨q3, h⟩ := ck_o h
    refine k_iald (pc' := 35) (z := D 8 (x1 + 1)) dX0_weightOf_34 rfl (by decide) sk_8 (by decide) q3.1 q3.2 rfl ?_
    refine j_istore (pc' := 37) (ls' := [some (mR 22), some (mI x1), some (mI x2), some (mI x3), some (mI (D 8 x1)), some (mI (D 8 (x1 + 1)))]) dX0_weightOf_35 rfl (by decide) rfl ?_
    refine j_aload_n (pc' := 38) dX0_weightOf_37 rfl rfl ?_
    refine k_getR (pc' := 41) (sl := 3) (r := 23) kc_0 w_265 (Or.inl rfl) (by decide) dX0_weightOf_38 rfl (by decide) sk_22 (by decide) rfl (by decide) ?_
    refine j_iconst (pc' := 42) dX0_weightOf_41 rfl ?_
    refine k_cSv (d' := 1) (pc' := 45) [mR 23, mI 0] [] (k_fill (d := 1) (n := 9) (Nat.le_refl _) (by decide) sk_23 (by decide) rfl) cw_X0_35 w_207 dX0_weightOf_42 rfl (by omega) rfl rfl rfl rfl (by decide) (by decide) ?_
    refine j_aload_n (pc' := 46) dX0_weightOf_45 rfl rfl ?_
    refine k_getR (pc' := 49) (sl := 3) (r := 23) kc_0 w_265 (Or.inl rfl) (by decide) dX0_weightOf_46 rfl (by decide) sk_22 (by decide) rfl (by decide) ?_
    refine j_iconst (pc' := 50) dX0_weightOf_49 rfl ?_
    refine j_iload_n (pc' := 51) dX0_weightOf_50 rfl rfl ?_
    refine k_iast (pc' := 52) dX0_weightOf_51 rfl (by decide) sk_23 (by decide) (by decide) (by decide) ?_
    refine j_aload_n (pc' := 53) dX0_weightOf_52 rfl rfl ?_
    refine k_getR (pc' := 56) (sl := 3) (r := 23) kc_0 w_265 (Or.inl rfl) (by decide) dX0_weightOf_53 rfl (by decide) sk_22 (by decide) rfl (by decide) ?_
    refine j_iconst (pc' := 57) dX0_weightOf_56 rfl ?_
    refine j_iload_n (pc' := 58) dX0_weightOf_57 rfl rfl ?_
    refine k_iast (pc' := 59) dX0_weightOf_58 rfl (by decide) sk_23 (by decide) (by decide) (by decide) ?_
    refine j_aload_n (pc' := 60) dX0_weightOf_59 rfl rfl ?_
    refine k_getR (pc' := 63) (sl := 3) (r := 23) kc_0 w_265 (Or.inl rfl) (by decide) dX0_weightOf_60 rfl (by decide) sk_22 (by decide) rfl (by decide) ?_
    refine j_iconst (pc' := 64) dX0_weightOf_63 rfl ?_
    refine j_aload_n (pc' := 65) dX0_weightOf_64 rfl rfl ?_
    refine k_getR (pc' := 68) (sl := 0) (r := 3) kc_0 w_262 (Or.inl rfl) (by decide) dX0_weightOf_65 rfl (by decide) sk_22 (by decide) rfl (by decide) ?_
    refine j_iload (pc' := 70) dX0_weightOf_68 rfl rfl ?_
    refine j_iload_n (pc' := 71) dX0_weightOf_70 rfl rfl ?_
    obtain ⟨v1, D1, e1, h⟩ := bI_o h
    refine k_cV (d' := 1) (pc' := 74) [mI (D 8 x1), mI x2] [mI 2, mR 23] (c_X6_rightOf (d := 1) (Nat.le_refl _) shop_3 e1) cw_X0_87 kc_6 w_552 w_553 dX0_weightOf_71 rfl (by omega) rfl rfl (by decide) sk_3 rfl rfl (by decide) (by decide) ?_
    refine k_iast (pc' := 75) dX0_weightOf_74 rfl (by decide) sk_23 (by decide) (by decide) (by decide) ?_
    refine j_aload_n (pc' := 76) dX0_weightOf_75 rfl rfl ?_
    refine k_getR (pc' := 79) (sl := 3) (r := 23) kc_0 w_265 (Or.inl rfl) (by decide) dX0_weightOf_76 rfl (by decide) sk_22 (by decide) rfl (by decide) ?_
    refine j_iconst (pc' := 80) dX0_weightOf_79 rfl ?_
    refine j_aload_n (pc' := 81) dX0_weightOf_80 rfl rfl ?_
    refine k_getR (pc' := 84) (sl := 0) (r := 3) kc_0 w_262 (Or.inl rfl) (by decide) dX0_weightOf_81 rfl (by decide) sk_22 (by decide) rfl (by decide) ?_
    refine j_iload (pc' := 86) dX0_weightOf_84 rfl rfl ?_
    refine j_iload_n (pc' := 87) dX0_weightOf_86 rfl rfl ?_
    obtain ⟨v2, D2, e2, h⟩ := bI_o h
    refine k_cV (d' := 1) (pc' := 90) [mI (D 8 (x1 + 1)), mI x2] [mI 3, mR 23] (c_X6_leftOf (d := 1) (Nat.le_refl _) shop_3 e2) cw_X0_90 kc_6 w_556 w_557 dX0_weightOf_87 rfl (by omega) rfl rfl (by decide) sk_3 rfl rfl (by decide) (by decide) ?_
    refine k_iast (pc' := 91) dX0_weightOf_90 rfl (by decide) sk_23 (by decide) (by decide) (by decide) ?_
    refine j_aload_n (pc' := 92) dX0_weightOf_91 rfl rfl ?_
    refine j_aload_n (pc' := 93) dX0_weightOf_92 rfl rfl ?_
    refine k_getR (pc' := 96) (sl := 0) (r := 3) kc_0 w_262 (Or.inl rfl) (by decide) dX0_weightOf_93 rfl (by decide) sk_22 (by decide) rfl (by decide) ?_
    refine k_getR (pc' := 99) (sl := 1) (r := 4) kc_6 w_77 (Or.inl rfl) (by decide) dX0_weightOf_96 rfl (by decide) sk_3 (by decide) rfl (by decide) ?_
    refine j_iload (pc' := 101) dX0_weightOf_99 rfl rfl ?_
    obtain ⟨q4, h⟩ := ck_o h
    refine k_iald (pc' := 102) (z := (pD D2 23 3 v2) 4 (D 8 x1)) dX0_weightOf_101 rfl (by decide) sk_4 (by decide) q4.1 q4.2 rfl ?_
    obtain ⟨v3, D3, e3, h⟩ := bI_o h
    refine k_cVv (d' := 1) (pc' := 105) [mI ((pD D2 23 3 v2) 4 (D 8 x1))] [] (c_X0_noteSort (d := 1) (Nat.le_refl _) e3) cw_X0_113 kc_0 w_568 ws_1 dX0_weightOf_102 rfl (by omega) rfl rfl (by decide) sk_22 rfl rfl (by decide) (by decide) ?_
    refine j_aload_n (pc' := 106) dX0_weightOf_105 rfl rfl ?_
    refine j_aload_n (pc' := 107) dX0_weightOf_106 rfl rfl ?_
    refine k_getR (pc' := 110) (sl := 0) (r := 3) kc_0 w_262 (Or.inl rfl) (by decide) dX0_weightOf_107 rfl (by decide) sk_22 (by decide) rfl (by decide) ?_
    refine k_getR (pc' := 113) (sl := 1) (r := 4) kc_6 w_77 (Or.inl rfl) (by decide) dX0_weightOf_110 rfl (by decide) sk_3 (by decide) rfl (by decide) ?_
    refine j_iload (pc' := 115) dX0_weightOf_113 rfl rfl ?_
    obtain ⟨q5, h⟩ := ck_o h
    refine k_iald (pc' := 116) (z := D3 4 (D 8 (x1 + 1))) dX0_weightOf_115 rfl (by decide) sk_4 (by decide) q5.1 q5.2 rfl ?_
    obtain ⟨v4, D4, e4, h⟩ := bI_o h
    refine k_cVv (d' := 1) (pc' := 119) [mI (D3 4 (D 8 (x1 + 1)))] [] (c_X0_noteSort (d := 1) (Nat.le_refl _) e4) cw_X0_113 kc_0 w_568 ws_1 dX0_weightOf_116 rfl (by omega) rfl rfl (by decide) sk_22 rfl rfl (by decide) (by decide) ?_
    refine j_aload_n (pc' := 120) dX0_weightOf_119 rfl rfl ?_
    refine j_iconst (pc' := 121) dX0_weightOf_120 rfl ?_
    obtain ⟨v5, D5, e5, h⟩ := bI_o h
    refine k_cV (d' := 3) (pc' := 124) [mI 0] [] (c_X0_sumOfLines (d := 3) (Nat.le_refl _) e5) cw_X0_117 kc_0 w_572 ws_2 dX0_weightOf_121 rfl (by omega) rfl rfl (by decide) sk_22 rfl rfl (by decide) (by decide) ?_
    exact j_iret dX0_weightOf_124 rfl (by decide) (by decide) (rI_of h)
  · replace h := ite_t b1 h
    refine j_iconst (pc' := 12) dX0_weightOf_11 rfl ?_
    exact j_iret dX0_weightOf_12 rfl (by decide) (by decide) (rI_of h)
theorem c_X0_weightOf {d : Nat} (hd : 6 ≤ d) {x1 x2 x3 : Int} {D D' : mD} {v : Int} (h : F_X0_weightOf x1 x2 x3 D = some (v, D')) : CM d 0 0 M_X0_weightOf [mR 22, mI x1, mI x2, mI x3] (SK, D, false) (rI v D') := CM.intro pn_X0 rfl rfl (Nat.le_of_ble_eq_true rfl) (fun _ => c_X0_weightOf_e hd h)
theorem c_X0_whiteOf_L23 {Ω : mO} {d : Nat} (hd : 7 ≤ d) {r : Int × mD} {x1 x2 x3 : Int} : ∀ (n : Nat) {x4 x5 : Int} {D : mD}, F_X0_whiteOf_L23 x1 x2 x3 n x4 x5 D = some r → J Ω M_X0_whiteOf d 0 0 (rI r.1 r.2) 23 [some (mR 22), some (mI x1), some (mI x2), some (mI x3), some (mI x4), some (mI x5)] [] (SK, D, false) 0 0 := by
  intro n
  induction n with
  | zero => intro x4 x5 D h; exact absurd (show (none : Option (Int × mD)) = some r from h) nofun
  | succ n ih =>
    intro x4 x5 D h
    rw [F_X0_whiteOf_L23] at h
    refine j_iload (pc' := 25) dX0_whiteOf_23 rfl rfl ?_
    refine j_iconst (pc' := 26) dX0_whiteOf_25 rfl ?_
    obtain ⟨q1, h⟩ := ck_o h
    refine j_icmp_ge (tgt := 64) (pc' := 29) dX0_whiteOf_26 rfl rfl q1 (by decide) (fun b1 => ?_) (fun b1 => ?_)
    · replace h := ite_t b1 h
      refine j_aload_n (pc' := 65) dX0_whiteOf_64 rfl rfl ?_
      refine k_getR (pc' := 68) (sl := 5) (r := 25) kc_0 w_267 (Or.inl rfl) (by decide) dX0_whiteOf_65 rfl (by decide) sk_22 (by decide) rfl (by decide) ?_
      refine j_iload_n (pc' := 69) dX0_whiteOf_68 rfl rfl ?_
      refine j_iload (pc' := 71) dX0_whiteOf_69 rfl rfl ?_
      obtain ⟨q2, h⟩ := ck_o h
      refine k_iast (pc' := 72) dX0_whiteOf_71 rfl (by decide) sk_25 (by decide) q2.1 q2.2 ?_
      refine j_aload_n (pc' := 73) dX0_whiteOf_72 rfl rfl ?_
      refine k_getR (pc' := 76) (sl := 5) (r := 25) kc_0 w_267 (Or.inl rfl) (by decide) dX0_whiteOf_73 rfl (by decide) sk_22 (by decide) rfl (by decide) ?_
      refine j_iload_n (pc' := 77) dX0_whiteOf_76 rfl rfl ?_
      refine k_iald (pc' := 78) (z := (pD D 25 x3 x4) 25 x3) dX0_whiteOf_77 rfl (by decide) sk_25 (by decide) q2.1 q2.2 rfl ?_
      exact j_iret dX0_whiteOf_78 rfl (by decide) (by decide) (rI_of h)
    · replace h := ite_f b1 h
      refine j_iload (pc' := 31) dX0_whiteOf_29 rfl rfl ?_
      refine j_aload_n (pc' := 32) dX0_whiteOf_31 rfl rfl ?_
      refine j_iload_n (pc' := 33) dX0_whiteOf_32 rfl rfl ?_
      refine j_iload (pc' := 35) dX0_whiteOf_33 rfl rfl ?_
      refine j_iload_n (pc' := 36) dX0_whiteOf_35 rfl rfl ?_
      refine j_aload_n (pc' := 37) dX0_whiteOf_36 rfl rfl ?_
      refine k_getR (pc' := 40) (sl := 2) (r := 17) kc_0 w_264 (Or.inl rfl) (by decide) dX0_whiteOf_37 rfl (by decide) sk_22 (by decide) rfl (by decide) ?_
      refine k_getI (pc' := 43) (sl := 5) (z := D 17 5) kc_9 w_222 (by decide) dX0_whiteOf_40 rfl (by decide) sk_17 (by decide) rfl rfl ?_
      obtain ⟨v1, D1, e1, h⟩ := bI_o h
      refine k_cV (d' := 6) (pc' := 46) [mI x1, mI x5, mI x2, mI (D 17 5)] [mI x4] (c_X0_spaceOf (d := 6) (Nat.le_refl _) e1) cw_X0_99 kc_0 w_548 w_549 dX0_whiteOf_43 rfl (by omega) rfl rfl (by decide) sk_22 rfl rfl (by decide) (by decide) ?_
      refine j_aload_n (pc' := 47) dX0_whiteOf_46 rfl rfl ?_
      refine j_iload_n (pc' := 48) dX0_whiteOf_47 rfl rfl ?_
      refine j_iload (pc' := 50) dX0_whiteOf_48 rfl rfl ?_
      refine j_iload_n (pc' := 51) dX0_whiteOf_50 rfl rfl ?_
      obtain ⟨v2, D2, e2, h⟩ := bI_o h
      refine k_cV (d' := 6) (pc' := 54) [mI x1, mI x5, mI x2] [mI v1, mI x4] (c_X0_weightOf (d := 6) (Nat.le_refl _) e2) cw_X0_103 kc_0 w_563 w_564 dX0_whiteOf_51 rfl (by omega) rfl rfl (by decide) sk_22 rfl rfl (by decide) (by decide) ?_
      refine j_imul (pc' := 55) dX0_whiteOf_54 rfl ?_
      refine j_iadd (pc' := 56) dX0_whiteOf_55 rfl ?_
      refine j_istore (pc' := 58) (ls' := [some (mR 22), some (mI x1), some (mI x2), some (mI x3), some (mI (x4 + (v1 * v2))), some (mI x5)]) dX0_whiteOf_56 rfl (by decide) rfl ?_
      refine j_iinc (pc' := 61) (z' := (x5 + 1)) (ls' := [some (mR 22), some (mI x1), some (mI x2), some (mI x3), some (mI (x4 + (v1 * v2))), some (mI (x5 + 1))]) dX0_whiteOf_58 rfl rfl rfl (by decide) rfl ?_
      refine j_goto (tgt := 23) dX0_whiteOf_61 rfl ?_
      exact j_wk (j_widen (ce := 0) (ke := 0) (by decide) (by decide) (ih h)) (And.intro rfl (And.intro rfl (And.intro rfl (And.intro rfl (And.intro rfl (And.intro rfl trivial))))))
theorem c_X0_whiteOf_e {Ω : mO} {d : Nat} (hd : 7 ≤ d) {r : Int × mD} {x1 x2 : Int} {D : mD} (h : F_X0_whiteOf x1 x2 D = some r) : J Ω M_X0_whiteOf d 0 0 (rI r.1 r.2) 0 [some (mR 22), some (mI x1), some (mI x2), none, none, none] [] (SK, D, false) 0 0 := by
  rw [F_X0_whiteOf] at h
  refine j_iload_n (pc' := 1) dX0_whiteOf_0 rfl rfl ?_
  refine j_bipush (pc' := 3) dX0_whiteOf_1 rfl rfl ?_
  refine j_imul (pc' := 4) dX0_whiteOf_3 rfl ?_
  refine j_iload_n (pc' := 5) dX0_whiteOf_4 rfl rfl ?_
  refine j_iadd (pc' := 6) dX0_whiteOf_5 rfl ?_
  refine j_istore_n (pc' := 7) (ls' := [some (mR 22), some (mI x1), some (mI x2), some (mI ((x1 * 31) + x2)), none, none]) dX0_whiteOf_6 rfl (by decide) rfl ?_
  refine j_aload_n (pc' := 8) dX0_whiteOf_7 rfl rfl ?_
  refine k_getR (pc' := 11) (sl := 5) (r := 25) kc_0 w_267 (Or.inl rfl) (by decide) dX0_whiteOf_8 rfl (by decide) sk_22 (by decide) rfl (by decide) ?_
  refine j_iload_n (pc' := 12) dX0_whiteOf_11 rfl rfl ?_
  obtain ⟨q1, h⟩ := ck_o h
  refine k_iald (pc' := 13) (z := D 25 ((x1 * 31) + x2)) dX0_whiteOf_12 rfl (by decide) sk_25 (by decide) q1.1 q1.2 rfl ?_
  refine j_iconst (pc' := 14) dX0_whiteOf_13 rfl ?_
  obtain ⟨q2, h⟩ := ck_o h
  refine j_icmp_ne (tgt := 72) (pc' := 17) dX0_whiteOf_14 rfl rfl q2 (by decide) (fun b1 => ?_) (fun b1 => ?_)
  · replace h := ite_f b1 h
    refine j_aload_n (pc' := 73) dX0_whiteOf_72 rfl rfl ?_
    refine k_getR (pc' := 76) (sl := 5) (r := 25) kc_0 w_267 (Or.inl rfl) (by decide) dX0_whiteOf_73 rfl (by decide) sk_22 (by decide) rfl (by decide) ?_
    refine j_iload_n (pc' := 77) dX0_whiteOf_76 rfl rfl ?_
    refine k_iald (pc' := 78) (z := D 25 ((x1 * 31) + x2)) dX0_whiteOf_77 rfl (by decide) sk_25 (by decide) q1.1 q1.2 rfl ?_
    exact j_iret dX0_whiteOf_78 rfl (by decide) (by decide) (rI_of h)
  · replace h := ite_t b1 h
    refine j_iconst (pc' := 18) dX0_whiteOf_17 rfl ?_
    refine j_istore (pc' := 20) (ls' := [some (mR 22), some (mI x1), some (mI x2), some (mI ((x1 * 31) + x2)), some (mI 0), none]) dX0_whiteOf_18 rfl (by decide) rfl ?_
    refine j_iconst (pc' := 21) dX0_whiteOf_20 rfl ?_
    refine j_istore (pc' := 23) (ls' := [some (mR 22), some (mI x1), some (mI x2), some (mI ((x1 * 31) + x2)), some (mI 0), some (mI 0)]) dX0_whiteOf_21 rfl (by decide) rfl ?_
    exact j_wk (j_widen (ce := 0) (ke := 0) (by decide) (by decide) (c_X0_whiteOf_L23 hd _ h)) (And.intro rfl (And.intro rfl (And.intro rfl (And.intro rfl (And.intro rfl (And.intro rfl trivial))))))
theorem c_X0_whiteOf {d : Nat} (hd : 7 ≤ d) {x1 x2 : Int} {D D' : mD} {v : Int} (h : F_X0_whiteOf x1 x2 D = some (v, D')) : CM d 0 0 M_X0_whiteOf [mR 22, mI x1, mI x2] (SK, D, false) (rI v D') := CM.intro pn_X0 rfl rfl (Nat.le_of_ble_eq_true rfl) (fun _ => c_X0_whiteOf_e hd h)
theorem c_X0_fadingAt_e {Ω : mO} {d : Nat} (hd : 6 ≤ d) {r : Int × mD} {x1 x2 : Int} {D : mD} (h : F_X0_fadingAt x1 x2 D = some r) : J Ω M_X0_fadingAt d 0 0 (rI r.1 r.2) 0 [some (mR 22), some (mI x1), some (mI x2)] [] (SK, D, false) 0 0 := by
  rw [F_X0_fadingAt] at h
  refine j_aload_n (pc' := 1) dX0_fadingAt_0 rfl rfl ?_
  refine k_getR (pc' := 4) (sl := 3) (r := 23) kc_0 w_265 (Or.inl rfl) (by decide) dX0_fadingAt_1 rfl (by decide) sk_22 (by decide) rfl (by decide) ?_
  refine j_iconst (pc' := 5) dX0_fadingAt_4 rfl ?_
  refine k_cSv (d' := 1) (pc' := 8) [mR 23, mI 0] [] (k_fill (d := 1) (n := 9) (Nat.le_refl _) (by decide) sk_23 (by decide) rfl) cw_X0_35 w_207 dX0_fadingAt_5 rfl (by omega) rfl rfl rfl rfl (by decide) (by decide) ?_
  refine j_aload_n (pc' := 9) dX0_fadingAt_8 rfl rfl ?_
  refine k_getR (pc' := 12) (sl := 3) (r := 23) kc_0 w_265 (Or.inl rfl) (by decide) dX0_fadingAt_9 rfl (by decide) sk_22 (by decide) rfl (by decide) ?_
  refine j_iconst (pc' := 13) dX0_fadingAt_12 rfl ?_
  refine j_iload_n (pc' := 14) dX0_fadingAt_13 rfl rfl ?_
  refine k_iast (pc' := 15) dX0_fadingAt_14 rfl (by decide) sk_23 (by decide) (by decide) (by decide) ?_
  refine j_aload_n (pc' := 16) dX0_fadingAt_15 rfl rfl ?_
  refine k_getR (pc' := 19) (sl := 3) (r := 23) kc_0 w_265 (Or.inl rfl) (by decide) dX0_fadingAt_16 rfl (by decide) sk_22 (by decide) rfl (by decide) ?_
  refine j_iconst (pc' := 20) dX0_fadingAt_19 rfl ?_
  refine j_iload_n (pc' := 21) dX0_fadingAt_20 rfl rfl ?_
  refine k_iast (pc' := 22) dX0_fadingAt_21 rfl (by decide) sk_23 (by decide) (by decide) (by decide) ?_
  refine j_aload_n (pc' := 23) dX0_fadingAt_22 rfl rfl ?_
  refine j_iconst (pc' := 24) dX0_fadingAt_23 rfl ?_
  obtain ⟨v1, D1, e1, h⟩ := bI_o h
  refine k_cV (d' := 3) (pc' := 27) [mI 1] [] (c_X0_sumOfLines (d := 3) (Nat.le_refl _) e1) cw_X0_117 kc_0 w_572 ws_2 dX0_fadingAt_24 rfl (by omega) rfl rfl (by decide) sk_22 rfl rfl (by decide) (by decide) ?_
  exact j_iret dX0_fadingAt_27 rfl (by decide) (by decide) (rI_of h)
theorem c_X0_fadingAt {d : Nat} (hd : 6 ≤ d) {x1 x2 : Int} {D D' : mD} {v : Int} (h : F_X0_fadingAt x1 x2 D = some (v, D')) : CM d 0 0 M_X0_fadingAt [mR 22, mI x1, mI x2] (SK, D, false) (rI v D') := CM.intro pn_X0 rfl rfl (Nat.le_of_ble_eq_true rfl) (fun _ => c_X0_fadingAt_e hd h)
theorem c_X6_gapCount_e {Ω : mO} {d : Nat} (hd : 1 ≤ d) {t0 : Nat} (hT0 : IsShop t0) {r : Int × mD} {D : mD} (h : F_X6_gapCount t0 D = some r) : J Ω M_X6_gapCount d 0 0 (rI r.1 r.2) 0 [some (mR t0)] [] (SK, D, false) 0 0 := by
  rw [F_X6_gapCount] at h
  refine j_aload_n (pc' := 1) dX6_gapCount_0 rfl rfl ?_
  refine k_getI (pc' := 4) (sl := 5) (z := D t0 5) kc_6 w_88 (by decide) dX6_gapCount_1 rfl (shop_lt hT0) (shopA_0 hT0) (by decide) rfl rfl ?_
  refine j_iconst (pc' := 5) dX6_gapCount_4 rfl ?_
  obtain ⟨q1, h⟩ := ck_o h
  have hj : J Ω M_X6_gapCount d 0 0 (rI r.1 r.2) 18 [none] [mI (if (D t0 5) ≤ 1 then (0 : Int) else ((D t0 5) - 1))] (SK, D, false) 0 0 := by
    exact j_iret dX6_gapCount_18 rfl (by decide) (by decide) (rI_of h)
  refine j_icmp_le (tgt := 17) (pc' := 8) dX6_gapCount_5 rfl rfl q1 (by decide) (fun b1 => ?_) (fun b1 => ?_)
  · refine j_iconst (pc' := 18) dX6_gapCount_17 rfl ?_
    have hj := hj
    try simp only [if_pos b1] at hj
    exact j_wk hj (trivial)
  · refine j_aload_n (pc' := 9) dX6_gapCount_8 rfl rfl ?_
    refine k_getI (pc' := 12) (sl := 5) (z := D t0 5) kc_6 w_88 (by decide) dX6_gapCount_9 rfl (shop_lt hT0) (shopA_0 hT0) (by decide) rfl rfl ?_
    refine j_iconst (pc' := 13) dX6_gapCount_12 rfl ?_
    refine j_isub (pc' := 14) dX6_gapCount_13 rfl ?_
    refine j_goto (tgt := 18) dX6_gapCount_14 rfl ?_
    have hj := hj
    try simp only [if_neg b1] at hj
    exact j_wk hj (trivial)
theorem c_X6_gapCount {d : Nat} (hd : 1 ≤ d) {t0 : Nat} (hT0 : IsShop t0) {D D' : mD} {v : Int} (h : F_X6_gapCount t0 D = some (v, D')) : CM d 0 0 M_X6_gapCount [mR t0] (SK, D, false) (rI v D') := CM.intro pn_X6 rfl rfl (Nat.le_of_ble_eq_true rfl) (fun _ => c_X6_gapCount_e hd hT0 h)
theorem c_X0_unevenBy_j67 {Ω : mO} {d : Nat} (hd : 8 ≤ d) {a1 : Nat} (hT1 : IsArr a1) {r : Int × mD} {K8 : Int → Int → Int → mD → RI} {x2 x4 x5 x7 s0 : Int} (hK8 : ∀ {x3 x4 x5 : Int} {D : mD}, K8 x3 x4 x5 D = some r → J Ω M_X0_unevenBy d 0 0 (rI r.1 r.2) 8 [some (mR 22), some (mR a1), some (mI x2), some (mI x3), some (mI x4), some (mI x5), none, none] [] (SK, D, false) 0 0) {D : mD} (h : F_X0_unevenBy_j67 a1 K8 x2 x4 x5 x7 s0 D = some r) : J Ω M_X0_unevenBy d 0 0 (rI r.1 r.2) 67 [some (mR 22), some (mR a1), some (mI x2), none, some (mI x4), some (mI x5), none, some (mI x7)] [mI s0] (SK, D, false) 0 0 := by
  rw [F_X0_unevenBy_j67] at h
  refine j_istore_n (pc' := 68) (ls' := [some (mR 22), some (mR a1), some (mI x2), some (mI s0), some (mI x4), some (mI x5), none, some (mI x7)]) dX0_unevenBy_67 rfl (by decide) rfl ?_
  refine j_iload (pc' := 70) dX0_unevenBy_68 rfl rfl ?_
  obtain ⟨q1, h⟩ := ck_o h
  obtain ⟨q2, h⟩ := ck_o h
  obtain ⟨q3, h⟩ := ck_o h
  have hj : J Ω M_X0_unevenBy d 0 0 (rI r.1 r.2) 85 [some (mR 22), some (mR a1), some (mI x2), some (mI s0), none, some (mI x5), none, none] [mI (if x5 = 0 then x7 else (max x4 x7))] (SK, D, false) 0 0 := by
    refine j_istore (pc' := 87) (ls' := [some (mR 22), some (mR a1), some (mI x2), some (mI s0), some (mI (if x5 = 0 then x7 else (max x4 x7))), some (mI x5), none, none]) dX0_unevenBy_85 rfl (by decide) rfl ?_
    refine j_iinc (pc' := 90) (z' := (x5 + 1)) (ls' := [some (mR 22), some (mR a1), some (mI x2), some (mI s0), some (mI (if x5 = 0 then x7 else (max x4 x7))), some (mI (x5 + 1)), none, none]) dX0_unevenBy_87 rfl rfl rfl (by decide) rfl ?_
    refine j_goto (tgt := 8) dX0_unevenBy_90 rfl ?_
    exact j_wk (j_widen (ce := 0) (ke := 0) (by decide) (by decide) (hK8 h)) (And.intro rfl (And.intro rfl (And.intro rfl (And.intro rfl (And.intro rfl (And.intro rfl trivial))))))
  refine j_if_ne (tgt := 78) (pc' := 73) dX0_unevenBy_70 rfl rfl q1 (fun b1 => ?_) (fun b1 => ?_)
  · refine j_iload (pc' := 80) dX0_unevenBy_78 rfl rfl ?_
    refine j_iload (pc' := 82) dX0_unevenBy_80 rfl rfl ?_
    refine k_max (pc' := 85) cw_X0_81 w_541 dX0_unevenBy_82 rfl (by omega) (q2 b1) (q3 b1) rfl (by decide) (by decide) ?_
    have hj := hj
    try simp only [if_neg b1] at hj
    exact j_wk hj (And.intro rfl (And.intro rfl (And.intro rfl (And.intro rfl (And.intro rfl trivial)))))
  · refine j_iload (pc' := 75) dX0_unevenBy_73 rfl rfl ?_
    refine j_goto (tgt := 85) dX0_unevenBy_75 rfl ?_
    have hj := hj
    try simp only [if_pos b1] at hj
    exact j_wk hj (And.intro rfl (And.intro rfl (And.intro rfl (And.intro rfl (And.intro rfl trivial)))))
theorem c_X0_unevenBy_L8 {Ω : mO} {d : Nat} (hd : 8 ≤ d) {a1 : Nat} (hT1 : IsArr a1) {r : Int × mD} {x2 : Int} : ∀ (n : Nat) {x3 x4 x5 : Int} {D : mD}, F_X0_unevenBy_L8 a1 x2 n x3 x4 x5 D = some r → J Ω M_X0_unevenBy d 0 0 (rI r.1 r.2) 8 [some (mR 22), some (mR a1), some (mI x2), some (mI x3), some (mI x4), some (mI x5), none, none] [] (SK, D, false) 0 0 := by
  intro n
  induction n with
  | zero => intro x3 x4 x5 D h; exact absurd (show (none : Option (Int × mD)) = some r from h) nofun
  | succ n ih =>
    intro x3 x4 x5 D h
    rw [F_X0_unevenBy_L8] at h
    refine j_iload (pc' := 10) dX0_unevenBy_8 rfl rfl ?_
    refine j_aload_n (pc' := 11) dX0_unevenBy_10 rfl rfl ?_
    refine k_getR (pc' := 14) (sl := 0) (r := 3) kc_0 w_262 (Or.inl rfl) (by decide) dX0_unevenBy_11 rfl (by decide) sk_22 (by decide) rfl (by decide) ?_
    obtain ⟨v1, D1, e1, h⟩ := bI_o h
    refine k_cV (d' := 1) (pc' := 17) [] [mI x5] (c_X6_gapCount (d := 1) (Nat.le_refl _) shop_3 e1) cw_X0_143 kc_6 w_537 w_538 dX0_unevenBy_14 rfl (by omega) rfl rfl (by decide) sk_3 rfl rfl (by decide) (by decide) ?_
    obtain ⟨q1, h⟩ := ck_o h
    obtain ⟨q2, h⟩ := ck_o h
    refine j_icmp_ge (tgt := 93) (pc' := 20) dX0_unevenBy_17 rfl rfl q1 q2 (fun b1 => ?_) (fun b1 => ?_)
    · replace h := ite_t b1 h
      refine j_iload (pc' := 95) dX0_unevenBy_93 rfl rfl ?_
      refine j_iload_n (pc' := 96) dX0_unevenBy_95 rfl rfl ?_
      refine j_isub (pc' := 97) dX0_unevenBy_96 rfl ?_
      exact j_iret dX0_unevenBy_97 rfl (by decide) (by decide) (rI_of h)
    · replace h := ite_f b1 h
      refine j_aload_n (pc' := 21) dX0_unevenBy_20 rfl rfl ?_
      refine j_iload (pc' := 23) dX0_unevenBy_21 rfl rfl ?_
      obtain ⟨q3, h⟩ := ck_o h
      refine k_iald (pc' := 24) (z := D1 a1 x5) dX0_unevenBy_23 rfl (arr_lt hT1) (hT1.2) (by decide) q3.1 q3.2 rfl ?_
      refine j_iconst (pc' := 25) dX0_unevenBy_24 rfl ?_
      refine j_bipush (pc' := 27) dX0_unevenBy_25 rfl rfl ?_
      refine j_iload_n (pc' := 28) dX0_unevenBy_27 rfl rfl ?_
      refine j_iload (pc' := 30) dX0_unevenBy_28 rfl rfl ?_
      refine j_imul (pc' := 31) dX0_unevenBy_30 rfl ?_
      refine j_isub (pc' := 32) dX0_unevenBy_31 rfl ?_
      obtain ⟨q4, h⟩ := ck_o h
      refine k_max (pc' := 35) cw_X0_81 w_541 dX0_unevenBy_32 rfl (by omega) (by decide) q4 rfl (by decide) (by decide) ?_
      refine j_imul (pc' := 36) dX0_unevenBy_35 rfl ?_
      refine j_bipush (pc' := 38) dX0_unevenBy_36 rfl rfl ?_
      obtain ⟨q5, h⟩ := ck_o h
      obtain ⟨q6, h⟩ := ck_o h
      refine j_idiv (pc' := 39) dX0_unevenBy_38 rfl q5 (by decide) q6 (by decide) ?_
      refine j_istore (pc' := 41) (ls' := [some (mR 22), some (mR a1), some (mI x2), some (mI x3), some (mI x4), some (mI x5), some (mI (((D1 a1 x5) * (max 0 (100 - (x2 * x5)))) / 100)), none]) dX0_unevenBy_39 rfl (by decide) rfl ?_
      refine j_aload_n (pc' := 42) dX0_unevenBy_41 rfl rfl ?_
      refine j_iload (pc' := 44) dX0_unevenBy_42 rfl rfl ?_
      refine j_iload (pc' := 46) dX0_unevenBy_44 rfl rfl ?_
      obtain ⟨v2, D2, e2, h⟩ := bI_o h
      refine k_cV (d' := 7) (pc' := 49) [mI x5, mI (((D1 a1 x5) * (max 0 (100 - (x2 * x5)))) / 100)] [] (c_X0_whiteOf (d := 7) (Nat.le_refl _) e2) cw_X0_146 kc_0 w_544 w_545 dX0_unevenBy_46 rfl (by omega) rfl rfl (by decide) sk_22 rfl rfl (by decide) (by decide) ?_
      refine j_istore (pc' := 51) (ls' := [some (mR 22), some (mR a1), some (mI x2), some (mI x3), some (mI x4), some (mI x5), some (mI (((D1 a1 x5) * (max 0 (100 - (x2 * x5)))) / 100)), some (mI v2)]) dX0_unevenBy_49 rfl (by decide) rfl ?_
      refine j_iload (pc' := 53) dX0_unevenBy_51 rfl rfl ?_
      obtain ⟨q7, h⟩ := ck_o h
      obtain ⟨q8, h⟩ := ck_o h
      have hj : J Ω M_X0_unevenBy d 0 0 (rI r.1 r.2) 67 [some (mR 22), some (mR a1), some (mI x2), none, some (mI x4), some (mI x5), none, some (mI v2)] [mI (if x5 = 0 then v2 else (min x3 v2))] (SK, D2, false) 0 0 := by
        exact j_wk (j_widen (ce := 0) (ke := 0) (by decide) (by decide) (c_X0_unevenBy_j67 hd hT1 ih h)) (And.intro rfl (And.intro rfl (And.intro rfl (And.intro rfl (And.intro rfl (And.intro rfl trivial))))))
      refine j_if_ne (tgt := 61) (pc' := 56) dX0_unevenBy_53 rfl rfl q1 (fun b2 => ?_) (fun b2 => ?_)
      · refine j_iload_n (pc' := 62) dX0_unevenBy_61 rfl rfl ?_
        refine j_iload (pc' := 64) dX0_unevenBy_62 rfl rfl ?_
        refine k_min (pc' := 67) cw_X0_96 w_560 dX0_unevenBy_64 rfl (by omega) (q7 b2) (q8 b2) rfl (by decide) (by decide) ?_
        have hj := hj
        try simp only [if_neg b2] at hj
        exact j_wk hj (And.intro rfl (And.intro rfl (And.intro rfl (And.intro rfl (And.intro rfl (And.intro rfl trivial))))))
      · refine j_iload (pc' := 58) dX0_unevenBy_56 rfl rfl ?_
        refine j_goto (tgt := 67) dX0_unevenBy_58 rfl ?_
        have hj := hj
        try simp only [if_pos b2] at hj
        exact j_wk hj (And.intro rfl (And.intro rfl (And.intro rfl (And.intro rfl (And.intro rfl (And.intro rfl trivial))))))
theorem c_X0_unevenBy_e {Ω : mO} {d : Nat} (hd : 8 ≤ d) {a1 : Nat} (hT1 : IsArr a1) {r : Int × mD} {x2 : Int} {D : mD} (h : F_X0_unevenBy a1 x2 D = some r) : J Ω M_X0_unevenBy d 0 0 (rI r.1 r.2) 0 [some (mR 22), some (mR a1), some (mI x2), none, none, none, none, none] [] (SK, D, false) 0 0 := by
  rw [F_X0_unevenBy] at h
  refine j_iconst (pc' := 1) dX0_unevenBy_0 rfl ?_
  refine j_istore_n (pc' := 2) (ls' := [some (mR 22), some (mR a1), some (mI x2), some (mI 0), none, none, none, none]) dX0_unevenBy_1 rfl (by decide) rfl ?_
  refine j_iconst (pc' := 3) dX0_unevenBy_2 rfl ?_
  refine j_istore (pc' := 5) (ls' := [some (mR 22), some (mR a1), some (mI x2), some (mI 0), some (mI 0), none, none, none]) dX0_unevenBy_3 rfl (by decide) rfl ?_
  refine j_iconst (pc' := 6) dX0_unevenBy_5 rfl ?_
  refine j_istore (pc' := 8) (ls' := [some (mR 22), some (mR a1), some (mI x2), some (mI 0), some (mI 0), some (mI 0), none, none]) dX0_unevenBy_6 rfl (by decide) rfl ?_
  exact j_wk (j_widen (ce := 0) (ke := 0) (by decide) (by decide) (c_X0_unevenBy_L8 hd hT1 _ h)) (And.intro rfl (And.intro rfl (And.intro rfl (And.intro rfl (And.intro rfl (And.intro rfl trivial))))))
theorem c_X0_unevenBy {d : Nat} (hd : 8 ≤ d) {a1 : Nat} (hT1 : IsArr a1) {x2 : Int} {D D' : mD} {v : Int} (h : F_X0_unevenBy a1 x2 D = some (v, D')) : CM d 0 0 M_X0_unevenBy [mR 22, mR a1, mI x2] (SK, D, false) (rI v D') := CM.intro pn_X0 rfl rfl (Nat.le_of_ble_eq_true rfl) (fun _ => c_X0_unevenBy_e hd hT1 h)
theorem c_X0_distanceFor_L2 {Ω : mO} {d : Nat} (hd : 8 ≤ d) {r : Int × mD} {x1 x2 : Int} : ∀ (n : Nat) {x3 : Int} {D : mD}, F_X0_distanceFor_L2 x1 x2 n x3 D = some r → J Ω M_X0_distanceFor d 0 0 (rI r.1 r.2) 2 [some (mR 22), some (mI x1), some (mI x2), some (mI x3)] [] (SK, D, false) 0 0 := by
  intro n
  induction n with
  | zero => intro x3 D h; exact absurd (show (none : Option (Int × mD)) = some r from h) nofun
  | succ n ih =>
    intro x3 D h
    rw [F_X0_distanceFor_L2] at h
    refine j_iload_n (pc' := 3) dX0_distanceFor_2 rfl rfl ?_
    refine j_bipush (pc' := 5) dX0_distanceFor_3 rfl rfl ?_
    obtain ⟨q1, h⟩ := ck_o h
    refine j_icmp_ge (tgt := 24) (pc' := 8) dX0_distanceFor_5 rfl rfl q1 (by decide) (fun b1 => ?_) (fun b1 => ?_)
    · replace h := ite_t b1 h
      refine j_iload_n (pc' := 25) dX0_distanceFor_24 rfl rfl ?_
      exact j_iret dX0_distanceFor_25 rfl (by decide) (by decide) (rI_of h)
    · replace h := ite_f b1 h
      refine j_aload_n (pc' := 9) dX0_distanceFor_8 rfl rfl ?_
      refine j_iload_n (pc' := 10) dX0_distanceFor_9 rfl rfl ?_
      refine j_iload_n (pc' := 11) dX0_distanceFor_10 rfl rfl ?_
      obtain ⟨v1, D1, e1, h⟩ := bI_o h
      refine k_cV (d' := 7) (pc' := 14) [mI x1, mI x3] [] (c_X0_whiteOf (d := 7) (Nat.le_refl _) e1) cw_X0_146 kc_0 w_544 w_545 dX0_distanceFor_11 rfl (by omega) rfl rfl (by decide) sk_22 rfl rfl (by decide) (by decide) ?_
      refine j_iload_n (pc' := 15) dX0_distanceFor_14 rfl rfl ?_
      obtain ⟨q2, h⟩ := ck_o h
      obtain ⟨q3, h⟩ := ck_o h
      refine j_icmp_ge (tgt := 24) (pc' := 18) dX0_distanceFor_15 rfl rfl q2 q3 (fun b2 => ?_) (fun b2 => ?_)
      · replace h := ite_t b2 h
        refine j_iload_n (pc' := 25) dX0_distanceFor_24 rfl rfl ?_
        exact j_iret dX0_distanceFor_25 rfl (by decide) (by decide) (rI_of h)
      · replace h := ite_f b2 h
        refine j_iinc (pc' := 21) (z' := (x3 + 1)) (ls' := [some (mR 22), some (mI x1), some (mI x2), some (mI (x3 + 1))]) dX0_distanceFor_18 rfl rfl rfl (by decide) rfl ?_
        refine j_goto (tgt := 2) dX0_distanceFor_21 rfl ?_
        exact j_wk (j_widen (ce := 0) (ke := 0) (by decide) (by decide) (ih h)) (And.intro rfl (And.intro rfl (And.intro rfl (And.intro rfl trivial))))
theorem c_X0_distanceFor_e {Ω : mO} {d : Nat} (hd : 8 ≤ d) {r : Int × mD} {x1 x2 : Int} {D : mD} (h : F_X0_distanceFor x1 x2 D = some r) : J Ω M_X0_distanceFor d 0 0 (rI r.1 r.2) 0 [some (mR 22), some (mI x1), some (mI x2), none] [] (SK, D, false) 0 0 := by
  rw [F_X0_distanceFor] at h
  refine j_iconst (pc' := 1) dX0_distanceFor_0 rfl ?_
  refine j_istore_n (pc' := 2) (ls' := [some (mR 22), some (mI x1), some (mI x2), some (mI 0)]) dX0_distanceFor_1 rfl (by decide) rfl ?_
  exact j_wk (j_widen (ce := 0) (ke := 0) (by decide) (by decide) (c_X0_distanceFor_L2 hd _ h)) (And.intro rfl (And.intro rfl (And.intro rfl (And.intro rfl trivial))))
theorem c_X0_distanceFor {d : Nat} (hd : 8 ≤ d) {x1 x2 : Int} {D D' : mD} {v : Int} (h : F_X0_distanceFor x1 x2 D = some (v, D')) : CM d 0 0 M_X0_distanceFor [mR 22, mI x1, mI x2] (SK, D, false) (rI v D') := CM.intro pn_X0 rfl rfl (Nat.le_of_ble_eq_true rfl) (fun _ => c_X0_distanceFor_e hd h)
theorem c_X0_lackingBy_L29 {Ω : mO} {d : Nat} (hd : 9 ≤ d) {r : Int × mD} {x1 x2 : Int} : ∀ (n : Nat) {x3 x4 : Int} {D : mD}, F_X0_lackingBy_L29 x1 x2 n x3 x4 D = some r → J Ω M_X0_lackingBy d 0 0 (rI r.1 r.2) 29 [some (mR 22), some (mI x1), some (mI x2), some (mI x3), some (mI x4)] [] (SK, D, false) 0 0 := by
  intro n
  induction n with
  | zero => intro x3 x4 D h; exact absurd (show (none : Option (Int × mD)) = some r from h) nofun
  | succ n ih =>
    intro x3 x4 D h
    rw [F_X0_lackingBy_L29] at h
    refine j_iload (pc' := 31) dX0_lackingBy_29 rfl rfl ?_
    refine j_iload_n (pc' := 32) dX0_lackingBy_31 rfl rfl ?_
    obtain ⟨q1, h⟩ := ck_o h
    obtain ⟨q2, h⟩ := ck_o h
    refine j_icmp_ge (tgt := 67) (pc' := 35) dX0_lackingBy_32 rfl rfl q1 q2 (fun b1 => ?_) (fun b1 => ?_)
    · replace h := ite_t b1 h
      refine j_iload_n (pc' := 68) dX0_lackingBy_67 rfl rfl ?_
      exact j_iret dX0_lackingBy_68 rfl (by decide) (by decide) (rI_of h)
    · replace h := ite_f b1 h
      refine j_iload_n (pc' := 36) dX0_lackingBy_35 rfl rfl ?_
      refine j_aload_n (pc' := 37) dX0_lackingBy_36 rfl rfl ?_
      refine j_iload (pc' := 39) dX0_lackingBy_37 rfl rfl ?_
      obtain ⟨v1, D1, e1, h⟩ := bI_o h
      refine k_cV (d' := 1) (pc' := 42) [mI x4] [mI x3] (c_X0_widthOf (d := 1) (Nat.le_refl _) e1) cw_X0_58 kc_0 w_475 w_476 dX0_lackingBy_39 rfl (by omega) rfl rfl (by decide) sk_22 rfl rfl (by decide) (by decide) ?_
      refine j_iadd (pc' := 43) dX0_lackingBy_42 rfl ?_
      refine j_istore_n (pc' := 44) (ls' := [some (mR 22), some (mI x1), some (mI x2), some (mI (x3 + v1)), some (mI x4)]) dX0_lackingBy_43 rfl (by decide) rfl ?_
      refine j_iload (pc' := 46) dX0_lackingBy_44 rfl rfl ?_
      refine j_if_le (tgt := 61) (pc' := 49) dX0_lackingBy_46 rfl rfl q1 (fun b2 => ?_) (fun b2 => ?_)
      · replace h := ite_t b2 h
        refine j_iinc (pc' := 64) (z' := (x4 + 1)) (ls' := [some (mR 22), some (mI x1), some (mI x2), some (mI (x3 + v1)), some (mI (x4 + 1))]) dX0_lackingBy_61 rfl rfl rfl (by decide) rfl ?_
        refine j_goto (tgt := 29) dX0_lackingBy_64 rfl ?_
        exact j_wk (j_widen (ce := 0) (ke := 0) (by decide) (by decide) (ih h)) (And.intro rfl (And.intro rfl (And.intro rfl (And.intro rfl (And.intro rfl trivial)))))
      · replace h := ite_f b2 h
        refine j_iload_n (pc' := 50) dX0_lackingBy_49 rfl rfl ?_
        refine j_aload_n (pc' := 51) dX0_lackingBy_50 rfl rfl ?_
        refine j_iload (pc' := 53) dX0_lackingBy_51 rfl rfl ?_
        refine j_iconst (pc' := 54) dX0_lackingBy_53 rfl ?_
        refine j_isub (pc' := 55) dX0_lackingBy_54 rfl ?_
        refine j_iload_n (pc' := 56) dX0_lackingBy_55 rfl rfl ?_
        obtain ⟨v2, D2, e2, h⟩ := bI_o h
        refine k_cV (d' := 8) (pc' := 59) [mI (x4 - 1), mI x1] [mI (x3 + v1)] (c_X0_distanceFor (d := 8) (Nat.le_refl _) e2) cw_X0_149 kc_0 w_1302 ws_36 dX0_lackingBy_56 rfl (by omega) rfl rfl (by decide) sk_22 rfl rfl (by decide) (by decide) ?_
        refine j_iadd (pc' := 60) dX0_lackingBy_59 rfl ?_
        refine j_istore_n (pc' := 61) (ls' := [some (mR 22), some (mI x1), some (mI x2), some (mI ((x3 + v1) + v2)), some (mI x4)]) dX0_lackingBy_60 rfl (by decide) rfl ?_
        refine j_iinc (pc' := 64) (z' := (x4 + 1)) (ls' := [some (mR 22), some (mI x1), some (mI x2), some (mI ((x3 + v1) + v2)), some (mI (x4 + 1))]) dX0_lackingBy_61 rfl rfl rfl (by decide) rfl ?_
        refine j_goto (tgt := 29) dX0_lackingBy_64 rfl ?_
        exact j_wk (j_widen (ce := 0) (ke := 0) (by decide) (by decide) (ih h)) (And.intro rfl (And.intro rfl (And.intro rfl (And.intro rfl (And.intro rfl trivial)))))
theorem c_X0_lackingBy_e {Ω : mO} {d : Nat} (hd : 9 ≤ d) {r : Int × mD} {x1 x2 : Int} {D : mD} (h : F_X0_lackingBy x1 x2 D = some r) : J Ω M_X0_lackingBy d 0 0 (rI r.1 r.2) 0 [some (mR 22), some (mI x1), some (mI x2), none, none] [] (SK, D, false) 0 0 := by
  rw [F_X0_lackingBy] at h
  refine j_iconst (pc' := 1) dX0_lackingBy_0 rfl ?_
  refine j_aload_n (pc' := 2) dX0_lackingBy_1 rfl rfl ?_
  refine k_getR (pc' := 5) (sl := 0) (r := 3) kc_0 w_262 (Or.inl rfl) (by decide) dX0_lackingBy_2 rfl (by decide) sk_22 (by decide) rfl (by decide) ?_
  refine k_getI (pc' := 8) (sl := 8) (z := D 3 8) kc_6 w_102 (by decide) dX0_lackingBy_5 rfl (by decide) sk_3 (by decide) rfl rfl ?_
  refine j_imul (pc' := 9) dX0_lackingBy_8 rfl ?_
  refine j_aload_n (pc' := 10) dX0_lackingBy_9 rfl rfl ?_
  refine k_getR (pc' := 13) (sl := 2) (r := 17) kc_0 w_264 (Or.inl rfl) (by decide) dX0_lackingBy_10 rfl (by decide) sk_22 (by decide) rfl (by decide) ?_
  refine k_getI (pc' := 16) (sl := 5) (z := D 17 5) kc_9 w_222 (by decide) dX0_lackingBy_13 rfl (by decide) sk_17 (by decide) rfl rfl ?_
  refine j_iadd (pc' := 17) dX0_lackingBy_16 rfl ?_
  refine j_aload_n (pc' := 18) dX0_lackingBy_17 rfl rfl ?_
  refine k_getR (pc' := 21) (sl := 0) (r := 3) kc_0 w_262 (Or.inl rfl) (by decide) dX0_lackingBy_18 rfl (by decide) sk_22 (by decide) rfl (by decide) ?_
  refine k_getI (pc' := 24) (sl := 7) (z := D 3 7) kc_6 w_98 (by decide) dX0_lackingBy_21 rfl (by decide) sk_3 (by decide) rfl rfl ?_
  refine j_isub (pc' := 25) dX0_lackingBy_24 rfl ?_
  refine j_istore_n (pc' := 26) (ls' := [some (mR 22), some (mI x1), some (mI x2), some (mI (((2 * (D 3 8)) + (D 17 5)) - (D 3 7))), none]) dX0_lackingBy_25 rfl (by decide) rfl ?_
  refine j_iconst (pc' := 27) dX0_lackingBy_26 rfl ?_
  refine j_istore (pc' := 29) (ls' := [some (mR 22), some (mI x1), some (mI x2), some (mI (((2 * (D 3 8)) + (D 17 5)) - (D 3 7))), some (mI 0)]) dX0_lackingBy_27 rfl (by decide) rfl ?_
  exact j_wk (j_widen (ce := 0) (ke := 0) (by decide) (by decide) (c_X0_lackingBy_L29 hd _ h)) (And.intro rfl (And.intro rfl (And.intro rfl (And.intro rfl (And.intro rfl trivial)))))
theorem c_X0_lackingBy {d : Nat} (hd : 9 ≤ d) {x1 x2 : Int} {D D' : mD} {v : Int} (h : F_X0_lackingBy x1 x2 D = some (v, D')) : CM d 0 0 M_X0_lackingBy [mR 22, mI x1, mI x2] (SK, D, false) (rI v D') := CM.intro pn_X0 rfl rfl (Nat.le_of_ble_eq_true rfl) (fun _ => c_X0_lackingBy_e hd h)
theorem c_X0_inkAhead_L48 {Ω : mO} {d : Nat} (hd : 6 ≤ d) {r : Int × mD} {K13 : Int → Int → Int → mD → RI} {x1 x3 x4 x5 x6 : Int} (hK13 : ∀ {x2 x3 x4 : Int} {D : mD}, K13 x2 x3 x4 D = some r → J Ω M_X0_inkAhead d 0 0 (rI r.1 r.2) 13 [some (mR 22), some (mI x1), some (mI x2), some (mI x3), some (mI x4), none, none, none, none, none] [] (SK, D, false) 0 0) : ∀ (n : Nat) {x2 x7 : Int} {D : mD}, F_X0_inkAhead_L48 K13 x1 x3 x4 x5 x6 n x2 x7 D = some r → J Ω M_X0_inkAhead d 0 0 (rI r.1 r.2) 48 [some (mR 22), some (mI x1), some (mI x2), some (mI x3), some (mI x4), some (mI x5), some (mI x6), some (mI x7), none, none] [] (SK, D, false) 0 0 := by
  intro n
  induction n with
  | zero => intro x2 x7 D h; exact absurd (show (none : Option (Int × mD)) = some r from h) nofun
  | succ n ih =>
    intro x2 x7 D h
    rw [F_X0_inkAhead_L48] at h
    refine j_iload (pc' := 50) dX0_inkAhead_48 rfl rfl ?_
    refine j_iconst (pc' := 51) dX0_inkAhead_50 rfl ?_
    obtain ⟨q1, h⟩ := ck_o h
    refine j_icmp_ge (tgt := 109) (pc' := 54) dX0_inkAhead_51 rfl rfl q1 (by decide) (fun b1 => ?_) (fun b1 => ?_)
    · replace h := ite_t b1 h
      refine j_iload_n (pc' := 110) dX0_inkAhead_109 rfl rfl ?_
      refine j_iload (pc' := 112) dX0_inkAhead_110 rfl rfl ?_
      refine j_iload (pc' := 114) dX0_inkAhead_112 rfl rfl ?_
      refine j_bipush (pc' := 116) dX0_inkAhead_114 rfl rfl ?_
      obtain ⟨q2, h⟩ := ck_o h
      obtain ⟨q3, h⟩ := ck_o h
      have hj : J Ω M_X0_inkAhead d 0 0 (rI r.1 r.2) 133 [some (mR 22), some (mI x1), some (mI x2), none, some (mI x4), none, none, none, none, none] [mI (if 13 ≤ x4 then (0 : Int) else (D 18 x4)), mI x6, mI x3] (SK, D, false) 0 0 := by
        refine j_iadd (pc' := 134) dX0_inkAhead_133 rfl ?_
        refine j_iadd (pc' := 135) dX0_inkAhead_134 rfl ?_
        refine j_istore_n (pc' := 136) (ls' := [some (mR 22), some (mI x1), some (mI x2), some (mI (x3 + (x6 + (if 13 ≤ x4 then (0 : Int) else (D 18 x4))))), some (mI x4), none, none, none, none, none]) dX0_inkAhead_135 rfl (by decide) rfl ?_
        refine j_iinc (pc' := 139) (z' := (x4 + 1)) (ls' := [some (mR 22), some (mI x1), some (mI x2), some (mI (x3 + (x6 + (if 13 ≤ x4 then (0 : Int) else (D 18 x4))))), some (mI (x4 + 1)), none, none, none, none, none]) dX0_inkAhead_136 rfl rfl rfl (by decide) rfl ?_
        refine j_goto (tgt := 13) dX0_inkAhead_139 rfl ?_
        exact j_wk (j_widen (ce := 0) (ke := 0) (by decide) (by decide) (hK13 h)) (And.intro rfl (And.intro rfl (And.intro rfl (And.intro rfl (And.intro rfl trivial)))))
      refine j_icmp_ge (tgt := 132) (pc' := 119) dX0_inkAhead_116 rfl rfl q2 (by decide) (fun b2 => ?_) (fun b2 => ?_)
      · refine j_iconst (pc' := 133) dX0_inkAhead_132 rfl ?_
        have hj := hj
        try simp only [if_pos b2] at hj
        exact j_wk hj (And.intro rfl (And.intro rfl (And.intro rfl (And.intro rfl trivial))))
      · refine j_aload_n (pc' := 120) dX0_inkAhead_119 rfl rfl ?_
        refine k_getR (pc' := 123) (sl := 2) (r := 17) kc_0 w_264 (Or.inl rfl) (by decide) dX0_inkAhead_120 rfl (by decide) sk_22 (by decide) rfl (by decide) ?_
        refine k_getR (pc' := 126) (sl := 0) (r := 18) kc_9 w_210 (Or.inl rfl) (by decide) dX0_inkAhead_123 rfl (by decide) sk_17 (by decide) rfl (by decide) ?_
        refine j_iload (pc' := 128) dX0_inkAhead_126 rfl rfl ?_
        refine k_iald (pc' := 129) (z := D 18 x4) dX0_inkAhead_128 rfl (by decide) sk_18 (by decide) (q3 b2).1 (q3 b2).2 rfl ?_
        refine j_goto (tgt := 133) dX0_inkAhead_129 rfl ?_
        have hj := hj
        try simp only [if_neg b2] at hj
        exact j_wk hj (And.intro rfl (And.intro rfl (And.intro rfl (And.intro rfl trivial))))
    · replace h := ite_f b1 h
      refine j_iload_n (pc' := 55) dX0_inkAhead_54 rfl rfl ?_
      refine j_aload_n (pc' := 56) dX0_inkAhead_55 rfl rfl ?_
      refine k_getR (pc' := 59) (sl := 0) (r := 3) kc_0 w_262 (Or.inl rfl) (by decide) dX0_inkAhead_56 rfl (by decide) sk_22 (by decide) rfl (by decide) ?_
      refine j_iload (pc' := 61) dX0_inkAhead_59 rfl rfl ?_
      refine j_iload (pc' := 63) dX0_inkAhead_61 rfl rfl ?_
      obtain ⟨v1, D1, e1, h⟩ := bI_o h
      refine k_cV (d' := 1) (pc' := 66) [mI x5, mI x7] [mI x3] (c_X6_leftOf (d := 1) (Nat.le_refl _) shop_3 e1) cw_X0_90 kc_6 w_556 w_557 dX0_inkAhead_63 rfl (by omega) rfl rfl (by decide) sk_3 rfl rfl (by decide) (by decide) ?_
      refine j_iadd (pc' := 67) dX0_inkAhead_66 rfl ?_
      refine j_istore (pc' := 69) (ls' := [some (mR 22), some (mI x1), some (mI x2), some (mI x3), some (mI x4), some (mI x5), some (mI x6), some (mI x7), some (mI (x3 + v1)), none]) dX0_inkAhead_67 rfl (by decide) rfl ?_
      refine j_iload_n (pc' := 70) dX0_inkAhead_69 rfl rfl ?_
      refine j_iload_n (pc' := 71) dX0_inkAhead_70 rfl rfl ?_
      refine j_iload (pc' := 73) dX0_inkAhead_71 rfl rfl ?_
      refine j_iadd (pc' := 74) dX0_inkAhead_73 rfl ?_
      refine j_aload_n (pc' := 75) dX0_inkAhead_74 rfl rfl ?_
      refine k_getR (pc' := 78) (sl := 0) (r := 3) kc_0 w_262 (Or.inl rfl) (by decide) dX0_inkAhead_75 rfl (by decide) sk_22 (by decide) rfl (by decide) ?_
      refine j_iload (pc' := 80) dX0_inkAhead_78 rfl rfl ?_
      refine j_iload (pc' := 82) dX0_inkAhead_80 rfl rfl ?_
      obtain ⟨v2, D2, e2, h⟩ := bI_o h
      refine k_cV (d' := 1) (pc' := 85) [mI x5, mI x7] [mI (x3 + x6), mI x1] (c_X6_rightOf (d := 1) (Nat.le_refl _) shop_3 e2) cw_X0_87 kc_6 w_552 w_553 dX0_inkAhead_82 rfl (by omega) rfl rfl (by decide) sk_3 rfl rfl (by decide) (by decide) ?_
      refine j_isub (pc' := 86) dX0_inkAhead_85 rfl ?_
      obtain ⟨q4, h⟩ := ck_o h
      obtain ⟨q5, h⟩ := ck_o h
      refine k_min (pc' := 89) cw_X0_96 w_560 dX0_inkAhead_86 rfl (by omega) q4 q5 rfl (by decide) (by decide) ?_
      refine j_istore (pc' := 91) (ls' := [some (mR 22), some (mI x1), some (mI x2), some (mI x3), some (mI x4), some (mI x5), some (mI x6), some (mI x7), some (mI (x3 + v1)), some (mI (min x1 ((x3 + x6) - v2)))]) dX0_inkAhead_89 rfl (by decide) rfl ?_
      refine j_iload_n (pc' := 92) dX0_inkAhead_91 rfl rfl ?_
      refine j_iconst (pc' := 93) dX0_inkAhead_92 rfl ?_
      refine j_iload (pc' := 95) dX0_inkAhead_93 rfl rfl ?_
      refine j_iload (pc' := 97) dX0_inkAhead_95 rfl rfl ?_
      refine j_isub (pc' := 98) dX0_inkAhead_97 rfl ?_
      obtain ⟨q6, h⟩ := ck_o h
      refine k_max (pc' := 101) cw_X0_81 w_541 dX0_inkAhead_98 rfl (by omega) (by decide) q6 rfl (by decide) (by decide) ?_
      refine j_iadd (pc' := 102) dX0_inkAhead_101 rfl ?_
      refine j_istore_n (pc' := 103) (ls' := [some (mR 22), some (mI x1), some (mI (x2 + (max 0 ((min x1 ((x3 + x6) - v2)) - (x3 + v1))))), some (mI x3), some (mI x4), some (mI x5), some (mI x6), some (mI x7), some (mI (x3 + v1)), some (mI (min x1 ((x3 + x6) - v2)))]) dX0_inkAhead_102 rfl (by decide) rfl ?_
      refine j_iinc (pc' := 106) (z' := (x7 + 1)) (ls' := [some (mR 22), some (mI x1), some (mI (x2 + (max 0 ((min x1 ((x3 + x6) - v2)) - (x3 + v1))))), some (mI x3), some (mI x4), some (mI x5), some (mI x6), some (mI (x7 + 1)), some (mI (x3 + v1)), some (mI (min x1 ((x3 + x6) - v2)))]) dX0_inkAhead_103 rfl rfl rfl (by decide) rfl ?_
      refine j_goto (tgt := 48) dX0_inkAhead_106 rfl ?_
      exact j_wk (j_widen (ce := 0) (ke := 0) (by decide) (by decide) (ih h)) (And.intro rfl (And.intro rfl (And.intro rfl (And.intro rfl (And.intro rfl (And.intro rfl (And.intro rfl (And.intro rfl trivial))))))))
theorem c_X0_inkAhead_L13 {Ω : mO} {d : Nat} (hd : 6 ≤ d) {r : Int × mD} {x1 : Int} : ∀ (n : Nat) {x2 x3 x4 : Int} {D : mD}, F_X0_inkAhead_L13 x1 n x2 x3 x4 D = some r → J Ω M_X0_inkAhead d 0 0 (rI r.1 r.2) 13 [some (mR 22), some (mI x1), some (mI x2), some (mI x3), some (mI x4), none, none, none, none, none] [] (SK, D, false) 0 0 := by
  intro n
  induction n with
  | zero => intro x2 x3 x4 D h; exact absurd (show (none : Option (Int × mD)) = some r from h) nofun
  | succ n ih =>
    intro x2 x3 x4 D h
    rw [F_X0_inkAhead_L13] at h
    refine j_iload (pc' := 15) dX0_inkAhead_13 rfl rfl ?_
    refine j_aload_n (pc' := 16) dX0_inkAhead_15 rfl rfl ?_
    refine k_getR (pc' := 19) (sl := 0) (r := 3) kc_0 w_262 (Or.inl rfl) (by decide) dX0_inkAhead_16 rfl (by decide) sk_22 (by decide) rfl (by decide) ?_
    refine k_getI (pc' := 22) (sl := 5) (z := D 3 5) kc_6 w_89 (by decide) dX0_inkAhead_19 rfl (by decide) sk_3 (by decide) rfl rfl ?_
    obtain ⟨q1, h⟩ := ck_o h
    obtain ⟨q2, h⟩ := ck_o h
    refine j_icmp_ge (tgt := 142) (pc' := 25) dX0_inkAhead_22 rfl rfl q1 q2 (fun b1 => ?_) (fun b1 => ?_)
    · replace h := ite_t b1 h
      refine j_iload_n (pc' := 143) dX0_inkAhead_142 rfl rfl ?_
      exact j_iret dX0_inkAhead_143 rfl (by decide) (by decide) (rI_of h)
    · replace h := ite_f b1 h
      refine j_aload_n (pc' := 26) dX0_inkAhead_25 rfl rfl ?_
      refine k_getR (pc' := 29) (sl := 0) (r := 3) kc_0 w_262 (Or.inl rfl) (by decide) dX0_inkAhead_26 rfl (by decide) sk_22 (by decide) rfl (by decide) ?_
      refine k_getR (pc' := 32) (sl := 6) (r := 8) kc_6 w_93 (Or.inl rfl) (by decide) dX0_inkAhead_29 rfl (by decide) sk_3 (by decide) rfl (by decide) ?_
      refine j_iload (pc' := 34) dX0_inkAhead_32 rfl rfl ?_
      obtain ⟨q3, h⟩ := ck_o h
      refine k_iald (pc' := 35) (z := D 8 x4) dX0_inkAhead_34 rfl (by decide) sk_8 (by decide) q3.1 q3.2 rfl ?_
      refine j_istore (pc' := 37) (ls' := [some (mR 22), some (mI x1), some (mI x2), some (mI x3), some (mI x4), some (mI (D 8 x4)), none, none, none, none]) dX0_inkAhead_35 rfl (by decide) rfl ?_
      refine j_aload_n (pc' := 38) dX0_inkAhead_37 rfl rfl ?_
      refine j_iload (pc' := 40) dX0_inkAhead_38 rfl rfl ?_
      obtain ⟨v1, D1, e1, h⟩ := bI_o h
      refine k_cV (d' := 1) (pc' := 43) [mI x4] [] (c_X0_widthOf (d := 1) (Nat.le_refl _) e1) cw_X0_58 kc_0 w_475 w_476 dX0_inkAhead_40 rfl (by omega) rfl rfl (by decide) sk_22 rfl rfl (by decide) (by decide) ?_
      refine j_istore (pc' := 45) (ls' := [some (mR 22), some (mI x1), some (mI x2), some (mI x3), some (mI x4), some (mI (D 8 x4)), some (mI v1), none, none, none]) dX0_inkAhead_43 rfl (by decide) rfl ?_
      refine j_iconst (pc' := 46) dX0_inkAhead_45 rfl ?_
      refine j_istore (pc' := 48) (ls' := [some (mR 22), some (mI x1), some (mI x2), some (mI x3), some (mI x4), some (mI (D 8 x4)), some (mI v1), some (mI 0), none, none]) dX0_inkAhead_46 rfl (by decide) rfl ?_
      exact j_wk (j_widen (ce := 0) (ke := 0) (by decide) (by decide) (c_X0_inkAhead_L48 hd ih _ h)) (And.intro rfl (And.intro rfl (And.intro rfl (And.intro rfl (And.intro rfl (And.intro rfl (And.intro rfl (And.intro rfl trivial))))))))
theorem c_X0_inkAhead_e {Ω : mO} {d : Nat} (hd : 6 ≤ d) {r : Int × mD} {x1 : Int} {D : mD} (h : F_X0_inkAhead x1 D = some r) : J Ω M_X0_inkAhead d 0 0 (rI r.1 r.2) 0 [some (mR 22), some (mI x1), none, none, none, none, none, none, none, none] [] (SK, D, false) 0 0 := by
  rw [F_X0_inkAhead] at h
  refine j_iconst (pc' := 1) dX0_inkAhead_0 rfl ?_
  refine j_istore_n (pc' := 2) (ls' := [some (mR 22), some (mI x1), some (mI 0), none, none, none, none, none, none, none]) dX0_inkAhead_1 rfl (by decide) rfl ?_
  refine j_aload_n (pc' := 3) dX0_inkAhead_2 rfl rfl ?_
  refine k_getR (pc' := 6) (sl := 0) (r := 3) kc_0 w_262 (Or.inl rfl) (by decide) dX0_inkAhead_3 rfl (by decide) sk_22 (by decide) rfl (by decide) ?_
  refine k_getI (pc' := 9) (sl := 8) (z := D 3 8) kc_6 w_102 (by decide) dX0_inkAhead_6 rfl (by decide) sk_3 (by decide) rfl rfl ?_
  refine j_istore_n (pc' := 10) (ls' := [some (mR 22), some (mI x1), some (mI 0), some (mI (D 3 8)), none, none, none, none, none, none]) dX0_inkAhead_9 rfl (by decide) rfl ?_
  refine j_iconst (pc' := 11) dX0_inkAhead_10 rfl ?_
  refine j_istore (pc' := 13) (ls' := [some (mR 22), some (mI x1), some (mI 0), some (mI (D 3 8)), some (mI 0), none, none, none, none, none]) dX0_inkAhead_11 rfl (by decide) rfl ?_
  exact j_wk (j_widen (ce := 0) (ke := 0) (by decide) (by decide) (c_X0_inkAhead_L13 hd _ h)) (And.intro rfl (And.intro rfl (And.intro rfl (And.intro rfl (And.intro rfl trivial)))))
theorem c_X0_inkAhead {d : Nat} (hd : 6 ≤ d) {x1 : Int} {D D' : mD} {v : Int} (h : F_X0_inkAhead x1 D = some (v, D')) : CM d 0 0 M_X0_inkAhead [mR 22, mI x1] (SK, D, false) (rI v D') := CM.intro pn_X0 rfl rfl (Nat.le_of_ble_eq_true rfl) (fun _ => c_X0_inkAhead_e hd h)
theorem c_X0_middleHair_L19 {Ω : mO} {d : Nat} (hd : 7 ≤ d) {r : Int × mD} {x2 : Int} : ∀ (n : Nat) {x3 x4 x5 : Int} {D : mD}, F_X0_middleHair_L19 x2 n x3 x4 x5 D = some r → J Ω M_X0_middleHair d 0 0 (rI r.1 r.2) 19 [some (mR 22), none, some (mI x2), some (mI x3), some (mI x4), some (mI x5), none] [] (SK, D, false) 0 0 := by
  intro n
  induction n with
  | zero => intro x3 x4 x5 D h; exact absurd (show (none : Option (Int × mD)) = some r from h) nofun
  | succ n ih =>
    intro x3 x4 x5 D h
    rw [F_X0_middleHair_L19] at h
    refine j_iload (pc' := 21) dX0_middleHair_19 rfl rfl ?_
    refine j_bipush (pc' := 23) dX0_middleHair_21 rfl rfl ?_
    obtain ⟨q1, h⟩ := ck_o h
    refine j_icmp_gt (tgt := 70) (pc' := 26) dX0_middleHair_23 rfl rfl q1 (by decide) (fun b1 => ?_) (fun b1 => ?_)
    · replace h := ite_t b1 h
      refine j_iload (pc' := 72) dX0_middleHair_70 rfl rfl ?_
      exact j_iret dX0_middleHair_72 rfl (by decide) (by decide) (rI_of h)
    · replace h := ite_f b1 h
      refine j_iload (pc' := 28) dX0_middleHair_26 rfl rfl ?_
      refine j_iload_n (pc' := 29) dX0_middleHair_28 rfl rfl ?_
      refine j_isub (pc' := 30) dX0_middleHair_29 rfl ?_
      refine j_iconst (pc' := 31) dX0_middleHair_30 rfl ?_
      obtain ⟨q2, h⟩ := ck_o h
      refine j_icmp_le (tgt := 70) (pc' := 34) dX0_middleHair_31 rfl rfl q2 (by decide) (fun b2 => ?_) (fun b2 => ?_)
      · replace h := ite_t b2 h
        refine j_iload (pc' := 72) dX0_middleHair_70 rfl rfl ?_
        exact j_iret dX0_middleHair_72 rfl (by decide) (by decide) (rI_of h)
      · replace h := ite_f b2 h
        refine j_iload_n (pc' := 35) dX0_middleHair_34 rfl rfl ?_
        refine j_iload (pc' := 37) dX0_middleHair_35 rfl rfl ?_
        refine j_iadd (pc' := 38) dX0_middleHair_37 rfl ?_
        refine j_iconst (pc' := 39) dX0_middleHair_38 rfl ?_
        obtain ⟨q3, h⟩ := ck_o h
        obtain ⟨q4, h⟩ := ck_o h
        refine j_idiv (pc' := 40) dX0_middleHair_39 rfl q3 (by decide) q4 (by decide) ?_
        refine j_istore (pc' := 42) (ls' := [some (mR 22), none, some (mI x2), some (mI x3), some (mI x4), some (mI x5), some (mI ((x3 + x4) / 2))]) dX0_middleHair_40 rfl (by decide) rfl ?_
        refine j_iconst (pc' := 43) dX0_middleHair_42 rfl ?_
        refine j_aload_n (pc' := 44) dX0_middleHair_43 rfl rfl ?_
        refine j_iload (pc' := 46) dX0_middleHair_44 rfl rfl ?_
        obtain ⟨v1, D1, e1, h⟩ := bI_o h
        refine k_cV (d' := 6) (pc' := 49) [mI ((x3 + x4) / 2)] [mI 2] (c_X0_inkAhead (d := 6) (Nat.le_refl _) e1) cw_X0_152 kc_0 w_631 ws_6 dX0_middleHair_46 rfl (by omega) rfl rfl (by decide) sk_22 rfl rfl (by decide) (by decide) ?_
        refine j_imul (pc' := 50) dX0_middleHair_49 rfl ?_
        refine j_iload_n (pc' := 51) dX0_middleHair_50 rfl rfl ?_
        obtain ⟨q5, h⟩ := ck_o h
        obtain ⟨q6, h⟩ := ck_o h
        have hj : J Ω M_X0_middleHair d 0 0 (rI r.1 r.2) 64 [some (mR 22), none, some (mI x2), some (mI (if (2 * v1) < x2 then ((x3 + x4) / 2) else x3)), some (mI (if (2 * v1) < x2 then x4 else ((x3 + x4) / 2))), some (mI x5), none] [] (SK, D1, false) 0 0 := by
          refine j_iinc (pc' := 67) (z' := (x5 + 1)) (ls' := [some (mR 22), none, some (mI x2), some (mI (if (2 * v1) < x2 then ((x3 + x4) / 2) else x3)), some (mI (if (2 * v1) < x2 then x4 else ((x3 + x4) / 2))), some (mI (x5 + 1)), none]) dX0_middleHair_64 rfl rfl rfl (by decide) rfl ?_
          refine j_goto (tgt := 19) dX0_middleHair_67 rfl ?_
          exact j_wk (j_widen (ce := 0) (ke := 0) (by decide) (by decide) (ih h)) (And.intro rfl (And.intro rfl (And.intro rfl (And.intro rfl (And.intro rfl trivial)))))
        refine j_icmp_lt (tgt := 61) (pc' := 54) dX0_middleHair_51 rfl rfl q5 q6 (fun b3 => ?_) (fun b3 => ?_)
        · refine j_iload (pc' := 63) dX0_middleHair_61 rfl rfl ?_
          refine j_istore_n (pc' := 64) (ls' := [some (mR 22), none, some (mI x2), some (mI ((x3 + x4) / 2)), some (mI x4), some (mI x5), some (mI ((x3 + x4) / 2))]) dX0_middleHair_63 rfl (by decide) rfl ?_
          have hj := hj
          try simp only [if_pos b3] at hj
          exact j_wk hj (And.intro rfl (And.intro rfl (And.intro rfl (And.intro rfl (And.intro rfl trivial)))))
        · refine j_iload (pc' := 56) dX0_middleHair_54 rfl rfl ?_
          refine j_istore (pc' := 58) (ls' := [some (mR 22), none, some (mI x2), some (mI x3), some (mI ((x3 + x4) / 2)), some (mI x5), some (mI ((x3 + x4) / 2))]) dX0_middleHair_56 rfl (by decide) rfl ?_
          refine j_goto (tgt := 64) dX0_middleHair_58 rfl ?_
          have hj := hj
          try simp only [if_neg b3] at hj
          exact j_wk hj (And.intro rfl (And.intro rfl (And.intro rfl (And.intro rfl (And.intro rfl trivial)))))
theorem c_X0_middleHair_e {Ω : mO} {d : Nat} (hd : 7 ≤ d) {r : Int × mD} {D : mD} (h : F_X0_middleHair D = some r) : J Ω M_X0_middleHair d 0 0 (rI r.1 r.2) 0 [some (mR 22), none, none, none, none, none, none] [] (SK, D, false) 0 0 := by
  rw [F_X0_middleHair] at h
  refine j_aload_n (pc' := 1) dX0_middleHair_0 rfl rfl ?_
  obtain ⟨v1, D1, e1, h⟩ := bI_o h
  refine k_cV (d' := 3) (pc' := 4) [] [] (c_X0_endOfWord (d := 3) (Nat.le_refl _) e1) cw_X0_71 kc_0 w_467 w_468 dX0_middleHair_1 rfl (by omega) rfl rfl (by decide) sk_22 rfl rfl (by decide) (by decide) ?_
  refine j_istore_n (pc' := 5) (ls' := [some (mR 22), some (mI v1), none, none, none, none, none]) dX0_middleHair_4 rfl (by decide) rfl ?_
  refine j_aload_n (pc' := 6) dX0_middleHair_5 rfl rfl ?_
  refine j_iload_n (pc' := 7) dX0_middleHair_6 rfl rfl ?_
  obtain ⟨v2, D2, e2, h⟩ := bI_o h
  refine k_cV (d' := 6) (pc' := 10) [mI v1] [] (c_X0_inkAhead (d := 6) (Nat.le_refl _) e2) cw_X0_152 kc_0 w_631 ws_6 dX0_middleHair_7 rfl (by omega) rfl rfl (by decide) sk_22 rfl rfl (by decide) (by decide) ?_
  refine j_istore_n (pc' := 11) (ls' := [some (mR 22), some (mI v1), some (mI v2), none, none, none, none]) dX0_middleHair_10 rfl (by decide) rfl ?_
  refine j_iconst (pc' := 12) dX0_middleHair_11 rfl ?_
  refine j_istore_n (pc' := 13) (ls' := [some (mR 22), some (mI v1), some (mI v2), some (mI (-1)), none, none, none]) dX0_middleHair_12 rfl (by decide) rfl ?_
  refine j_iload_n (pc' := 14) dX0_middleHair_13 rfl rfl ?_
  refine j_istore (pc' := 16) (ls' := [some (mR 22), some (mI v1), some (mI v2), some (mI (-1)), some (mI v1), none, none]) dX0_middleHair_14 rfl (by decide) rfl ?_
  refine j_iconst (pc' := 17) dX0_middleHair_16 rfl ?_
  refine j_istore (pc' := 19) (ls' := [some (mR 22), some (mI v1), some (mI v2), some (mI (-1)), some (mI v1), some (mI 0), none]) dX0_middleHair_17 rfl (by decide) rfl ?_
  exact j_wk (j_widen (ce := 0) (ke := 0) (by decide) (by decide) (c_X0_middleHair_L19 hd _ h)) (And.intro rfl (And.intro rfl (And.intro rfl (And.intro rfl (And.intro rfl trivial)))))
theorem c_X0_middleHair {d : Nat} (hd : 7 ≤ d) {D D' : mD} {v : Int} (h : F_X0_middleHair D = some (v, D')) : CM d 0 0 M_X0_middleHair [mR 22] (SK, D, false) (rI v D') := CM.intro pn_X0 rfl rfl (Nat.le_of_ble_eq_true rfl) (fun _ => c_X0_middleHair_e hd h)
theorem c_X0_clearness_e {Ω : mO} {d : Nat} (hd : 7 ≤ d) {r : Int × mD} {x1 x2 : Int} {D : mD} (h : F_X0_clearness x1 x2 D = some r) : J Ω M_X0_clearness d 0 0 (rI r.1 r.2) 0 [some (mR 22), some (mI x1), some (mI x2)] [] (SK, D, false) 0 0 := by
  rw [F_X0_clearness] at h
  refine j_iconst (pc' := 1) dX0_clearness_0 rfl ?_
  refine j_aload_n (pc' := 2) dX0_clearness_1 rfl rfl ?_
  refine k_getR (pc' := 5) (sl := 0) (r := 3) kc_0 w_262 (Or.inl rfl) (by decide) dX0_clearness_2 rfl (by decide) sk_22 (by decide) rfl (by decide) ?_
  refine k_getI (pc' := 8) (sl := 10) (z := D 3 10) kc_6 w_112 (by decide) dX0_clearness_5 rfl (by decide) sk_3 (by decide) rfl rfl ?_
  refine j_aload_n (pc' := 9) dX0_clearness_8 rfl rfl ?_
  refine j_iload_n (pc' := 10) dX0_clearness_9 rfl rfl ?_
  refine j_iload_n (pc' := 11) dX0_clearness_10 rfl rfl ?_
  obtain ⟨v1, D1, e1, h⟩ := bI_o h
  refine k_cV (d' := 6) (pc' := 14) [mI x1, mI x2] [mI (D 3 10), mI 0] (c_X0_fadingAt (d := 6) (Nat.le_refl _) e1) cw_X0_158 kc_0 w_658 w_659 dX0_clearness_11 rfl (by omega) rfl rfl (by decide) sk_22 rfl rfl (by decide) (by decide) ?_
  refine j_isub (pc' := 15) dX0_clearness_14 rfl ?_
  obtain ⟨q1, h⟩ := ck_o h
  refine k_max (pc' := 18) cw_X0_81 w_541 dX0_clearness_15 rfl (by omega) (by decide) q1 rfl (by decide) (by decide) ?_
  exact j_iret dX0_clearness_18 rfl (by decide) (by decide) (rI_of h)
theorem c_X0_clearness {d : Nat} (hd : 7 ≤ d) {x1 x2 : Int} {D D' : mD} {v : Int} (h : F_X0_clearness x1 x2 D = some (v, D')) : CM d 0 0 M_X0_clearness [mR 22, mI x1, mI x2] (SK, D, false) (rI v D') := CM.intro pn_X0 rfl rfl (Nat.le_of_ble_eq_true rfl) (fun _ => c_X0_clearness_e hd h)
theorem c_X0_tightestSpace_L5 {Ω : mO} {d : Nat} (hd : 8 ≤ d) {r : Int × mD} {x1 : Int} : ∀ (n : Nat) {x2 x3 : Int} {D : mD}, F_X0_tightestSpace_L5 x1 n x2 x3 D = some r → J Ω M_X0_tightestSpace d 0 0 (rI r.1 r.2) 5 [some (mR 22), some (mI x1), some (mI x2), some (mI x3)] [] (SK, D, false) 0 0 := by
  intro n
  induction n with
  | zero => intro x2 x3 D h; exact absurd (show (none : Option (Int × mD)) = some r from h) nofun
  | succ n ih =>
    intro x2 x3 D h
    rw [F_X0_tightestSpace_L5] at h
    refine j_iload_n (pc' := 6) dX0_tightestSpace_5 rfl rfl ?_
    refine j_aload_n (pc' := 7) dX0_tightestSpace_6 rfl rfl ?_
    refine k_getR (pc' := 10) (sl := 0) (r := 3) kc_0 w_262 (Or.inl rfl) (by decide) dX0_tightestSpace_7 rfl (by decide) sk_22 (by decide) rfl (by decide) ?_
    obtain ⟨v1, D1, e1, h⟩ := bI_o h
    refine k_cV (d' := 1) (pc' := 13) [] [mI x3] (c_X6_gapCount (d := 1) (Nat.le_refl _) shop_3 e1) cw_X0_143 kc_6 w_537 w_538 dX0_tightestSpace_10 rfl (by omega) rfl rfl (by decide) sk_3 rfl rfl (by decide) (by decide) ?_
    obtain ⟨q1, h⟩ := ck_o h
    obtain ⟨q2, h⟩ := ck_o h
    refine j_icmp_ge (tgt := 42) (pc' := 16) dX0_tightestSpace_13 rfl rfl q1 q2 (fun b1 => ?_) (fun b1 => ?_)
    · replace h := ite_t b1 h
      refine j_iload_n (pc' := 43) dX0_tightestSpace_42 rfl rfl ?_
      exact j_iret dX0_tightestSpace_43 rfl (by decide) (by decide) (rI_of h)
    · replace h := ite_f b1 h
      refine j_iload_n (pc' := 17) dX0_tightestSpace_16 rfl rfl ?_
      refine j_aload_n (pc' := 18) dX0_tightestSpace_17 rfl rfl ?_
      refine j_iload_n (pc' := 19) dX0_tightestSpace_18 rfl rfl ?_
      refine j_aload_n (pc' := 20) dX0_tightestSpace_19 rfl rfl ?_
      refine k_getR (pc' := 23) (sl := 2) (r := 17) kc_0 w_264 (Or.inl rfl) (by decide) dX0_tightestSpace_20 rfl (by decide) sk_22 (by decide) rfl (by decide) ?_
      refine k_getR (pc' := 26) (sl := 0) (r := 18) kc_9 w_210 (Or.inl rfl) (by decide) dX0_tightestSpace_23 rfl (by decide) sk_17 (by decide) rfl (by decide) ?_
      refine j_iload_n (pc' := 27) dX0_tightestSpace_26 rfl rfl ?_
      obtain ⟨q3, h⟩ := ck_o h
      refine k_iald (pc' := 28) (z := D1 18 x3) dX0_tightestSpace_27 rfl (by decide) sk_18 (by decide) q3.1 q3.2 rfl ?_
      refine j_iload_n (pc' := 29) dX0_tightestSpace_28 rfl rfl ?_
      obtain ⟨v2, D2, e2, h⟩ := bI_o h
      refine k_cV (d' := 7) (pc' := 32) [mI x3, mI (D1 18 x3), mI x1] [mI x2] (c_X0_leastSpace (d := 7) (Nat.le_refl _) e2) cw_X0_161 kc_0 w_646 w_647 dX0_tightestSpace_29 rfl (by omega) rfl rfl (by decide) sk_22 rfl rfl (by decide) (by decide) ?_
      obtain ⟨q4, h⟩ := ck_o h
      obtain ⟨q5, h⟩ := ck_o h
      refine k_min (pc' := 35) cw_X0_96 w_560 dX0_tightestSpace_32 rfl (by omega) q4 q5 rfl (by decide) (by decide) ?_
      refine j_istore_n (pc' := 36) (ls' := [some (mR 22), some (mI x1), some (mI (min x2 v2)), some (mI x3)]) dX0_tightestSpace_35 rfl (by decide) rfl ?_
      refine j_iinc (pc' := 39) (z' := (x3 + 1)) (ls' := [some (mR 22), some (mI x1), some (mI (min x2 v2)), some (mI (x3 + 1))]) dX0_tightestSpace_36 rfl rfl rfl (by decide) rfl ?_
      refine j_goto (tgt := 5) dX0_tightestSpace_39 rfl ?_
      exact j_wk (j_widen (ce := 0) (ke := 0) (by decide) (by decide) (ih h)) (And.intro rfl (And.intro rfl (And.intro rfl (And.intro rfl trivial))))
theorem c_X0_tightestSpace_e {Ω : mO} {d : Nat} (hd : 8 ≤ d) {r : Int × mD} {x1 : Int} {D : mD} (h : F_X0_tightestSpace x1 D = some r) : J Ω M_X0_tightestSpace d 0 0 (rI r.1 r.2) 0 [some (mR 22), some (mI x1), none, none] [] (SK, D, false) 0 0 := by
  rw [F_X0_tightestSpace] at h
  refine j_bipush (pc' := 2) dX0_tightestSpace_0 rfl rfl ?_
  refine j_istore_n (pc' := 3) (ls' := [some (mR 22), some (mI x1), some (mI 60), none]) dX0_tightestSpace_2 rfl (by decide) rfl ?_
  refine j_iconst (pc' := 4) dX0_tightestSpace_3 rfl ?_
  refine j_istore_n (pc' := 5) (ls' := [some (mR 22), some (mI x1), some (mI 60), some (mI 0)]) dX0_tightestSpace_4 rfl (by decide) rfl ?_
  exact j_wk (j_widen (ce := 0) (ke := 0) (by decide) (by decide) (c_X0_tightestSpace_L5 hd _ h)) (And.intro rfl (And.intro rfl (And.intro rfl (And.intro rfl trivial))))
theorem c_X0_tightestSpace {d : Nat} (hd : 8 ≤ d) {x1 : Int} {D D' : mD} {v : Int} (h : F_X0_tightestSpace x1 D = some (v, D')) : CM d 0 0 M_X0_tightestSpace [mR 22, mI x1] (SK, D, false) (rI v D') := CM.intro pn_X0 rfl rfl (Nat.le_of_ble_eq_true rfl) (fun _ => c_X0_tightestSpace_e hd h)
theorem c_X0_isRead_e {Ω : mO} {d : Nat} (hd : 8 ≤ d) {r : Int × mD} {x1 x2 x3 : Int} {D : mD} (h : F_X0_isRead x1 x2 x3 D = some r) : J Ω M_X0_isRead d 0 0 (rI r.1 r.2) 0 [some (mR 22), some (mI x1), some (mI x2), some (mI x3)] [] (SK, D, false) 0 0 := by
  rw [F_X0_isRead] at h
  refine j_aload_n (pc' := 1) dX0_isRead_0 rfl rfl ?_
  refine j_iload_n (pc' := 2) dX0_isRead_1 rfl rfl ?_
  refine j_iload_n (pc' := 3) dX0_isRead_2 rfl rfl ?_
  obtain ⟨v1, D1, e1, h⟩ := bI_o h
  refine k_cV (d' := 7) (pc' := 6) [mI x1, mI x2] [] (c_X0_clearness (d := 7) (Nat.le_refl _) e1) cw_X0_164 kc_0 w_654 w_655 dX0_isRead_3 rfl (by omega) rfl rfl (by decide) sk_22 rfl rfl (by decide) (by decide) ?_
  refine j_iload_n (pc' := 7) dX0_isRead_6 rfl rfl ?_
  refine j_imul (pc' := 8) dX0_isRead_7 rfl ?_
  refine j_iload_n (pc' := 9) dX0_isRead_8 rfl rfl ?_
  obtain ⟨q1, h⟩ := ck_o h
  obtain ⟨q2, h⟩ := ck_o h
  have hj : J Ω M_X0_isRead d 0 0 (rI r.1 r.2) 17 [none, none, none, none] [mI (if (v1 * x3) < x1 then (0 : Int) else (1 : Int))] (SK, D1, false) 0 0 := by
    obtain ⟨q3, h⟩ := ck_o h
    exact j_zret dX0_isRead_17 rfl q3 (by decide) (by decide) (rI_of h)
  refine j_icmp_lt (tgt := 16) (pc' := 12) dX0_isRead_9 rfl rfl q1 q2 (fun b1 => ?_) (fun b1 => ?_)
  · refine j_iconst (pc' := 17) dX0_isRead_16 rfl ?_
    have hj := hj
    try simp only [if_pos b1] at hj
    exact j_wk hj (trivial)
  · refine j_iconst (pc' := 13) dX0_isRead_12 rfl ?_
    refine j_goto (tgt := 17) dX0_isRead_13 rfl ?_
    have hj := hj
    try simp only [if_neg b1] at hj
    exact j_wk hj (trivial)
theorem c_X0_isRead {d : Nat} (hd : 8 ≤ d) {x1 x2 x3 : Int} {D D' : mD} {v : Int} (h : F_X0_isRead x1 x2 x3 D = some (v, D')) : CM d 0 0 M_X0_isRead [mR 22, mI x1, mI x2, mI x3] (SK, D, false) (rI v D') := CM.intro pn_X0 rfl rfl (Nat.le_of_ble_eq_true rfl) (fun _ => c_X0_isRead_e hd h)
theorem c_X0_farthestBy_L14 {Ω : mO} {d : Nat} (hd : 9 ≤ d) {r : Int × mD} {x1 x2 : Int} : ∀ (n : Nat) {x3 : Int} {D : mD}, F_X0_farthestBy_L14 x1 x2 n x3 D = some r → J Ω M_X0_farthestBy d 0 0 (rI r.1 r.2) 14 [some (mR 22), some (mI x1), some (mI x2), some (mI x3)] [] (SK, D, false) 0 0 := by
  intro n
  induction n with
  | zero => intro x3 D h; exact absurd (show (none : Option (Int × mD)) = some r from h) nofun
  | succ n ih =>
    intro x3 D h
    rw [F_X0_farthestBy_L14] at h
    refine j_iload_n (pc' := 15) dX0_farthestBy_14 rfl rfl ?_
    refine j_bipush (pc' := 17) dX0_farthestBy_15 rfl rfl ?_
    obtain ⟨q1, h⟩ := ck_o h
    refine j_icmp_ge (tgt := 38) (pc' := 20) dX0_farthestBy_17 rfl rfl q1 (by decide) (fun b1 => ?_) (fun b1 => ?_)
    · replace h := ite_t b1 h
      refine j_iload_n (pc' := 39) dX0_farthestBy_38 rfl rfl ?_
      exact j_iret dX0_farthestBy_39 rfl (by decide) (by decide) (rI_of h)
    · replace h := ite_f b1 h
      refine j_aload_n (pc' := 21) dX0_farthestBy_20 rfl rfl ?_
      refine j_iload_n (pc' := 22) dX0_farthestBy_21 rfl rfl ?_
      refine j_iconst (pc' := 23) dX0_farthestBy_22 rfl ?_
      refine j_iadd (pc' := 24) dX0_farthestBy_23 rfl ?_
      refine j_iload_n (pc' := 25) dX0_farthestBy_24 rfl rfl ?_
      refine j_iload_n (pc' := 26) dX0_farthestBy_25 rfl rfl ?_
      obtain ⟨v1, D1, e1, h⟩ := bI_o h
      refine k_cV (d' := 8) (pc' := 29) [mI (x3 + 1), mI x1, mI x2] [] (c_X0_isRead (d := 8) (Nat.le_refl _) e1) cw_X0_170 kc_0 w_650 w_651 dX0_farthestBy_26 rfl (by omega) rfl rfl (by decide) sk_22 rfl rfl (by decide) (by decide) ?_
      obtain ⟨q2, h⟩ := ck_o h
      refine j_if_eq (tgt := 38) (pc' := 32) dX0_farthestBy_29 rfl rfl q2 (fun b2 => ?_) (fun b2 => ?_)
      · replace h := ite_t b2 h
        refine j_iload_n (pc' := 39) dX0_farthestBy_38 rfl rfl ?_
        exact j_iret dX0_farthestBy_39 rfl (by decide) (by decide) (rI_of h)
      · replace h := ite_f b2 h
        refine j_iinc (pc' := 35) (z' := (x3 + 1)) (ls' := [some (mR 22), some (mI x1), some (mI x2), some (mI (x3 + 1))]) dX0_farthestBy_32 rfl rfl rfl (by decide) rfl ?_
        refine j_goto (tgt := 14) dX0_farthestBy_35 rfl ?_
        exact j_wk (j_widen (ce := 0) (ke := 0) (by decide) (by decide) (ih h)) (And.intro rfl (And.intro rfl (And.intro rfl (And.intro rfl trivial))))
theorem c_X0_farthestBy_e {Ω : mO} {d : Nat} (hd : 9 ≤ d) {r : Int × mD} {x1 : Int} {D : mD} (h : F_X0_farthestBy x1 D = some r) : J Ω M_X0_farthestBy d 0 0 (rI r.1 r.2) 0 [some (mR 22), some (mI x1), none, none] [] (SK, D, false) 0 0 := by
  rw [F_X0_farthestBy] at h
  refine j_aload_n (pc' := 1) dX0_farthestBy_0 rfl rfl ?_
  refine j_aload_n (pc' := 2) dX0_farthestBy_1 rfl rfl ?_
  refine k_getR (pc' := 5) (sl := 2) (r := 17) kc_0 w_264 (Or.inl rfl) (by decide) dX0_farthestBy_2 rfl (by decide) sk_22 (by decide) rfl (by decide) ?_
  refine k_getI (pc' := 8) (sl := 5) (z := D 17 5) kc_9 w_222 (by decide) dX0_farthestBy_5 rfl (by decide) sk_17 (by decide) rfl rfl ?_
  obtain ⟨v1, D1, e1, h⟩ := bI_o h
  refine k_cV (d' := 8) (pc' := 11) [mI (D 17 5)] [] (c_X0_tightestSpace (d := 8) (Nat.le_refl _) e1) cw_X0_167 kc_0 w_642 w_643 dX0_farthestBy_8 rfl (by omega) rfl rfl (by decide) sk_22 rfl rfl (by decide) (by decide) ?_
  refine j_istore_n (pc' := 12) (ls' := [some (mR 22), some (mI x1), some (mI v1), none]) dX0_farthestBy_11 rfl (by decide) rfl ?_
  refine j_iconst (pc' := 13) dX0_farthestBy_12 rfl ?_
  refine j_istore_n (pc' := 14) (ls' := [some (mR 22), some (mI x1), some (mI v1), some (mI 0)]) dX0_farthestBy_13 rfl (by decide) rfl ?_
  exact j_wk (j_widen (ce := 0) (ke := 0) (by decide) (by decide) (c_X0_farthestBy_L14 hd _ h)) (And.intro rfl (And.intro rfl (And.intro rfl (And.intro rfl trivial))))
theorem c_X0_farthestBy {d : Nat} (hd : 9 ≤ d) {x1 : Int} {D D' : mD} {v : Int} (h : F_X0_farthestBy x1 D = some (v, D')) : CM d 0 0 M_X0_farthestBy [mR 22, mI x1] (SK, D, false) (rI v D') := CM.intro pn_X0 rfl rfl (Nat.le_of_ble_eq_true rfl) (fun _ => c_X0_farthestBy_e hd h)
theorem c_X1_clear_e {Ω : mO} {d : Nat} (hd : 1 ≤ d) {r : Int × mD} {D : mD} (h : F_X1_clear D = some r) : J Ω M_X1_clear d 0 0 (rV r.2) 0 [some (mR 31)] [] (SK, D, false) 0 0 := by
  rw [F_X1_clear] at h
  refine j_aload_n (pc' := 1) dX1_clear_0 rfl rfl ?_
  refine j_iconst (pc' := 2) dX1_clear_1 rfl ?_
  refine k_putI (pc' := 5) (sl := 1) (i' := 1) kc_1 w_338 (by decide) (Or.inl rfl) dX1_clear_2 rfl (by decide) sk_31 (by decide) ⟨rfl, rfl⟩ rfl ?_
  exact j_vret dX1_clear_5 rfl (by decide) (by decide) (rV_of h)
theorem c_X1_clear {d : Nat} (hd : 1 ≤ d) {D D' : mD} {v : Int} (h : F_X1_clear D = some (v, D')) : CM d 0 0 M_X1_clear [mR 31] (SK, D, false) (rV D') := CM.intro pn_X1 rfl rfl (Nat.le_of_ble_eq_true rfl) (fun _ => c_X1_clear_e hd h)
theorem c_X10_copyFrom_e {Ω : mO} {d : Nat} (hd : 1 ≤ d) {t0 : Nat} (hT0 : IsWork t0) {t1 : Nat} (hT1 : IsWork t1) {r : Int × mD} {D : mD} (h : F_X10_copyFrom t0 t1 D = some r) : J Ω M_X10_copyFrom d 0 0 (rV r.2) 0 [some (mR t0), some (mR t1)] [] (SK, D, false) 0 0 := by
  rw [F_X10_copyFrom] at h
  refine j_aload_n (pc' := 1) dX10_copyFrom_0 rfl rfl ?_
  refine k_getR (pc' := 4) (sl := 0) (r := (t1 + 1)) kc_9 w_209 (Or.inl rfl) (by decide) dX10_copyFrom_1 rfl (work_lt hT1) (workA_0 hT1) (by decide) rfl (workL_1 hT1) ?_
  refine j_iconst (pc' := 5) dX10_copyFrom_4 rfl ?_
  refine j_aload_n (pc' := 6) dX10_copyFrom_5 rfl rfl ?_
  refine k_getR (pc' := 9) (sl := 0) (r := (t0 + 1)) kc_9 w_209 (Or.inl rfl) (by decide) dX10_copyFrom_6 rfl (work_lt hT0) (workA_0 hT0) (by decide) rfl (workL_1 hT0) ?_
  refine j_iconst (pc' := 10) dX10_copyFrom_9 rfl ?_
  refine j_bipush (pc' := 12) dX10_copyFrom_10 rfl rfl ?_
  refine k_copy (pc' := 15) w_494 w_496 w_495 w_15 dX10_copyFrom_12 rfl (by omega) (workL_1 hT1) (workL_1 hT0) (workA_1 hT1) (workA_1 hT0) (by decide) (by decide) (by decide) (by decide) (by decide) rfl ?_
  refine j_aload_n (pc' := 16) dX10_copyFrom_15 rfl rfl ?_
  refine k_getR (pc' := 19) (sl := 1) (r := (t1 + 2)) kc_9 w_212 (Or.inl rfl) (by decide) dX10_copyFrom_16 rfl (work_lt hT1) (workA_0 hT1) (by decide) rfl (workL_2 hT1) ?_
  refine j_iconst (pc' := 20) dX10_copyFrom_19 rfl ?_
  refine j_aload_n (pc' := 21) dX10_copyFrom_20 rfl rfl ?_
  refine k_getR (pc' := 24) (sl := 1) (r := (t0 + 2)) kc_9 w_212 (Or.inl rfl) (by decide) dX10_copyFrom_21 rfl (work_lt hT0) (workA_0 hT0) (by decide) rfl (workL_2 hT0) ?_
  refine j_iconst (pc' := 25) dX10_copyFrom_24 rfl ?_
  refine j_bipush (pc' := 27) dX10_copyFrom_25 rfl rfl ?_
  refine k_copy (pc' := 30) w_494 w_496 w_495 w_15 dX10_copyFrom_27 rfl (by omega) (workL_2 hT1) (workL_2 hT0) (workA_2 hT1) (workA_2 hT0) (by decide) (by decide) (by decide) (by decide) (by decide) rfl ?_
  refine j_aload_n (pc' := 31) dX10_copyFrom_30 rfl rfl ?_
  refine k_getR (pc' := 34) (sl := 2) (r := (t1 + 3)) kc_9 w_216 (Or.inl rfl) (by decide) dX10_copyFrom_31 rfl (work_lt hT1) (workA_0 hT1) (by decide) rfl (workL_3 hT1) ?_
  refine j_iconst (pc' := 35) dX10_copyFrom_34 rfl ?_
  refine j_aload_n (pc' := 36) dX10_copyFrom_35 rfl rfl ?_
  refine k_getR (pc' := 39) (sl := 2) (r := (t0 + 3)) kc_9 w_216 (Or.inl rfl) (by decide) dX10_copyFrom_36 rfl (work_lt hT0) (workA_0 hT0) (by decide) rfl (workL_3 hT0) ?_
  refine j_iconst (pc' := 40) dX10_copyFrom_39 rfl ?_
  refine j_bipush (pc' := 42) dX10_copyFrom_40 rfl rfl ?_
  refine k_copy (pc' := 45) w_494 w_496 w_495 w_15 dX10_copyFrom_42 rfl (by omega) (workL_3 hT1) (workL_3 hT0) (workA_3 hT1) (workA_3 hT0) (by decide) (by decide) (by decide) (by decide) (by decide) rfl ?_
  refine j_aload_n (pc' := 46) dX10_copyFrom_45 rfl rfl ?_
  refine j_aload_n (pc' := 47) dX10_copyFrom_46 rfl rfl ?_
  refine k_getI (pc' := 50) (sl := 3) (z := (cpD (cpD (cpD D (t1 + 1) (t0 + 1) 13) (t1 + 2) (t0 + 2) 14) (t1 + 3) (t0 + 3) 14) t1 3) kc_9 w_218 (by decide) dX10_copyFrom_47 rfl (work_lt hT1) (workA_0 hT1) (by decide) rfl rfl ?_
  refine k_putI (pc' := 53) (sl := 3) (i' := 3) kc_9 w_218 (by decide) (Or.inl rfl) dX10_copyFrom_50 rfl (work_lt hT0) (workA_0 hT0) (by decide) ⟨rfl, rfl⟩ rfl ?_
  refine j_aload_n (pc' := 54) dX10_copyFrom_53 rfl rfl ?_
  refine j_aload_n (pc' := 55) dX10_copyFrom_54 rfl rfl ?_
  refine k_getI (pc' := 58) (sl := 4) (z := (pD (cpD (cpD (cpD D (t1 + 1) (t0 + 1) 13) (t1 + 2) (t0 + 2) 14) (t1 + 3) (t0 + 3) 14) t0 3 ((cpD (cpD (cpD D (t1 + 1) (t0 + 1) 13) (t1 + 2) (t0 + 2) 14) (t1 + 3) (t0 + 3) 14) t1 3)) t1 4) kc_9 w_220 (by decide) dX10_copyFrom_55 rfl (work_lt hT1) (workA_0 hT1) (by decide) rfl rfl ?_
  refine k_putI (pc' := 61) (sl := 4) (i' := 4) kc_9 w_220 (by decide) (Or.inl rfl) dX10_copyFrom_58 rfl (work_lt hT0) (workA_0 hT0) (by decide) ⟨rfl, rfl⟩ rfl ?_
  refine j_aload_n (pc' := 62) dX10_copyFrom_61 rfl rfl ?_
  refine j_aload_n (pc' := 63) dX10_copyFrom_62 rfl rfl ?_
  refine k_getI (pc' := 66) (sl := 5) (z := (pD (pD (cpD (cpD (cpD D (t1 + 1) (t0 + 1) 13) (t1 + 2) (t0 + 2) 14) (t1 + 3) (t0 + 3) 14) t0 3 ((cpD (cpD (cpD D (t1 + 1) (t0 + 1) 13) (t1 + 2) (t0 + 2) 14) (t1 + 3) (t0 + 3) 14) t1 3)) t0 4 ((pD (cpD (cpD (cpD D (t1 + 1) (t0 + 1) 13) (t1 + 2) (t0 + 2) 14) (t1 + 3) (t0 + 3) 14) t0 3 ((cpD (cpD (cpD D (t1 + 1) (t0 + 1) 13) (t1 + 2) (t0 + 2) 14) (t1 + 3) (t0 + 3) 14) t1 3)) t1 4)) t1 5) kc_9 w_221 (by decide) dX10_copyFrom_63 rfl (work_lt hT1) (workA_0 hT1) (by decide) rfl rfl ?_
  refine k_putI (pc' := 69) (sl := 5) (i' := 5) kc_9 w_221 (by decide) (Or.inl rfl) dX10_copyFrom_66 rfl (work_lt hT0) (workA_0 hT0) (by decide) ⟨rfl, rfl⟩ rfl ?_
  refine j_aload_n (pc' := 70) dX10_copyFrom_69 rfl rfl ?_
  refine j_aload_n (pc' := 71) dX10_copyFrom_70 rfl rfl ?_
  refine k_getI (pc' := 74) (sl := 6) (z := (pD (pD (pD (cpD (cpD (cpD D (t1 + 1) (t0 + 1) 13) (t1 + 2) (t0 + 2) 14) (t1 + 3) (t0 + 3) 14) t0 3 ((cpD (cpD (cpD D (t1 + 1) (t0 + 1) 13) (t1 + 2) (t0 + 2) 14) (t1 + 3) (t0 + 3) 14) t1 3)) t0 4 ((pD (cpD (cpD (cpD D (t1 + 1) (t0 + 1) 13) (t1 + 2) (t0 + 2) 14) (t1 + 3) (t0 + 3) 14) t0 3 ((cpD (cpD (cpD D (t1 + 1) (t0 + 1) 13) (t1 + 2) (t0 + 2) 14) (t1 + 3) (t0 + 3) 14) t1 3)) t1 4)) t0 5 ((pD (pD (cpD (cpD (cpD D (t1 + 1) (t0 + 1) 13) (t1 + 2) (t0 + 2) 14) (t1 + 3) (t0 + 3) 14) t0 3 ((cpD (cpD (cpD D (t1 + 1) (t0 + 1) 13) (t1 + 2) (t0 + 2) 14) (t1 + 3) (t0 + 3) 14) t1 3)) t0 4 ((pD (cpD (cpD (cpD D (t1 + 1) (t0 + 1) 13) (t1 + 2) (t0 + 2) 14) (t1 + 3) (t0 + 3) 14) t0 3 ((cpD (cpD (cpD D (t1 + 1) (t0 + 1) 13) (t1 + 2) (t0 + 2) 14) (t1 + 3) (t0 + 3) 14) t1 3)) t1 4)) t1 5)) t1 6) kc_9 w_224 (by decide) dX10_copyFrom_71 rfl (work_lt hT1) (workA_0 hT1) (by decide) rfl rfl ?_
  refine k_putI (pc' := 77) (sl := 6) (i' := 6) kc_9 w_224 (by decide) (Or.inl rfl) dX10_copyFrom_74 rfl (work_lt hT0) (workA_0 hT0) (by decide) ⟨rfl, rfl⟩ rfl ?_
  refine j_aload_n (pc' := 78) dX10_copyFrom_77 rfl rfl ?_
  refine j_aload_n (pc' := 79) dX10_copyFrom_78 rfl rfl ?_
  refine k_getI (pc' := 82) (sl := 7) (z := (pD (pD (pD (pD (cpD (cpD (cpD D (t1 + 1) (t0 + 1) 13) (t1 + 2) (t0 + 2) 14) (t1 + 3) (t0 + 3) 14) t0 3 ((cpD (cpD (cpD D (t1 + 1) (t0 + 1) 13) (t1 + 2) (t0 + 2) 14) (t1 + 3) (t0 + 3) 14) t1 3)) t0 4 ((pD (cpD (cpD (cpD D (t1 + 1) (t0 + 1) 13) (t1 + 2) (t0 + 2) 14) (t1 + 3) (t0 + 3) 14) t0 3 ((cpD (cpD (cpD D (t1 + 1) (t0 + 1) 13) (t1 + 2) (t0 + 2) 14) (t1 + 3) (t0 + 3) 14) t1 3)) t1 4)) t0 5 ((pD (pD (cpD (cpD (cpD D (t1 + 1) (t0 + 1) 13) (t1 + 2) (t0 + 2) 14) (t1 + 3) (t0 + 3) 14) t0 3 ((cpD (cpD (cpD D (t1 + 1) (t0 + 1) 13) (t1 + 2) (t0 + 2) 14) (t1 + 3) (t0 + 3) 14) t1 3)) t0 4 ((pD (cpD (cpD (cpD D (t1 + 1) (t0 + 1) 13) (t1 + 2) (t0 + 2) 14) (t1 + 3) (t0 + 3) 14) t0 3 ((cpD (cpD (cpD D (t1 + 1) (t0 + 1) 13) (t1 + 2) (t0 + 2) 14) (t1 + 3) (t0 + 3) 14) t1 3)) t1 4)) t1 5)) t0 6 ((pD (pD (pD (cpD (cpD (cpD D (t1 + 1) (t0 + 1) 13) (t1 + 2) (t0 + 2) 14) (t1 + 3) (t0 + 3) 14) t0 3 ((cpD (cpD (cpD D (t1 + 1) (t0 + 1) 13) (t1 + 2) (t0 + 2) 14) (t1 + 3) (t0 + 3) 14) t1 3)) t0 4 ((pD (cpD (cpD (cpD D (t1 + 1) (t0 + 1) 13) (t1 + 2) (t0 + 2) 14) (t1 + 3) (t0 + 3) 14) t0 3 ((cpD (cpD (cpD D (t1 + 1) (t0 + 1) 13) (t1 + 2) (t0 + 2) 14) (t1 + 3) (t0 + 3) 14) t1 3)) t1 4)) t0 5 ((pD (pD (cpD (cpD (cpD D (t1 + 1) (t0 + 1) 13) (t1 + 2) (t0 + 2) 14) (t1 + 3) (t0 + 3) 14) t0 3 ((cpD (cpD (cpD D (t1 + 1) (t0 + 1) 13) (t1 + 2) (t0 + 2) 14) (t1 + 3) (t0 + 3) 14) t1 3)) t0 4 ((pD (cpD (cpD (cpD D (t1 + 1) (t0 + 1) 13) (t1 + 2) (t0 + 2) 14) (t1 + 3) (t0 + 3) 14) t0 3 ((cpD (cpD (cpD D (t1 + 1) (t0 + 1) 13) (t1 + 2) (t0 + 2) 14) (t1 + 3) (t0 + 3) 14) t1 3)) t1 4)) t1 5)) t1 6)) t1 7) kc_9 w_226 (by decide) dX10_copyFrom_79 rfl (work_lt hT1) (workA_0 hT1) (by decide) rfl rfl ?_
  refine k_putI (pc' := 85) (sl := 7) (i' := 7) kc_9 w_226 (by decide) (Or.inl rfl) dX10_copyFrom_82 rfl (work_lt hT0) (workA_0 hT0) (by decide) ⟨rfl, rfl⟩ rfl ?_
  refine j_aload_n (pc' := 86) dX10_copyFrom_85 rfl rfl ?_
  refine k_getR (pc' := 89) (sl := 8) (r := (t1 + 4)) kc_9 w_228 (Or.inl rfl) (by decide) dX10_copyFrom_86 rfl (work_lt hT1) (workA_0 hT1) (by decide) rfl (workL_4 hT1) ?_
  refine j_iconst (pc' := 90) dX10_copyFrom_89 rfl ?_
  refine j_aload_n (pc' := 91) dX10_copyFrom_90 rfl rfl ?_
  refine k_getR (pc' := 94) (sl := 8) (r := (t0 + 4)) kc_9 w_228 (Or.inl rfl) (by decide) dX10_copyFrom_91 rfl (work_lt hT0) (workA_0 hT0) (by decide) rfl (workL_4 hT0) ?_
  refine j_iconst (pc' := 95) dX10_copyFrom_94 rfl ?_
  refine j_sipush (pc' := 98) dX10_copyFrom_95 rfl rfl ?_
  refine k_copy (pc' := 101) w_494 w_496 w_495 w_15 dX10_copyFrom_98 rfl (by omega) (workL_4 hT1) (workL_4 hT0) (workA_4 hT1) (workA_4 hT0) (by decide) (by decide) (by decide) (by decide) (by decide) rfl ?_
  refine j_aload_n (pc' := 102) dX10_copyFrom_101 rfl rfl ?_
  refine j_aload_n (pc' := 103) dX10_copyFrom_102 rfl rfl ?_
  refine k_getI (pc' := 106) (sl := 9) (z := (cpD (pD (pD (pD (pD (pD (cpD (cpD (cpD D (t1 + 1) (t0 + 1) 13) (t1 + 2) (t0 + 2) 14) (t1 + 3) (t0 + 3) 14) t0 3 ((cpD (cpD (cpD D (t1 + 1) (t0 + 1) 13) (t1 + 2) (t0 + 2) 14) (t1 + 3) (t0 + 3) 14) t1 3)) t0 4 ((pD (cpD (cpD (cpD D (t1 + 1) (t0 + 1) 13) (t1 + 2) (t0 + 2) 14) (t1 + 3) (t0 + 3) 14) t0 3 ((cpD (cpD (cpD D (t1 + 1) (t0 + 1) 13) (t1 + 2) (t0 + 2) 14) (t1 + 3) (t0 + 3) 14) t1 3)) t1 4)) t0 5 ((pD (pD (cpD (cpD (cpD D (t1 + 1) (t0 + 1) 13) (t1 + 2) (t0 + 2) 14) (t1 + 3) (t0 + 3) 14) t0 3 ((cpD (cpD (cpD D (t1 + 1) (t0 + 1) 13) (t1 + 2) (t0 + 2) 14) (t1 + 3) (t0 + 3) 14) t1 3)) t0 4 ((pD (cpD (cpD (cpD D (t1 + 1) (t0 + 1) 13) (t1 + 2) (t0 + 2) 14) (t1 + 3) (t0 + 3) 14) t0 3 ((cpD (cpD (cpD D (t1 + 1) (t0 + 1) 13) (t1 + 2) (t0 + 2) 14) (t1 + 3) (t0 + 3) 14) t1 3)) t1 4)) t1 5)) t0 6 ((pD (pD (pD (cpD (cpD (cpD D (t1 + 1) (t0 + 1) 13) (t1 + 2) (t0 + 2) 14) (t1 + 3) (t0 + 3) 14) t0 3 ((cpD (cpD (cpD D (t1 + 1) (t0 + 1) 13) (t1 + 2) (t0 + 2) 14) (t1 + 3) (t0 + 3) 14) t1 3)) t0 4 ((pD (cpD (cpD (cpD D (t1 + 1) (t0 + 1) 13) (t1 + 2) (t0 + 2) 14) (t1 + 3) (t0 + 3) 14) t0 3 ((cpD (cpD (cpD D (t1 + 1) (t0 + 1) 13) (t1 + 2) (t0 + 2) 14) (t1 + 3) (t0 + 3) 14) t1 3)) t1 4)) t0 5 ((pD (pD (cpD (cpD (cpD D (t1 + 1) (t0 + 1) 13) (t1 + 2) (t0 + 2) 14) (t1 + 3) (t0 + 3) 14) t0 3 ((cpD (cpD (cpD D (t1 + 1) (t0 + 1) 13) (t1 + 2) (t0 + 2) 14) (t1 + 3) (t0 + 3) 14) t1 3)) t0 4 ((pD (cpD (cpD (cpD D (t1 + 1) (t0 + 1) 13) (t1 + 2) (t0 + 2) 14) (t1 + 3) (t0 + 3) 14) t0 3 ((cpD (cpD (cpD D (t1 + 1) (t0 + 1) 13) (t1 + 2) (t0 + 2) 14) (t1 + 3) (t0 + 3) 14) t1 3)) t1 4)) t1 5)) t1 6)) t0 7 ((pD (pD (pD (pD (cpD (cpD (cpD D (t1 + 1) (t0 + 1) 13) (t1 + 2) (t0 + 2) 14) (t1 + 3) (t0 + 3) 14) t0 3 ((cpD (cpD (cpD D (t1 + 1) (t0 + 1) 13) (t1 + 2) (t0 + 2) 14) (t1 + 3) (t0 + 3) 14) t1 3)) t0 4 ((pD (cpD (cpD (cpD D (t1 + 1) (t0 + 1) 13) (t1 + 2) (t0 + 2) 14) (t1 + 3) (t0 + 3) 14) t0 3 ((cpD (cpD (cpD D (t1 + 1) (t0 + 1) 13) (t1 + 2) (t0 + 2) 14) (t1 + 3) (t0 + 3) 14) t1 3)) t1 4)) t0 5 ((pD (pD (cpD (cpD (cpD D (t1 + 1) (t0 + 1) 13) (t1 + 2) (t0 + 2) 14) (t1 + 3) (t0 + 3) 14) t0 3 ((cpD (cpD (cpD D (t1 + 1) (t0 + 1) 13) (t1 + 2) (t0 + 2) 14) (t1 + 3) (t0 + 3) 14) t1 3)) t0 4 ((pD (cpD (cpD (cpD D (t1 + 1) (t0 + 1) 13) (t1 + 2) (t0 + 2) 14) (t1 + 3) (t0 + 3) 14) t0 3 ((cpD (cpD (cpD D (t1 + 1) (t0 + 1) 13) (t1 + 2) (t0 + 2) 14) (t1 + 3) (t0 + 3) 14) t1 3)) t1 4)) t1 5)) t0 6 ((pD (pD (pD (cpD (cpD (cpD D (t1 + 1) (t0 + 1) 13) (t1 + 2) (t0 + 2) 14) (t1 + 3) (t0 + 3) 14) t0 3 ((cpD (cpD (cpD D (t1 + 1) (t0 + 1) 13) (t1 + 2) (t0 + 2) 14) (t1 + 3) (t0 + 3) 14) t1 3)) t0 4 ((pD (cpD (cpD (cpD D (t1 + 1) (t0 + 1) 13) (t1 + 2) (t0 + 2) 14) (t1 + 3) (t0 + 3) 14) t0 3 ((cpD (cpD (cpD D (t1 + 1) (t0 + 1) 13) (t1 + 2) (t0 + 2) 14) (t1 + 3) (t0 + 3) 14) t1 3)) t1 4)) t0 5 ((pD (pD (cpD (cpD (cpD D (t1 + 1) (t0 + 1) 13) (t1 + 2) (t0 + 2) 14) (t1 + 3) (t0 + 3) 14) t0 3 ((cpD (cpD (cpD D (t1 + 1) (t0 + 1) 13) (t1 + 2) (t0 + 2) 14) (t1 + 3) (t0 + 3) 14) t1 3)) t0 4 ((pD (cpD (cpD (cpD D (t1 + 1) (t0 + 1) 13) (t1 + 2) (t0 + 2) 14) (t1 + 3) (t0 + 3) 14) t0 3 ((cpD (cpD (cpD D (t1 + 1) (t0 + 1) 13) (t1 + 2) (t0 + 2) 14) (t1 + 3) (t0 + 3) 14) t1 3)) t1 4)) t1 5)) t1 6)) t1 7)) (t1 + 4) (t0 + 4) 240) t1 9) kc_9 w_229 (by decide) dX10_copyFrom_103 rfl (work_lt hT1) (workA_0 hT1) (by decide) rfl rfl ?_
  refine k_putI (pc' := 109) (sl := 9) (i' := 9) kc_9 w_229 (by decide) (Or.inl rfl) dX10_copyFrom_106 rfl (work_lt hT0) (workA_0 hT0) (by decide) ⟨rfl, rfl⟩ rfl ?_
  refine j_aload_n (pc' := 110) dX10_copyFrom_109 rfl rfl ?_
  refine j_aload_n (pc' := 111) dX10_copyFrom_110 rfl rfl ?_
  refine k_getI (pc' := 114) (sl := 10) (z := (pD (cpD (pD (pD (pD (pD (pD (cpD (cpD (cpD D (t1 + 1) (t0 + 1) 13) (t1 + 2) (t0 + 2) 14) (t1 + 3) (t0 + 3) 14) t0 3 ((cpD (cpD (cpD D (t1 + 1) (t0 + 1) 13) (t1 + 2) (t0 + 2) 14) (t1 + 3) (t0 + 3) 14) t1 3)) t0 4 ((pD (cpD (cpD (cpD D (t1 + 1) (t0 + 1) 13) (t1 + 2) (t0 + 2) 14) (t1 + 3) (t0 + 3) 14) t0 3 ((cpD (cpD (cpD D (t1 + 1) (t0 + 1) 13) (t1 + 2) (t0 + 2) 14) (t1 + 3) (t0 + 3) 14) t1 3)) t1 4)) t0 5 ((pD (pD (cpD (cpD (cpD D (t1 + 1) (t0 + 1) 13) (t1 + 2) (t0 + 2) 14) (t1 + 3) (t0 + 3) 14) t0 3 ((cpD (cpD (cpD D (t1 + 1) (t0 + 1) 13) (t1 + 2) (t0 + 2) 14) (t1 + 3) (t0 + 3) 14) t1 3)) t0 4 ((pD (cpD (cpD (cpD D (t1 + 1) (t0 + 1) 13) (t1 + 2) (t0 + 2) 14) (t1 + 3) (t0 + 3) 14) t0 3 ((cpD (cpD (cpD D (t1 + 1) (t0 + 1) 13) (t1 + 2) (t0 + 2) 14) (t1 + 3) (t0 + 3) 14) t1 3)) t1 4)) t1 5)) t0 6 ((pD (pD (pD (cpD (cpD (cpD D (t1 + 1) (t0 + 1) 13) (t1 + 2) (t0 + 2) 14) (t1 + 3) (t0 + 3) 14) t0 3 ((cpD (cpD (cpD D (t1 + 1) (t0 + 1) 13) (t1 + 2) (t0 + 2) 14) (t1 + 3) (t0 + 3) 14) t1 3)) t0 4 ((pD (cpD (cpD (cpD D (t1 + 1) (t0 + 1) 13) (t1 + 2) (t0 + 2) 14) (t1 + 3) (t0 + 3) 14) t0 3 ((cpD (cpD (cpD D (t1 + 1) (t0 + 1) 13) (t1 + 2) (t0 + 2) 14) (t1 + 3) (t0 + 3) 14) t1 3)) t1 4)) t0 5 ((pD (pD (cpD (cpD (cpD D (t1 + 1) (t0 + 1) 13) (t1 + 2) (t0 + 2) 14) (t1 + 3) (t0 + 3) 14) t0 3 ((cpD (cpD (cpD D (t1 + 1) (t0 + 1) 13) (t1 + 2) (t0 + 2) 14) (t1 + 3) (t0 + 3) 14) t1 3)) t0 4 ((pD (cpD (cpD (cpD D (t1 + 1) (t0 + 1) 13) (t1 + 2) (t0 + 2) 14) (t1 + 3) (t0 + 3) 14) t0 3 ((cpD (cpD (cpD D (t1 + 1) (t0 + 1) 13) (t1 + 2) (t0 + 2) 14) (t1 + 3) (t0 + 3) 14) t1 3)) t1 4)) t1 5)) t1 6)) t0 7 ((pD (pD (pD (pD (cpD (cpD (cpD D (t1 + 1) (t0 + 1) 13) (t1 + 2) (t0 + 2) 14) (t1 + 3) (t0 + 3) 14) t0 3 ((cpD (cpD (cpD D (t1 + 1) (t0 + 1) 13) (t1 + 2) (t0 + 2) 14) (t1 + 3) (t0 + 3) 14) t1 3)) t0 4 ((pD (cpD (cpD (cpD D (t1 + 1) (t0 + 1) 13) (t1 + 2) (t0 + 2) 14) (t1 + 3) (t0 + 3) 14) t0 3 ((cpD (cpD (cpD D (t1 + 1) (t0 + 1) 13) (t1 + 2) (t0 + 2) 14) (t1 + 3) (t0 + 3) 14) t1 3)) t1 4)) t0 5 ((pD (pD (cpD (cpD (cpD D (t1 + 1) (t0 + 1) 13) (t1 + 2) (t0 + 2) 14) (t1 + 3) (t0 + 3) 14) t0 3 ((cpD (cpD (cpD D (t1 + 1) (t0 + 1) 13) (t1 + 2) (t0 + 2) 14) (t1 + 3) (t0 + 3) 14) t1 3)) t0 4 ((pD (cpD (cpD (cpD D (t1 + 1) (t0 + 1) 13) (t1 + 2) (t0 + 2) 14) (t1 + 3) (t0 + 3) 14) t0 3 ((cpD (cpD (cpD D (t1 + 1) (t0 + 1) 13) (t1 + 2) (t0 + 2) 14) (t1 + 3) (t0 + 3) 14) t1 3)) t1 4)) t1 5)) t0 6 ((pD (pD (pD (cpD (cpD (cpD D (t1 + 1) (t0 + 1) 13) (t1 + 2) (t0 + 2) 14) (t1 + 3) (t0 + 3) 14) t0 3 ((cpD (cpD (cpD D (t1 + 1) (t0 + 1) 13) (t1 + 2) (t0 + 2) 14) (t1 + 3) (t0 + 3) 14) t1 3)) t0 4 ((pD (cpD (cpD (cpD D (t1 + 1) (t0 + 1) 13) (t1 + 2) (t0 + 2) 14) (t1 + 3) (t0 + 3) 14) t0 3 ((cpD (cpD (cpD D (t1 + 1) (t0 + 1) 13) (t1 + 2) (t0 + 2) 14) (t1 + 3) (t0 + 3) 14) t1 3)) t1 4)) t0 5 ((pD (pD (cpD (cpD (cpD D (t1 + 1) (t0 + 1) 13) (t1 + 2) (t0 + 2) 14) (t1 + 3) (t0 + 3) 14) t0 3 ((cpD (cpD (cpD D (t1 + 1) (t0 + 1) 13) (t1 + 2) (t0 + 2) 14) (t1 + 3) (t0 + 3) 14) t1 3)) t0 4 ((pD (cpD (cpD (cpD D (t1 + 1) (t0 + 1) 13) (t1 + 2) (t0 + 2) 14) (t1 + 3) (t0 + 3) 14) t0 3 ((cpD (cpD (cpD D (t1 + 1) (t0 + 1) 13) (t1 + 2) (t0 + 2) 14) (t1 + 3) (t0 + 3) 14) t1 3)) t1 4)) t1 5)) t1 6)) t1 7)) (t1 + 4) (t0 + 4) 240) t0 9 ((cpD (pD (pD (pD (pD (pD (cpD (cpD (cpD D (t1 + 1) (t0 + 1) 13) (t1 + 2) (t0 + 2) 14) (t1 + 3) (t0 + 3) 14) t0 3 ((cpD (cpD (cpD D (t1 + 1) (t0 + 1) 13) (t1 + 2) (t0 + 2) 14) (t1 + 3) (t0 + 3) 14) t1 3)) t0 4 ((pD (cpD (cpD (cpD D (t1 + 1) (t0 + 1) 13) (t1 + 2) (t0 + 2) 14) (t1 + 3) (t0 + 3) 14) t0 3 ((cpD (cpD (cpD D (t1 + 1) (t0 + 1) 13) (t1 + 2) (t0 + 2) 14) (t1 + 3) (t0 + 3) 14) t1 3)) t1 4)) t0 5 ((pD (pD (cpD (cpD (cpD D (t1 + 1) (t0 + 1) 13) (t1 + 2) (t0 + 2) 14) (t1 + 3) (t0 + 3) 14) t0 3 ((cpD (cpD (cpD D (t1 + 1) (t0 + 1) 13) (t1 + 2) (t0 + 2) 14) (t1 + 3) (t0 + 3) 14) t1 3)) t0 4 ((pD (cpD (cpD (cpD D (t1 + 1) (t0 + 1) 13) (t1 + 2) (t0 + 2) 14) (t1 + 3) (t0 + 3) 14) t0 3 ((cpD (cpD (cpD D (t1 + 1) (t0 + 1) 13) (t1 + 2) (t0 + 2) 14) (t1 + 3) (t0 + 3) 14) t1 3)) t1 4)) t1 5)) t0 6 ((pD (pD (pD (cpD (cpD (cpD D (t1 + 1) (t0 + 1) 13) (t1 + 2) (t0 + 2) 14) (t1 + 3) (t0 + 3) 14) t0 3 ((cpD (cpD (cpD D (t1 + 1) (t0 + 1) 13) (t1 + 2) (t0 + 2) 14) (t1 + 3) (t0 + 3) 14) t1 3)) t0 4 ((pD (cpD (cpD (cpD D (t1 + 1) (t0 + 1) 13) (t1 + 2) (t0 + 2) 14) (t1 + 3) (t0 + 3) 14) t0 3 ((cpD (cpD (cpD D (t1 + 1) (t0 + 1) 13) (t1 + 2) (t0 + 2) 14) (t1 + 3) (t0 + 3) 14) t1 3)) t1 4)) t0 5 ((pD (pD (cpD (cpD (cpD D (t1 + 1) (t0 + 1) 13) (t1 + 2) (t0 + 2) 14) (t1 + 3) (t0 + 3) 14) t0 3 ((cpD (cpD (cpD D (t1 + 1) (t0 + 1) 13) (t1 + 2) (t0 + 2) 14) (t1 + 3) (t0 + 3) 14) t1 3)) t0 4 ((pD (cpD (cpD (cpD D (t1 + 1) (t0 + 1) 13) (t1 + 2) (t0 + 2) 14) (t1 + 3) (t0 + 3) 14) t0 3 ((cpD (cpD (cpD D (t1 + 1) (t0 + 1) 13) (t1 + 2) (t0 + 2) 14) (t1 + 3) (t0 + 3) 14) t1 3)) t1 4)) t1 5)) t1 6)) t0 7 ((pD (pD (pD (pD (cpD (cpD (cpD D (t1 + 1) (t0 + 1) 13) (t1 + 2) (t0 + 2) 14) (t1 + 3) (t0 + 3) 14) t0 3 ((cpD (cpD (cpD D (t1 + 1) (t0 + 1) 13) (t1 + 2) (t0 + 2) 14) (t1 + 3) (t0 + 3) 14) t1 3)) t0 4 ((pD (cpD (cpD (cpD D (t1 + 1) (t0 + 1) 13) (t1 + 2) (t0 + 2) 14) (t1 + 3) (t0 + 3) 14) t0 3 ((cpD (cpD (cpD D (t1 + 1) (t0 + 1) 13) (t1 + 2) (t0 + 2) 14) (t1 + 3) (t0 + 3) 14) t1 3)) t1 4)) t0 5 ((pD (pD (cpD (cpD (cpD D (t1 + 1) (t0 + 1) 13) (t1 + 2) (t0 + 2) 14) (t1 + 3) (t0 + 3) 14) t0 3 ((cpD (cpD (cpD D (t1 + 1) (t0 + 1) 13) (t1 + 2) (t0 + 2) 14) (t1 + 3) (t0 + 3) 14) t1 3)) t0 4 ((pD (cpD (cpD (cpD D (t1 + 1) (t0 + 1) 13) (t1 + 2) (t0 + 2) 14) (t1 + 3) (t0 + 3) 14) t0 3 ((cpD (cpD (cpD D (t1 + 1) (t0 + 1) 13) (t1 + 2) (t0 + 2) 14) (t1 + 3) (t0 + 3) 14) t1 3)) t1 4)) t1 5)) t0 6 ((pD (pD (pD (cpD (cpD (cpD D (t1 + 1) (t0 + 1) 13) (t1 + 2) (t0 + 2) 14) (t1 + 3) (t0 + 3) 14) t0 3 ((cpD (cpD (cpD D (t1 + 1) (t0 + 1) 13) (t1 + 2) (t0 + 2) 14) (t1 + 3) (t0 + 3) 14) t1 3)) t0 4 ((pD (cpD (cpD (cpD D (t1 + 1) (t0 + 1) 13) (t1 + 2) (t0 + 2) 14) (t1 + 3) (t0 + 3) 14) t0 3 ((cpD (cpD (cpD D (t1 + 1) (t0 + 1) 13) (t1 + 2) (t0 + 2) 14) (t1 + 3) (t0 + 3) 14) t1 3)) t1 4)) t0 5 ((pD (pD (cpD (cpD (cpD D (t1 + 1) (t0 + 1) 13) (t1 + 2) (t0 + 2) 14) (t1 + 3) (t0 + 3) 14) t0 3 ((cpD (cpD (cpD D (t1 + 1) (t0 + 1) 13) (t1 + 2) (t0 + 2) 14) (t1 + 3) (t0 + 3) 14) t1 3)) t0 4 ((pD (cpD (cpD (cpD D (t1 + 1) (t0 + 1) 13) (t1 + 2) (t0 + 2) 14) (t1 + 3) (t0 + 3) 14) t0 3 ((cpD (cpD (cpD D (t1 + 1) (t0 + 1) 13) (t1 + 2) (t0 + 2) 14) (t1 + 3) (t0 + 3) 14) t1 3)) t1 4)) t1 5)) t1 6)) t1 7)) (t1 + 4) (t0 + 4) 240) t1 9)) t1 10) kc_9 w_231 (by decide) dX10_copyFrom_111 rfl (work_lt hT1) (workA_0 hT1) (by decide) rfl rfl ?_
  refine k_putI (pc' := 117) (sl := 10) (i' := 10) kc_9 w_231 (by decide) (Or.inl rfl) dX10_copyFrom_114 rfl (work_lt hT0) (workA_0 hT0) (by decide) ⟨rfl, rfl⟩ rfl ?_
  exact j_vret dX10_copyFrom_117 rfl (by decide) (by decide) (rV_of h)
theorem c_X10_copyFrom {d : Nat} (hd : 1 ≤ d) {t0 : Nat} (hT0 : IsWork t0) {t1 : Nat} (hT1 : IsWork t1) {D D' : mD} {v : Int} (h : F_X10_copyFrom t0 t1 D = some (v, D')) : CM d 0 0 M_X10_copyFrom [mR t0, mR t1] (SK, D, false) (rV D') := CM.intro pn_X10 rfl rfl (Nat.le_of_ble_eq_true rfl) (fun _ => c_X10_copyFrom_e hd hT0 hT1 h)
theorem c_X1_remember_e {Ω : mO} {d : Nat} (hd : 6 ≤ d) {t1 : Nat} (hT1 : IsWork t1) {r : Int × mD} {D : mD} (h : F_X1_remember t1 D = some r) : J Ω M_X1_remember d 0 0 (rV r.2) 0 [some (mR 31), some (mR t1)] [] (SK, D, false) 0 0 := by
  rw [F_X1_remember] at h
  refine j_aload_n (pc' := 1) dX1_remember_0 rfl rfl ?_
  refine k_getR (pc' := 4) (sl := 0) (r := 32) kc_1 w_337 (Or.inl rfl) (by decide) dX1_remember_1 rfl (by decide) sk_31 (by decide) rfl (by decide) ?_
  refine j_aload_n (pc' := 5) dX1_remember_4 rfl rfl ?_
  refine k_getI (pc' := 8) (sl := 2) (z := D 31 2) kc_1 w_340 (by decide) dX1_remember_5 rfl (by decide) sk_31 (by decide) rfl rfl ?_
  obtain ⟨q1, h⟩ := ck_o h
  refine k_aald (pc' := 9) (r := (33 + 5 * ((D 31 2)).toNat)) dX1_remember_8 rfl (by decide) sk_32 (by decide) q1.1 q1.2 (ahead_ref q1.1 q1.2) (work_lt (work_ahead q1.1 q1.2)) ?_
  refine j_aload_n (pc' := 10) dX1_remember_9 rfl rfl ?_
  obtain ⟨v1, D1, e1, h⟩ := bI_o h
  refine k_cVv (d' := 1) (pc' := 13) [mR t1] [] (c_X10_copyFrom (d := 1) (Nat.le_refl _) ((work_ahead q1.1 q1.2)) hT1 e1) cw_X1_23 kc_9 w_491 w_492 dX1_remember_10 rfl (by omega) rfl rfl (work_lt (work_ahead q1.1 q1.2)) (workA_0 (work_ahead q1.1 q1.2)) rfl rfl (by decide) (by decide) ?_
  refine j_aload_n (pc' := 14) dX1_remember_13 rfl rfl ?_
  refine j_aload_n (pc' := 15) dX1_remember_14 rfl rfl ?_
  refine k_getI (pc' := 18) (sl := 2) (z := D1 31 2) kc_1 w_340 (by decide) dX1_remember_15 rfl (by decide) sk_31 (by decide) rfl rfl ?_
  refine j_iconst (pc' := 19) dX1_remember_18 rfl ?_
  refine j_iadd (pc' := 20) dX1_remember_19 rfl ?_
  refine j_bipush (pc' := 22) dX1_remember_20 rfl rfl ?_
  obtain ⟨q2, h⟩ := ck_o h
  obtain ⟨q3, h⟩ := ck_o h
  refine j_irem (pc' := 23) dX1_remember_22 rfl q2 (by decide) q3 (by decide) ?_
  refine k_putI (pc' := 26) (sl := 2) (i' := 2) kc_1 w_340 (by decide) (Or.inl rfl) dX1_remember_23 rfl (by decide) sk_31 (by decide) ⟨rfl, rfl⟩ rfl ?_
  refine j_aload_n (pc' := 27) dX1_remember_26 rfl rfl ?_
  refine j_bipush (pc' := 29) dX1_remember_27 rfl rfl ?_
  refine j_aload_n (pc' := 30) dX1_remember_29 rfl rfl ?_
  refine k_getI (pc' := 33) (sl := 1) (z := (pD D1 31 2 (((D1 31 2) + 1) % 12)) 31 1) kc_1 w_338 (by decide) dX1_remember_30 rfl (by decide) sk_31 (by decide) rfl rfl ?_
  refine j_iconst (pc' := 34) dX1_remember_33 rfl ?_
  refine j_iadd (pc' := 35) dX1_remember_34 rfl ?_
  obtain ⟨q4, h⟩ := ck_o h
  refine k_min (pc' := 38) cw_X1_27 w_560 dX1_remember_35 rfl (by omega) (by decide) q4 rfl (by decide) (by decide) ?_
  refine k_putI (pc' := 41) (sl := 1) (i' := 1) kc_1 w_338 (by decide) (Or.inl rfl) dX1_remember_38 rfl (by decide) sk_31 (by decide) ⟨rfl, rfl⟩ rfl ?_
  exact j_vret dX1_remember_41 rfl (by decide) (by decide) (rV_of h)
theorem c_X1_remember {d : Nat} (hd : 6 ≤ d) {t1 : Nat} (hT1 : IsWork t1) {D D' : mD} {v : Int} (h : F_X1_remember t1 D = some (v, D')) : CM d 0 0 M_X1_remember [mR 31, mR t1] (SK, D, false) (rV D') := CM.intro pn_X1 rfl rfl (Nat.le_of_ble_eq_true rfl) (fun _ => c_X1_remember_e hd hT1 h)
theorem c_X1_recall_e {Ω : mO} {d : Nat} (hd : 2 ≤ d) {t1 : Nat} (hT1 : IsWork t1) {r : Int × mD} {D : mD} (h : F_X1_recall t1 D = some r) : J Ω M_X1_recall d 0 0 (rI r.1 r.2) 0 [some (mR 31), some (mR t1)] [] (SK, D, false) 0 0 := by
  rw [F_X1_recall] at h
  refine j_aload_n (pc' := 1) dX1_recall_0 rfl rfl ?_
  refine k_getI (pc' := 4) (sl := 1) (z := D 31 1) kc_1 w_338 (by decide) dX1_recall_1 rfl (by decide) sk_31 (by decide) rfl rfl ?_
  obtain ⟨q1, h⟩ := ck_o h
  refine j_if_ne (tgt := 9) (pc' := 7) dX1_recall_4 rfl rfl q1 (fun b1 => ?_) (fun b1 => ?_)
  · replace h := ite_f b1 h
    refine j_aload_n (pc' := 10) dX1_recall_9 rfl rfl ?_
    refine j_aload_n (pc' := 11) dX1_recall_10 rfl rfl ?_
    refine k_getI (pc' := 14) (sl := 2) (z := D 31 2) kc_1 w_340 (by decide) dX1_recall_11 rfl (by decide) sk_31 (by decide) rfl rfl ?_
    refine j_bipush (pc' := 16) dX1_recall_14 rfl rfl ?_
    refine j_iadd (pc' := 17) dX1_recall_16 rfl ?_
    refine j_iconst (pc' := 18) dX1_recall_17 rfl ?_
    refine j_isub (pc' := 19) dX1_recall_18 rfl ?_
    refine j_bipush (pc' := 21) dX1_recall_19 rfl rfl ?_
    obtain ⟨q2, h⟩ := ck_o h
    obtain ⟨q3, h⟩ := ck_o h
    refine j_irem (pc' := 22) dX1_recall_21 rfl q2 (by decide) q3 (by decide) ?_
    refine k_putI (pc' := 25) (sl := 2) (i' := 2) kc_1 w_340 (by decide) (Or.inl rfl) dX1_recall_22 rfl (by decide) sk_31 (by decide) ⟨rfl, rfl⟩ rfl ?_
    refine j_aload_n (pc' := 26) dX1_recall_25 rfl rfl ?_
    refine j_dup (pc' := 27) dX1_recall_26 rfl rfl ?_
    refine k_getI (pc' := 30) (sl := 1) (z := (pD D 31 2 ((((D 31 2) + 12) - 1) % 12)) 31 1) kc_1 w_338 (by decide) dX1_recall_27 rfl (by decide) sk_31 (by decide) rfl rfl ?_
    refine j_iconst (pc' := 31) dX1_recall_30 rfl ?_
    refine j_isub (pc' := 32) dX1_recall_31 rfl ?_
    refine k_putI (pc' := 35) (sl := 1) (i' := 1) kc_1 w_338 (by decide) (Or.inl rfl) dX1_recall_32 rfl (by decide) sk_31 (by decide) ⟨rfl, rfl⟩ rfl ?_
    refine j_aload_n (pc' := 36) dX1_recall_35 rfl rfl ?_
    refine j_aload_n (pc' := 37) dX1_recall_36 rfl rfl ?_
    refine k_getR (pc' := 40) (sl := 0) (r := 32) kc_1 w_337 (Or.inl rfl) (by decide) dX1_recall_37 rfl (by decide) sk_31 (by decide) rfl (by decide) ?_
    refine j_aload_n (pc' := 41) dX1_recall_40 rfl rfl ?_
    refine k_getI (pc' := 44) (sl := 2) (z := (pD (pD D 31 2 ((((D 31 2) + 12) - 1) % 12)) 31 1 (((pD D 31 2 ((((D 31 2) + 12) - 1) % 12)) 31 1) - 1)) 31 2) kc_1 w_340 (by decide) dX1_recall_41 rfl (by decide) sk_31 (by decide) rfl rfl ?_
    obtain ⟨q4, h⟩ := ck_o h
    refine k_aald (pc' := 45) (r := (33 + 5 * (((pD (pD D 31 2 ((((D 31 2) + 12) - 1) % 12)) 31 1 (((pD D 31 2 ((((D 31 2) + 12) - 1) % 12)) 31 1) - 1)) 31 2)).toNat)) dX1_recall_44 rfl (by decide) sk_32 (by decide) q4.1 q4.2 (ahead_ref q4.1 q4.2) (work_lt (work_ahead q4.1 q4.2)) ?_
    obtain ⟨v1, D1, e1, h⟩ := bI_o h
    refine k_cVv (d' := 1) (pc' := 48) [mR (33 + 5 * (((pD (pD D 31 2 ((((D 31 2) + 12) - 1) % 12)) 31 1 (((pD D 31 2 ((((D 31 2) + 12) - 1) % 12)) 31 1) - 1)) 31 2)).toNat)] [] (c_X10_copyFrom (d := 1) (Nat.le_refl _) hT1 ((work_ahead q4.1 q4.2)) e1) cw_X1_23 kc_9 w_491 w_492 dX1_recall_45 rfl (by omega) rfl rfl (work_lt hT1) (workA_0 hT1) rfl rfl (by decide) (by decide) ?_
    refine j_iconst (pc' := 49) dX1_recall_48 rfl ?_
    exact j_zret dX1_recall_49 rfl (Or.inr rfl) (by decide) (by decide) (rI_of h)
  · replace h := ite_t b1 h
    refine j_iconst (pc' := 8) dX1_recall_7 rfl ?_
    exact j_zret dX1_recall_8 rfl (Or.inl rfl) (by decide) (by decide) (rI_of h)
theorem c_X1_recall {d : Nat} (hd : 2 ≤ d) {t1 : Nat} (hT1 : IsWork t1) {D D' : mD} {v : Int} (h : F_X1_recall t1 D = some (v, D')) : CM d 0 0 M_X1_recall [mR 31, mR t1] (SK, D, false) (rI v D') := CM.intro pn_X1 rfl rfl (Nat.le_of_ble_eq_true rfl) (fun _ => c_X1_recall_e hd hT1 h)
theorem c_X2_copyFrom_e {Ω : mO} {d : Nat} (hd : 1 ≤ d) {t0 : Nat} (hT0 : IsLaw t0) {t1 : Nat} (hT1 : IsLaw t1) {r : Int × mD} {D : mD} (h : F_X2_copyFrom t0 t1 D = some r) : J Ω M_X2_copyFrom d 0 0 (rV r.2) 0 [some (mR t0), some (mR t1)] [] (SK, D, false) 0 0 := by
  rw [F_X2_copyFrom] at h
  refine j_aload_n (pc' := 1) dX2_copyFrom_0 rfl rfl ?_
  refine j_aload_n (pc' := 2) dX2_copyFrom_1 rfl rfl ?_
  refine k_getI (pc' := 5) (sl := 0) (z := D t1 0) kc_2 w_171 (by decide) dX2_copyFrom_2 rfl (law_lt hT1) (lawA_0 hT1) (by decide) rfl rfl ?_
  refine k_putI (pc' := 8) (sl := 0) (i' := 0) kc_2 w_171 (by decide) (Or.inl rfl) dX2_copyFrom_5 rfl (law_lt hT0) (lawA_0 hT0) (by decide) ⟨rfl, rfl⟩ rfl ?_
  refine j_aload_n (pc' := 9) dX2_copyFrom_8 rfl rfl ?_
  refine k_getR (pc' := 12) (sl := 1) (r := (t1 + 1)) kc_2 w_174 (Or.inl rfl) (by decide) dX2_copyFrom_9 rfl (law_lt hT1) (lawA_0 hT1) (by decide) rfl (lawL_1 hT1) ?_
  refine j_iconst (pc' := 13) dX2_copyFrom_12 rfl ?_
  refine j_aload_n (pc' := 14) dX2_copyFrom_13 rfl rfl ?_
  refine k_getR (pc' := 17) (sl := 1) (r := (t0 + 1)) kc_2 w_174 (Or.inl rfl) (by decide) dX2_copyFrom_14 rfl (law_lt hT0) (lawA_0 hT0) (by decide) rfl (lawL_1 hT0) ?_
  refine j_iconst (pc' := 18) dX2_copyFrom_17 rfl ?_
  refine j_bipush (pc' := 20) dX2_copyFrom_18 rfl rfl ?_
  refine k_copy (pc' := 23) w_514 w_496 w_495 w_15 dX2_copyFrom_20 rfl (by omega) (lawL_1 hT1) (lawL_1 hT0) (lawA_1 hT1) (lawA_1 hT0) (by decide) (by decide) (by decide) (by decide) (by decide) rfl ?_
  refine j_aload_n (pc' := 24) dX2_copyFrom_23 rfl rfl ?_
  refine k_getR (pc' := 27) (sl := 2) (r := (t1 + 2)) kc_2 w_176 (Or.inl rfl) (by decide) dX2_copyFrom_24 rfl (law_lt hT1) (lawA_0 hT1) (by decide) rfl (lawL_2 hT1) ?_
  refine j_iconst (pc' := 28) dX2_copyFrom_27 rfl ?_
  refine j_aload_n (pc' := 29) dX2_copyFrom_28 rfl rfl ?_
  refine k_getR (pc' := 32) (sl := 2) (r := (t0 + 2)) kc_2 w_176 (Or.inl rfl) (by decide) dX2_copyFrom_29 rfl (law_lt hT0) (lawA_0 hT0) (by decide) rfl (lawL_2 hT0) ?_
  refine j_iconst (pc' := 33) dX2_copyFrom_32 rfl ?_
  refine j_bipush (pc' := 35) dX2_copyFrom_33 rfl rfl ?_
  refine k_copy (pc' := 38) w_514 w_496 w_495 w_15 dX2_copyFrom_35 rfl (by omega) (lawL_2 hT1) (lawL_2 hT0) (lawA_2 hT1) (lawA_2 hT0) (by decide) (by decide) (by decide) (by decide) (by decide) rfl ?_
  refine j_aload_n (pc' := 39) dX2_copyFrom_38 rfl rfl ?_
  refine k_getR (pc' := 42) (sl := 3) (r := (t1 + 3)) kc_2 w_178 (Or.inl rfl) (by decide) dX2_copyFrom_39 rfl (law_lt hT1) (lawA_0 hT1) (by decide) rfl (lawL_3 hT1) ?_
  refine j_iconst (pc' := 43) dX2_copyFrom_42 rfl ?_
  refine j_aload_n (pc' := 44) dX2_copyFrom_43 rfl rfl ?_
  refine k_getR (pc' := 47) (sl := 3) (r := (t0 + 3)) kc_2 w_178 (Or.inl rfl) (by decide) dX2_copyFrom_44 rfl (law_lt hT0) (lawA_0 hT0) (by decide) rfl (lawL_3 hT0) ?_
  refine j_iconst (pc' := 48) dX2_copyFrom_47 rfl ?_
  refine j_bipush (pc' := 50) dX2_copyFrom_48 rfl rfl ?_
  refine k_copy (pc' := 53) w_514 w_496 w_495 w_15 dX2_copyFrom_50 rfl (by omega) (lawL_3 hT1) (lawL_3 hT0) (lawA_3 hT1) (lawA_3 hT0) (by decide) (by decide) (by decide) (by decide) (by decide) rfl ?_
  refine j_aload_n (pc' := 54) dX2_copyFrom_53 rfl rfl ?_
  refine k_getR (pc' := 57) (sl := 4) (r := (t1 + 4)) kc_2 w_180 (Or.inl rfl) (by decide) dX2_copyFrom_54 rfl (law_lt hT1) (lawA_0 hT1) (by decide) rfl (lawL_4 hT1) ?_
  refine j_iconst (pc' := 58) dX2_copyFrom_57 rfl ?_
  refine j_aload_n (pc' := 59) dX2_copyFrom_58 rfl rfl ?_
  refine k_getR (pc' := 62) (sl := 4) (r := (t0 + 4)) kc_2 w_180 (Or.inl rfl) (by decide) dX2_copyFrom_59 rfl (law_lt hT0) (lawA_0 hT0) (by decide) rfl (lawL_4 hT0) ?_
  refine j_iconst (pc' := 63) dX2_copyFrom_62 rfl ?_
  refine j_sipush (pc' := 66) dX2_copyFrom_63 rfl rfl ?_
  refine k_copy (pc' := 69) w_514 w_496 w_495 w_15 dX2_copyFrom_66 rfl (by omega) (lawL_4 hT1) (lawL_4 hT0) (lawA_4 hT1) (lawA_4 hT0) (by decide) (by decide) (by decide) (by decide) (by decide) rfl ?_
  refine j_aload_n (pc' := 70) dX2_copyFrom_69 rfl rfl ?_
  refine j_aload_n (pc' := 71) dX2_copyFrom_70 rfl rfl ?_
  refine k_getI (pc' := 74) (sl := 5) (z := (cpD (cpD (cpD (cpD (pD D t0 0 (D t1 0)) (t1 + 1) (t0 + 1) 12) (t1 + 2) (t0 + 2) 12) (t1 + 3) (t0 + 3) 12) (t1 + 4) (t0 + 4) 400) t1 5) kc_2 w_182 (by decide) dX2_copyFrom_71 rfl (law_lt hT1) (lawA_0 hT1) (by decide) rfl rfl ?_
  refine k_putI (pc' := 77) (sl := 5) (i' := 5) kc_2 w_182 (by decide) (Or.inl rfl) dX2_copyFrom_74 rfl (law_lt hT0) (lawA_0 hT0) (by decide) ⟨rfl, rfl⟩ rfl ?_
  exact j_vret dX2_copyFrom_77 rfl (by decide) (by decide) (rV_of h)
theorem c_X2_copyFrom {d : Nat} (hd : 1 ≤ d) {t0 : Nat} (hT0 : IsLaw t0) {t1 : Nat} (hT1 : IsLaw t1) {D D' : mD} {v : Int} (h : F_X2_copyFrom t0 t1 D = some (v, D')) : CM d 0 0 M_X2_copyFrom [mR t0, mR t1] (SK, D, false) (rV D') := CM.intro pn_X2 rfl rfl (Nat.le_of_ble_eq_true rfl) (fun _ => c_X2_copyFrom_e hd hT0 hT1 h)
theorem c_X2_begin_e {Ω : mO} {d : Nat} (hd : 1 ≤ d) {t0 : Nat} (hT0 : IsLaw t0) {r : Int × mD} {D : mD} (h : F_X2_begin t0 D = some r) : J Ω M_X2_begin d 0 0 (rV r.2) 0 [some (mR t0)] [] (SK, D, false) 0 0 := by
  rw [F_X2_begin] at h
  refine j_aload_n (pc' := 1) dX2_begin_0 rfl rfl ?_
  refine j_iconst (pc' := 2) dX2_begin_1 rfl ?_
  refine k_putI (pc' := 5) (sl := 0) (i' := 0) kc_2 w_171 (by decide) (Or.inl rfl) dX2_begin_2 rfl (law_lt hT0) (lawA_0 hT0) (by decide) ⟨rfl, rfl⟩ rfl ?_
  refine j_aload_n (pc' := 6) dX2_begin_5 rfl rfl ?_
  refine j_iconst (pc' := 7) dX2_begin_6 rfl ?_
  refine k_putI (pc' := 10) (sl := 5) (i' := 5) kc_2 w_182 (by decide) (Or.inl rfl) dX2_begin_7 rfl (law_lt hT0) (lawA_0 hT0) (by decide) ⟨rfl, rfl⟩ rfl ?_
  exact j_vret dX2_begin_10 rfl (by decide) (by decide) (rV_of h)
theorem c_X2_begin {d : Nat} (hd : 1 ≤ d) {t0 : Nat} (hT0 : IsLaw t0) {D D' : mD} {v : Int} (h : F_X2_begin t0 D = some (v, D')) : CM d 0 0 M_X2_begin [mR t0] (SK, D, false) (rV D') := CM.intro pn_X2 rfl rfl (Nat.le_of_ble_eq_true rfl) (fun _ => c_X2_begin_e hd hT0 h)
theorem c_X2_put_e {Ω : mO} {d : Nat} (hd : 1 ≤ d) {t0 : Nat} (hT0 : IsLaw t0) {r : Int × mD} {x1 : Int} {D : mD} (h : F_X2_put t0 x1 D = some r) : J Ω M_X2_put d 0 0 (rV r.2) 0 [some (mR t0), some (mI x1)] [] (SK, D, false) 0 0 := by
  rw [F_X2_put] at h
  refine j_aload_n (pc' := 1) dX2_put_0 rfl rfl ?_
  refine k_getI (pc' := 4) (sl := 5) (z := D t0 5) kc_2 w_182 (by decide) dX2_put_1 rfl (law_lt hT0) (lawA_0 hT0) (by decide) rfl rfl ?_
  refine j_sipush (pc' := 7) dX2_put_4 rfl rfl ?_
  obtain ⟨q1, h⟩ := ck_o h
  refine j_icmp_ge (tgt := 30) (pc' := 10) dX2_put_7 rfl rfl q1 (by decide) (fun b1 => ?_) (fun b1 => ?_)
  · replace h := ite_t b1 h
    exact j_vret dX2_put_30 rfl (by decide) (by decide) (rV_of h)
  · replace h := ite_f b1 h
    refine j_aload_n (pc' := 11) dX2_put_10 rfl rfl ?_
    refine k_getR (pc' := 14) (sl := 4) (r := (t0 + 4)) kc_2 w_180 (Or.inl rfl) (by decide) dX2_put_11 rfl (law_lt hT0) (lawA_0 hT0) (by decide) rfl (lawL_4 hT0) ?_
    refine j_aload_n (pc' := 15) dX2_put_14 rfl rfl ?_
    refine k_getI (pc' := 18) (sl := 5) (z := D t0 5) kc_2 w_182 (by decide) dX2_put_15 rfl (law_lt hT0) (lawA_0 hT0) (by decide) rfl rfl ?_
    refine j_iload_n (pc' := 19) dX2_put_18 rfl rfl ?_
    obtain ⟨q2, h⟩ := ck_o h
    refine k_iast (pc' := 20) dX2_put_19 rfl (lawL_4 hT0) (lawA_4 hT0) (by decide) q2.1 q2.2 ?_
    refine j_aload_n (pc' := 21) dX2_put_20 rfl rfl ?_
    refine j_dup (pc' := 22) dX2_put_21 rfl rfl ?_
    refine k_getI (pc' := 25) (sl := 5) (z := (pD D (t0 + 4) (D t0 5) x1) t0 5) kc_2 w_182 (by decide) dX2_put_22 rfl (law_lt hT0) (lawA_0 hT0) (by decide) rfl rfl ?_
    refine j_iconst (pc' := 26) dX2_put_25 rfl ?_
    refine j_iadd (pc' := 27) dX2_put_26 rfl ?_
    refine k_putI (pc' := 30) (sl := 5) (i' := 5) kc_2 w_182 (by decide) (Or.inl rfl) dX2_put_27 rfl (law_lt hT0) (lawA_0 hT0) (by decide) ⟨rfl, rfl⟩ rfl ?_
    exact j_vret dX2_put_30 rfl (by decide) (by decide) (rV_of h)
theorem c_X2_put {d : Nat} (hd : 1 ≤ d) {t0 : Nat} (hT0 : IsLaw t0) {x1 : Int} {D D' : mD} {v : Int} (h : F_X2_put t0 x1 D = some (v, D')) : CM d 0 0 M_X2_put [mR t0, mI x1] (SK, D, false) (rV D') := CM.intro pn_X2 rfl rfl (Nat.le_of_ble_eq_true rfl) (fun _ => c_X2_put_e hd hT0 h)
theorem c_X2_endLine_e {Ω : mO} {d : Nat} (hd : 1 ≤ d) {t0 : Nat} (hT0 : IsLaw t0) {r : Int × mD} {x1 x2 : Int} {D : mD} (h : F_X2_endLine t0 x1 x2 D = some r) : J Ω M_X2_endLine d 0 0 (rV r.2) 0 [some (mR t0), some (mI x1), some (mI x2)] [] (SK, D, false) 0 0 := by
  rw [F_X2_endLine] at h
  refine j_aload_n (pc' := 1) dX2_endLine_0 rfl rfl ?_
  refine k_getI (pc' := 4) (sl := 0) (z := D t0 0) kc_2 w_171 (by decide) dX2_endLine_1 rfl (law_lt hT0) (lawA_0 hT0) (by decide) rfl rfl ?_
  refine j_bipush (pc' := 6) dX2_endLine_4 rfl rfl ?_
  obtain ⟨q1, h⟩ := ck_o h
  refine j_icmp_ge (tgt := 52) (pc' := 9) dX2_endLine_6 rfl rfl q1 (by decide) (fun b1 => ?_) (fun b1 => ?_)
  · replace h := ite_t b1 h
    exact j_vret dX2_endLine_52 rfl (by decide) (by decide) (rV_of h)
  · replace h := ite_f b1 h
    refine j_aload_n (pc' := 10) dX2_endLine_9 rfl rfl ?_
    refine k_getR (pc' := 13) (sl := 1) (r := (t0 + 1)) kc_2 w_174 (Or.inl rfl) (by decide) dX2_endLine_10 rfl (law_lt hT0) (lawA_0 hT0) (by decide) rfl (lawL_1 hT0) ?_
    refine j_aload_n (pc' := 14) dX2_endLine_13 rfl rfl ?_
    refine k_getI (pc' := 17) (sl := 0) (z := D t0 0) kc_2 w_171 (by decide) dX2_endLine_14 rfl (law_lt hT0) (lawA_0 hT0) (by decide) rfl rfl ?_
    refine j_iload_n (pc' := 18) dX2_endLine_17 rfl rfl ?_
    obtain ⟨q2, h⟩ := ck_o h
    refine k_iast (pc' := 19) dX2_endLine_18 rfl (lawL_1 hT0) (lawA_1 hT0) (by decide) q2.1 q2.2 ?_
    refine j_aload_n (pc' := 20) dX2_endLine_19 rfl rfl ?_
    refine k_getR (pc' := 23) (sl := 2) (r := (t0 + 2)) kc_2 w_176 (Or.inl rfl) (by decide) dX2_endLine_20 rfl (law_lt hT0) (lawA_0 hT0) (by decide) rfl (lawL_2 hT0) ?_
    refine j_aload_n (pc' := 24) dX2_endLine_23 rfl rfl ?_
    refine k_getI (pc' := 27) (sl := 0) (z := (pD D (t0 + 1) (D t0 0) x1) t0 0) kc_2 w_171 (by decide) dX2_endLine_24 rfl (law_lt hT0) (lawA_0 hT0) (by decide) rfl rfl ?_
    refine j_iload_n (pc' := 28) dX2_endLine_27 rfl rfl ?_
    obtain ⟨q3, h⟩ := ck_o h
    refine k_iast (pc' := 29) dX2_endLine_28 rfl (lawL_2 hT0) (lawA_2 hT0) (by decide) q3.1 q3.2 ?_
    refine j_aload_n (pc' := 30) dX2_endLine_29 rfl rfl ?_
    refine k_getR (pc' := 33) (sl := 3) (r := (t0 + 3)) kc_2 w_178 (Or.inl rfl) (by decide) dX2_endLine_30 rfl (law_lt hT0) (lawA_0 hT0) (by decide) rfl (lawL_3 hT0) ?_
    refine j_aload_n (pc' := 34) dX2_endLine_33 rfl rfl ?_
    refine k_getI (pc' := 37) (sl := 0) (z := (pD (pD D (t0 + 1) (D t0 0) x1) (t0 + 2) ((pD D (t0 + 1) (D t0 0) x1) t0 0) x2) t0 0) kc_2 w_171 (by decide) dX2_endLine_34 rfl (law_lt hT0) (lawA_0 hT0) (by decide) rfl rfl ?_
    refine j_aload_n (pc' := 38) dX2_endLine_37 rfl rfl ?_
    refine k_getI (pc' := 41) (sl := 5) (z := (pD (pD D (t0 + 1) (D t0 0) x1) (t0 + 2) ((pD D (t0 + 1) (D t0 0) x1) t0 0) x2) t0 5) kc_2 w_182 (by decide) dX2_endLine_38 rfl (law_lt hT0) (lawA_0 hT0) (by decide) rfl rfl ?_
    obtain ⟨q4, h⟩ := ck_o h
    refine k_iast (pc' := 42) dX2_endLine_41 rfl (lawL_3 hT0) (lawA_3 hT0) (by decide) q4.1 q4.2 ?_
    refine j_aload_n (pc' := 43) dX2_endLine_42 rfl rfl ?_
    refine j_dup (pc' := 44) dX2_endLine_43 rfl rfl ?_
    refine k_getI (pc' := 47) (sl := 0) (z := (pD (pD (pD D (t0 + 1) (D t0 0) x1) (t0 + 2) ((pD D (t0 + 1) (D t0 0) x1) t0 0) x2) (t0 + 3) ((pD (pD D (t0 + 1) (D t0 0) x1) (t0 + 2) ((pD D (t0 + 1) (D t0 0) x1) t0 0) x2) t0 0) ((pD (pD D (t0 + 1) (D t0 0) x1) (t0 + 2) ((pD D (t0 + 1) (D t0 0) x1) t0 0) x2) t0 5)) t0 0) kc_2 w_171 (by decide) dX2_endLine_44 rfl (law_lt hT0) (lawA_0 hT0) (by decide) rfl rfl ?_
    refine j_iconst (pc' := 48) dX2_endLine_47 rfl ?_
    refine j_iadd (pc' := 49) dX2_endLine_48 rfl ?_
    refine k_putI (pc' := 52) (sl := 0) (i' := 0) kc_2 w_171 (by decide) (Or.inl rfl) dX2_endLine_49 rfl (law_lt hT0) (lawA_0 hT0) (by decide) ⟨rfl, rfl⟩ rfl ?_
    exact j_vret dX2_endLine_52 rfl (by decide) (by decide) (rV_of h)
theorem c_X2_endLine {d : Nat} (hd : 1 ≤ d) {t0 : Nat} (hT0 : IsLaw t0) {x1 x2 : Int} {D D' : mD} {v : Int} (h : F_X2_endLine t0 x1 x2 D = some (v, D')) : CM d 0 0 M_X2_endLine [mR t0, mI x1, mI x2] (SK, D, false) (rV D') := CM.intro pn_X2 rfl rfl (Nat.le_of_ble_eq_true rfl) (fun _ => c_X2_endLine_e hd hT0 h)
