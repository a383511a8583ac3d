/-! CERTIFICATES: the bytecode does what F says (by program) -/
theorem c_X11_cannot_L9 {Ω : mO} {d : Nat} (hd : 8 ≤ d) {r : (Int ⊕ Nat) × mD} {x1 : Int} : ∀ (n : Nat) {x2 x3 : Int} {D : mD}, F_X11_cannot_L9 x1 n x2 x3 D = some r → J Ω M_X11_cannot d 1 6 (rO r.1 r.2) 9 [some (mR 0), some (mI x1), some (mI x2), some (mI x3)] [] (SK, D, false) 1 6 := by
  intro n
  induction n with
  | zero => intro x2 x3 D h; exact absurd (show (none : Option ((Int ⊕ Nat) × mD)) = some r from h) nofun
  | succ n ih =>
    intro x2 x3 D h
    rw [F_X11_cannot_L9] at h
    refine j_iload_n (pc' := 10) dX11_cannot_9 rfl rfl ?_
    refine j_aload_n (pc' := 11) dX11_cannot_10 rfl rfl ?_
    refine k_getR (pc' := 14) (sl := 1) (r := 3) kc_10 w_394 (Or.inl rfl) (by decide) dX11_cannot_11 rfl (by decide) sk_0 (by decide) rfl (by decide) ?_
    obtain ⟨v1, D1, e1, h⟩ := bI_o h
    refine k_cV (d' := 1) (pc' := 17) [] [mI x3] (c_X6_gapCount (d := 1) (Nat.le_refl _) shop_3 e1) cw_X11_353 kc_6 w_537 w_538 dX11_cannot_14 rfl (by omega) rfl rfl (by decide) sk_3 rfl rfl (by decide) (by decide) ?_
    obtain ⟨q1, h⟩ := ck_o h
    obtain ⟨q2, h⟩ := ck_o h
    refine j_icmp_ge (tgt := 45) (pc' := 20) dX11_cannot_17 rfl rfl q1 q2 (fun b1 => ?_) (fun b1 => ?_)
    · replace h := ite_t b1 h
      refine j_iload_n (pc' := 46) dX11_cannot_45 rfl rfl ?_
      exact j_iret dX11_cannot_46 rfl (by decide) (by decide) (rIX_of h)
    · replace h := ite_f b1 h
      refine j_aload_n (pc' := 21) dX11_cannot_20 rfl rfl ?_
      refine k_getR (pc' := 24) (sl := 4) (r := 22) kc_10 w_397 (Or.inl rfl) (by decide) dX11_cannot_21 rfl (by decide) sk_0 (by decide) rfl (by decide) ?_
      refine j_iload_n (pc' := 25) dX11_cannot_24 rfl rfl ?_
      refine j_iconst (pc' := 26) dX11_cannot_25 rfl ?_
      obtain ⟨v2, D2, e2, h⟩ := bI_o h
      refine k_cV (d' := 7) (pc' := 29) [mI x3, mI 0] [] (c_X0_whiteOf (d := 7) (Nat.le_refl _) e2) cw_X11_237 kc_0 w_544 w_545 dX11_cannot_26 rfl (by omega) rfl rfl (by decide) sk_22 rfl rfl (by decide) (by decide) ?_
      refine j_iload_n (pc' := 30) dX11_cannot_29 rfl rfl ?_
      obtain ⟨q3, h⟩ := ck_o h
      obtain ⟨q4, h⟩ := ck_o h
      have hj : J Ω M_X11_cannot d 1 6 (rO r.1 r.2) 39 [some (mR 0), some (mI x1), some (mI (if v2 ≤ x1 then x2 else (bOr x2 (bShl 1 x3)))), some (mI x3)] [] (SK, D2, false) 1 6 := by
        refine j_iinc (pc' := 42) (z' := (x3 + 1)) (ls' := [some (mR 0), some (mI x1), some (mI (if v2 ≤ x1 then x2 else (bOr x2 (bShl 1 x3)))), some (mI (x3 + 1))]) dX11_cannot_39 rfl rfl rfl (by decide) rfl ?_
        refine j_goto (tgt := 9) dX11_cannot_42 rfl ?_
        exact j_wk (j_widen (ce := 1) (ke := 6) (by decide) (by decide) (ih h)) (And.intro rfl (And.intro rfl (And.intro rfl (And.intro rfl trivial))))
      refine j_icmp_le (tgt := 39) (pc' := 33) dX11_cannot_30 rfl rfl q3 q4 (fun b2 => ?_) (fun b2 => ?_)
      · have hj := hj
        try simp only [if_pos b2] at hj
        exact j_wk hj (And.intro rfl (And.intro rfl (And.intro rfl (And.intro rfl trivial))))
      · refine j_iload_n (pc' := 34) dX11_cannot_33 rfl rfl ?_
        refine j_iconst (pc' := 35) dX11_cannot_34 rfl ?_
        refine j_iload_n (pc' := 36) dX11_cannot_35 rfl rfl ?_
        refine j_ishl (pc' := 37) dX11_cannot_36 rfl ?_
        refine j_ior (pc' := 38) dX11_cannot_37 rfl ?_
        refine j_istore_n (pc' := 39) (ls' := [some (mR 0), some (mI x1), some (mI (bOr x2 (bShl 1 x3))), some (mI x3)]) dX11_cannot_38 rfl (by decide) rfl ?_
        have hj := hj
        try simp only [if_neg b2] at hj
        exact j_wk hj (And.intro rfl (And.intro rfl (And.intro rfl (And.intro rfl trivial))))
theorem c_X11_cannot_e {Ω : mO} {d : Nat} (hd : 8 ≤ d) {r : (Int ⊕ Nat) × mD} {x1 : Int} {D : mD} (h : F_X11_cannot x1 D = some r) : J Ω M_X11_cannot d 1 6 (rO r.1 r.2) 0 [some (mR 0), some (mI x1), none, none] [] (SK, D, false) 0 0 := by
  rw [F_X11_cannot] at h
  refine j_aload_n (pc' := 1) dX11_cannot_0 rfl rfl ?_
  refine j_iload_n (pc' := 2) dX11_cannot_1 rfl rfl ?_
  rcases bX_o h with ⟨v1, D1, e1, h⟩ | ⟨v1, D1, e1, h⟩
  rotate_left
  · exact k_cVXtV (d' := 6) [mI x1] [] (c_X11_needWhite (d := 6) (Nat.le_refl _) e1) cw_X11_316 kc_10 w_1198 ws_30 dX11_cannot_2 (by omega) rfl rfl (by decide) sk_0 rfl rfl (by decide) (by decide) (rX_of h)
  refine k_cVXv (d' := 6) (pc' := 5) (ce := 1) (ke := 6) [mI x1] [] (c_X11_needWhite (d := 6) (Nat.le_refl _) e1) cw_X11_316 kc_10 w_1198 ws_30 dX11_cannot_2 rfl (by omega) rfl rfl (by decide) sk_0 rfl rfl rfl rfl (by decide) (by decide) ?_
  refine j_iconst (pc' := 6) dX11_cannot_5 rfl ?_
  refine j_istore_n (pc' := 7) (ls' := [some (mR 0), some (mI x1), some (mI 0), none]) dX11_cannot_6 rfl (by decide) rfl ?_
  refine j_iconst (pc' := 8) dX11_cannot_7 rfl ?_
  refine j_istore_n (pc' := 9) (ls' := [some (mR 0), some (mI x1), some (mI 0), some (mI 0)]) dX11_cannot_8 rfl (by decide) rfl ?_
  exact j_wk (j_widen (ce := 1) (ke := 6) (by decide) (by decide) (c_X11_cannot_L9 hd _ h)) (And.intro rfl (And.intro rfl (And.intro rfl (And.intro rfl trivial))))
theorem c_X11_cannot {d : Nat} (hd : 8 ≤ d) {x1 : Int} {D D' : mD} {v : Int ⊕ Nat} (h : F_X11_cannot x1 D = some (v, D')) : CM d 1 6 M_X11_cannot [mR 0, mI x1] (SK, D, false) (rO v D') := CM.intro pn_X11 rfl rfl (Nat.le_of_ble_eq_true rfl) (fun _ => c_X11_cannot_e hd h)
theorem c_X11_lacks_e {Ω : mO} {d : Nat} (hd : 10 ≤ d) {r : (Int ⊕ Nat) × mD} {x1 : Int} {D : mD} (h : F_X11_lacks x1 D = some r) : J Ω M_X11_lacks d 1 6 (rO r.1 r.2) 0 [some (mR 0), some (mI x1)] [] (SK, D, false) 0 0 := by
  rw [F_X11_lacks] at h
  refine j_aload_n (pc' := 1) dX11_lacks_0 rfl rfl ?_
  refine j_iload_n (pc' := 2) dX11_lacks_1 rfl rfl ?_
  rcases bX_o h with ⟨v1, D1, e1, h⟩ | ⟨v1, D1, e1, h⟩
  rotate_left
  · exact k_cVXtV (d' := 6) [mI x1] [] (c_X11_needWhite (d := 6) (Nat.le_refl _) e1) cw_X11_316 kc_10 w_1198 ws_30 dX11_lacks_2 (by omega) rfl rfl (by decide) sk_0 rfl rfl (by decide) (by decide) (rX_of h)
  refine k_cVXv (d' := 6) (pc' := 5) (ce := 1) (ke := 6) [mI x1] [] (c_X11_needWhite (d := 6) (Nat.le_refl _) e1) cw_X11_316 kc_10 w_1198 ws_30 dX11_lacks_2 rfl (by omega) rfl rfl (by decide) sk_0 rfl rfl rfl rfl (by decide) (by decide) ?_
  refine j_aload_n (pc' := 6) dX11_lacks_5 rfl rfl ?_
  refine k_getR (pc' := 9) (sl := 4) (r := 22) kc_10 w_397 (Or.inl rfl) (by decide) dX11_lacks_6 rfl (by decide) sk_0 (by decide) rfl (by decide) ?_
  refine j_iload_n (pc' := 10) dX11_lacks_9 rfl rfl ?_
  refine j_aload_n (pc' := 11) dX11_lacks_10 rfl rfl ?_
  refine k_getR (pc' := 14) (sl := 1) (r := 3) kc_10 w_394 (Or.inl rfl) (by decide) dX11_lacks_11 rfl (by decide) sk_0 (by decide) rfl (by decide) ?_
  refine k_getI (pc' := 17) (sl := 5) (z := D1 3 5) kc_6 w_91 (by decide) dX11_lacks_14 rfl (by decide) sk_3 (by decide) rfl rfl ?_
  obtain ⟨v2, D2, e2, h⟩ := bI_o h
  refine k_cV (d' := 9) (pc' := 20) [mI x1, mI (D1 3 5)] [] (c_X0_lackingBy (d := 9) (Nat.le_refl _) e2) cw_X11_370 kc_0 w_1297 w_1298 dX11_lacks_17 rfl (by omega) rfl rfl (by decide) sk_22 rfl rfl (by decide) (by decide) ?_
  exact j_iret dX11_lacks_20 rfl (by decide) (by decide) (rIX_of h)
theorem c_X11_lacks {d : Nat} (hd : 10 ≤ d) {x1 : Int} {D D' : mD} {v : Int ⊕ Nat} (h : F_X11_lacks x1 D = some (v, D')) : CM d 1 6 M_X11_lacks [mR 0, mI x1] (SK, D, false) (rO v D') := CM.intro pn_X11 rfl rfl (Nat.le_of_ble_eq_true rfl) (fun _ => c_X11_lacks_e hd h)
theorem c_X11_squeeze_e {Ω : mO} {d : Nat} (hd : 10 ≤ d) {r : (Int ⊕ Nat) × mD} {x1 x2 : Int} {D : mD} (h : F_X11_squeeze x1 x2 D = some r) : J Ω M_X11_squeeze d 1 6 (rO r.1 r.2) 0 [some (mR 0), some (mI x1), some (mI x2), none] [] (SK, D, false) 0 0 := by
  rw [F_X11_squeeze] at h
  refine j_aload_n (pc' := 1) dX11_squeeze_0 rfl rfl ?_
  refine j_iload_n (pc' := 2) dX11_squeeze_1 rfl rfl ?_
  rcases bX_o h with ⟨v1, D1, e1, h⟩ | ⟨v1, D1, e1, h⟩
  rotate_left
  · exact k_cVXtV (d' := 6) [mI x1] [] (c_X11_needWhite (d := 6) (Nat.le_refl _) e1) cw_X11_316 kc_10 w_1198 ws_30 dX11_squeeze_2 (by omega) rfl rfl (by decide) sk_0 rfl rfl (by decide) (by decide) (rX_of h)
  refine k_cVXv (d' := 6) (pc' := 5) (ce := 1) (ke := 6) [mI x1] [] (c_X11_needWhite (d := 6) (Nat.le_refl _) e1) cw_X11_316 kc_10 w_1198 ws_30 dX11_squeeze_2 rfl (by omega) rfl rfl (by decide) sk_0 rfl rfl rfl rfl (by decide) (by decide) ?_
  refine j_aload_n (pc' := 6) dX11_squeeze_5 rfl rfl ?_
  refine k_getR (pc' := 9) (sl := 6) (r := 29) kc_10 w_399 (Or.inl rfl) (by decide) dX11_squeeze_6 rfl (by decide) sk_0 (by decide) rfl (by decide) ?_
  refine j_aload_n (pc' := 10) dX11_squeeze_9 rfl rfl ?_
  refine k_getR (pc' := 13) (sl := 4) (r := 22) kc_10 w_397 (Or.inl rfl) (by decide) dX11_squeeze_10 rfl (by decide) sk_0 (by decide) rfl (by decide) ?_
  refine j_iload_n (pc' := 14) dX11_squeeze_13 rfl rfl ?_
  refine j_aload_n (pc' := 15) dX11_squeeze_14 rfl rfl ?_
  refine k_getR (pc' := 18) (sl := 1) (r := 3) kc_10 w_394 (Or.inl rfl) (by decide) dX11_squeeze_15 rfl (by decide) sk_0 (by decide) rfl (by decide) ?_
  refine k_getI (pc' := 21) (sl := 5) (z := D1 3 5) kc_6 w_91 (by decide) dX11_squeeze_18 rfl (by decide) sk_3 (by decide) rfl rfl ?_
  obtain ⟨v2, D2, e2, h⟩ := bI_o h
  refine k_cV (d' := 9) (pc' := 24) [mI x1, mI (D1 3 5)] [mR 29] (c_X0_lackingBy (d := 9) (Nat.le_refl _) e2) cw_X11_370 kc_0 w_1297 w_1298 dX11_squeeze_21 rfl (by omega) rfl rfl (by decide) sk_22 rfl rfl (by decide) (by decide) ?_
  obtain ⟨v3, D3, e3, h⟩ := bI_o h
  refine k_cV (d' := 8) (pc' := 27) [mI v2] [] (c_X5_leastHarm (d := 8) (Nat.le_refl _) e3) cw_X11_373 kc_5 w_1312 w_1313 dX11_squeeze_24 rfl (by omega) rfl rfl (by decide) sk_29 rfl rfl (by decide) (by decide) ?_
  refine j_istore_n (pc' := 28) (ls' := [some (mR 0), some (mI x1), some (mI x2), some (mI v3)]) dX11_squeeze_27 rfl (by decide) rfl ?_
  refine j_iload_n (pc' := 29) dX11_squeeze_28 rfl rfl ?_
  refine j_iconst (pc' := 30) dX11_squeeze_29 rfl ?_
  obtain ⟨q1, h⟩ := ck_o h
  refine j_icmp_eq (tgt := 37) (pc' := 33) dX11_squeeze_30 rfl rfl q1 (by decide) (fun b1 => ?_) (fun b1 => ?_)
  · replace h := ite_t b1 h
    refine j_iload_n (pc' := 38) dX11_squeeze_37 rfl rfl ?_
    refine j_goto (tgt := 48) dX11_squeeze_38 rfl ?_
    exact j_iret dX11_squeeze_48 rfl (by decide) (by decide) (rIX_of h)
  · replace h := ite_f b1 h
    refine j_iload_n (pc' := 34) dX11_squeeze_33 rfl rfl ?_
    obtain ⟨q2, h⟩ := ck_o h
    refine j_if_ne (tgt := 41) (pc' := 37) dX11_squeeze_34 rfl rfl q2 (fun b2 => ?_) (fun b2 => ?_)
    · replace h := ite_f b2 h
      refine j_aload_n (pc' := 42) dX11_squeeze_41 rfl rfl ?_
      refine k_getR (pc' := 45) (sl := 6) (r := 29) kc_10 w_399 (Or.inl rfl) (by decide) dX11_squeeze_42 rfl (by decide) sk_0 (by decide) rfl (by decide) ?_
      obtain ⟨v4, D4, e4, h⟩ := bI_o h
      refine k_cV (d' := 7) (pc' := 48) [] [] (c_X5_squeezedBits (d := 7) (Nat.le_refl _) e4) cw_X11_376 kc_5 w_1333 w_1334 dX11_squeeze_45 rfl (by omega) rfl rfl (by decide) sk_29 rfl rfl (by decide) (by decide) ?_
      exact j_iret dX11_squeeze_48 rfl (by decide) (by decide) (rIX_of h)
    · replace h := ite_t b2 h
      refine j_iload_n (pc' := 38) dX11_squeeze_37 rfl rfl ?_
      refine j_goto (tgt := 48) dX11_squeeze_38 rfl ?_
      exact j_iret dX11_squeeze_48 rfl (by decide) (by decide) (rIX_of h)
theorem c_X11_squeeze {d : Nat} (hd : 10 ≤ d) {x1 x2 : Int} {D D' : mD} {v : Int ⊕ Nat} (h : F_X11_squeeze x1 x2 D = some (v, D')) : CM d 1 6 M_X11_squeeze [mR 0, mI x1, mI x2] (SK, D, false) (rO v D') := CM.intro pn_X11 rfl rfl (Nat.le_of_ble_eq_true rfl) (fun _ => c_X11_squeeze_e hd h)
theorem c_X11_dropped_L7 {Ω : mO} {d : Nat} (hd : 10 ≤ d) {r : (Int ⊕ Nat) × mD} {x1 : Int} : ∀ (n : Nat) {x2 : Int} {D : mD}, F_X11_dropped_L7 x1 n x2 D = some r → J Ω M_X11_dropped d 1 6 (rO r.1 r.2) 7 [some (mR 0), some (mI x1), some (mI x2)] [] (SK, D, false) 1 6 := by
  intro n
  induction n with
  | zero => intro x2 D h; exact absurd (show (none : Option ((Int ⊕ Nat) × mD)) = some r from h) nofun
  | succ n ih =>
    intro x2 D h
    rw [F_X11_dropped_L7] at h
    refine j_iload_n (pc' := 8) dX11_dropped_7 rfl rfl ?_
    refine j_aload_n (pc' := 9) dX11_dropped_8 rfl rfl ?_
    refine k_getR (pc' := 12) (sl := 1) (r := 3) kc_10 w_394 (Or.inl rfl) (by decide) dX11_dropped_9 rfl (by decide) sk_0 (by decide) rfl (by decide) ?_
    refine k_getI (pc' := 15) (sl := 5) (z := D 3 5) kc_6 w_91 (by decide) dX11_dropped_12 rfl (by decide) sk_3 (by decide) rfl rfl ?_
    obtain ⟨q1, h⟩ := ck_o h
    obtain ⟨q2, h⟩ := ck_o h
    refine j_icmp_ge (tgt := 46) (pc' := 18) dX11_dropped_15 rfl rfl q1 q2 (fun b1 => ?_) (fun b1 => ?_)
    · replace h := ite_t b1 h
      refine j_iconst (pc' := 47) dX11_dropped_46 rfl ?_
      exact j_iret dX11_dropped_47 rfl (by decide) (by decide) (rIX_of h)
    · replace h := ite_f b1 h
      refine j_aload_n (pc' := 19) dX11_dropped_18 rfl rfl ?_
      refine k_getR (pc' := 22) (sl := 4) (r := 22) kc_10 w_397 (Or.inl rfl) (by decide) dX11_dropped_19 rfl (by decide) sk_0 (by decide) rfl (by decide) ?_
      refine j_iload_n (pc' := 23) dX11_dropped_22 rfl rfl ?_
      refine j_aload_n (pc' := 24) dX11_dropped_23 rfl rfl ?_
      refine k_getR (pc' := 27) (sl := 1) (r := 3) kc_10 w_394 (Or.inl rfl) (by decide) dX11_dropped_24 rfl (by decide) sk_0 (by decide) rfl (by decide) ?_
      refine k_getI (pc' := 30) (sl := 5) (z := D 3 5) kc_6 w_91 (by decide) dX11_dropped_27 rfl (by decide) sk_3 (by decide) rfl rfl ?_
      refine j_iload_n (pc' := 31) dX11_dropped_30 rfl rfl ?_
      refine j_isub (pc' := 32) dX11_dropped_31 rfl ?_
      obtain ⟨v1, D1, e1, h⟩ := bI_o h
      refine k_cV (d' := 9) (pc' := 35) [mI x1, mI ((D 3 5) - x2)] [] (c_X0_lackingBy (d := 9) (Nat.le_refl _) e1) cw_X11_370 kc_0 w_1297 w_1298 dX11_dropped_32 rfl (by omega) rfl rfl (by decide) sk_22 rfl rfl (by decide) (by decide) ?_
      obtain ⟨q3, h⟩ := ck_o h
      refine j_if_gt (tgt := 40) (pc' := 38) dX11_dropped_35 rfl rfl q3 (fun b2 => ?_) (fun b2 => ?_)
      · replace h := ite_t b2 h
        refine j_iinc (pc' := 43) (z' := (x2 + 1)) (ls' := [some (mR 0), some (mI x1), some (mI (x2 + 1))]) dX11_dropped_40 rfl rfl rfl (by decide) rfl ?_
        refine j_goto (tgt := 7) dX11_dropped_43 rfl ?_
        exact j_wk (j_widen (ce := 1) (ke := 6) (by decide) (by decide) (ih h)) (And.intro rfl (And.intro rfl (And.intro rfl trivial)))
      · replace h := ite_f b2 h
        refine j_iload_n (pc' := 39) dX11_dropped_38 rfl rfl ?_
        exact j_iret dX11_dropped_39 rfl (by decide) (by decide) (rIX_of h)
theorem c_X11_dropped_e {Ω : mO} {d : Nat} (hd : 10 ≤ d) {r : (Int ⊕ Nat) × mD} {x1 : Int} {D : mD} (h : F_X11_dropped x1 D = some r) : J Ω M_X11_dropped d 1 6 (rO r.1 r.2) 0 [some (mR 0), some (mI x1), none] [] (SK, D, false) 0 0 := by
  rw [F_X11_dropped] at h
  refine j_aload_n (pc' := 1) dX11_dropped_0 rfl rfl ?_
  refine j_iload_n (pc' := 2) dX11_dropped_1 rfl rfl ?_
  rcases bX_o h with ⟨v1, D1, e1, h⟩ | ⟨v1, D1, e1, h⟩
  rotate_left
  · exact k_cVXtV (d' := 6) [mI x1] [] (c_X11_needWhite (d := 6) (Nat.le_refl _) e1) cw_X11_316 kc_10 w_1198 ws_30 dX11_dropped_2 (by omega) rfl rfl (by decide) sk_0 rfl rfl (by decide) (by decide) (rX_of h)
  refine k_cVXv (d' := 6) (pc' := 5) (ce := 1) (ke := 6) [mI x1] [] (c_X11_needWhite (d := 6) (Nat.le_refl _) e1) cw_X11_316 kc_10 w_1198 ws_30 dX11_dropped_2 rfl (by omega) rfl rfl (by decide) sk_0 rfl rfl rfl rfl (by decide) (by decide) ?_
  refine j_iconst (pc' := 6) dX11_dropped_5 rfl ?_
  refine j_istore_n (pc' := 7) (ls' := [some (mR 0), some (mI x1), some (mI 0)]) dX11_dropped_6 rfl (by decide) rfl ?_
  exact j_wk (j_widen (ce := 1) (ke := 6) (by decide) (by decide) (c_X11_dropped_L7 hd _ h)) (And.intro rfl (And.intro rfl (And.intro rfl trivial)))
theorem c_X11_dropped {d : Nat} (hd : 10 ≤ d) {x1 : Int} {D D' : mD} {v : Int ⊕ Nat} (h : F_X11_dropped x1 D = some (v, D')) : CM d 1 6 M_X11_dropped [mR 0, mI x1] (SK, D, false) (rO v D') := CM.intro pn_X11 rfl rfl (Nat.le_of_ble_eq_true rfl) (fun _ => c_X11_dropped_e hd h)
theorem c_X11_inch_e {Ω : mO} {d : Nat} (hd : 10 ≤ d) {r : (Int ⊕ Nat) × mD} {x1 : Int} {D : mD} (h : F_X11_inch x1 D = some r) : J Ω M_X11_inch d 1 6 (rO r.1 r.2) 0 [some (mR 0), some (mI x1), none, none] [] (SK, D, false) 0 0 := by
  rw [F_X11_inch] at h
  refine j_aload_n (pc' := 1) dX11_inch_0 rfl rfl ?_
  refine j_iload_n (pc' := 2) dX11_inch_1 rfl rfl ?_
  rcases bX_o h with ⟨v1, D1, e1, h⟩ | ⟨v1, D1, e1, h⟩
  rotate_left
  · exact k_cVXtV (d' := 6) [mI x1] [] (c_X11_needWhite (d := 6) (Nat.le_refl _) e1) cw_X11_316 kc_10 w_1198 ws_30 dX11_inch_2 (by omega) rfl rfl (by decide) sk_0 rfl rfl (by decide) (by decide) (rX_of h)
  refine k_cVXv (d' := 6) (pc' := 5) (ce := 1) (ke := 6) [mI x1] [] (c_X11_needWhite (d := 6) (Nat.le_refl _) e1) cw_X11_316 kc_10 w_1198 ws_30 dX11_inch_2 rfl (by omega) rfl rfl (by decide) sk_0 rfl rfl rfl rfl (by decide) (by decide) ?_
  refine j_aload_n (pc' := 6) dX11_inch_5 rfl rfl ?_
  refine k_getR (pc' := 9) (sl := 5) (r := 26) kc_10 w_398 (Or.inl rfl) (by decide) dX11_inch_6 rfl (by decide) sk_0 (by decide) rfl (by decide) ?_
  refine j_iload_n (pc' := 10) dX11_inch_9 rfl rfl ?_
  refine j_iconst (pc' := 11) dX11_inch_10 rfl ?_
  obtain ⟨v2, D2, e2, h⟩ := bI_o h
  refine k_cV (d' := 9) (pc' := 14) [mI x1, mI 0] [] (c_X4_leastOff (d := 9) (Nat.le_refl _) e2) cw_X11_319 kc_4 w_600 w_601 dX11_inch_11 rfl (by omega) rfl rfl (by decide) sk_26 rfl rfl (by decide) (by decide) ?_
  refine j_istore_n (pc' := 15) (ls' := [some (mR 0), some (mI x1), some (mI v2), none]) dX11_inch_14 rfl (by decide) rfl ?_
  refine j_aload_n (pc' := 16) dX11_inch_15 rfl rfl ?_
  refine k_getR (pc' := 19) (sl := 5) (r := 26) kc_10 w_398 (Or.inl rfl) (by decide) dX11_inch_16 rfl (by decide) sk_0 (by decide) rfl (by decide) ?_
  refine j_iload_n (pc' := 20) dX11_inch_19 rfl rfl ?_
  refine j_bipush (pc' := 22) dX11_inch_20 rfl rfl ?_
  obtain ⟨v3, D3, e3, h⟩ := bI_o h
  refine k_cV (d' := 9) (pc' := 25) [mI x1, mI 12] [] (c_X4_leastOff (d := 9) (Nat.le_refl _) e3) cw_X11_319 kc_4 w_600 w_601 dX11_inch_22 rfl (by omega) rfl rfl (by decide) sk_26 rfl rfl (by decide) (by decide) ?_
  refine j_istore_n (pc' := 26) (ls' := [some (mR 0), some (mI x1), some (mI v2), some (mI v3)]) dX11_inch_25 rfl (by decide) rfl ?_
  refine j_iload_n (pc' := 27) dX11_inch_26 rfl rfl ?_
  refine j_iconst (pc' := 28) dX11_inch_27 rfl ?_
  obtain ⟨q1, h⟩ := ck_o h
  obtain ⟨q2, h⟩ := ck_o h
  have hj : J Ω M_X11_inch d 1 6 (rO r.1 r.2) 45 [none, none, none, none] [mI (if v2 = (-1) then (-9999 : Int) else (if v3 = (-1) then (-9999 : Int) else (v2 - v3)))] (SK, D3, false) 1 6 := by
    exact j_iret dX11_inch_45 rfl (by decide) (by decide) (rIX_of h)
  refine j_icmp_eq (tgt := 36) (pc' := 31) dX11_inch_28 rfl rfl q1 (by decide) (fun b1 => ?_) (fun b1 => ?_)
  · refine j_sipush (pc' := 39) dX11_inch_36 rfl rfl ?_
    refine j_goto (tgt := 45) dX11_inch_39 rfl ?_
    have hj := hj
    try simp only [if_pos b1] at hj
    exact j_wk hj (trivial)
  · refine j_iload_n (pc' := 32) dX11_inch_31 rfl rfl ?_
    refine j_iconst (pc' := 33) dX11_inch_32 rfl ?_
    refine j_icmp_ne (tgt := 42) (pc' := 36) dX11_inch_33 rfl rfl (q2 b1) (by decide) (fun b2 => ?_) (fun b2 => ?_)
    · refine j_iload_n (pc' := 43) dX11_inch_42 rfl rfl ?_
      refine j_iload_n (pc' := 44) dX11_inch_43 rfl rfl ?_
      refine j_isub (pc' := 45) dX11_inch_44 rfl ?_
      have hj := hj
      try simp only [if_neg b1, if_neg b2] at hj
      exact j_wk hj (trivial)
    · refine j_sipush (pc' := 39) dX11_inch_36 rfl rfl ?_
      refine j_goto (tgt := 45) dX11_inch_39 rfl ?_
      have hj := hj
      try simp only [if_neg b1, if_pos b2] at hj
      exact j_wk hj (trivial)
theorem c_X11_inch {d : Nat} (hd : 10 ≤ d) {x1 : Int} {D D' : mD} {v : Int ⊕ Nat} (h : F_X11_inch x1 D = some (v, D')) : CM d 1 6 M_X11_inch [mR 0, mI x1] (SK, D, false) (rO v D') := CM.intro pn_X11 rfl rfl (Nat.le_of_ble_eq_true rfl) (fun _ => c_X11_inch_e hd h)
theorem c_X11_middle_e {Ω : mO} {d : Nat} (hd : 8 ≤ d) {r : Int × mD} {x1 : Int} {D : mD} (h : F_X11_middle x1 D = some r) : J Ω M_X11_middle d 0 0 (rI r.1 r.2) 0 [some (mR 0), some (mI x1), none] [] (SK, D, false) 0 0 := by
  rw [F_X11_middle] at h
  refine j_aload_n (pc' := 1) dX11_middle_0 rfl rfl ?_
  refine k_getR (pc' := 4) (sl := 4) (r := 22) kc_10 w_397 (Or.inl rfl) (by decide) dX11_middle_1 rfl (by decide) sk_0 (by decide) rfl (by decide) ?_
  obtain ⟨v1, D1, e1, h⟩ := bI_o h
  refine k_cV (d' := 7) (pc' := 7) [] [] (c_X0_middleHair (d := 7) (Nat.le_refl _) e1) cw_X11_379 kc_0 w_626 w_627 dX11_middle_4 rfl (by omega) rfl rfl (by decide) sk_22 rfl rfl (by decide) (by decide) ?_
  refine j_istore_n (pc' := 8) (ls' := [some (mR 0), some (mI x1), some (mI v1)]) dX11_middle_7 rfl (by decide) rfl ?_
  refine j_iload_n (pc' := 9) dX11_middle_8 rfl rfl ?_
  obtain ⟨q1, h⟩ := ck_o h
  obtain ⟨q2, h⟩ := ck_o h
  obtain ⟨q3, h⟩ := ck_o h
  have hj : J Ω M_X11_middle d 0 0 (rI r.1 r.2) 27 [none, none, none] [mI (if x1 = 0 then v1 else (v1 - ((D1 3 7) / 2)))] (SK, D1, false) 0 0 := by
    exact j_iret dX11_middle_27 rfl (by decide) (by decide) (rI_of h)
  refine j_if_eq (tgt := 26) (pc' := 12) dX11_middle_9 rfl rfl q1 (fun b1 => ?_) (fun b1 => ?_)
  · refine j_iload_n (pc' := 27) dX11_middle_26 rfl rfl ?_
    have hj := hj
    try simp only [if_pos b1] at hj
    exact j_wk hj (trivial)
  · refine j_iload_n (pc' := 13) dX11_middle_12 rfl rfl ?_
    refine j_aload_n (pc' := 14) dX11_middle_13 rfl rfl ?_
    refine k_getR (pc' := 17) (sl := 1) (r := 3) kc_10 w_394 (Or.inl rfl) (by decide) dX11_middle_14 rfl (by decide) sk_0 (by decide) rfl (by decide) ?_
    refine k_getI (pc' := 20) (sl := 7) (z := D1 3 7) kc_6 w_100 (by decide) dX11_middle_17 rfl (by decide) sk_3 (by decide) rfl rfl ?_
    refine j_iconst (pc' := 21) dX11_middle_20 rfl ?_
    refine j_idiv (pc' := 22) dX11_middle_21 rfl (q2 b1) (by decide) (q3 b1) (by decide) ?_
    refine j_isub (pc' := 23) dX11_middle_22 rfl ?_
    refine j_goto (tgt := 27) dX11_middle_23 rfl ?_
    have hj := hj
    try simp only [if_neg b1] at hj
    exact j_wk hj (trivial)
theorem c_X11_middle {d : Nat} (hd : 8 ≤ d) {x1 : Int} {D D' : mD} {v : Int} (h : F_X11_middle x1 D = some (v, D')) : CM d 0 0 M_X11_middle [mR 0, mI x1] (SK, D, false) (rI v D') := CM.intro pn_X11 rfl rfl (Nat.le_of_ble_eq_true rfl) (fun _ => c_X11_middle_e hd h)
theorem c_X11_read_e {Ω : mO} {d : Nat} (hd : 9 ≤ d) {r : (Int ⊕ Nat) × mD} {x1 x2 : Int} {D : mD} (h : F_X11_read x1 x2 D = some r) : J Ω M_X11_read d 2 12 (rO r.1 r.2) 0 [some (mR 0), some (mI x1), some (mI x2)] [] (SK, D, false) 0 0 := by
  rw [F_X11_read] at h
  refine j_aload_n (pc' := 1) dX11_read_0 rfl rfl ?_
  refine j_iload_n (pc' := 2) dX11_read_1 rfl rfl ?_
  rcases bX_o h with ⟨v1, D1, e1, h⟩ | ⟨v1, D1, e1, h⟩
  rotate_left
  · exact k_cVXtV (d' := 6) [mI x1] [] (c_X11_needYards (d := 6) (Nat.le_refl _) e1) cw_X11_256 kc_10 w_1146 ws_27 dX11_read_2 (by omega) rfl rfl (by decide) sk_0 rfl rfl (by decide) (by decide) (rX_of h)
  refine k_cVXv (d' := 6) (pc' := 5) (ce := 1) (ke := 6) [mI x1] [] (c_X11_needYards (d := 6) (Nat.le_refl _) e1) cw_X11_256 kc_10 w_1146 ws_27 dX11_read_2 rfl (by omega) rfl rfl (by decide) sk_0 rfl rfl rfl rfl (by decide) (by decide) ?_
  refine j_aload_n (pc' := 6) dX11_read_5 rfl rfl ?_
  refine j_iload_n (pc' := 7) dX11_read_6 rfl rfl ?_
  rcases bX_o h with ⟨v2, D2, e2, h⟩ | ⟨v2, D2, e2, h⟩
  rotate_left
  · exact k_cVXtV (d' := 6) [mI x2] [] (c_X11_needLight (d := 6) (Nat.le_refl _) e2) cw_X11_259 kc_10 w_1151 ws_28 dX11_read_7 (by omega) rfl rfl (by decide) sk_0 rfl rfl (by decide) (by decide) (rX_of h)
  refine k_cVXv (d' := 6) (pc' := 10) (ce := 2) (ke := 12) [mI x2] [] (c_X11_needLight (d := 6) (Nat.le_refl _) e2) cw_X11_259 kc_10 w_1151 ws_28 dX11_read_7 rfl (by omega) rfl rfl (by decide) sk_0 rfl rfl rfl rfl (by decide) (by decide) ?_
  refine j_aload_n (pc' := 11) dX11_read_10 rfl rfl ?_
  refine k_getR (pc' := 14) (sl := 4) (r := 22) kc_10 w_397 (Or.inl rfl) (by decide) dX11_read_11 rfl (by decide) sk_0 (by decide) rfl (by decide) ?_
  refine j_iload_n (pc' := 15) dX11_read_14 rfl rfl ?_
  refine j_iload_n (pc' := 16) dX11_read_15 rfl rfl ?_
  refine j_aload_n (pc' := 17) dX11_read_16 rfl rfl ?_
  refine k_getR (pc' := 20) (sl := 4) (r := 22) kc_10 w_397 (Or.inl rfl) (by decide) dX11_read_17 rfl (by decide) sk_0 (by decide) rfl (by decide) ?_
  refine j_aload_n (pc' := 21) dX11_read_20 rfl rfl ?_
  refine k_getR (pc' := 24) (sl := 3) (r := 17) kc_10 w_396 (Or.inl rfl) (by decide) dX11_read_21 rfl (by decide) sk_0 (by decide) rfl (by decide) ?_
  refine k_getI (pc' := 27) (sl := 5) (z := D2 17 5) kc_9 w_223 (by decide) dX11_read_24 rfl (by decide) sk_17 (by decide) rfl rfl ?_
  obtain ⟨v3, D3, e3, h⟩ := bI_o h
  refine k_cV (d' := 8) (pc' := 30) [mI (D2 17 5)] [mI x2, mI x1, mR 22] (c_X0_tightestSpace (d := 8) (Nat.le_refl _) e3) cw_X11_382 kc_0 w_642 w_643 dX11_read_27 rfl (by omega) rfl rfl (by decide) sk_22 rfl rfl (by decide) (by decide) ?_
  obtain ⟨v4, D4, e4, h⟩ := bI_o h
  refine k_cV (d' := 8) (pc' := 33) [mI x1, mI x2, mI v3] [] (c_X0_isRead (d := 8) (Nat.le_refl _) e4) cw_X11_385 kc_0 w_650 w_651 dX11_read_30 rfl (by omega) rfl rfl (by decide) sk_22 rfl rfl (by decide) (by decide) ?_
  obtain ⟨q1, h⟩ := ck_o h
  exact j_zret dX11_read_33 rfl q1 (by decide) (by decide) (rIX_of h)
theorem c_X11_read {d : Nat} (hd : 9 ≤ d) {x1 x2 : Int} {D D' : mD} {v : Int ⊕ Nat} (h : F_X11_read x1 x2 D = some (v, D')) : CM d 2 12 M_X11_read [mR 0, mI x1, mI x2] (SK, D, false) (rO v D') := CM.intro pn_X11 rfl rfl (Nat.le_of_ble_eq_true rfl) (fun _ => c_X11_read_e hd h)
theorem c_X11_far_e {Ω : mO} {d : Nat} (hd : 10 ≤ d) {r : (Int ⊕ Nat) × mD} {x1 : Int} {D : mD} (h : F_X11_far x1 D = some r) : J Ω M_X11_far d 1 6 (rO r.1 r.2) 0 [some (mR 0), some (mI x1)] [] (SK, D, false) 0 0 := by
  rw [F_X11_far] at h
  refine j_aload_n (pc' := 1) dX11_far_0 rfl rfl ?_
  refine j_iload_n (pc' := 2) dX11_far_1 rfl rfl ?_
  rcases bX_o h with ⟨v1, D1, e1, h⟩ | ⟨v1, D1, e1, h⟩
  rotate_left
  · exact k_cVXtV (d' := 6) [mI x1] [] (c_X11_needLight (d := 6) (Nat.le_refl _) e1) cw_X11_259 kc_10 w_1151 ws_28 dX11_far_2 (by omega) rfl rfl (by decide) sk_0 rfl rfl (by decide) (by decide) (rX_of h)
  refine k_cVXv (d' := 6) (pc' := 5) (ce := 1) (ke := 6) [mI x1] [] (c_X11_needLight (d := 6) (Nat.le_refl _) e1) cw_X11_259 kc_10 w_1151 ws_28 dX11_far_2 rfl (by omega) rfl rfl (by decide) sk_0 rfl rfl rfl rfl (by decide) (by decide) ?_
  refine j_aload_n (pc' := 6) dX11_far_5 rfl rfl ?_
  refine k_getR (pc' := 9) (sl := 4) (r := 22) kc_10 w_397 (Or.inl rfl) (by decide) dX11_far_6 rfl (by decide) sk_0 (by decide) rfl (by decide) ?_
  refine j_iload_n (pc' := 10) dX11_far_9 rfl rfl ?_
  obtain ⟨v2, D2, e2, h⟩ := bI_o h
  refine k_cV (d' := 9) (pc' := 13) [mI x1] [] (c_X0_farthestBy (d := 9) (Nat.le_refl _) e2) cw_X11_389 kc_0 w_638 w_639 dX11_far_10 rfl (by omega) rfl rfl (by decide) sk_22 rfl rfl (by decide) (by decide) ?_
  exact j_iret dX11_far_13 rfl (by decide) (by decide) (rIX_of h)
theorem c_X11_far {d : Nat} (hd : 10 ≤ d) {x1 : Int} {D D' : mD} {v : Int ⊕ Nat} (h : F_X11_far x1 D = some (v, D')) : CM d 1 6 M_X11_far [mR 0, mI x1] (SK, D, false) (rO v D') := CM.intro pn_X11 rfl rfl (Nat.le_of_ble_eq_true rfl) (fun _ => c_X11_far_e hd h)
theorem c_X11_runs_L26 {Ω : mO} {d : Nat} (hd : 8 ≤ d) {r : (Int ⊕ Nat) × mD} {x1 x3 : Int} : ∀ (n : Nat) {x4 x5 : Int} {D : mD}, F_X11_runs_L26 x1 x3 n x4 x5 D = some r → J Ω M_X11_runs d 2 12 (rO r.1 r.2) 26 [some (mR 0), some (mI x1), none, some (mI x3), some (mI x4), some (mI x5)] [] (SK, D, false) 2 12 := by
  intro n
  induction n with
  | zero => intro x4 x5 D h; exact absurd (show (none : Option ((Int ⊕ Nat) × mD)) = some r from h) nofun
  | succ n ih =>
    intro x4 x5 D h
    rw [F_X11_runs_L26] at h
    refine j_iload (pc' := 28) dX11_runs_26 rfl rfl ?_
    refine j_aload_n (pc' := 29) dX11_runs_28 rfl rfl ?_
    refine k_getR (pc' := 32) (sl := 1) (r := 3) kc_10 w_394 (Or.inl rfl) (by decide) dX11_runs_29 rfl (by decide) sk_0 (by decide) rfl (by decide) ?_
    obtain ⟨v1, D1, e1, h⟩ := bI_o h
    refine k_cV (d' := 1) (pc' := 35) [] [mI x5] (c_X6_gapCount (d := 1) (Nat.le_refl _) shop_3 e1) cw_X11_353 kc_6 w_537 w_538 dX11_runs_32 rfl (by omega) rfl rfl (by decide) sk_3 rfl rfl (by decide) (by decide) ?_
    obtain ⟨q1, h⟩ := ck_o h
    obtain ⟨q2, h⟩ := ck_o h
    refine j_icmp_ge (tgt := 85) (pc' := 38) dX11_runs_35 rfl rfl q1 q2 (fun b1 => ?_) (fun b1 => ?_)
    · replace h := ite_t b1 h
      refine j_iload (pc' := 87) dX11_runs_85 rfl rfl ?_
      exact j_iret dX11_runs_87 rfl (by decide) (by decide) (rIX_of h)
    · replace h := ite_f b1 h
      refine j_iload_n (pc' := 39) dX11_runs_38 rfl rfl ?_
      refine j_aload_n (pc' := 40) dX11_runs_39 rfl rfl ?_
      refine k_getR (pc' := 43) (sl := 4) (r := 22) kc_10 w_397 (Or.inl rfl) (by decide) dX11_runs_40 rfl (by decide) sk_0 (by decide) rfl (by decide) ?_
      refine j_iload (pc' := 45) dX11_runs_43 rfl rfl ?_
      refine j_aload_n (pc' := 46) dX11_runs_45 rfl rfl ?_
      refine k_getR (pc' := 49) (sl := 3) (r := 17) kc_10 w_396 (Or.inl rfl) (by decide) dX11_runs_46 rfl (by decide) sk_0 (by decide) rfl (by decide) ?_
      refine k_getR (pc' := 52) (sl := 0) (r := 18) kc_9 w_211 (Or.inl rfl) (by decide) dX11_runs_49 rfl (by decide) sk_17 (by decide) rfl (by decide) ?_
      refine j_iload (pc' := 54) dX11_runs_52 rfl rfl ?_
      obtain ⟨q3, h⟩ := ck_o h
      refine k_iald (pc' := 55) (z := D1 18 x5) dX11_runs_54 rfl (by decide) sk_18 (by decide) q3.1 q3.2 rfl ?_
      refine j_aload_n (pc' := 56) dX11_runs_55 rfl rfl ?_
      refine k_getR (pc' := 59) (sl := 3) (r := 17) kc_10 w_396 (Or.inl rfl) (by decide) dX11_runs_56 rfl (by decide) sk_0 (by decide) rfl (by decide) ?_
      refine k_getI (pc' := 62) (sl := 5) (z := D1 17 5) kc_9 w_223 (by decide) dX11_runs_59 rfl (by decide) sk_17 (by decide) rfl rfl ?_
      obtain ⟨v2, D2, e2, h⟩ := bI_o h
      refine k_cV (d' := 7) (pc' := 65) [mI x5, mI (D1 18 x5), mI (D1 17 5)] [mI x3] (c_X0_leastSpace (d := 7) (Nat.le_refl _) e2) cw_X11_243 kc_0 w_646 w_647 dX11_runs_62 rfl (by omega) rfl rfl (by decide) sk_22 rfl rfl (by decide) (by decide) ?_
      refine j_imul (pc' := 66) dX11_runs_65 rfl ?_
      refine j_iload_n (pc' := 67) dX11_runs_66 rfl rfl ?_
      obtain ⟨q4, h⟩ := ck_o h
      obtain ⟨q5, h⟩ := ck_o h
      have hj : J Ω M_X11_runs d 2 12 (rO r.1 r.2) 79 [some (mR 0), some (mI x1), none, some (mI x3), some (mI (if x1 ≤ (x3 * v2) then x4 else (bOr x4 (bShl 1 x5)))), some (mI x5)] [] (SK, D2, false) 2 12 := by
        refine j_iinc (pc' := 82) (z' := (x5 + 1)) (ls' := [some (mR 0), some (mI x1), none, some (mI x3), some (mI (if x1 ≤ (x3 * v2) then x4 else (bOr x4 (bShl 1 x5)))), some (mI (x5 + 1))]) dX11_runs_79 rfl rfl rfl (by decide) rfl ?_
        refine j_goto (tgt := 26) dX11_runs_82 rfl ?_
        exact j_wk (j_widen (ce := 2) (ke := 12) (by decide) (by decide) (ih h)) (And.intro rfl (And.intro rfl (And.intro rfl (And.intro rfl (And.intro rfl trivial)))))
      refine j_icmp_ge (tgt := 79) (pc' := 70) dX11_runs_67 rfl rfl q4 q5 (fun b2 => ?_) (fun b2 => ?_)
      · have hj := hj
        try simp only [if_pos b2] at hj
        exact j_wk hj (And.intro rfl (And.intro rfl (And.intro rfl (And.intro rfl (And.intro rfl trivial)))))
      · refine j_iload (pc' := 72) dX11_runs_70 rfl rfl ?_
        refine j_iconst (pc' := 73) dX11_runs_72 rfl ?_
        refine j_iload (pc' := 75) dX11_runs_73 rfl rfl ?_
        refine j_ishl (pc' := 76) dX11_runs_75 rfl ?_
        refine j_ior (pc' := 77) dX11_runs_76 rfl ?_
        refine j_istore (pc' := 79) (ls' := [some (mR 0), some (mI x1), none, some (mI x3), some (mI (bOr x4 (bShl 1 x5))), some (mI x5)]) dX11_runs_77 rfl (by decide) rfl ?_
        have hj := hj
        try simp only [if_neg b2] at hj
        exact j_wk hj (And.intro rfl (And.intro rfl (And.intro rfl (And.intro rfl (And.intro rfl trivial)))))
theorem c_X11_runs_e {Ω : mO} {d : Nat} (hd : 8 ≤ d) {r : (Int ⊕ Nat) × mD} {x1 x2 : Int} {D : mD} (h : F_X11_runs x1 x2 D = some r) : J Ω M_X11_runs d 2 12 (rO r.1 r.2) 0 [some (mR 0), some (mI x1), some (mI x2), none, none, none] [] (SK, D, false) 0 0 := by
  rw [F_X11_runs] at h
  refine j_aload_n (pc' := 1) dX11_runs_0 rfl rfl ?_
  refine j_iload_n (pc' := 2) dX11_runs_1 rfl rfl ?_
  rcases bX_o h with ⟨v1, D1, e1, h⟩ | ⟨v1, D1, e1, h⟩
  rotate_left
  · exact k_cVXtV (d' := 6) [mI x1] [] (c_X11_needYards (d := 6) (Nat.le_refl _) e1) cw_X11_256 kc_10 w_1146 ws_27 dX11_runs_2 (by omega) rfl rfl (by decide) sk_0 rfl rfl (by decide) (by decide) (rX_of h)
  refine k_cVXv (d' := 6) (pc' := 5) (ce := 1) (ke := 6) [mI x1] [] (c_X11_needYards (d := 6) (Nat.le_refl _) e1) cw_X11_256 kc_10 w_1146 ws_27 dX11_runs_2 rfl (by omega) rfl rfl (by decide) sk_0 rfl rfl rfl rfl (by decide) (by decide) ?_
  refine j_aload_n (pc' := 6) dX11_runs_5 rfl rfl ?_
  refine j_iload_n (pc' := 7) dX11_runs_6 rfl rfl ?_
  rcases bX_o h with ⟨v2, D2, e2, h⟩ | ⟨v2, D2, e2, h⟩
  rotate_left
  · exact k_cVXtV (d' := 6) [mI x2] [] (c_X11_needLight (d := 6) (Nat.le_refl _) e2) cw_X11_259 kc_10 w_1151 ws_28 dX11_runs_7 (by omega) rfl rfl (by decide) sk_0 rfl rfl (by decide) (by decide) (rX_of h)
  refine k_cVXv (d' := 6) (pc' := 10) (ce := 2) (ke := 12) [mI x2] [] (c_X11_needLight (d := 6) (Nat.le_refl _) e2) cw_X11_259 kc_10 w_1151 ws_28 dX11_runs_7 rfl (by omega) rfl rfl (by decide) sk_0 rfl rfl rfl rfl (by decide) (by decide) ?_
  refine j_aload_n (pc' := 11) dX11_runs_10 rfl rfl ?_
  refine k_getR (pc' := 14) (sl := 4) (r := 22) kc_10 w_397 (Or.inl rfl) (by decide) dX11_runs_11 rfl (by decide) sk_0 (by decide) rfl (by decide) ?_
  refine j_iload_n (pc' := 15) dX11_runs_14 rfl rfl ?_
  refine j_iload_n (pc' := 16) dX11_runs_15 rfl rfl ?_
  obtain ⟨v3, D3, e3, h⟩ := bI_o h
  refine k_cV (d' := 7) (pc' := 19) [mI x1, mI x2] [] (c_X0_clearness (d := 7) (Nat.le_refl _) e3) cw_X11_392 kc_0 w_654 w_655 dX11_runs_16 rfl (by omega) rfl rfl (by decide) sk_22 rfl rfl (by decide) (by decide) ?_
  refine j_istore_n (pc' := 20) (ls' := [some (mR 0), some (mI x1), some (mI x2), some (mI v3), none, none]) dX11_runs_19 rfl (by decide) rfl ?_
  refine j_iconst (pc' := 21) dX11_runs_20 rfl ?_
  refine j_istore (pc' := 23) (ls' := [some (mR 0), some (mI x1), some (mI x2), some (mI v3), some (mI 0), none]) dX11_runs_21 rfl (by decide) rfl ?_
  refine j_iconst (pc' := 24) dX11_runs_23 rfl ?_
  refine j_istore (pc' := 26) (ls' := [some (mR 0), some (mI x1), some (mI x2), some (mI v3), some (mI 0), some (mI 0)]) dX11_runs_24 rfl (by decide) rfl ?_
  exact j_wk (j_widen (ce := 2) (ke := 12) (by decide) (by decide) (c_X11_runs_L26 hd _ h)) (And.intro rfl (And.intro rfl (And.intro rfl (And.intro rfl (And.intro rfl trivial)))))
theorem c_X11_runs {d : Nat} (hd : 8 ≤ d) {x1 x2 : Int} {D D' : mD} {v : Int ⊕ Nat} (h : F_X11_runs x1 x2 D = some (v, D')) : CM d 2 12 M_X11_runs [mR 0, mI x1, mI x2] (SK, D, false) (rO v D') := CM.intro pn_X11 rfl rfl (Nat.le_of_ble_eq_true rfl) (fun _ => c_X11_runs_e hd h)
theorem c_X11_bears_L13 {Ω : mO} {d : Nat} (hd : 9 ≤ d) {r : (Int ⊕ Nat) × mD} {x1 x2 : Int} : ∀ (n : Nat) {x3 : Int} {D : mD}, F_X11_bears_L13 x1 x2 n x3 D = some r → J Ω M_X11_bears d 2 12 (rO r.1 r.2) 13 [some (mR 0), some (mI x1), some (mI x2), some (mI x3)] [] (SK, D, false) 2 12 := by
  intro n
  induction n with
  | zero => intro x3 D h; exact absurd (show (none : Option ((Int ⊕ Nat) × mD)) = some r from h) nofun
  | succ n ih =>
    intro x3 D h
    rw [F_X11_bears_L13] at h
    refine j_iload_n (pc' := 14) dX11_bears_13 rfl rfl ?_
    obtain ⟨q1, h⟩ := ck_o h
    refine j_if_lt (tgt := 56) (pc' := 17) dX11_bears_14 rfl rfl q1 (fun b1 => ?_) (fun b1 => ?_)
    · replace h := ite_t b1 h
      refine j_iconst (pc' := 57) dX11_bears_56 rfl ?_
      exact j_iret dX11_bears_57 rfl (by decide) (by decide) (rIX_of h)
    · replace h := ite_f b1 h
      refine j_aload_n (pc' := 18) dX11_bears_17 rfl rfl ?_
      refine k_getR (pc' := 21) (sl := 4) (r := 22) kc_10 w_397 (Or.inl rfl) (by decide) dX11_bears_18 rfl (by decide) sk_0 (by decide) rfl (by decide) ?_
      refine j_iload_n (pc' := 22) dX11_bears_21 rfl rfl ?_
      obtain ⟨v1, D1, e1, h⟩ := bI_o h
      refine k_cV (d' := 4) (pc' := 25) [mI x3] [] (c_X0_fitsWith (d := 4) (Nat.le_refl _) e1) cw_X11_361 kc_0 w_591 w_592 dX11_bears_22 rfl (by omega) rfl rfl (by decide) sk_22 rfl rfl (by decide) (by decide) ?_
      obtain ⟨q2, h⟩ := ck_o h
      refine j_if_eq (tgt := 50) (pc' := 28) dX11_bears_25 rfl rfl q2 (fun b2 => ?_) (fun b2 => ?_)
      · replace h := ite_t b2 h
        refine j_iinc (pc' := 53) (z' := (x3 - 1)) (ls' := [some (mR 0), some (mI x1), some (mI x2), some (mI (x3 - 1))]) dX11_bears_50 rfl rfl (by omega) (by decide) rfl ?_
        refine j_goto (tgt := 13) dX11_bears_53 rfl ?_
        exact j_wk (j_widen (ce := 2) (ke := 12) (by decide) (by decide) (ih h)) (And.intro rfl (And.intro rfl (And.intro rfl (And.intro rfl trivial))))
      · replace h := ite_f b2 h
        refine j_aload_n (pc' := 29) dX11_bears_28 rfl rfl ?_
        refine k_getR (pc' := 32) (sl := 4) (r := 22) kc_10 w_397 (Or.inl rfl) (by decide) dX11_bears_29 rfl (by decide) sk_0 (by decide) rfl (by decide) ?_
        refine j_iload_n (pc' := 33) dX11_bears_32 rfl rfl ?_
        refine j_iload_n (pc' := 34) dX11_bears_33 rfl rfl ?_
        refine j_aload_n (pc' := 35) dX11_bears_34 rfl rfl ?_
        refine k_getR (pc' := 38) (sl := 4) (r := 22) kc_10 w_397 (Or.inl rfl) (by decide) dX11_bears_35 rfl (by decide) sk_0 (by decide) rfl (by decide) ?_
        refine j_iload_n (pc' := 39) dX11_bears_38 rfl rfl ?_
        obtain ⟨v2, D2, e2, h⟩ := bI_o h
        refine k_cV (d' := 8) (pc' := 42) [mI x3] [mI x2, mI x1, mR 22] (c_X0_tightestSpace (d := 8) (Nat.le_refl _) e2) cw_X11_382 kc_0 w_642 w_643 dX11_bears_39 rfl (by omega) rfl rfl (by decide) sk_22 rfl rfl (by decide) (by decide) ?_
        obtain ⟨v3, D3, e3, h⟩ := bI_o h
        refine k_cV (d' := 8) (pc' := 45) [mI x1, mI x2, mI v2] [] (c_X0_isRead (d := 8) (Nat.le_refl _) e3) cw_X11_385 kc_0 w_650 w_651 dX11_bears_42 rfl (by omega) rfl rfl (by decide) sk_22 rfl rfl (by decide) (by decide) ?_
        obtain ⟨q3, h⟩ := ck_o h
        refine j_if_eq (tgt := 50) (pc' := 48) dX11_bears_45 rfl rfl q3 (fun b3 => ?_) (fun b3 => ?_)
        · replace h := ite_t b3 h
          refine j_iinc (pc' := 53) (z' := (x3 - 1)) (ls' := [some (mR 0), some (mI x1), some (mI x2), some (mI (x3 - 1))]) dX11_bears_50 rfl rfl (by omega) (by decide) rfl ?_
          refine j_goto (tgt := 13) dX11_bears_53 rfl ?_
          exact j_wk (j_widen (ce := 2) (ke := 12) (by decide) (by decide) (ih h)) (And.intro rfl (And.intro rfl (And.intro rfl (And.intro rfl trivial))))
        · replace h := ite_f b3 h
          refine j_iload_n (pc' := 49) dX11_bears_48 rfl rfl ?_
          exact j_iret dX11_bears_49 rfl (by decide) (by decide) (rIX_of h)
theorem c_X11_bears_e {Ω : mO} {d : Nat} (hd : 9 ≤ d) {r : (Int ⊕ Nat) × mD} {x1 x2 : Int} {D : mD} (h : F_X11_bears x1 x2 D = some r) : J Ω M_X11_bears d 2 12 (rO r.1 r.2) 0 [some (mR 0), some (mI x1), some (mI x2), none] [] (SK, D, false) 0 0 := by
  rw [F_X11_bears] at h
  refine j_aload_n (pc' := 1) dX11_bears_0 rfl rfl ?_
  refine j_iload_n (pc' := 2) dX11_bears_1 rfl rfl ?_
  rcases bX_o h with ⟨v1, D1, e1, h⟩ | ⟨v1, D1, e1, h⟩
  rotate_left
  · exact k_cVXtV (d' := 6) [mI x1] [] (c_X11_needYards (d := 6) (Nat.le_refl _) e1) cw_X11_256 kc_10 w_1146 ws_27 dX11_bears_2 (by omega) rfl rfl (by decide) sk_0 rfl rfl (by decide) (by decide) (rX_of h)
  refine k_cVXv (d' := 6) (pc' := 5) (ce := 1) (ke := 6) [mI x1] [] (c_X11_needYards (d := 6) (Nat.le_refl _) e1) cw_X11_256 kc_10 w_1146 ws_27 dX11_bears_2 rfl (by omega) rfl rfl (by decide) sk_0 rfl rfl rfl rfl (by decide) (by decide) ?_
  refine j_aload_n (pc' := 6) dX11_bears_5 rfl rfl ?_
  refine j_iload_n (pc' := 7) dX11_bears_6 rfl rfl ?_
  rcases bX_o h with ⟨v2, D2, e2, h⟩ | ⟨v2, D2, e2, h⟩
  rotate_left
  · exact k_cVXtV (d' := 6) [mI x2] [] (c_X11_needLight (d := 6) (Nat.le_refl _) e2) cw_X11_259 kc_10 w_1151 ws_28 dX11_bears_7 (by omega) rfl rfl (by decide) sk_0 rfl rfl (by decide) (by decide) (rX_of h)
  refine k_cVXv (d' := 6) (pc' := 10) (ce := 2) (ke := 12) [mI x2] [] (c_X11_needLight (d := 6) (Nat.le_refl _) e2) cw_X11_259 kc_10 w_1151 ws_28 dX11_bears_7 rfl (by omega) rfl rfl (by decide) sk_0 rfl rfl rfl rfl (by decide) (by decide) ?_
  refine j_bipush (pc' := 12) dX11_bears_10 rfl rfl ?_
  refine j_istore_n (pc' := 13) (ls' := [some (mR 0), some (mI x1), some (mI x2), some (mI 9)]) dX11_bears_12 rfl (by decide) rfl ?_
  exact j_wk (j_widen (ce := 2) (ke := 12) (by decide) (by decide) (c_X11_bears_L13 hd _ h)) (And.intro rfl (And.intro rfl (And.intro rfl (And.intro rfl trivial))))
theorem c_X11_bears {d : Nat} (hd : 9 ≤ d) {x1 x2 : Int} {D D' : mD} {v : Int ⊕ Nat} (h : F_X11_bears x1 x2 D = some (v, D')) : CM d 2 12 M_X11_bears [mR 0, mI x1, mI x2] (SK, D, false) (rO v D') := CM.intro pn_X11 rfl rfl (Nat.le_of_ble_eq_true rfl) (fun _ => c_X11_bears_e hd h)
theorem c_X11_lamp_L6 {Ω : mO} {d : Nat} (hd : 10 ≤ d) {r : Int × mD} : ∀ (n : Nat) {x1 x2 x3 : Int} {D : mD}, F_X11_lamp_L6 n x1 x2 x3 D = some r → J Ω M_X11_lamp d 0 0 (rI r.1 r.2) 6 [some (mR 0), some (mI x1), some (mI x2), some (mI x3), none] [] (SK, D, false) 0 0 := by
  intro n
  induction n with
  | zero => intro x1 x2 x3 D h; exact absurd (show (none : Option (Int × mD)) = some r from h) nofun
  | succ n ih =>
    intro x1 x2 x3 D h
    rw [F_X11_lamp_L6] at h
    refine j_iload_n (pc' := 7) dX11_lamp_6 rfl rfl ?_
    refine j_bipush (pc' := 9) dX11_lamp_7 rfl rfl ?_
    obtain ⟨q1, h⟩ := ck_o h
    refine j_icmp_gt (tgt := 39) (pc' := 12) dX11_lamp_9 rfl rfl q1 (by decide) (fun b1 => ?_) (fun b1 => ?_)
    · replace h := ite_t b1 h
      refine j_iload_n (pc' := 40) dX11_lamp_39 rfl rfl ?_
      exact j_iret dX11_lamp_40 rfl (by decide) (by decide) (rI_of h)
    · replace h := ite_f b1 h
      refine j_aload_n (pc' := 13) dX11_lamp_12 rfl rfl ?_
      refine k_getR (pc' := 16) (sl := 4) (r := 22) kc_10 w_397 (Or.inl rfl) (by decide) dX11_lamp_13 rfl (by decide) sk_0 (by decide) rfl (by decide) ?_
      refine j_iload_n (pc' := 17) dX11_lamp_16 rfl rfl ?_
      obtain ⟨v1, D1, e1, h⟩ := bI_o h
      refine k_cV (d' := 9) (pc' := 20) [mI x3] [] (c_X0_farthestBy (d := 9) (Nat.le_refl _) e1) cw_X11_389 kc_0 w_638 w_639 dX11_lamp_17 rfl (by omega) rfl rfl (by decide) sk_22 rfl rfl (by decide) (by decide) ?_
      refine j_istore (pc' := 22) (ls' := [some (mR 0), some (mI x1), some (mI x2), some (mI x3), some (mI v1)]) dX11_lamp_20 rfl (by decide) rfl ?_
      refine j_iload (pc' := 24) dX11_lamp_22 rfl rfl ?_
      refine j_iload_n (pc' := 25) dX11_lamp_24 rfl rfl ?_
      obtain ⟨q2, h⟩ := ck_o h
      obtain ⟨q3, h⟩ := ck_o h
      have hj : J Ω M_X11_lamp d 0 0 (rI r.1 r.2) 33 [some (mR 0), some (mI (if v1 ≤ x2 then x1 else x3)), some (mI (if v1 ≤ x2 then x2 else v1)), some (mI x3), none] [] (SK, D1, false) 0 0 := by
        refine j_iinc (pc' := 36) (z' := (x3 + 1)) (ls' := [some (mR 0), some (mI (if v1 ≤ x2 then x1 else x3)), some (mI (if v1 ≤ x2 then x2 else v1)), some (mI (x3 + 1)), none]) dX11_lamp_33 rfl rfl rfl (by decide) rfl ?_
        refine j_goto (tgt := 6) dX11_lamp_36 rfl ?_
        exact j_wk (j_widen (ce := 0) (ke := 0) (by decide) (by decide) (ih h)) (And.intro rfl (And.intro rfl (And.intro rfl (And.intro rfl trivial))))
      refine j_icmp_le (tgt := 33) (pc' := 28) dX11_lamp_25 rfl rfl q2 q3 (fun b2 => ?_) (fun b2 => ?_)
      · have hj := hj
        try simp only [if_pos b2] at hj
        exact j_wk hj (And.intro rfl (And.intro rfl (And.intro rfl (And.intro rfl trivial))))
      · refine j_iload (pc' := 30) dX11_lamp_28 rfl rfl ?_
        refine j_istore_n (pc' := 31) (ls' := [some (mR 0), some (mI x1), some (mI v1), some (mI x3), some (mI v1)]) dX11_lamp_30 rfl (by decide) rfl ?_
        refine j_iload_n (pc' := 32) dX11_lamp_31 rfl rfl ?_
        refine j_istore_n (pc' := 33) (ls' := [some (mR 0), some (mI x3), some (mI v1), some (mI x3), some (mI v1)]) dX11_lamp_32 rfl (by decide) rfl ?_
        have hj := hj
        try simp only [if_neg b2] at hj
        exact j_wk hj (And.intro rfl (And.intro rfl (And.intro rfl (And.intro rfl trivial))))
theorem c_X11_lamp_e {Ω : mO} {d : Nat} (hd : 10 ≤ d) {r : Int × mD} {D : mD} (h : F_X11_lamp D = some r) : J Ω M_X11_lamp d 0 0 (rI r.1 r.2) 0 [some (mR 0), none, none, none, none] [] (SK, D, false) 0 0 := by
  rw [F_X11_lamp] at h
  refine j_iconst (pc' := 1) dX11_lamp_0 rfl ?_
  refine j_istore_n (pc' := 2) (ls' := [some (mR 0), some (mI 0), none, none, none]) dX11_lamp_1 rfl (by decide) rfl ?_
  refine j_iconst (pc' := 3) dX11_lamp_2 rfl ?_
  refine j_istore_n (pc' := 4) (ls' := [some (mR 0), some (mI 0), some (mI (-1)), none, none]) dX11_lamp_3 rfl (by decide) rfl ?_
  refine j_iconst (pc' := 5) dX11_lamp_4 rfl ?_
  refine j_istore_n (pc' := 6) (ls' := [some (mR 0), some (mI 0), some (mI (-1)), some (mI 0), none]) dX11_lamp_5 rfl (by decide) rfl ?_
  exact j_wk (j_widen (ce := 0) (ke := 0) (by decide) (by decide) (c_X11_lamp_L6 hd _ h)) (And.intro rfl (And.intro rfl (And.intro rfl (And.intro rfl trivial))))
theorem c_X11_lamp {d : Nat} (hd : 10 ≤ d) {D D' : mD} {v : Int} (h : F_X11_lamp D = some (v, D')) : CM d 0 0 M_X11_lamp [mR 0] (SK, D, false) (rI v D') := CM.intro pn_X11 rfl rfl (Nat.le_of_ble_eq_true rfl) (fun _ => c_X11_lamp_e hd h)
theorem c_X11_aslant_j10 {Ω : mO} {d : Nat} (hd : 9 ≤ d) {r : (Int ⊕ Nat) × mD} {D : mD} (h : F_X11_aslant_j10 D = some r) : J Ω M_X11_aslant d 1 6 (rO r.1 r.2) 10 [none, none] [] (SK, D, false) 0 0 := by
  rw [F_X11_aslant_j10] at h
  exact j_throwW (tw_X11_130_134) (si := 50) rfl dX11_aslant_10 dX11_aslant_13 dX11_aslant_14 dX11_aslant_17 dX11_aslant_20 rfl (by omega) rfl (by decide) (by decide) (rX_of h)
theorem c_X11_aslant_e {Ω : mO} {d : Nat} (hd : 9 ≤ d) {r : (Int ⊕ Nat) × mD} {x1 : Int} {D : mD} (h : F_X11_aslant x1 D = some r) : J Ω M_X11_aslant d 1 6 (rO r.1 r.2) 0 [some (mR 0), some (mI x1)] [] (SK, D, false) 0 0 := by
  rw [F_X11_aslant] at h
  refine j_iload_n (pc' := 1) dX11_aslant_0 rfl rfl ?_
  obtain ⟨q1, h⟩ := ck_o h
  refine j_if_lt (tgt := 10) (pc' := 4) dX11_aslant_1 rfl rfl q1 (fun b1 => ?_) (fun b1 => ?_)
  · replace h := ite_t b1 h
    exact j_wk (j_widen (ce := 0) (ke := 0) (by decide) (by decide) (c_X11_aslant_j10 hd h)) (trivial)
  · replace h := ite_f b1 h
    refine j_iload_n (pc' := 5) dX11_aslant_4 rfl rfl ?_
    refine j_bipush (pc' := 7) dX11_aslant_5 rfl rfl ?_
    refine j_icmp_le (tgt := 21) (pc' := 10) dX11_aslant_7 rfl rfl q1 (by decide) (fun b2 => ?_) (fun b2 => ?_)
    · replace h := ite_t b2 h
      refine j_aload_n (pc' := 22) dX11_aslant_21 rfl rfl ?_
      refine k_getR (pc' := 25) (sl := 4) (r := 22) kc_10 w_397 (Or.inl rfl) (by decide) dX11_aslant_22 rfl (by decide) sk_0 (by decide) rfl (by decide) ?_
      refine j_aload_n (pc' := 26) dX11_aslant_25 rfl rfl ?_
      refine k_getR (pc' := 29) (sl := 3) (r := 17) kc_10 w_396 (Or.inl rfl) (by decide) dX11_aslant_26 rfl (by decide) sk_0 (by decide) rfl (by decide) ?_
      refine k_getR (pc' := 32) (sl := 0) (r := 18) kc_9 w_211 (Or.inl rfl) (by decide) dX11_aslant_29 rfl (by decide) sk_17 (by decide) rfl (by decide) ?_
      refine j_iload_n (pc' := 33) dX11_aslant_32 rfl rfl ?_
      obtain ⟨v1, D1, e1, h⟩ := bI_o h
      refine k_cV (d' := 8) (pc' := 36) [mR 18, mI x1] [] (c_X0_unevenBy (d := 8) (Nat.le_refl _) arr_18 e1) cw_X11_349 kc_0 w_533 w_534 dX11_aslant_33 rfl (by omega) rfl rfl (by decide) sk_22 rfl rfl (by decide) (by decide) ?_
      exact j_iret dX11_aslant_36 rfl (by decide) (by decide) (rIX_of h)
    · replace h := ite_f b2 h
      exact j_wk (j_widen (ce := 0) (ke := 0) (by decide) (by decide) (c_X11_aslant_j10 hd h)) (trivial)
theorem c_X11_aslant {d : Nat} (hd : 9 ≤ d) {x1 : Int} {D D' : mD} {v : Int ⊕ Nat} (h : F_X11_aslant x1 D = some (v, D')) : CM d 1 6 M_X11_aslant [mR 0, mI x1] (SK, D, false) (rO v D') := CM.intro pn_X11 rfl rfl (Nat.le_of_ble_eq_true rfl) (fun _ => c_X11_aslant_e hd h)
theorem c_X11_from_L20 {Ω : mO} {d : Nat} (hd : 9 ≤ d) {r : Int × mD} : ∀ (n : Nat) {x1 x2 x3 : Int} {D : mD}, F_X11_from_L20 n x1 x2 x3 D = some r → J Ω M_X11_from d 0 0 (rI r.1 r.2) 20 [some (mR 0), some (mI x1), some (mI x2), some (mI x3), none] [] (SK, D, false) 0 0 := by
  intro n
  induction n with
  | zero => intro x1 x2 x3 D h; exact absurd (show (none : Option (Int × mD)) = some r from h) nofun
  | succ n ih =>
    intro x1 x2 x3 D h
    rw [F_X11_from_L20] at h
    refine j_iload_n (pc' := 21) dX11_from_20 rfl rfl ?_
    refine j_bipush (pc' := 23) dX11_from_21 rfl rfl ?_
    obtain ⟨q1, h⟩ := ck_o h
    refine j_icmp_gt (tgt := 60) (pc' := 26) dX11_from_23 rfl rfl q1 (by decide) (fun b1 => ?_) (fun b1 => ?_)
    · replace h := ite_t b1 h
      refine j_iload_n (pc' := 61) dX11_from_60 rfl rfl ?_
      exact j_iret dX11_from_61 rfl (by decide) (by decide) (rI_of h)
    · replace h := ite_f b1 h
      refine j_aload_n (pc' := 27) dX11_from_26 rfl rfl ?_
      refine k_getR (pc' := 30) (sl := 4) (r := 22) kc_10 w_397 (Or.inl rfl) (by decide) dX11_from_27 rfl (by decide) sk_0 (by decide) rfl (by decide) ?_
      refine j_aload_n (pc' := 31) dX11_from_30 rfl rfl ?_
      refine k_getR (pc' := 34) (sl := 3) (r := 17) kc_10 w_396 (Or.inl rfl) (by decide) dX11_from_31 rfl (by decide) sk_0 (by decide) rfl (by decide) ?_
      refine k_getR (pc' := 37) (sl := 0) (r := 18) kc_9 w_211 (Or.inl rfl) (by decide) dX11_from_34 rfl (by decide) sk_17 (by decide) rfl (by decide) ?_
      refine j_iload_n (pc' := 38) dX11_from_37 rfl rfl ?_
      obtain ⟨v1, D1, e1, h⟩ := bI_o h
      refine k_cV (d' := 8) (pc' := 41) [mR 18, mI x3] [] (c_X0_unevenBy (d := 8) (Nat.le_refl _) arr_18 e1) cw_X11_349 kc_0 w_533 w_534 dX11_from_38 rfl (by omega) rfl rfl (by decide) sk_22 rfl rfl (by decide) (by decide) ?_
      refine j_istore (pc' := 43) (ls' := [some (mR 0), some (mI x1), some (mI x2), some (mI x3), some (mI v1)]) dX11_from_41 rfl (by decide) rfl ?_
      refine j_iload (pc' := 45) dX11_from_43 rfl rfl ?_
      refine j_iload_n (pc' := 46) dX11_from_45 rfl rfl ?_
      obtain ⟨q2, h⟩ := ck_o h
      obtain ⟨q3, h⟩ := ck_o h
      have hj : J Ω M_X11_from d 0 0 (rI r.1 r.2) 54 [some (mR 0), some (mI (if x2 ≤ v1 then x1 else x3)), some (mI (if x2 ≤ v1 then x2 else v1)), some (mI x3), none] [] (SK, D1, false) 0 0 := by
        refine j_iinc (pc' := 57) (z' := (x3 + 1)) (ls' := [some (mR 0), some (mI (if x2 ≤ v1 then x1 else x3)), some (mI (if x2 ≤ v1 then x2 else v1)), some (mI (x3 + 1)), none]) dX11_from_54 rfl rfl rfl (by decide) rfl ?_
        refine j_goto (tgt := 20) dX11_from_57 rfl ?_
        exact j_wk (j_widen (ce := 0) (ke := 0) (by decide) (by decide) (ih h)) (And.intro rfl (And.intro rfl (And.intro rfl (And.intro rfl trivial))))
      refine j_icmp_ge (tgt := 54) (pc' := 49) dX11_from_46 rfl rfl q2 q3 (fun b2 => ?_) (fun b2 => ?_)
      · have hj := hj
        try simp only [if_pos b2] at hj
        exact j_wk hj (And.intro rfl (And.intro rfl (And.intro rfl (And.intro rfl trivial))))
      · refine j_iload (pc' := 51) dX11_from_49 rfl rfl ?_
        refine j_istore_n (pc' := 52) (ls' := [some (mR 0), some (mI x1), some (mI v1), some (mI x3), some (mI v1)]) dX11_from_51 rfl (by decide) rfl ?_
        refine j_iload_n (pc' := 53) dX11_from_52 rfl rfl ?_
        refine j_istore_n (pc' := 54) (ls' := [some (mR 0), some (mI x3), some (mI v1), some (mI x3), some (mI v1)]) dX11_from_53 rfl (by decide) rfl ?_
        have hj := hj
        try simp only [if_neg b2] at hj
        exact j_wk hj (And.intro rfl (And.intro rfl (And.intro rfl (And.intro rfl trivial))))
theorem c_X11_from_e {Ω : mO} {d : Nat} (hd : 9 ≤ d) {r : Int × mD} {D : mD} (h : F_X11_from D = some r) : J Ω M_X11_from d 0 0 (rI r.1 r.2) 0 [some (mR 0), none, none, none, none] [] (SK, D, false) 0 0 := by
  rw [F_X11_from] at h
  refine j_iconst (pc' := 1) dX11_from_0 rfl ?_
  refine j_istore_n (pc' := 2) (ls' := [some (mR 0), some (mI 0), none, none, none]) dX11_from_1 rfl (by decide) rfl ?_
  refine j_aload_n (pc' := 3) dX11_from_2 rfl rfl ?_
  refine k_getR (pc' := 6) (sl := 4) (r := 22) kc_10 w_397 (Or.inl rfl) (by decide) dX11_from_3 rfl (by decide) sk_0 (by decide) rfl (by decide) ?_
  refine j_aload_n (pc' := 7) dX11_from_6 rfl rfl ?_
  refine k_getR (pc' := 10) (sl := 3) (r := 17) kc_10 w_396 (Or.inl rfl) (by decide) dX11_from_7 rfl (by decide) sk_0 (by decide) rfl (by decide) ?_
  refine k_getR (pc' := 13) (sl := 0) (r := 18) kc_9 w_211 (Or.inl rfl) (by decide) dX11_from_10 rfl (by decide) sk_17 (by decide) rfl (by decide) ?_
  refine j_iconst (pc' := 14) dX11_from_13 rfl ?_
  obtain ⟨v1, D1, e1, h⟩ := bI_o h
  refine k_cV (d' := 8) (pc' := 17) [mR 18, mI 0] [] (c_X0_unevenBy (d := 8) (Nat.le_refl _) arr_18 e1) cw_X11_349 kc_0 w_533 w_534 dX11_from_14 rfl (by omega) rfl rfl (by decide) sk_22 rfl rfl (by decide) (by decide) ?_
  refine j_istore_n (pc' := 18) (ls' := [some (mR 0), some (mI 0), some (mI v1), none, none]) dX11_from_17 rfl (by decide) rfl ?_
  refine j_iconst (pc' := 19) dX11_from_18 rfl ?_
  refine j_istore_n (pc' := 20) (ls' := [some (mR 0), some (mI 0), some (mI v1), some (mI 1), none]) dX11_from_19 rfl (by decide) rfl ?_
  exact j_wk (j_widen (ce := 0) (ke := 0) (by decide) (by decide) (c_X11_from_L20 hd _ h)) (And.intro rfl (And.intro rfl (And.intro rfl (And.intro rfl trivial))))
theorem c_X11_from {d : Nat} (hd : 9 ≤ d) {D D' : mD} {v : Int} (h : F_X11_from D = some (v, D')) : CM d 0 0 M_X11_from [mR 0] (SK, D, false) (rI v D') := CM.intro pn_X11 rfl rfl (Nat.le_of_ble_eq_true rfl) (fun _ => c_X11_from_e hd h)
theorem c_X11_ends_e {Ω : mO} {d : Nat} (hd : 7 ≤ d) {r : (Int ⊕ Nat) × mD} {x1 : Int} {D : mD} (h : F_X11_ends x1 D = some r) : J Ω M_X11_ends d 1 6 (rO r.1 r.2) 0 [some (mR 0), some (mI x1)] [] (SK, D, false) 0 0 := by
  rw [F_X11_ends] at h
  refine j_aload_n (pc' := 1) dX11_ends_0 rfl rfl ?_
  refine j_iload_n (pc' := 2) dX11_ends_1 rfl rfl ?_
  rcases bX_o h with ⟨v1, D1, e1, h⟩ | ⟨v1, D1, e1, h⟩
  rotate_left
  · exact k_cVXtV (d' := 6) [mI x1] [] (c_X11_needDistance (d := 6) (Nat.le_refl _) e1) cw_X11_305 kc_10 w_1164 ws_29 dX11_ends_2 (by omega) rfl rfl (by decide) sk_0 rfl rfl (by decide) (by decide) (rX_of h)
  refine k_cVXv (d' := 6) (pc' := 5) (ce := 1) (ke := 6) [mI x1] [] (c_X11_needDistance (d := 6) (Nat.le_refl _) e1) cw_X11_305 kc_10 w_1164 ws_29 dX11_ends_2 rfl (by omega) rfl rfl (by decide) sk_0 rfl rfl rfl rfl (by decide) (by decide) ?_
  refine j_aload_n (pc' := 6) dX11_ends_5 rfl rfl ?_
  refine k_getR (pc' := 9) (sl := 1) (r := 3) kc_10 w_394 (Or.inl rfl) (by decide) dX11_ends_6 rfl (by decide) sk_0 (by decide) rfl (by decide) ?_
  refine k_getI (pc' := 12) (sl := 5) (z := D1 3 5) kc_6 w_91 (by decide) dX11_ends_9 rfl (by decide) sk_3 (by decide) rfl rfl ?_
  refine j_iconst (pc' := 13) dX11_ends_12 rfl ?_
  obtain ⟨q1, h⟩ := ck_o h
  refine j_icmp_ge (tgt := 20) (pc' := 16) dX11_ends_13 rfl rfl q1 (by decide) (fun b1 => ?_) (fun b1 => ?_)
  · replace h := ite_t b1 h
    refine j_aload_n (pc' := 21) dX11_ends_20 rfl rfl ?_
    refine k_getR (pc' := 24) (sl := 4) (r := 22) kc_10 w_397 (Or.inl rfl) (by decide) dX11_ends_21 rfl (by decide) sk_0 (by decide) rfl (by decide) ?_
    refine j_iconst (pc' := 25) dX11_ends_24 rfl ?_
    obtain ⟨v2, D2, e2, h⟩ := bI_o h
    refine k_cV (d' := 2) (pc' := 28) [mI 0] [] (c_X0_freeHairs (d := 2) (Nat.le_refl _) e2) cw_X11_397 kc_0 w_605 w_606 dX11_ends_25 rfl (by omega) rfl rfl (by decide) sk_22 rfl rfl (by decide) (by decide) ?_
    refine j_iload_n (pc' := 29) dX11_ends_28 rfl rfl ?_
    refine j_aload_n (pc' := 30) dX11_ends_29 rfl rfl ?_
    refine k_getR (pc' := 33) (sl := 1) (r := 3) kc_10 w_394 (Or.inl rfl) (by decide) dX11_ends_30 rfl (by decide) sk_0 (by decide) rfl (by decide) ?_
    refine k_getI (pc' := 36) (sl := 5) (z := D2 3 5) kc_6 w_91 (by decide) dX11_ends_33 rfl (by decide) sk_3 (by decide) rfl rfl ?_
    refine j_iconst (pc' := 37) dX11_ends_36 rfl ?_
    refine j_isub (pc' := 38) dX11_ends_37 rfl ?_
    refine j_imul (pc' := 39) dX11_ends_38 rfl ?_
    refine j_isub (pc' := 40) dX11_ends_39 rfl ?_
    exact j_iret dX11_ends_40 rfl (by decide) (by decide) (rIX_of h)
  · replace h := ite_f b1 h
    refine j_sipush (pc' := 19) dX11_ends_16 rfl rfl ?_
    exact j_iret dX11_ends_19 rfl (by decide) (by decide) (rIX_of h)
theorem c_X11_ends {d : Nat} (hd : 7 ≤ d) {x1 : Int} {D D' : mD} {v : Int ⊕ Nat} (h : F_X11_ends x1 D = some (v, D')) : CM d 1 6 M_X11_ends [mR 0, mI x1] (SK, D, false) (rO v D') := CM.intro pn_X11 rfl rfl (Nat.le_of_ble_eq_true rfl) (fun _ => c_X11_ends_e hd h)
theorem c_X11_order_e {Ω : mO} {d : Nat} (hd : 4 ≤ d) {r : Int × mD} {x1 : Int} {D : mD} (h : F_X11_order x1 D = some r) : J Ω M_X11_order d 0 0 (rI r.1 r.2) 0 [some (mR 0), some (mI x1)] [] (SK, D, false) 0 0 := by
  rw [F_X11_order] at h
  refine j_aload_n (pc' := 1) dX11_order_0 rfl rfl ?_
  refine k_getR (pc' := 4) (sl := 3) (r := 17) kc_10 w_396 (Or.inl rfl) (by decide) dX11_order_1 rfl (by decide) sk_0 (by decide) rfl (by decide) ?_
  refine j_iload_n (pc' := 5) dX11_order_4 rfl rfl ?_
  refine j_aload_n (pc' := 6) dX11_order_5 rfl rfl ?_
  refine k_getR (pc' := 9) (sl := 1) (r := 3) kc_10 w_394 (Or.inl rfl) (by decide) dX11_order_6 rfl (by decide) sk_0 (by decide) rfl (by decide) ?_
  refine k_getI (pc' := 12) (sl := 5) (z := D 3 5) kc_6 w_91 (by decide) dX11_order_9 rfl (by decide) sk_3 (by decide) rfl rfl ?_
  obtain ⟨v1, D1, e1, h⟩ := bI_o h
  refine k_cV (d' := 3) (pc' := 15) [mI x1, mI (D 3 5)] [] (c_X10_orderOf (d := 3) (Nat.le_refl _) work_17 e1) cw_X11_400 kc_9 w_670 w_671 dX11_order_12 rfl (by omega) rfl rfl (by decide) sk_17 rfl rfl (by decide) (by decide) ?_
  exact j_iret dX11_order_15 rfl (by decide) (by decide) (rI_of h)
theorem c_X11_order {d : Nat} (hd : 4 ≤ d) {x1 : Int} {D D' : mD} {v : Int} (h : F_X11_order x1 D = some (v, D')) : CM d 0 0 M_X11_order [mR 0, mI x1] (SK, D, false) (rI v D') := CM.intro pn_X11 rfl rfl (Nat.le_of_ble_eq_true rfl) (fun _ => c_X11_order_e hd h)
theorem c_X11_brush_e {Ω : mO} {d : Nat} (hd : 7 ≤ d) {r : Int × mD} {D : mD} (h : F_X11_brush D = some r) : J Ω M_X11_brush d 0 0 (rI r.1 r.2) 0 [some (mR 0)] [] (SK, D, false) 0 0 := by
  rw [F_X11_brush] at h
  refine j_aload_n (pc' := 1) dX11_brush_0 rfl rfl ?_
  refine k_getR (pc' := 4) (sl := 3) (r := 17) kc_10 w_396 (Or.inl rfl) (by decide) dX11_brush_1 rfl (by decide) sk_0 (by decide) rfl (by decide) ?_
  refine j_aload_n (pc' := 5) dX11_brush_4 rfl rfl ?_
  refine k_getR (pc' := 8) (sl := 1) (r := 3) kc_10 w_394 (Or.inl rfl) (by decide) dX11_brush_5 rfl (by decide) sk_0 (by decide) rfl (by decide) ?_
  refine k_getI (pc' := 11) (sl := 5) (z := D 3 5) kc_6 w_91 (by decide) dX11_brush_8 rfl (by decide) sk_3 (by decide) rfl rfl ?_
  obtain ⟨v1, D1, e1, h⟩ := bI_o h
  refine k_cV (d' := 6) (pc' := 14) [mI (D 3 5)] [] (c_X10_fewestDays (d := 6) (Nat.le_refl _) work_17 e1) cw_X11_403 kc_9 w_684 w_685 dX11_brush_11 rfl (by omega) rfl rfl (by decide) sk_17 rfl rfl (by decide) (by decide) ?_
  exact j_iret dX11_brush_14 rfl (by decide) (by decide) (rI_of h)
theorem c_X11_brush {d : Nat} (hd : 7 ≤ d) {D D' : mD} {v : Int} (h : F_X11_brush D = some (v, D')) : CM d 0 0 M_X11_brush [mR 0] (SK, D, false) (rI v D') := CM.intro pn_X11 rfl rfl (Nat.le_of_ble_eq_true rfl) (fun _ => c_X11_brush_e hd h)
theorem c_X11_useUpWhites_e {Ω : mO} {d : Nat} (hd : 1 ≤ d) {r : Int × mD} {D : mD} (h : F_X11_useUpWhites D = some r) : J Ω M_X11_useUpWhites d 0 0 (rI r.1 r.2) 0 [some (mR 0), none] [] (SK, D, false) 0 0 := by
  rw [F_X11_useUpWhites] at h
  refine j_aload_n (pc' := 1) dX11_useUpWhites_0 rfl rfl ?_
  refine k_getR (pc' := 4) (sl := 0) (r := 1) kc_10 w_393 (Or.inl rfl) (by decide) dX11_useUpWhites_1 rfl (by decide) sk_0 (by decide) rfl (by decide) ?_
  refine k_getI (pc' := 7) (sl := 1) (z := D 1 1) kc_8 w_46 (by decide) dX11_useUpWhites_4 rfl (by decide) sk_1 (by decide) rfl rfl ?_
  refine j_istore_n (pc' := 8) (ls' := [some (mR 0), some (mI (D 1 1))]) dX11_useUpWhites_7 rfl (by decide) rfl ?_
  refine j_aload_n (pc' := 9) dX11_useUpWhites_8 rfl rfl ?_
  refine k_getR (pc' := 12) (sl := 0) (r := 1) kc_10 w_393 (Or.inl rfl) (by decide) dX11_useUpWhites_9 rfl (by decide) sk_0 (by decide) rfl (by decide) ?_
  refine j_iconst (pc' := 13) dX11_useUpWhites_12 rfl ?_
  refine k_putI (pc' := 16) (sl := 1) (i' := 1) kc_8 w_46 (by decide) (Or.inl rfl) dX11_useUpWhites_13 rfl (by decide) sk_1 (by decide) ⟨rfl, rfl⟩ rfl ?_
  refine j_iload_n (pc' := 17) dX11_useUpWhites_16 rfl rfl ?_
  exact j_iret dX11_useUpWhites_17 rfl (by decide) (by decide) (rI_of h)
theorem c_X11_useUpWhites {d : Nat} (hd : 1 ≤ d) {D D' : mD} {v : Int} (h : F_X11_useUpWhites D = some (v, D')) : CM d 0 0 M_X11_useUpWhites [mR 0] (SK, D, false) (rI v D') := CM.intro pn_X11 rfl rfl (Nat.le_of_ble_eq_true rfl) (fun _ => c_X11_useUpWhites_e hd h)
theorem c_X11_wrote_L47 {Ω : mO} {d : Nat} (hd : 6 ≤ d) {r : (Int ⊕ Nat) × mD} {K29 : Int → Int → Int → mD → RX} {x1 x2 x3 x4 : Int} (hK29 : ∀ {x2 x3 x4 : Int} {D : mD}, K29 x2 x3 x4 D = some r → J Ω M_X11_wrote d 1 6 (rO r.1 r.2) 29 [some (mR 0), some (mI x1), some (mI x2), some (mI x3), some (mI x4), none, none] [] (SK, D, false) 0 0) : ∀ (n : Nat) {x5 x6 : Int} {D : mD}, F_X11_wrote_L47 K29 x1 x2 x3 x4 n x5 x6 D = some r → J Ω M_X11_wrote d 1 6 (rO r.1 r.2) 47 [some (mR 0), some (mI x1), some (mI x2), some (mI x3), some (mI x4), some (mI x5), some (mI x6)] [] (SK, D, false) 0 0 := by
  intro n
  induction n with
  | zero => intro x5 x6 D h; exact absurd (show (none : Option ((Int ⊕ Nat) × mD)) = some r from h) nofun
  | succ n ih =>
    intro x5 x6 D h
    rw [F_X11_wrote_L47] at h
    refine j_iload (pc' := 49) dX11_wrote_47 rfl rfl ?_
    refine j_iconst (pc' := 50) dX11_wrote_49 rfl ?_
    refine j_iadd (pc' := 51) dX11_wrote_50 rfl ?_
    refine j_iload_n (pc' := 52) dX11_wrote_51 rfl rfl ?_
    obtain ⟨q1, h⟩ := ck_o h
    obtain ⟨q2, h⟩ := ck_o h
    refine j_icmp_ge (tgt := 89) (pc' := 55) dX11_wrote_52 rfl rfl q1 q2 (fun b1 => ?_) (fun b1 => ?_)
    · replace h := ite_t b1 h
      refine j_iload_n (pc' := 90) dX11_wrote_89 rfl rfl ?_
      refine j_iconst (pc' := 91) dX11_wrote_90 rfl ?_
      obtain ⟨q3, h⟩ := ck_o h
      obtain ⟨q4, h⟩ := ck_o h
      obtain ⟨q5, h⟩ := ck_o h
      have hj : J Ω M_X11_wrote d 1 6 (rO r.1 r.2) 106 [some (mR 0), some (mI x1), some (mI (if x2 = (-1) then x4 else (if x3 ≤ x5 then x2 else x4))), some (mI (if x2 = (-1) then x5 else (if x3 ≤ x5 then x3 else x5))), some (mI x4), none, none] [] (SK, D, false) 0 0 := by
        refine j_iinc (pc' := 109) (z' := (x4 + 1)) (ls' := [some (mR 0), some (mI x1), some (mI (if x2 = (-1) then x4 else (if x3 ≤ x5 then x2 else x4))), some (mI (if x2 = (-1) then x5 else (if x3 ≤ x5 then x3 else x5))), some (mI (x4 + 1)), none, none]) dX11_wrote_106 rfl rfl rfl (by decide) rfl ?_
        refine j_goto (tgt := 29) dX11_wrote_109 rfl ?_
        exact j_wk (j_widen (ce := 0) (ke := 0) (by decide) (by decide) (hK29 h)) (And.intro rfl (And.intro rfl (And.intro rfl (And.intro rfl (And.intro rfl trivial)))))
      refine j_icmp_eq (tgt := 100) (pc' := 94) dX11_wrote_91 rfl rfl q3 (by decide) (fun b2 => ?_) (fun b2 => ?_)
      · refine j_iload (pc' := 102) dX11_wrote_100 rfl rfl ?_
        refine j_istore_n (pc' := 103) (ls' := [some (mR 0), some (mI x1), some (mI x4), some (mI x3), some (mI x4), some (mI x5), some (mI x6)]) dX11_wrote_102 rfl (by decide) rfl ?_
        refine j_iload (pc' := 105) dX11_wrote_103 rfl rfl ?_
        refine j_istore_n (pc' := 106) (ls' := [some (mR 0), some (mI x1), some (mI x4), some (mI x5), some (mI x4), some (mI x5), some (mI x6)]) dX11_wrote_105 rfl (by decide) rfl ?_
        have hj := hj
        try simp only [if_pos b2] at hj
        exact j_wk hj (And.intro rfl (And.intro rfl (And.intro rfl (And.intro rfl (And.intro rfl trivial)))))
      · refine j_iload (pc' := 96) dX11_wrote_94 rfl rfl ?_
        refine j_iload_n (pc' := 97) dX11_wrote_96 rfl rfl ?_
        refine j_icmp_ge (tgt := 106) (pc' := 100) dX11_wrote_97 rfl rfl (q4 b2) (q5 b2) (fun b3 => ?_) (fun b3 => ?_)
        · have hj := hj
          try simp only [if_neg b2, if_pos b3] at hj
          exact j_wk hj (And.intro rfl (And.intro rfl (And.intro rfl (And.intro rfl (And.intro rfl trivial)))))
        · refine j_iload (pc' := 102) dX11_wrote_100 rfl rfl ?_
          refine j_istore_n (pc' := 103) (ls' := [some (mR 0), some (mI x1), some (mI x4), some (mI x3), some (mI x4), some (mI x5), some (mI x6)]) dX11_wrote_102 rfl (by decide) rfl ?_
          refine j_iload (pc' := 105) dX11_wrote_103 rfl rfl ?_
          refine j_istore_n (pc' := 106) (ls' := [some (mR 0), some (mI x1), some (mI x4), some (mI x5), some (mI x4), some (mI x5), some (mI x6)]) dX11_wrote_105 rfl (by decide) rfl ?_
          have hj := hj
          try simp only [if_neg b2, if_neg b3] at hj
          exact j_wk hj (And.intro rfl (And.intro rfl (And.intro rfl (And.intro rfl (And.intro rfl trivial)))))
    · replace h := ite_f b1 h
      refine j_iload (pc' := 57) dX11_wrote_55 rfl rfl ?_
      refine j_aload_n (pc' := 58) dX11_wrote_57 rfl rfl ?_
      refine k_getR (pc' := 61) (sl := 0) (r := 1) kc_10 w_393 (Or.inl rfl) (by decide) dX11_wrote_58 rfl (by decide) sk_0 (by decide) rfl (by decide) ?_
      refine j_iload (pc' := 63) dX11_wrote_61 rfl rfl ?_
      obtain ⟨v1, D1, e1, h⟩ := bI_o h
      refine k_cV (d' := 1) (pc' := 66) [mI x6] [mI x5] (c_X8_pairAt (d := 1) (Nat.le_refl _) e1) cw_X11_411 kc_8 w_1403 w_1404 dX11_wrote_63 rfl (by omega) rfl rfl (by decide) sk_1 rfl rfl (by decide) (by decide) ?_
      refine j_aload_n (pc' := 67) dX11_wrote_66 rfl rfl ?_
      refine k_getR (pc' := 70) (sl := 1) (r := 3) kc_10 w_394 (Or.inl rfl) (by decide) dX11_wrote_67 rfl (by decide) sk_0 (by decide) rfl (by decide) ?_
      refine k_getR (pc' := 73) (sl := 12) (r := 9) kc_6 w_118 (Or.inl rfl) (by decide) dX11_wrote_70 rfl (by decide) sk_3 (by decide) rfl (by decide) ?_
      refine j_iload (pc' := 75) dX11_wrote_73 rfl rfl ?_
      obtain ⟨q6, h⟩ := ck_o h
      refine k_iald (pc' := 76) (z := D1 9 x4) dX11_wrote_75 rfl (by decide) sk_9 (by decide) q6.1 q6.2 rfl ?_
      refine j_isub (pc' := 77) dX11_wrote_76 rfl ?_
      obtain ⟨q7, h⟩ := ck_o h
      refine k_abs (pc' := 80) cw_X11_356 w_614 dX11_wrote_77 rfl (by omega) q7 rfl (by decide) (by decide) ?_
      refine j_iadd (pc' := 81) dX11_wrote_80 rfl ?_
      refine j_istore (pc' := 83) (ls' := [some (mR 0), some (mI x1), some (mI x2), some (mI x3), some (mI x4), some (mI (x5 + (Int.natAbs (v1 - (D1 9 x4)) : Int))), some (mI x6)]) dX11_wrote_81 rfl (by decide) rfl ?_
      refine j_iinc (pc' := 86) (z' := (x6 + 2)) (ls' := [some (mR 0), some (mI x1), some (mI x2), some (mI x3), some (mI x4), some (mI (x5 + (Int.natAbs (v1 - (D1 9 x4)) : Int))), some (mI (x6 + 2))]) dX11_wrote_83 rfl rfl rfl (by decide) rfl ?_
      refine j_goto (tgt := 47) dX11_wrote_86 rfl ?_
      exact j_wk (j_widen (ce := 0) (ke := 0) (by decide) (by decide) (ih h)) (And.intro rfl (And.intro rfl (And.intro rfl (And.intro rfl (And.intro rfl (And.intro rfl (And.intro rfl trivial)))))))
theorem c_X11_wrote_L29 {Ω : mO} {d : Nat} (hd : 6 ≤ d) {r : (Int ⊕ Nat) × mD} {x1 : Int} : ∀ (n : Nat) {x2 x3 x4 : Int} {D : mD}, F_X11_wrote_L29 x1 n x2 x3 x4 D = some r → J Ω M_X11_wrote d 1 6 (rO r.1 r.2) 29 [some (mR 0), some (mI x1), some (mI x2), some (mI x3), some (mI x4), none, none] [] (SK, D, false) 0 0 := by
  intro n
  induction n with
  | zero => intro x2 x3 x4 D h; exact absurd (show (none : Option ((Int ⊕ Nat) × mD)) = some r from h) nofun
  | succ n ih =>
    intro x2 x3 x4 D h
    rw [F_X11_wrote_L29] at h
    refine j_iload (pc' := 31) dX11_wrote_29 rfl rfl ?_
    refine j_aload_n (pc' := 32) dX11_wrote_31 rfl rfl ?_
    refine k_getR (pc' := 35) (sl := 1) (r := 3) kc_10 w_394 (Or.inl rfl) (by decide) dX11_wrote_32 rfl (by decide) sk_0 (by decide) rfl (by decide) ?_
    refine k_getI (pc' := 38) (sl := 11) (z := D 3 11) kc_6 w_115 (by decide) dX11_wrote_35 rfl (by decide) sk_3 (by decide) rfl rfl ?_
    obtain ⟨q1, h⟩ := ck_o h
    obtain ⟨q2, h⟩ := ck_o h
    refine j_icmp_ge (tgt := 112) (pc' := 41) dX11_wrote_38 rfl rfl q1 q2 (fun b1 => ?_) (fun b1 => ?_)
    · replace h := ite_t b1 h
      refine j_iload_n (pc' := 113) dX11_wrote_112 rfl rfl ?_
      exact j_iret dX11_wrote_113 rfl (by decide) (by decide) (rIX_of h)
    · replace h := ite_f b1 h
      refine j_iconst (pc' := 42) dX11_wrote_41 rfl ?_
      refine j_istore (pc' := 44) (ls' := [some (mR 0), some (mI x1), some (mI x2), some (mI x3), some (mI x4), some (mI 0), none]) dX11_wrote_42 rfl (by decide) rfl ?_
      refine j_iconst (pc' := 45) dX11_wrote_44 rfl ?_
      refine j_istore (pc' := 47) (ls' := [some (mR 0), some (mI x1), some (mI x2), some (mI x3), some (mI x4), some (mI 0), some (mI 0)]) dX11_wrote_45 rfl (by decide) rfl ?_
      exact j_wk (j_widen (ce := 0) (ke := 0) (by decide) (by decide) (c_X11_wrote_L47 hd ih _ h)) (And.intro rfl (And.intro rfl (And.intro rfl (And.intro rfl (And.intro rfl (And.intro rfl (And.intro rfl trivial)))))))
theorem c_X11_wrote_e {Ω : mO} {d : Nat} (hd : 6 ≤ d) {r : (Int ⊕ Nat) × mD} {D : mD} (h : F_X11_wrote D = some r) : J Ω M_X11_wrote d 1 6 (rO r.1 r.2) 0 [some (mR 0), none, none, none, none, none, none] [] (SK, D, false) 0 0 := by
  rw [F_X11_wrote] at h
  refine j_aload_n (pc' := 1) dX11_wrote_0 rfl rfl ?_
  obtain ⟨v1, D1, e1, h⟩ := bI_o h
  refine k_cV (d' := 1) (pc' := 4) [] [] (c_X11_useUpWhites (d := 1) (Nat.le_refl _) e1) cw_X11_406 kc_10 w_1399 ws_40 dX11_wrote_1 rfl (by omega) rfl rfl (by decide) sk_0 rfl rfl (by decide) (by decide) ?_
  refine j_istore_n (pc' := 5) (ls' := [some (mR 0), some (mI v1), none, none, none, none, none]) dX11_wrote_4 rfl (by decide) rfl ?_
  refine j_iload_n (pc' := 6) dX11_wrote_5 rfl rfl ?_
  refine j_iconst (pc' := 7) dX11_wrote_6 rfl ?_
  obtain ⟨q1, h⟩ := ck_o h
  obtain ⟨q2, h⟩ := ck_o h
  refine j_irem (pc' := 8) dX11_wrote_7 rfl q1 (by decide) q2 (by decide) ?_
  obtain ⟨q3, h⟩ := ck_o h
  refine j_if_eq (tgt := 22) (pc' := 11) dX11_wrote_8 rfl rfl q3 (fun b1 => ?_) (fun b1 => ?_)
  · replace h := ite_t b1 h
    refine j_iconst (pc' := 23) dX11_wrote_22 rfl ?_
    refine j_istore_n (pc' := 24) (ls' := [some (mR 0), some (mI v1), some (mI (-1)), none, none, none, none]) dX11_wrote_23 rfl (by decide) rfl ?_
    refine j_iconst (pc' := 25) dX11_wrote_24 rfl ?_
    refine j_istore_n (pc' := 26) (ls' := [some (mR 0), some (mI v1), some (mI (-1)), some (mI 0), none, none, none]) dX11_wrote_25 rfl (by decide) rfl ?_
    refine j_iconst (pc' := 27) dX11_wrote_26 rfl ?_
    refine j_istore (pc' := 29) (ls' := [some (mR 0), some (mI v1), some (mI (-1)), some (mI 0), some (mI 0), none, none]) dX11_wrote_27 rfl (by decide) rfl ?_
    exact j_wk (j_widen (ce := 0) (ke := 0) (by decide) (by decide) (c_X11_wrote_L29 hd _ h)) (And.intro rfl (And.intro rfl (And.intro rfl (And.intro rfl (And.intro rfl trivial)))))
  · replace h := ite_f b1 h
    exact j_throwW (tw_X11_130_134) (si := 51) rfl dX11_wrote_11 dX11_wrote_14 dX11_wrote_15 dX11_wrote_18 dX11_wrote_21 rfl (by omega) rfl (by decide) (by decide) (rX_of h)
theorem c_X11_wrote {d : Nat} (hd : 6 ≤ d) {D D' : mD} {v : Int ⊕ Nat} (h : F_X11_wrote D = some (v, D')) : CM d 1 6 M_X11_wrote [mR 0] (SK, D, false) (rO v D') := CM.intro pn_X11 rfl rfl (Nat.le_of_ble_eq_true rfl) (fun _ => c_X11_wrote_e hd h)
theorem c_X11_likely_L32 {Ω : mO} {d : Nat} (hd : 7 ≤ d) {r : (Int ⊕ Nat) × mD} {x1 x2 : Int} : ∀ (n : Nat) {x3 x4 : Int} {D : mD}, F_X11_likely_L32 x1 x2 n x3 x4 D = some r → J Ω M_X11_likely d 2 12 (rO r.1 r.2) 32 [some (mR 0), some (mI x1), some (mI x2), some (mI x3), some (mI x4)] [] (SK, D, false) 1 6 := by
  intro n
  induction n with
  | zero => intro x3 x4 D h; exact absurd (show (none : Option ((Int ⊕ Nat) × mD)) = some r from h) nofun
  | succ n ih =>
    intro x3 x4 D h
    rw [F_X11_likely_L32] at h
    refine j_iload (pc' := 34) dX11_likely_32 rfl rfl ?_
    refine j_iconst (pc' := 35) dX11_likely_34 rfl ?_
    refine j_iadd (pc' := 36) dX11_likely_35 rfl ?_
    refine j_iload_n (pc' := 37) dX11_likely_36 rfl rfl ?_
    obtain ⟨q1, h⟩ := ck_o h
    obtain ⟨q2, h⟩ := ck_o h
    refine j_icmp_ge (tgt := 76) (pc' := 40) dX11_likely_37 rfl rfl q1 q2 (fun b1 => ?_) (fun b1 => ?_)
    · replace h := ite_t b1 h
      refine j_iload_n (pc' := 77) dX11_likely_76 rfl rfl ?_
      exact j_iret dX11_likely_77 rfl (by decide) (by decide) (rIX_of h)
    · replace h := ite_f b1 h
      refine j_aload_n (pc' := 41) dX11_likely_40 rfl rfl ?_
      refine k_getR (pc' := 44) (sl := 0) (r := 1) kc_10 w_393 (Or.inl rfl) (by decide) dX11_likely_41 rfl (by decide) sk_0 (by decide) rfl (by decide) ?_
      refine j_iload (pc' := 46) dX11_likely_44 rfl rfl ?_
      obtain ⟨v1, D1, e1, h⟩ := bI_o h
      refine k_cV (d' := 1) (pc' := 49) [mI x4] [] (c_X8_pairAt (d := 1) (Nat.le_refl _) e1) cw_X11_411 kc_8 w_1403 w_1404 dX11_likely_46 rfl (by omega) rfl rfl (by decide) sk_1 rfl rfl (by decide) (by decide) ?_
      refine j_aload_n (pc' := 50) dX11_likely_49 rfl rfl ?_
      refine k_getR (pc' := 53) (sl := 1) (r := 3) kc_10 w_394 (Or.inl rfl) (by decide) dX11_likely_50 rfl (by decide) sk_0 (by decide) rfl (by decide) ?_
      refine k_getR (pc' := 56) (sl := 12) (r := 9) kc_6 w_118 (Or.inl rfl) (by decide) dX11_likely_53 rfl (by decide) sk_3 (by decide) rfl (by decide) ?_
      refine j_iload_n (pc' := 57) dX11_likely_56 rfl rfl ?_
      obtain ⟨q3, h⟩ := ck_o h
      refine k_iald (pc' := 58) (z := D1 9 x1) dX11_likely_57 rfl (by decide) sk_9 (by decide) q3.1 q3.2 rfl ?_
      refine j_isub (pc' := 59) dX11_likely_58 rfl ?_
      obtain ⟨q4, h⟩ := ck_o h
      refine k_abs (pc' := 62) cw_X11_356 w_614 dX11_likely_59 rfl (by omega) q4 rfl (by decide) (by decide) ?_
      refine j_bipush (pc' := 64) dX11_likely_62 rfl rfl ?_
      obtain ⟨q5, h⟩ := ck_o h
      have hj : J Ω M_X11_likely d 2 12 (rO r.1 r.2) 70 [some (mR 0), some (mI x1), some (mI x2), some (mI (if 10 < (Int.natAbs (v1 - (D1 9 x1)) : Int) then x3 else (x3 + 1))), some (mI x4)] [] (SK, D1, false) 1 6 := by
        refine j_iinc (pc' := 73) (z' := (x4 + 2)) (ls' := [some (mR 0), some (mI x1), some (mI x2), some (mI (if 10 < (Int.natAbs (v1 - (D1 9 x1)) : Int) then x3 else (x3 + 1))), some (mI (x4 + 2))]) dX11_likely_70 rfl rfl rfl (by decide) rfl ?_
        refine j_goto (tgt := 32) dX11_likely_73 rfl ?_
        exact j_wk (j_widen (ce := 1) (ke := 6) (by decide) (by decide) (ih h)) (And.intro rfl (And.intro rfl (And.intro rfl (And.intro rfl (And.intro rfl trivial)))))
      refine j_icmp_gt (tgt := 70) (pc' := 67) dX11_likely_64 rfl rfl q5 (by decide) (fun b2 => ?_) (fun b2 => ?_)
      · have hj := hj
        try simp only [if_pos b2] at hj
        exact j_wk hj (And.intro rfl (And.intro rfl (And.intro rfl (And.intro rfl (And.intro rfl trivial)))))
      · refine j_iinc (pc' := 70) (z' := (x3 + 1)) (ls' := [some (mR 0), some (mI x1), some (mI x2), some (mI (x3 + 1)), some (mI x4)]) dX11_likely_67 rfl rfl rfl (by decide) rfl ?_
        have hj := hj
        try simp only [if_neg b2] at hj
        exact j_wk hj (And.intro rfl (And.intro rfl (And.intro rfl (And.intro rfl (And.intro rfl trivial)))))
theorem c_X11_likely_e {Ω : mO} {d : Nat} (hd : 7 ≤ d) {r : (Int ⊕ Nat) × mD} {x1 : Int} {D : mD} (h : F_X11_likely x1 D = some r) : J Ω M_X11_likely d 2 12 (rO r.1 r.2) 0 [some (mR 0), some (mI x1), none, none, none] [] (SK, D, false) 0 0 := by
  rw [F_X11_likely] at h
  refine j_aload_n (pc' := 1) dX11_likely_0 rfl rfl ?_
  obtain ⟨v1, D1, e1, h⟩ := bI_o h
  refine k_cV (d' := 1) (pc' := 4) [] [] (c_X11_useUpWhites (d := 1) (Nat.le_refl _) e1) cw_X11_406 kc_10 w_1399 ws_40 dX11_likely_1 rfl (by omega) rfl rfl (by decide) sk_0 rfl rfl (by decide) (by decide) ?_
  refine j_istore_n (pc' := 5) (ls' := [some (mR 0), some (mI x1), some (mI v1), none, none]) dX11_likely_4 rfl (by decide) rfl ?_
  refine j_aload_n (pc' := 6) dX11_likely_5 rfl rfl ?_
  refine j_iload_n (pc' := 7) dX11_likely_6 rfl rfl ?_
  rcases bX_o h with ⟨v2, D2, e2, h⟩ | ⟨v2, D2, e2, h⟩
  rotate_left
  · exact k_cVXtV (d' := 6) [mI x1] [] (c_X11_needWriter (d := 6) (Nat.le_refl _) e2) cw_X11_331 kc_10 w_1234 ws_32 dX11_likely_7 (by omega) rfl rfl (by decide) sk_0 rfl rfl (by decide) (by decide) (rX_of h)
  refine k_cVXv (d' := 6) (pc' := 10) (ce := 1) (ke := 6) [mI x1] [] (c_X11_needWriter (d := 6) (Nat.le_refl _) e2) cw_X11_331 kc_10 w_1234 ws_32 dX11_likely_7 rfl (by omega) rfl rfl (by decide) sk_0 rfl rfl rfl rfl (by decide) (by decide) ?_
  refine j_iload_n (pc' := 11) dX11_likely_10 rfl rfl ?_
  refine j_iconst (pc' := 12) dX11_likely_11 rfl ?_
  obtain ⟨q1, h⟩ := ck_o h
  obtain ⟨q2, h⟩ := ck_o h
  refine j_irem (pc' := 13) dX11_likely_12 rfl q1 (by decide) q2 (by decide) ?_
  obtain ⟨q3, h⟩ := ck_o h
  refine j_if_eq (tgt := 27) (pc' := 16) dX11_likely_13 rfl rfl q3 (fun b1 => ?_) (fun b1 => ?_)
  · replace h := ite_t b1 h
    refine j_iconst (pc' := 28) dX11_likely_27 rfl ?_
    refine j_istore_n (pc' := 29) (ls' := [some (mR 0), some (mI x1), some (mI v1), some (mI 0), none]) dX11_likely_28 rfl (by decide) rfl ?_
    refine j_iconst (pc' := 30) dX11_likely_29 rfl ?_
    refine j_istore (pc' := 32) (ls' := [some (mR 0), some (mI x1), some (mI v1), some (mI 0), some (mI 0)]) dX11_likely_30 rfl (by decide) rfl ?_
    exact j_wk (j_widen (ce := 1) (ke := 6) (by decide) (by decide) (c_X11_likely_L32 hd _ h)) (And.intro rfl (And.intro rfl (And.intro rfl (And.intro rfl (And.intro rfl trivial)))))
  · replace h := ite_f b1 h
    exact j_throwW (tw_X11_130_134) (si := 51) rfl dX11_likely_16 dX11_likely_19 dX11_likely_20 dX11_likely_23 dX11_likely_26 rfl (by omega) rfl (by decide) (by decide) (rX_of h)
theorem c_X11_likely {d : Nat} (hd : 7 ≤ d) {x1 : Int} {D D' : mD} {v : Int ⊕ Nat} (h : F_X11_likely x1 D = some (v, D')) : CM d 2 12 M_X11_likely [mR 0, mI x1] (SK, D, false) (rO v D') := CM.intro pn_X11 rfl rfl (Nat.le_of_ble_eq_true rfl) (fun _ => c_X11_likely_e hd h)
theorem c_X11_lookers_L21 {Ω : mO} {d : Nat} (hd : 9 ≤ d) {r : Int × mD} {x1 x2 : Int} : ∀ (n : Nat) {x3 x4 : Int} {D : mD}, F_X11_lookers_L21 x1 x2 n x3 x4 D = some r → J Ω M_X11_lookers d 0 0 (rI r.1 r.2) 21 [some (mR 0), some (mI x1), some (mI x2), some (mI x3), some (mI x4)] [] (SK, D, false) 0 0 := by
  intro n
  induction n with
  | zero => intro x3 x4 D h; exact absurd (show (none : Option (Int × mD)) = some r from h) nofun
  | succ n ih =>
    intro x3 x4 D h
    rw [F_X11_lookers_L21] at h
    refine j_iload (pc' := 23) dX11_lookers_21 rfl rfl ?_
    refine j_aload_n (pc' := 24) dX11_lookers_23 rfl rfl ?_
    refine k_getR (pc' := 27) (sl := 1) (r := 3) kc_10 w_394 (Or.inl rfl) (by decide) dX11_lookers_24 rfl (by decide) sk_0 (by decide) rfl (by decide) ?_
    refine k_getI (pc' := 30) (sl := 14) (z := D 3 14) kc_6 w_124 (by decide) dX11_lookers_27 rfl (by decide) sk_3 (by decide) rfl rfl ?_
    obtain ⟨q1, h⟩ := ck_o h
    obtain ⟨q2, h⟩ := ck_o h
    refine j_icmp_ge (tgt := 56) (pc' := 33) dX11_lookers_30 rfl rfl q1 q2 (fun b1 => ?_) (fun b1 => ?_)
    · replace h := ite_t b1 h
      refine j_aload_n (pc' := 57) dX11_lookers_56 rfl rfl ?_
      refine k_getR (pc' := 60) (sl := 1) (r := 3) kc_10 w_394 (Or.inl rfl) (by decide) dX11_lookers_57 rfl (by decide) sk_0 (by decide) rfl (by decide) ?_
      refine k_getI (pc' := 63) (sl := 14) (z := D 3 14) kc_6 w_124 (by decide) dX11_lookers_60 rfl (by decide) sk_3 (by decide) rfl rfl ?_
      refine j_iload_n (pc' := 64) dX11_lookers_63 rfl rfl ?_
      refine j_isub (pc' := 65) dX11_lookers_64 rfl ?_
      refine j_istore (pc' := 67) (ls' := [some (mR 0), some (mI x1), some (mI x2), some (mI x3), some (mI ((D 3 14) - x3))]) dX11_lookers_65 rfl (by decide) rfl ?_
      refine j_iload_n (pc' := 68) dX11_lookers_67 rfl rfl ?_
      obtain ⟨q3, h⟩ := ck_o h
      obtain ⟨q4, h⟩ := ck_o h
      obtain ⟨q5, h⟩ := ck_o h
      obtain ⟨q6, h⟩ := ck_o h
      obtain ⟨q7, h⟩ := ck_o h
      have hj : J Ω M_X11_lookers d 0 0 (rI r.1 r.2) 92 [none, none, none, none, none] [mI (if x1 = 0 then x3 else (((x3 * (x3 - 1)) / 2) + ((((D 3 14) - x3) * (((D 3 14) - x3) - 1)) / 2)))] (SK, D, false) 0 0 := by
        exact j_iret dX11_lookers_92 rfl (by decide) (by decide) (rI_of h)
      refine j_if_eq (tgt := 91) (pc' := 71) dX11_lookers_68 rfl rfl q3 (fun b2 => ?_) (fun b2 => ?_)
      · refine j_iload_n (pc' := 92) dX11_lookers_91 rfl rfl ?_
        have hj := hj
        try simp only [if_pos b2] at hj
        exact j_wk hj (trivial)
      · refine j_iload_n (pc' := 72) dX11_lookers_71 rfl rfl ?_
        refine j_iload_n (pc' := 73) dX11_lookers_72 rfl rfl ?_
        refine j_iconst (pc' := 74) dX11_lookers_73 rfl ?_
        refine j_isub (pc' := 75) dX11_lookers_74 rfl ?_
        refine j_imul (pc' := 76) dX11_lookers_75 rfl ?_
        refine j_iconst (pc' := 77) dX11_lookers_76 rfl ?_
        refine j_idiv (pc' := 78) dX11_lookers_77 rfl (q4 b2) (by decide) (q5 b2) (by decide) ?_
        refine j_iload (pc' := 80) dX11_lookers_78 rfl rfl ?_
        refine j_iload (pc' := 82) dX11_lookers_80 rfl rfl ?_
        refine j_iconst (pc' := 83) dX11_lookers_82 rfl ?_
        refine j_isub (pc' := 84) dX11_lookers_83 rfl ?_
        refine j_imul (pc' := 85) dX11_lookers_84 rfl ?_
        refine j_iconst (pc' := 86) dX11_lookers_85 rfl ?_
        refine j_idiv (pc' := 87) dX11_lookers_86 rfl (q6 b2) (by decide) (q7 b2) (by decide) ?_
        refine j_iadd (pc' := 88) dX11_lookers_87 rfl ?_
        refine j_goto (tgt := 92) dX11_lookers_88 rfl ?_
        have hj := hj
        try simp only [if_neg b2] at hj
        exact j_wk hj (trivial)
    · replace h := ite_f b1 h
      refine j_iload_n (pc' := 34) dX11_lookers_33 rfl rfl ?_
      refine j_aload_n (pc' := 35) dX11_lookers_34 rfl rfl ?_
      refine k_getR (pc' := 38) (sl := 1) (r := 3) kc_10 w_394 (Or.inl rfl) (by decide) dX11_lookers_35 rfl (by decide) sk_0 (by decide) rfl (by decide) ?_
      refine k_getR (pc' := 41) (sl := 15) (r := 11) kc_6 w_127 (Or.inl rfl) (by decide) dX11_lookers_38 rfl (by decide) sk_3 (by decide) rfl (by decide) ?_
      refine j_iload (pc' := 43) dX11_lookers_41 rfl rfl ?_
      obtain ⟨q8, h⟩ := ck_o h
      refine k_iald (pc' := 44) (z := D 11 x4) dX11_lookers_43 rfl (by decide) sk_11 (by decide) q8.1 q8.2 rfl ?_
      obtain ⟨q9, h⟩ := ck_o h
      obtain ⟨q10, h⟩ := ck_o h
      have hj : J Ω M_X11_lookers d 0 0 (rI r.1 r.2) 50 [some (mR 0), some (mI x1), some (mI x2), some (mI (if (D 11 x4) ≤ x2 then x3 else (x3 + 1))), some (mI x4)] [] (SK, D, false) 0 0 := by
        refine j_iinc (pc' := 53) (z' := (x4 + 1)) (ls' := [some (mR 0), some (mI x1), some (mI x2), some (mI (if (D 11 x4) ≤ x2 then x3 else (x3 + 1))), some (mI (x4 + 1))]) dX11_lookers_50 rfl rfl rfl (by decide) rfl ?_
        refine j_goto (tgt := 21) dX11_lookers_53 rfl ?_
        exact j_wk (j_widen (ce := 0) (ke := 0) (by decide) (by decide) (ih h)) (And.intro rfl (And.intro rfl (And.intro rfl (And.intro rfl (And.intro rfl trivial)))))
      refine j_icmp_ge (tgt := 50) (pc' := 47) dX11_lookers_44 rfl rfl q9 q10 (fun b3 => ?_) (fun b3 => ?_)
      · have hj := hj
        try simp only [if_pos b3] at hj
        exact j_wk hj (And.intro rfl (And.intro rfl (And.intro rfl (And.intro rfl (And.intro rfl trivial)))))
      · refine j_iinc (pc' := 50) (z' := (x3 + 1)) (ls' := [some (mR 0), some (mI x1), some (mI x2), some (mI (x3 + 1)), some (mI x4)]) dX11_lookers_47 rfl rfl rfl (by decide) rfl ?_
        have hj := hj
        try simp only [if_neg b3] at hj
        exact j_wk hj (And.intro rfl (And.intro rfl (And.intro rfl (And.intro rfl (And.intro rfl trivial)))))
theorem c_X11_lookers_e {Ω : mO} {d : Nat} (hd : 9 ≤ d) {r : Int × mD} {x1 : Int} {D : mD} (h : F_X11_lookers x1 D = some r) : J Ω M_X11_lookers d 0 0 (rI r.1 r.2) 0 [some (mR 0), some (mI x1), none, none, none] [] (SK, D, false) 0 0 := by
  rw [F_X11_lookers] at h
  refine j_aload_n (pc' := 1) dX11_lookers_0 rfl rfl ?_
  refine k_getR (pc' := 4) (sl := 4) (r := 22) kc_10 w_397 (Or.inl rfl) (by decide) dX11_lookers_1 rfl (by decide) sk_0 (by decide) rfl (by decide) ?_
  refine j_aload_n (pc' := 5) dX11_lookers_4 rfl rfl ?_
  refine k_getR (pc' := 8) (sl := 3) (r := 17) kc_10 w_396 (Or.inl rfl) (by decide) dX11_lookers_5 rfl (by decide) sk_0 (by decide) rfl (by decide) ?_
  refine k_getR (pc' := 11) (sl := 0) (r := 18) kc_9 w_211 (Or.inl rfl) (by decide) dX11_lookers_8 rfl (by decide) sk_17 (by decide) rfl (by decide) ?_
  refine j_iconst (pc' := 12) dX11_lookers_11 rfl ?_
  obtain ⟨v1, D1, e1, h⟩ := bI_o h
  refine k_cV (d' := 8) (pc' := 15) [mR 18, mI 0] [] (c_X0_unevenBy (d := 8) (Nat.le_refl _) arr_18 e1) cw_X11_349 kc_0 w_533 w_534 dX11_lookers_12 rfl (by omega) rfl rfl (by decide) sk_22 rfl rfl (by decide) (by decide) ?_
  refine j_istore_n (pc' := 16) (ls' := [some (mR 0), some (mI x1), some (mI v1), none, none]) dX11_lookers_15 rfl (by decide) rfl ?_
  refine j_iconst (pc' := 17) dX11_lookers_16 rfl ?_
  refine j_istore_n (pc' := 18) (ls' := [some (mR 0), some (mI x1), some (mI v1), some (mI 0), none]) dX11_lookers_17 rfl (by decide) rfl ?_
  refine j_iconst (pc' := 19) dX11_lookers_18 rfl ?_
  refine j_istore (pc' := 21) (ls' := [some (mR 0), some (mI x1), some (mI v1), some (mI 0), some (mI 0)]) dX11_lookers_19 rfl (by decide) rfl ?_
  exact j_wk (j_widen (ce := 0) (ke := 0) (by decide) (by decide) (c_X11_lookers_L21 hd _ h)) (And.intro rfl (And.intro rfl (And.intro rfl (And.intro rfl (And.intro rfl trivial)))))
theorem c_X11_lookers {d : Nat} (hd : 9 ≤ d) {x1 : Int} {D D' : mD} {v : Int} (h : F_X11_lookers x1 D = some (v, D')) : CM d 0 0 M_X11_lookers [mR 0, mI x1] (SK, D, false) (rI v D') := CM.intro pn_X11 rfl rfl (Nat.le_of_ble_eq_true rfl) (fun _ => c_X11_lookers_e hd h)
theorem c_X11_needTrialDays_j10 {Ω : mO} {d : Nat} (hd : 6 ≤ d) {r : (Int ⊕ Nat) × mD} {D : mD} (h : F_X11_needTrialDays_j10 D = some r) : J Ω M_X11_needTrialDays d 1 6 (rOV r.1 r.2) 10 [none, none] [] (SK, D, false) 0 0 := by
  rw [F_X11_needTrialDays_j10] at h
  exact j_throwW (tw_X11_130_134) (si := 52) rfl dX11_needTrialDays_10 dX11_needTrialDays_13 dX11_needTrialDays_14 dX11_needTrialDays_17 dX11_needTrialDays_20 rfl (by omega) rfl (by decide) (by decide) (rXV_of h)
theorem c_X11_needTrialDays_e {Ω : mO} {d : Nat} (hd : 6 ≤ d) {r : (Int ⊕ Nat) × mD} {x1 : Int} {D : mD} (h : F_X11_needTrialDays x1 D = some r) : J Ω M_X11_needTrialDays d 1 6 (rOV r.1 r.2) 0 [some (mR 0), some (mI x1)] [] (SK, D, false) 0 0 := by
  rw [F_X11_needTrialDays] at h
  refine j_iload_n (pc' := 1) dX11_needTrialDays_0 rfl rfl ?_
  obtain ⟨q1, h⟩ := ck_o h
  refine j_if_lt (tgt := 10) (pc' := 4) dX11_needTrialDays_1 rfl rfl q1 (fun b1 => ?_) (fun b1 => ?_)
  · replace h := ite_t b1 h
    exact j_wk (j_widen (ce := 0) (ke := 0) (by decide) (by decide) (c_X11_needTrialDays_j10 hd h)) (trivial)
  · replace h := ite_f b1 h
    refine j_iload_n (pc' := 5) dX11_needTrialDays_4 rfl rfl ?_
    refine j_bipush (pc' := 7) dX11_needTrialDays_5 rfl rfl ?_
    refine j_icmp_le (tgt := 21) (pc' := 10) dX11_needTrialDays_7 rfl rfl q1 (by decide) (fun b2 => ?_) (fun b2 => ?_)
    · replace h := ite_t b2 h
      exact j_vret dX11_needTrialDays_21 rfl (by decide) (by decide) (rVX_of h)
    · replace h := ite_f b2 h
      exact j_wk (j_widen (ce := 0) (ke := 0) (by decide) (by decide) (c_X11_needTrialDays_j10 hd h)) (trivial)
theorem c_X11_needTrialDays {d : Nat} (hd : 6 ≤ d) {x1 : Int} {D D' : mD} {v : Int ⊕ Nat} (h : F_X11_needTrialDays x1 D = some (v, D')) : CM d 1 6 M_X11_needTrialDays [mR 0, mI x1] (SK, D, false) (rOV v D') := CM.intro pn_X11 rfl rfl (Nat.le_of_ble_eq_true rfl) (fun _ => c_X11_needTrialDays_e hd h)
theorem c_X11_tryDays_L22 {Ω : mO} {d : Nat} (hd : 8 ≤ d) {r : Int × mD} {x1 x2 : Int} : ∀ (n : Nat) {x4 : Int} {D : mD}, F_X11_tryDays_L22 x1 x2 n x4 D = some r → J Ω M_X11_tryDays d 0 0 (rV r.2) 22 [some (mR 0), some (mI x1), some (mI x2), none, some (mI x4)] [] (SK, D, false) 0 0 := by
  intro n
  induction n with
  | zero => intro x4 D h; exact absurd (show (none : Option (Int × mD)) = some r from h) nofun
  | succ n ih =>
    intro x4 D h
    rw [F_X11_tryDays_L22] at h
    refine j_iload (pc' := 24) dX11_tryDays_22 rfl rfl ?_
    refine j_iload_n (pc' := 25) dX11_tryDays_24 rfl rfl ?_
    obtain ⟨q1, h⟩ := ck_o h
    obtain ⟨q2, h⟩ := ck_o h
    refine j_icmp_ge (tgt := 59) (pc' := 28) dX11_tryDays_25 rfl rfl q1 q2 (fun b1 => ?_) (fun b1 => ?_)
    · replace h := ite_t b1 h
      exact j_vret dX11_tryDays_59 rfl (by decide) (by decide) (rV_of h)
    · replace h := ite_f b1 h
      refine j_aload_n (pc' := 29) dX11_tryDays_28 rfl rfl ?_
      refine k_getR (pc' := 32) (sl := 10) (r := 109) kc_10 w_403 (Or.inl rfl) (by decide) dX11_tryDays_29 rfl (by decide) sk_0 (by decide) rfl (by decide) ?_
      refine j_iload_n (pc' := 33) dX11_tryDays_32 rfl rfl ?_
      refine j_aload_n (pc' := 34) dX11_tryDays_33 rfl rfl ?_
      refine k_getR (pc' := 37) (sl := 1) (r := 3) kc_10 w_394 (Or.inl rfl) (by decide) dX11_tryDays_34 rfl (by decide) sk_0 (by decide) rfl (by decide) ?_
      refine k_getR (pc' := 40) (sl := 13) (r := 10) kc_6 w_121 (Or.inl rfl) (by decide) dX11_tryDays_37 rfl (by decide) sk_3 (by decide) rfl (by decide) ?_
      refine j_iload_n (pc' := 41) dX11_tryDays_40 rfl rfl ?_
      obtain ⟨q3, h⟩ := ck_o h
      refine k_iald (pc' := 42) (z := D 10 x1) dX11_tryDays_41 rfl (by decide) sk_10 (by decide) q3.1 q3.2 rfl ?_
      refine j_aload_n (pc' := 43) dX11_tryDays_42 rfl rfl ?_
      refine k_getR (pc' := 46) (sl := 1) (r := 3) kc_10 w_394 (Or.inl rfl) (by decide) dX11_tryDays_43 rfl (by decide) sk_0 (by decide) rfl (by decide) ?_
      refine k_getI (pc' := 49) (sl := 5) (z := D 3 5) kc_6 w_91 (by decide) dX11_tryDays_46 rfl (by decide) sk_3 (by decide) rfl rfl ?_
      obtain ⟨v1, D1, e1, h⟩ := bI_o h
      refine k_cV (d' := 7) (pc' := 52) [mI x1, mI (D 10 x1), mI (D 3 5)] [] (c_X10_paintDay (d := 7) (Nat.le_refl _) work_109 e1) cw_X11_337 kc_9 w_1238 w_1239 dX11_tryDays_49 rfl (by omega) rfl rfl (by decide) sk_109 rfl rfl (by decide) (by decide) ?_
      refine j_pop (pc' := 53) dX11_tryDays_52 rfl rfl ?_
      refine j_iinc (pc' := 56) (z' := (x4 + 1)) (ls' := [some (mR 0), some (mI x1), some (mI x2), none, some (mI (x4 + 1))]) dX11_tryDays_53 rfl rfl rfl (by decide) rfl ?_
      refine j_goto (tgt := 22) dX11_tryDays_56 rfl ?_
      exact j_wk (j_widen (ce := 0) (ke := 0) (by decide) (by decide) (ih h)) (And.intro rfl (And.intro rfl (And.intro rfl (And.intro rfl trivial))))
theorem c_X11_tryDays_e {Ω : mO} {d : Nat} (hd : 8 ≤ d) {r : Int × mD} {x1 x2 x3 : Int} {D : mD} (h : F_X11_tryDays x1 x2 x3 D = some r) : J Ω M_X11_tryDays d 0 0 (rV r.2) 0 [some (mR 0), some (mI x1), some (mI x2), some (mI x3), none] [] (SK, D, false) 0 0 := by
  rw [F_X11_tryDays] at h
  refine j_aload_n (pc' := 1) dX11_tryDays_0 rfl rfl ?_
  refine k_getR (pc' := 4) (sl := 10) (r := 109) kc_10 w_403 (Or.inl rfl) (by decide) dX11_tryDays_1 rfl (by decide) sk_0 (by decide) rfl (by decide) ?_
  refine j_aload_n (pc' := 5) dX11_tryDays_4 rfl rfl ?_
  refine k_getR (pc' := 8) (sl := 3) (r := 17) kc_10 w_396 (Or.inl rfl) (by decide) dX11_tryDays_5 rfl (by decide) sk_0 (by decide) rfl (by decide) ?_
  obtain ⟨v1, D1, e1, h⟩ := bI_o h
  refine k_cVv (d' := 1) (pc' := 11) [mR 17] [] (c_X10_copyFrom (d := 1) (Nat.le_refl _) work_109 work_17 e1) cw_X11_347 kc_9 w_491 w_492 dX11_tryDays_8 rfl (by omega) rfl rfl (by decide) sk_109 rfl rfl (by decide) (by decide) ?_
  refine j_aload_n (pc' := 12) dX11_tryDays_11 rfl rfl ?_
  refine k_getR (pc' := 15) (sl := 10) (r := 109) kc_10 w_403 (Or.inl rfl) (by decide) dX11_tryDays_12 rfl (by decide) sk_0 (by decide) rfl (by decide) ?_
  refine j_iload_n (pc' := 16) dX11_tryDays_15 rfl rfl ?_
  refine k_putI (pc' := 19) (sl := 6) (i' := 6) kc_9 w_225 (by decide) (Or.inl rfl) dX11_tryDays_16 rfl (by decide) sk_109 (by decide) ⟨rfl, rfl⟩ rfl ?_
  refine j_iconst (pc' := 20) dX11_tryDays_19 rfl ?_
  refine j_istore (pc' := 22) (ls' := [some (mR 0), some (mI x1), some (mI x2), some (mI x3), some (mI 0)]) dX11_tryDays_20 rfl (by decide) rfl ?_
  exact j_wk (j_widen (ce := 0) (ke := 0) (by decide) (by decide) (c_X11_tryDays_L22 hd _ h)) (And.intro rfl (And.intro rfl (And.intro rfl (And.intro rfl trivial))))
theorem c_X11_tryDays {d : Nat} (hd : 8 ≤ d) {x1 x2 x3 : Int} {D D' : mD} {v : Int} (h : F_X11_tryDays x1 x2 x3 D = some (v, D')) : CM d 0 0 M_X11_tryDays [mR 0, mI x1, mI x2, mI x3] (SK, D, false) (rV D') := CM.intro pn_X11 rfl rfl (Nat.le_of_ble_eq_true rfl) (fun _ => c_X11_tryDays_e hd h)
theorem c_X11_trial_e {Ω : mO} {d : Nat} (hd : 9 ≤ d) {r : (Int ⊕ Nat) × mD} {x1 x2 x3 : Int} {D : mD} (h : F_X11_trial x1 x2 x3 D = some r) : J Ω M_X11_trial d 2 12 (rO r.1 r.2) 0 [some (mR 0), some (mI x1), some (mI x2), some (mI x3)] [] (SK, D, false) 0 0 := by
  rw [F_X11_trial] at h
  refine j_aload_n (pc' := 1) dX11_trial_0 rfl rfl ?_
  refine j_iload_n (pc' := 2) dX11_trial_1 rfl rfl ?_
  rcases bX_o h with ⟨v1, D1, e1, h⟩ | ⟨v1, D1, e1, h⟩
  rotate_left
  · exact k_cVXtV (d' := 6) [mI x1] [] (c_X11_needWriter (d := 6) (Nat.le_refl _) e1) cw_X11_331 kc_10 w_1234 ws_32 dX11_trial_2 (by omega) rfl rfl (by decide) sk_0 rfl rfl (by decide) (by decide) (rX_of h)
  refine k_cVXv (d' := 6) (pc' := 5) (ce := 1) (ke := 6) [mI x1] [] (c_X11_needWriter (d := 6) (Nat.le_refl _) e1) cw_X11_331 kc_10 w_1234 ws_32 dX11_trial_2 rfl (by omega) rfl rfl (by decide) sk_0 rfl rfl rfl rfl (by decide) (by decide) ?_
  refine j_aload_n (pc' := 6) dX11_trial_5 rfl rfl ?_
  refine j_iload_n (pc' := 7) dX11_trial_6 rfl rfl ?_
  rcases bX_o h with ⟨v2, D2, e2, h⟩ | ⟨v2, D2, e2, h⟩
  rotate_left
  · exact k_cVXtV (d' := 6) [mI x2] [] (c_X11_needTrialDays (d := 6) (Nat.le_refl _) e2) cw_X11_420 kc_10 w_1429 ws_41 dX11_trial_7 (by omega) rfl rfl (by decide) sk_0 rfl rfl (by decide) (by decide) (rX_of h)
  refine k_cVXv (d' := 6) (pc' := 10) (ce := 2) (ke := 12) [mI x2] [] (c_X11_needTrialDays (d := 6) (Nat.le_refl _) e2) cw_X11_420 kc_10 w_1429 ws_41 dX11_trial_7 rfl (by omega) rfl rfl (by decide) sk_0 rfl rfl rfl rfl (by decide) (by decide) ?_
  refine j_aload_n (pc' := 11) dX11_trial_10 rfl rfl ?_
  refine j_iload_n (pc' := 12) dX11_trial_11 rfl rfl ?_
  refine j_iload_n (pc' := 13) dX11_trial_12 rfl rfl ?_
  refine j_aload_n (pc' := 14) dX11_trial_13 rfl rfl ?_
  refine k_getR (pc' := 17) (sl := 3) (r := 17) kc_10 w_396 (Or.inl rfl) (by decide) dX11_trial_14 rfl (by decide) sk_0 (by decide) rfl (by decide) ?_
  refine k_getI (pc' := 20) (sl := 6) (z := D2 17 6) kc_9 w_225 (by decide) dX11_trial_17 rfl (by decide) sk_17 (by decide) rfl rfl ?_
  obtain ⟨v3, D3, e3, h⟩ := bI_o h
  refine k_cVv (d' := 8) (pc' := 23) [mI x1, mI x2, mI (D2 17 6)] [] (c_X11_tryDays (d := 8) (Nat.le_refl _) e3) cw_X11_423 kc_10 w_1434 ws_42 dX11_trial_20 rfl (by omega) rfl rfl (by decide) sk_0 rfl rfl (by decide) (by decide) ?_
  refine j_iload_n (pc' := 24) dX11_trial_23 rfl rfl ?_
  obtain ⟨q1, h⟩ := ck_o h
  refine j_if_eq (tgt := 40) (pc' := 27) dX11_trial_24 rfl rfl q1 (fun b1 => ?_) (fun b1 => ?_)
  · replace h := ite_t b1 h
    refine j_aload_n (pc' := 41) dX11_trial_40 rfl rfl ?_
    refine k_getR (pc' := 44) (sl := 4) (r := 22) kc_10 w_397 (Or.inl rfl) (by decide) dX11_trial_41 rfl (by decide) sk_0 (by decide) rfl (by decide) ?_
    refine j_aload_n (pc' := 45) dX11_trial_44 rfl rfl ?_
    refine k_getR (pc' := 48) (sl := 10) (r := 109) kc_10 w_403 (Or.inl rfl) (by decide) dX11_trial_45 rfl (by decide) sk_0 (by decide) rfl (by decide) ?_
    refine k_getR (pc' := 51) (sl := 0) (r := 110) kc_9 w_211 (Or.inl rfl) (by decide) dX11_trial_48 rfl (by decide) sk_109 (by decide) rfl (by decide) ?_
    refine j_iconst (pc' := 52) dX11_trial_51 rfl ?_
    obtain ⟨v4, D4, e4, h⟩ := bI_o h
    refine k_cV (d' := 8) (pc' := 55) [mR 110, mI 0] [] (c_X0_unevenBy (d := 8) (Nat.le_refl _) arr_110 e4) cw_X11_349 kc_0 w_533 w_534 dX11_trial_52 rfl (by omega) rfl rfl (by decide) sk_22 rfl rfl (by decide) (by decide) ?_
    exact j_iret dX11_trial_55 rfl (by decide) (by decide) (rIX_of h)
  · replace h := ite_f b1 h
    refine j_aload_n (pc' := 28) dX11_trial_27 rfl rfl ?_
    refine k_getR (pc' := 31) (sl := 10) (r := 109) kc_10 w_403 (Or.inl rfl) (by decide) dX11_trial_28 rfl (by decide) sk_0 (by decide) rfl (by decide) ?_
    refine k_getI (pc' := 34) (sl := 3) (z := D3 109 3) kc_9 w_219 (by decide) dX11_trial_31 rfl (by decide) sk_109 (by decide) rfl rfl ?_
    obtain ⟨q2, h⟩ := ck_o h
    refine k_cS (d' := 1) (pc' := 37) [mI (D3 109 3)] [] (k_bc (d := 1) (Nat.le_refl _) ) cw_X11_427 w_688 dX11_trial_34 rfl (by omega) rfl rfl rfl rfl (by decide) (by decide) ?_
    refine j_goto (tgt := 55) dX11_trial_37 rfl ?_
    exact j_iret dX11_trial_55 rfl (by decide) (by decide) (rIX_of h)
theorem c_X11_trial {d : Nat} (hd : 9 ≤ d) {x1 x2 x3 : Int} {D D' : mD} {v : Int ⊕ Nat} (h : F_X11_trial x1 x2 x3 D = some (v, D')) : CM d 2 12 M_X11_trial [mR 0, mI x1, mI x2, mI x3] (SK, D, false) (rO v D') := CM.intro pn_X11 rfl rfl (Nat.le_of_ble_eq_true rfl) (fun _ => c_X11_trial_e hd h)
theorem c_X11_span_L16 {Ω : mO} {d : Nat} (hd : 9 ≤ d) {r : (Int ⊕ Nat) × mD} {x1 x2 x3 : Int} : ∀ (n : Nat) {x4 x5 : Int} {D : mD}, F_X11_span_L16 x1 x2 x3 n x4 x5 D = some r → J Ω M_X11_span d 2 12 (rO r.1 r.2) 16 [some (mR 0), some (mI x1), some (mI x2), some (mI x3), some (mI x4), some (mI x5), none] [] (SK, D, false) 2 12 := by
  intro n
  induction n with
  | zero => intro x4 x5 D h; exact absurd (show (none : Option ((Int ⊕ Nat) × mD)) = some r from h) nofun
  | succ n ih =>
    intro x4 x5 D h
    rw [F_X11_span_L16] at h
    refine j_iload (pc' := 18) dX11_span_16 rfl rfl ?_
    refine j_bipush (pc' := 20) dX11_span_18 rfl rfl ?_
    obtain ⟨q1, h⟩ := ck_o h
    refine j_icmp_gt (tgt := 85) (pc' := 23) dX11_span_20 rfl rfl q1 (by decide) (fun b1 => ?_) (fun b1 => ?_)
    · replace h := ite_t b1 h
      refine j_iload (pc' := 87) dX11_span_85 rfl rfl ?_
      exact j_iret dX11_span_87 rfl (by decide) (by decide) (rIX_of h)
    · replace h := ite_f b1 h
      refine j_aload_n (pc' := 24) dX11_span_23 rfl rfl ?_
      refine j_iload_n (pc' := 25) dX11_span_24 rfl rfl ?_
      refine j_iload_n (pc' := 26) dX11_span_25 rfl rfl ?_
      refine j_iload (pc' := 28) dX11_span_26 rfl rfl ?_
      obtain ⟨v1, D1, e1, h⟩ := bI_o h
      refine k_cVv (d' := 8) (pc' := 31) [mI x1, mI x2, mI x5] [] (c_X11_tryDays (d := 8) (Nat.le_refl _) e1) cw_X11_423 kc_10 w_1434 ws_42 dX11_span_28 rfl (by omega) rfl rfl (by decide) sk_0 rfl rfl (by decide) (by decide) ?_
      refine j_aload_n (pc' := 32) dX11_span_31 rfl rfl ?_
      refine k_getR (pc' := 35) (sl := 4) (r := 22) kc_10 w_397 (Or.inl rfl) (by decide) dX11_span_32 rfl (by decide) sk_0 (by decide) rfl (by decide) ?_
      refine j_aload_n (pc' := 36) dX11_span_35 rfl rfl ?_
      refine k_getR (pc' := 39) (sl := 10) (r := 109) kc_10 w_403 (Or.inl rfl) (by decide) dX11_span_36 rfl (by decide) sk_0 (by decide) rfl (by decide) ?_
      refine k_getR (pc' := 42) (sl := 0) (r := 110) kc_9 w_211 (Or.inl rfl) (by decide) dX11_span_39 rfl (by decide) sk_109 (by decide) rfl (by decide) ?_
      refine j_iconst (pc' := 43) dX11_span_42 rfl ?_
      obtain ⟨v2, D2, e2, h⟩ := bI_o h
      refine k_cV (d' := 8) (pc' := 46) [mR 110, mI 0] [] (c_X0_unevenBy (d := 8) (Nat.le_refl _) arr_110 e2) cw_X11_349 kc_0 w_533 w_534 dX11_span_43 rfl (by omega) rfl rfl (by decide) sk_22 rfl rfl (by decide) (by decide) ?_
      refine j_istore (pc' := 48) (ls' := [some (mR 0), some (mI x1), some (mI x2), some (mI x3), some (mI x4), some (mI x5), some (mI v2)]) dX11_span_46 rfl (by decide) rfl ?_
      refine j_iload (pc' := 50) dX11_span_48 rfl rfl ?_
      refine j_iconst (pc' := 51) dX11_span_50 rfl ?_
      obtain ⟨q2, h⟩ := ck_o h
      obtain ⟨q3, h⟩ := ck_o h
      obtain ⟨q4, h⟩ := ck_o h
      obtain ⟨q5, h⟩ := ck_o h
      have hj : J Ω M_X11_span d 2 12 (rO r.1 r.2) 79 [some (mR 0), some (mI x1), some (mI x2), some (mI x3), some (mI (if x4 = (-1) then v2 else (if x3 = 0 then (if x4 ≤ v2 then x4 else v2) else (if v2 ≤ x4 then x4 else v2)))), some (mI x5), none] [] (SK, D2, false) 2 12 := by
        refine j_iinc (pc' := 82) (z' := (x5 + 1)) (ls' := [some (mR 0), some (mI x1), some (mI x2), some (mI x3), some (mI (if x4 = (-1) then v2 else (if x3 = 0 then (if x4 ≤ v2 then x4 else v2) else (if v2 ≤ x4 then x4 else v2)))), some (mI (x5 + 1)), none]) dX11_span_79 rfl rfl rfl (by decide) rfl ?_
        refine j_goto (tgt := 16) dX11_span_82 rfl ?_
        exact j_wk (j_widen (ce := 2) (ke := 12) (by decide) (by decide) (ih h)) (And.intro rfl (And.intro rfl (And.intro rfl (And.intro rfl (And.intro rfl (And.intro rfl trivial))))))
      refine j_icmp_eq (tgt := 75) (pc' := 54) dX11_span_51 rfl rfl q2 (by decide) (fun b2 => ?_) (fun b2 => ?_)
      · refine j_iload (pc' := 77) dX11_span_75 rfl rfl ?_
        refine j_istore (pc' := 79) (ls' := [some (mR 0), some (mI x1), some (mI x2), some (mI x3), some (mI v2), some (mI x5), some (mI v2)]) dX11_span_77 rfl (by decide) rfl ?_
        have hj := hj
        try simp only [if_pos b2] at hj
        exact j_wk hj (And.intro rfl (And.intro rfl (And.intro rfl (And.intro rfl (And.intro rfl (And.intro rfl trivial))))))
      · refine j_iload_n (pc' := 55) dX11_span_54 rfl rfl ?_
        refine j_if_eq (tgt := 68) (pc' := 58) dX11_span_55 rfl rfl (q3 b2) (fun b3 => ?_) (fun b3 => ?_)
        · refine j_iload (pc' := 70) dX11_span_68 rfl rfl ?_
          refine j_iload (pc' := 72) dX11_span_70 rfl rfl ?_
          refine j_icmp_ge (tgt := 79) (pc' := 75) dX11_span_72 rfl rfl (q4 b2 b3) q2 (fun b4 => ?_) (fun b4 => ?_)
          · have hj := hj
            try simp only [if_neg b2, if_pos b3, if_pos b4] at hj
            exact j_wk hj (And.intro rfl (And.intro rfl (And.intro rfl (And.intro rfl (And.intro rfl (And.intro rfl trivial))))))
          · refine j_iload (pc' := 77) dX11_span_75 rfl rfl ?_
            refine j_istore (pc' := 79) (ls' := [some (mR 0), some (mI x1), some (mI x2), some (mI x3), some (mI v2), some (mI x5), some (mI v2)]) dX11_span_77 rfl (by decide) rfl ?_
            have hj := hj
            try simp only [if_neg b2, if_pos b3, if_neg b4] at hj
            exact j_wk hj (And.intro rfl (And.intro rfl (And.intro rfl (And.intro rfl (And.intro rfl (And.intro rfl trivial))))))
        · refine j_iload (pc' := 60) dX11_span_58 rfl rfl ?_
          refine j_iload (pc' := 62) dX11_span_60 rfl rfl ?_
          refine j_icmp_le (tgt := 79) (pc' := 65) dX11_span_62 rfl rfl (q5 b2 b3) q2 (fun b5 => ?_) (fun b5 => ?_)
          · have hj := hj
            try simp only [if_neg b2, if_neg b3, if_pos b5] at hj
            exact j_wk hj (And.intro rfl (And.intro rfl (And.intro rfl (And.intro rfl (And.intro rfl (And.intro rfl trivial))))))
          · refine j_goto (tgt := 75) dX11_span_65 rfl ?_
            refine j_iload (pc' := 77) dX11_span_75 rfl rfl ?_
            refine j_istore (pc' := 79) (ls' := [some (mR 0), some (mI x1), some (mI x2), some (mI x3), some (mI v2), some (mI x5), some (mI v2)]) dX11_span_77 rfl (by decide) rfl ?_
            have hj := hj
            try simp only [if_neg b2, if_neg b3, if_neg b5] at hj
            exact j_wk hj (And.intro rfl (And.intro rfl (And.intro rfl (And.intro rfl (And.intro rfl (And.intro rfl trivial))))))
theorem c_X11_span_e {Ω : mO} {d : Nat} (hd : 9 ≤ d) {r : (Int ⊕ Nat) × mD} {x1 x2 x3 : Int} {D : mD} (h : F_X11_span x1 x2 x3 D = some r) : J Ω M_X11_span d 2 12 (rO r.1 r.2) 0 [some (mR 0), some (mI x1), some (mI x2), some (mI x3), none, none, none] [] (SK, D, false) 0 0 := by
  rw [F_X11_span] at h
  refine j_aload_n (pc' := 1) dX11_span_0 rfl rfl ?_
  refine j_iload_n (pc' := 2) dX11_span_1 rfl rfl ?_
  rcases bX_o h with ⟨v1, D1, e1, h⟩ | ⟨v1, D1, e1, h⟩
  rotate_left
  · exact k_cVXtV (d' := 6) [mI x1] [] (c_X11_needWriter (d := 6) (Nat.le_refl _) e1) cw_X11_331 kc_10 w_1234 ws_32 dX11_span_2 (by omega) rfl rfl (by decide) sk_0 rfl rfl (by decide) (by decide) (rX_of h)
  refine k_cVXv (d' := 6) (pc' := 5) (ce := 1) (ke := 6) [mI x1] [] (c_X11_needWriter (d := 6) (Nat.le_refl _) e1) cw_X11_331 kc_10 w_1234 ws_32 dX11_span_2 rfl (by omega) rfl rfl (by decide) sk_0 rfl rfl rfl rfl (by decide) (by decide) ?_
  refine j_aload_n (pc' := 6) dX11_span_5 rfl rfl ?_
  refine j_iload_n (pc' := 7) dX11_span_6 rfl rfl ?_
  rcases bX_o h with ⟨v2, D2, e2, h⟩ | ⟨v2, D2, e2, h⟩
  rotate_left
  · exact k_cVXtV (d' := 6) [mI x2] [] (c_X11_needTrialDays (d := 6) (Nat.le_refl _) e2) cw_X11_420 kc_10 w_1429 ws_41 dX11_span_7 (by omega) rfl rfl (by decide) sk_0 rfl rfl (by decide) (by decide) (rX_of h)
  refine k_cVXv (d' := 6) (pc' := 10) (ce := 2) (ke := 12) [mI x2] [] (c_X11_needTrialDays (d := 6) (Nat.le_refl _) e2) cw_X11_420 kc_10 w_1429 ws_41 dX11_span_7 rfl (by omega) rfl rfl (by decide) sk_0 rfl rfl rfl rfl (by decide) (by decide) ?_
  refine j_iconst (pc' := 11) dX11_span_10 rfl ?_
  refine j_istore (pc' := 13) (ls' := [some (mR 0), some (mI x1), some (mI x2), some (mI x3), some (mI (-1)), none, none]) dX11_span_11 rfl (by decide) rfl ?_
  refine j_iconst (pc' := 14) dX11_span_13 rfl ?_
  refine j_istore (pc' := 16) (ls' := [some (mR 0), some (mI x1), some (mI x2), some (mI x3), some (mI (-1)), some (mI 1), none]) dX11_span_14 rfl (by decide) rfl ?_
  exact j_wk (j_widen (ce := 2) (ke := 12) (by decide) (by decide) (c_X11_span_L16 hd _ h)) (And.intro rfl (And.intro rfl (And.intro rfl (And.intro rfl (And.intro rfl (And.intro rfl trivial))))))
theorem c_X11_span {d : Nat} (hd : 9 ≤ d) {x1 x2 x3 : Int} {D D' : mD} {v : Int ⊕ Nat} (h : F_X11_span x1 x2 x3 D = some (v, D')) : CM d 2 12 M_X11_span [mR 0, mI x1, mI x2, mI x3] (SK, D, false) (rO v D') := CM.intro pn_X11 rfl rfl (Nat.le_of_ble_eq_true rfl) (fun _ => c_X11_span_e hd h)
theorem c_X11_slips_j48 {Ω : mO} {d : Nat} (hd : 7 ≤ d) {r : (Int ⊕ Nat) × mD} {K14 : Int → Int → mD → RX} {x1 x2 x3 s0 : Int} (hK14 : ∀ {x2 x3 : Int} {D : mD}, K14 x2 x3 D = some r → J Ω M_X11_slips d 1 6 (rO r.1 r.2) 14 [some (mR 0), some (mI x1), some (mI x2), some (mI x3), none] [] (SK, D, false) 1 6) {D : mD} (h : F_X11_slips_j48 K14 x1 x2 x3 s0 D = some r) : J Ω M_X11_slips d 1 6 (rO r.1 r.2) 48 [some (mR 0), some (mI x1), some (mI x2), some (mI x3), none] [mI s0] (SK, D, false) 1 6 := by
  rw [F_X11_slips_j48] at h
  refine j_istore (pc' := 50) (ls' := [some (mR 0), some (mI x1), some (mI x2), some (mI x3), some (mI s0)]) dX11_slips_48 rfl (by decide) rfl ?_
  refine j_iload (pc' := 52) dX11_slips_50 rfl rfl ?_
  obtain ⟨q1, h⟩ := ck_o h
  refine j_if_eq (tgt := 70) (pc' := 55) dX11_slips_52 rfl rfl q1 (fun b1 => ?_) (fun b1 => ?_)
  · replace h := ite_t b1 h
    refine j_iinc (pc' := 73) (z' := (x3 + 1)) (ls' := [some (mR 0), some (mI x1), some (mI x2), some (mI (x3 + 1)), some (mI s0)]) dX11_slips_70 rfl rfl rfl (by decide) rfl ?_
    refine j_goto (tgt := 14) dX11_slips_73 rfl ?_
    exact j_wk (j_widen (ce := 1) (ke := 6) (by decide) (by decide) (hK14 h)) (And.intro rfl (And.intro rfl (And.intro rfl (And.intro rfl trivial))))
  · replace h := ite_f b1 h
    refine j_aload_n (pc' := 56) dX11_slips_55 rfl rfl ?_
    refine k_getR (pc' := 59) (sl := 3) (r := 17) kc_10 w_396 (Or.inl rfl) (by decide) dX11_slips_56 rfl (by decide) sk_0 (by decide) rfl (by decide) ?_
    refine j_iload_n (pc' := 60) dX11_slips_59 rfl rfl ?_
    refine j_iconst (pc' := 61) dX11_slips_60 rfl ?_
    obtain ⟨v1, D1, e1, h⟩ := bI_o h
    refine k_cV (d' := 6) (pc' := 64) [mI x3, mI 3] [] (c_X10_logged (d := 6) (Nat.le_refl _) work_17 e1) cw_X11_432 kc_9 w_1452 w_1453 dX11_slips_61 rfl (by omega) rfl rfl (by decide) sk_17 rfl rfl (by decide) (by decide) ?_
    obtain ⟨q2, h⟩ := ck_o h
    have hj : J Ω M_X11_slips d 1 6 (rO r.1 r.2) 70 [some (mR 0), some (mI x1), some (mI (if v1 = 0 then x2 else (x2 + 1))), some (mI x3), none] [] (SK, D1, false) 1 6 := by
      refine j_iinc (pc' := 73) (z' := (x3 + 1)) (ls' := [some (mR 0), some (mI x1), some (mI (if v1 = 0 then x2 else (x2 + 1))), some (mI (x3 + 1)), none]) dX11_slips_70 rfl rfl rfl (by decide) rfl ?_
      refine j_goto (tgt := 14) dX11_slips_73 rfl ?_
      exact j_wk (j_widen (ce := 1) (ke := 6) (by decide) (by decide) (hK14 h)) (And.intro rfl (And.intro rfl (And.intro rfl (And.intro rfl trivial))))
    refine j_if_eq (tgt := 70) (pc' := 67) dX11_slips_64 rfl rfl q2 (fun b2 => ?_) (fun b2 => ?_)
    · have hj := hj
      try simp only [if_pos b2] at hj
      exact j_wk hj (And.intro rfl (And.intro rfl (And.intro rfl (And.intro rfl trivial))))
    · refine j_iinc (pc' := 70) (z' := (x2 + 1)) (ls' := [some (mR 0), some (mI x1), some (mI (x2 + 1)), some (mI x3), some (mI s0)]) dX11_slips_67 rfl rfl rfl (by decide) rfl ?_
      have hj := hj
      try simp only [if_neg b2] at hj
      exact j_wk hj (And.intro rfl (And.intro rfl (And.intro rfl (And.intro rfl trivial))))
theorem c_X11_slips_j43 {Ω : mO} {d : Nat} (hd : 7 ≤ d) {r : (Int ⊕ Nat) × mD} {K14 : Int → Int → mD → RX} {x1 x2 x3 : Int} (hK14 : ∀ {x2 x3 : Int} {D : mD}, K14 x2 x3 D = some r → J Ω M_X11_slips d 1 6 (rO r.1 r.2) 14 [some (mR 0), some (mI x1), some (mI x2), some (mI x3), none] [] (SK, D, false) 1 6) {D : mD} (h : F_X11_slips_j43 K14 x1 x2 x3 D = some r) : J Ω M_X11_slips d 1 6 (rO r.1 r.2) 43 [some (mR 0), some (mI x1), some (mI x2), some (mI x3), none] [] (SK, D, false) 1 6 := by
  rw [F_X11_slips_j43] at h
  refine j_iconst (pc' := 44) dX11_slips_43 rfl ?_
  refine j_goto (tgt := 48) dX11_slips_44 rfl ?_
  exact j_wk (j_widen (ce := 1) (ke := 6) (by decide) (by decide) (c_X11_slips_j48 hd hK14 h)) (And.intro rfl (And.intro rfl (And.intro rfl (And.intro rfl trivial))))
theorem c_X11_slips_L14 {Ω : mO} {d : Nat} (hd : 7 ≤ d) {r : (Int ⊕ Nat) × mD} {x1 : Int} : ∀ (n : Nat) {x2 x3 : Int} {D : mD}, F_X11_slips_L14 x1 n x2 x3 D = some r → J Ω M_X11_slips d 1 6 (rO r.1 r.2) 14 [some (mR 0), some (mI x1), some (mI x2), some (mI x3), none] [] (SK, D, false) 1 6 := by
  intro n
  induction n with
  | zero => intro x2 x3 D h; exact absurd (show (none : Option ((Int ⊕ Nat) × mD)) = some r from h) nofun
  | succ n ih =>
    intro x2 x3 D h
    rw [F_X11_slips_L14] at h
    refine j_iload_n (pc' := 15) dX11_slips_14 rfl rfl ?_
    refine j_aload_n (pc' := 16) dX11_slips_15 rfl rfl ?_
    refine k_getR (pc' := 19) (sl := 3) (r := 17) kc_10 w_396 (Or.inl rfl) (by decide) dX11_slips_16 rfl (by decide) sk_0 (by decide) rfl (by decide) ?_
    refine k_getI (pc' := 22) (sl := 9) (z := D 17 9) kc_9 w_230 (by decide) dX11_slips_19 rfl (by decide) sk_17 (by decide) rfl rfl ?_
    obtain ⟨q1, h⟩ := ck_o h
    obtain ⟨q2, h⟩ := ck_o h
    refine j_icmp_ge (tgt := 76) (pc' := 25) dX11_slips_22 rfl rfl q1 q2 (fun b1 => ?_) (fun b1 => ?_)
    · replace h := ite_t b1 h
      refine j_iload_n (pc' := 77) dX11_slips_76 rfl rfl ?_
      exact j_iret dX11_slips_77 rfl (by decide) (by decide) (rIX_of h)
    · replace h := ite_f b1 h
      refine j_iload_n (pc' := 26) dX11_slips_25 rfl rfl ?_
      refine j_iconst (pc' := 27) dX11_slips_26 rfl ?_
      obtain ⟨q3, h⟩ := ck_o h
      refine j_icmp_eq (tgt := 43) (pc' := 30) dX11_slips_27 rfl rfl q3 (by decide) (fun b2 => ?_) (fun b2 => ?_)
      · replace h := ite_t b2 h
        exact j_wk (j_widen (ce := 1) (ke := 6) (by decide) (by decide) (c_X11_slips_j43 hd ih h)) (And.intro rfl (And.intro rfl (And.intro rfl (And.intro rfl trivial))))
      · replace h := ite_f b2 h
        refine j_aload_n (pc' := 31) dX11_slips_30 rfl rfl ?_
        refine k_getR (pc' := 34) (sl := 3) (r := 17) kc_10 w_396 (Or.inl rfl) (by decide) dX11_slips_31 rfl (by decide) sk_0 (by decide) rfl (by decide) ?_
        refine j_iload_n (pc' := 35) dX11_slips_34 rfl rfl ?_
        refine j_iconst (pc' := 36) dX11_slips_35 rfl ?_
        obtain ⟨v1, D1, e1, h⟩ := bI_o h
        refine k_cV (d' := 6) (pc' := 39) [mI x3, mI 2] [] (c_X10_logged (d := 6) (Nat.le_refl _) work_17 e1) cw_X11_432 kc_9 w_1452 w_1453 dX11_slips_36 rfl (by omega) rfl rfl (by decide) sk_17 rfl rfl (by decide) (by decide) ?_
        refine j_iload_n (pc' := 40) dX11_slips_39 rfl rfl ?_
        obtain ⟨q4, h⟩ := ck_o h
        have hj : J Ω M_X11_slips d 1 6 (rO r.1 r.2) 48 [some (mR 0), some (mI x1), some (mI x2), some (mI x3), none] [mI (if v1 = x1 then (1 : Int) else (0 : Int))] (SK, D1, false) 1 6 := by
          exact j_wk (j_widen (ce := 1) (ke := 6) (by decide) (by decide) (c_X11_slips_j48 hd ih h)) (And.intro rfl (And.intro rfl (And.intro rfl (And.intro rfl trivial))))
        refine j_icmp_ne (tgt := 47) (pc' := 43) dX11_slips_40 rfl rfl q4 q3 (fun b3 => ?_) (fun b3 => ?_)
        · refine j_iconst (pc' := 48) dX11_slips_47 rfl ?_
          have hj := hj
          try simp only [if_neg b3] at hj
          exact j_wk hj (And.intro rfl (And.intro rfl (And.intro rfl (And.intro rfl trivial))))
        · refine j_iconst (pc' := 44) dX11_slips_43 rfl ?_
          refine j_goto (tgt := 48) dX11_slips_44 rfl ?_
          have hj := hj
          try simp only [if_pos b3] at hj
          exact j_wk hj (And.intro rfl (And.intro rfl (And.intro rfl (And.intro rfl trivial))))
theorem c_X11_slips_e {Ω : mO} {d : Nat} (hd : 7 ≤ d) {r : (Int ⊕ Nat) × mD} {x1 : Int} {D : mD} (h : F_X11_slips x1 D = some r) : J Ω M_X11_slips d 1 6 (rO r.1 r.2) 0 [some (mR 0), some (mI x1), none, none, none] [] (SK, D, false) 0 0 := by
  rw [F_X11_slips] at h
  refine j_iload_n (pc' := 1) dX11_slips_0 rfl rfl ?_
  refine j_iconst (pc' := 2) dX11_slips_1 rfl ?_
  obtain ⟨q1, h⟩ := ck_o h
  refine j_icmp_eq (tgt := 10) (pc' := 5) dX11_slips_2 rfl rfl q1 (by decide) (fun b1 => ?_) (fun b1 => ?_)
  · replace h := ite_t b1 h
    refine j_iconst (pc' := 11) dX11_slips_10 rfl ?_
    refine j_istore_n (pc' := 12) (ls' := [some (mR 0), some (mI x1), some (mI 0), none, none]) dX11_slips_11 rfl (by decide) rfl ?_
    refine j_iconst (pc' := 13) dX11_slips_12 rfl ?_
    refine j_istore_n (pc' := 14) (ls' := [some (mR 0), some (mI x1), some (mI 0), some (mI 0), none]) dX11_slips_13 rfl (by decide) rfl ?_
    exact j_wk (j_widen (ce := 1) (ke := 6) (by decide) (by decide) (c_X11_slips_L14 hd _ h)) (And.intro rfl (And.intro rfl (And.intro rfl (And.intro rfl trivial))))
  · replace h := ite_f b1 h
    refine j_aload_n (pc' := 6) dX11_slips_5 rfl rfl ?_
    refine j_iload_n (pc' := 7) dX11_slips_6 rfl rfl ?_
    rcases bX_o h with ⟨v1, D1, e1, h⟩ | ⟨v1, D1, e1, h⟩
    rotate_left
    · exact k_cVXtV (d' := 6) [mI x1] [] (c_X11_needWriter (d := 6) (Nat.le_refl _) e1) cw_X11_331 kc_10 w_1234 ws_32 dX11_slips_7 (by omega) rfl rfl (by decide) sk_0 rfl rfl (by decide) (by decide) (rX_of h)
    refine k_cVXv (d' := 6) (pc' := 10) (ce := 1) (ke := 6) [mI x1] [] (c_X11_needWriter (d := 6) (Nat.le_refl _) e1) cw_X11_331 kc_10 w_1234 ws_32 dX11_slips_7 rfl (by omega) rfl rfl (by decide) sk_0 rfl rfl rfl rfl (by decide) (by decide) ?_
    refine j_iconst (pc' := 11) dX11_slips_10 rfl ?_
    refine j_istore_n (pc' := 12) (ls' := [some (mR 0), some (mI x1), some (mI 0), none, none]) dX11_slips_11 rfl (by decide) rfl ?_
    refine j_iconst (pc' := 13) dX11_slips_12 rfl ?_
    refine j_istore_n (pc' := 14) (ls' := [some (mR 0), some (mI x1), some (mI 0), some (mI 0), none]) dX11_slips_13 rfl (by decide) rfl ?_
    exact j_wk (j_widen (ce := 1) (ke := 6) (by decide) (by decide) (c_X11_slips_L14 hd _ h)) (And.intro rfl (And.intro rfl (And.intro rfl (And.intro rfl trivial))))
theorem c_X11_slips {d : Nat} (hd : 7 ≤ d) {x1 : Int} {D D' : mD} {v : Int ⊕ Nat} (h : F_X11_slips x1 D = some (v, D')) : CM d 1 6 M_X11_slips [mR 0, mI x1] (SK, D, false) (rO v D') := CM.intro pn_X11 rfl rfl (Nat.le_of_ble_eq_true rfl) (fun _ => c_X11_slips_e hd h)
theorem c_X11_log_j9 {Ω : mO} {d : Nat} (hd : 7 ≤ d) {r : (Int ⊕ Nat) × mD} {D : mD} (h : F_X11_log_j9 D = some r) : J Ω M_X11_log d 1 6 (rO r.1 r.2) 9 [none, none, none] [] (SK, D, false) 0 0 := by
  rw [F_X11_log_j9] at h
  exact j_throwNW (tn_X11_196_200) (si := 53) rfl dX11_log_9 dX11_log_12 dX11_log_13 dX11_log_16 dX11_log_19 rfl (by omega) rfl (by decide) (by decide) (rX_of h)
theorem c_X11_log_e {Ω : mO} {d : Nat} (hd : 7 ≤ d) {r : (Int ⊕ Nat) × mD} {x1 x2 : Int} {D : mD} (h : F_X11_log x1 x2 D = some r) : J Ω M_X11_log d 1 6 (rO r.1 r.2) 0 [some (mR 0), some (mI x1), some (mI x2)] [] (SK, D, false) 0 0 := by
  rw [F_X11_log] at h
  refine j_iload_n (pc' := 1) dX11_log_0 rfl rfl ?_
  obtain ⟨q1, h⟩ := ck_o h
  refine j_if_lt (tgt := 9) (pc' := 4) dX11_log_1 rfl rfl q1 (fun b1 => ?_) (fun b1 => ?_)
  · replace h := ite_t b1 h
    exact j_wk (j_widen (ce := 0) (ke := 0) (by decide) (by decide) (c_X11_log_j9 hd h)) (trivial)
  · replace h := ite_f b1 h
    refine j_iload_n (pc' := 5) dX11_log_4 rfl rfl ?_
    refine j_iconst (pc' := 6) dX11_log_5 rfl ?_
    refine j_icmp_lt (tgt := 20) (pc' := 9) dX11_log_6 rfl rfl q1 (by decide) (fun b2 => ?_) (fun b2 => ?_)
    · replace h := ite_t b2 h
      refine j_iload_n (pc' := 21) dX11_log_20 rfl rfl ?_
      obtain ⟨q2, h⟩ := ck_o h
      refine j_if_lt (tgt := 35) (pc' := 24) dX11_log_21 rfl rfl q2 (fun b3 => ?_) (fun b3 => ?_)
      · replace h := ite_t b3 h
        refine j_bipush (pc' := 37) dX11_log_35 rfl rfl ?_
        refine j_goto (tgt := 49) dX11_log_37 rfl ?_
        exact j_iret dX11_log_49 rfl (by decide) (by decide) (rIX_of h)
      · replace h := ite_f b3 h
        refine j_iload_n (pc' := 25) dX11_log_24 rfl rfl ?_
        refine j_aload_n (pc' := 26) dX11_log_25 rfl rfl ?_
        refine k_getR (pc' := 29) (sl := 3) (r := 17) kc_10 w_396 (Or.inl rfl) (by decide) dX11_log_26 rfl (by decide) sk_0 (by decide) rfl (by decide) ?_
        refine k_getI (pc' := 32) (sl := 9) (z := D 17 9) kc_9 w_230 (by decide) dX11_log_29 rfl (by decide) sk_17 (by decide) rfl rfl ?_
        obtain ⟨q3, h⟩ := ck_o h
        refine j_icmp_lt (tgt := 40) (pc' := 35) dX11_log_32 rfl rfl q2 q3 (fun b4 => ?_) (fun b4 => ?_)
        · replace h := ite_t b4 h
          refine j_aload_n (pc' := 41) dX11_log_40 rfl rfl ?_
          refine k_getR (pc' := 44) (sl := 3) (r := 17) kc_10 w_396 (Or.inl rfl) (by decide) dX11_log_41 rfl (by decide) sk_0 (by decide) rfl (by decide) ?_
          refine j_iload_n (pc' := 45) dX11_log_44 rfl rfl ?_
          refine j_iload_n (pc' := 46) dX11_log_45 rfl rfl ?_
          obtain ⟨v1, D1, e1, h⟩ := bI_o h
          refine k_cV (d' := 6) (pc' := 49) [mI x1, mI x2] [] (c_X10_logged (d := 6) (Nat.le_refl _) work_17 e1) cw_X11_432 kc_9 w_1452 w_1453 dX11_log_46 rfl (by omega) rfl rfl (by decide) sk_17 rfl rfl (by decide) (by decide) ?_
          exact j_iret dX11_log_49 rfl (by decide) (by decide) (rIX_of h)
        · replace h := ite_f b4 h
          refine j_bipush (pc' := 37) dX11_log_35 rfl rfl ?_
          refine j_goto (tgt := 49) dX11_log_37 rfl ?_
          exact j_iret dX11_log_49 rfl (by decide) (by decide) (rIX_of h)
    · replace h := ite_f b2 h
      exact j_wk (j_widen (ce := 0) (ke := 0) (by decide) (by decide) (c_X11_log_j9 hd h)) (trivial)
theorem c_X11_log {d : Nat} (hd : 7 ≤ d) {x1 x2 : Int} {D D' : mD} {v : Int ⊕ Nat} (h : F_X11_log x1 x2 D = some (v, D')) : CM d 1 6 M_X11_log [mR 0, mI x1, mI x2] (SK, D, false) (rO v D') := CM.intro pn_X11 rfl rfl (Nat.le_of_ble_eq_true rfl) (fun _ => c_X11_log_e hd h)
theorem c_X12_thrown_e {Ω : mO} {d : Nat} (hd : 1 ≤ d) {r : Int × mD} {D : mD} (h : F_X12_thrown D = some r) : J Ω M_X12_thrown d 0 0 (rI r.1 r.2) 0 [some (mR 133)] [] (SK, D, false) 0 0 := by
  rw [F_X12_thrown] at h
  refine j_aload_n (pc' := 1) dX12_thrown_0 rfl rfl ?_
  refine k_getI (pc' := 4) (sl := 0) (z := D 133 0) kc_11 w_1477 (by decide) dX12_thrown_1 rfl (by decide) sk_133 (by decide) rfl rfl ?_
  exact j_iret dX12_thrown_4 rfl (by decide) (by decide) (rI_of h)
theorem c_X12_thrown {d : Nat} (hd : 1 ≤ d) {D D' : mD} {v : Int} (h : F_X12_thrown D = some (v, D')) : CM d 0 0 M_X12_thrown [mR 133] (SK, D, false) (rI v D') := CM.intro pn_X12 rfl rfl (Nat.le_of_ble_eq_true rfl) (fun _ => c_X12_thrown_e hd h)
theorem c_X12_throwsIf_e {Ω : mO} {d : Nat} (hd : 1 ≤ d) {r : Int × mD} {x1 x2 : Int} {D : mD} (h : F_X12_throwsIf x1 x2 D = some r) : J Ω M_X12_throwsIf d 0 0 (rI r.1 r.2) 0 [some (mR 133), some (mI x1), some (mI x2)] [] (SK, D, false) 0 0 := by
  rw [F_X12_throwsIf] at h
  refine j_iload_n (pc' := 1) dX12_throwsIf_0 rfl rfl ?_
  obtain ⟨q1, h⟩ := ck_o h
  refine j_if_eq (tgt := 9) (pc' := 4) dX12_throwsIf_1 rfl rfl q1 (fun b1 => ?_) (fun b1 => ?_)
  · replace h := ite_t b1 h
    refine j_iload_n (pc' := 10) dX12_throwsIf_9 rfl rfl ?_
    obtain ⟨q2, h⟩ := ck_o h
    exact j_zret dX12_throwsIf_10 rfl q2 (by decide) (by decide) (rI_of h)
  · replace h := ite_f b1 h
    refine j_aload_n (pc' := 5) dX12_throwsIf_4 rfl rfl ?_
    refine j_iload_n (pc' := 6) dX12_throwsIf_5 rfl rfl ?_
    refine k_putI (pc' := 9) (sl := 0) (i' := 0) kc_11 w_1477 (by decide) (Or.inl rfl) dX12_throwsIf_6 rfl (by decide) sk_133 (by decide) ⟨rfl, rfl⟩ rfl ?_
    refine j_iload_n (pc' := 10) dX12_throwsIf_9 rfl rfl ?_
    obtain ⟨q3, h⟩ := ck_o h
    exact j_zret dX12_throwsIf_10 rfl q3 (by decide) (by decide) (rI_of h)
theorem c_X12_throwsIf {d : Nat} (hd : 1 ≤ d) {x1 x2 : Int} {D D' : mD} {v : Int} (h : F_X12_throwsIf x1 x2 D = some (v, D')) : CM d 0 0 M_X12_throwsIf [mR 133, mI x1, mI x2] (SK, D, false) (rI v D') := CM.intro pn_X12 rfl rfl (Nat.le_of_ble_eq_true rfl) (fun _ => c_X12_throwsIf_e hd h)
theorem c_X12_in_e {Ω : mO} {d : Nat} (hd : 1 ≤ d) {r : Int × mD} {x0 x1 x2 : Int} {D : mD} (h : F_X12_in x0 x1 x2 D = some r) : J Ω M_X12_in d 0 0 (rI r.1 r.2) 0 [some (mI x0), some (mI x1), some (mI x2)] [] (SK, D, false) 0 0 := by
  rw [F_X12_in] at h
  refine j_iload_n (pc' := 1) dX12_in_0 rfl rfl ?_
  refine j_iload_n (pc' := 2) dX12_in_1 rfl rfl ?_
  obtain ⟨q1, h⟩ := ck_o h
  obtain ⟨q2, h⟩ := ck_o h
  obtain ⟨q3, h⟩ := ck_o h
  have hj : J Ω M_X12_in d 0 0 (rI r.1 r.2) 15 [none, none, none] [mI (if x0 < x1 then (0 : Int) else (if x2 < x0 then (0 : Int) else (1 : Int)))] (SK, D, false) 0 0 := by
    obtain ⟨q4, h⟩ := ck_o h
    exact j_zret dX12_in_15 rfl q4 (by decide) (by decide) (rI_of h)
  refine j_icmp_lt (tgt := 14) (pc' := 5) dX12_in_2 rfl rfl q1 q2 (fun b1 => ?_) (fun b1 => ?_)
  · refine j_iconst (pc' := 15) dX12_in_14 rfl ?_
    have hj := hj
    try simp only [if_pos b1] at hj
    exact j_wk hj (trivial)
  · refine j_iload_n (pc' := 6) dX12_in_5 rfl rfl ?_
    refine j_iload_n (pc' := 7) dX12_in_6 rfl rfl ?_
    refine j_icmp_gt (tgt := 14) (pc' := 10) dX12_in_7 rfl rfl q1 (q3 b1) (fun b2 => ?_) (fun b2 => ?_)
    · refine j_iconst (pc' := 15) dX12_in_14 rfl ?_
      have hj := hj
      try simp only [if_neg b1, if_pos b2] at hj
      exact j_wk hj (trivial)
    · refine j_iconst (pc' := 11) dX12_in_10 rfl ?_
      refine j_goto (tgt := 15) dX12_in_11 rfl ?_
      have hj := hj
      try simp only [if_neg b1, if_neg b2] at hj
      exact j_wk hj (trivial)
theorem c_X12_in {d : Nat} (hd : 1 ≤ d) {x0 x1 x2 : Int} {D D' : mD} {v : Int} (h : F_X12_in x0 x1 x2 D = some (v, D')) : CM d 0 0 M_X12_in [mI x0, mI x1, mI x2] (SK, D, false) (rI v D') := CM.intro pn_X12 rfl rfl (Nat.le_of_ble_eq_true rfl) (fun _ => c_X12_in_e hd h)
theorem c_X12_has_e {Ω : mO} {d : Nat} (hd : 1 ≤ d) {r : Int × mD} {x0 x1 : Int} {D : mD} (h : F_X12_has x0 x1 D = some r) : J Ω M_X12_has d 0 0 (rI r.1 r.2) 0 [some (mI x0), some (mI x1)] [] (SK, D, false) 0 0 := by
  rw [F_X12_has] at h
  refine j_iload_n (pc' := 1) dX12_has_0 rfl rfl ?_
  refine j_iload_n (pc' := 2) dX12_has_1 rfl rfl ?_
  refine j_ishr (pc' := 3) dX12_has_2 rfl ?_
  refine j_iconst (pc' := 4) dX12_has_3 rfl ?_
  refine j_iand (pc' := 5) dX12_has_4 rfl ?_
  refine j_iconst (pc' := 6) dX12_has_5 rfl ?_
  obtain ⟨q1, h⟩ := ck_o h
  have hj : J Ω M_X12_has d 0 0 (rI r.1 r.2) 14 [none, none] [mI (if (bAnd (bShr x0 x1) 1) = 1 then (1 : Int) else (0 : Int))] (SK, D, false) 0 0 := by
    obtain ⟨q2, h⟩ := ck_o h
    exact j_zret dX12_has_14 rfl q2 (by decide) (by decide) (rI_of h)
  refine j_icmp_ne (tgt := 13) (pc' := 9) dX12_has_6 rfl rfl q1 (by decide) (fun b1 => ?_) (fun b1 => ?_)
  · refine j_iconst (pc' := 14) dX12_has_13 rfl ?_
    have hj := hj
    try simp only [if_neg b1] at hj
    exact j_wk hj (trivial)
  · refine j_iconst (pc' := 10) dX12_has_9 rfl ?_
    refine j_goto (tgt := 14) dX12_has_10 rfl ?_
    have hj := hj
    try simp only [if_pos b1] at hj
    exact j_wk hj (trivial)
theorem c_X12_has {d : Nat} (hd : 1 ≤ d) {x0 x1 : Int} {D D' : mD} {v : Int} (h : F_X12_has x0 x1 D = some (v, D')) : CM d 0 0 M_X12_has [mI x0, mI x1] (SK, D, false) (rI v D') := CM.intro pn_X12 rfl rfl (Nat.le_of_ble_eq_true rfl) (fun _ => c_X12_has_e hd h)
theorem c_X12_image_L7 {Ω : mO} {d : Nat} (hd : 1 ≤ d) {r : Int × mD} : ∀ (n : Nat) {x1 : Int} {D : mD}, F_X12_image_L7 n x1 D = some r → J Ω M_X12_image d 0 0 (rV r.2) 7 [some (mR 133), some (mI x1)] [] (SK, D, false) 0 0 := by
  intro n
  induction n with
  | zero => intro x1 D h; exact absurd (show (none : Option (Int × mD)) = some r from h) nofun
  | succ n ih =>
    intro x1 D h
    rw [F_X12_image_L7] at h
    refine j_iload_n (pc' := 8) dX12_image_7 rfl rfl ?_
    refine j_sipush (pc' := 11) dX12_image_8 rfl rfl ?_
    obtain ⟨q1, h⟩ := ck_o h
    refine j_icmp_ge (tgt := 32) (pc' := 14) dX12_image_11 rfl rfl q1 (by decide) (fun b1 => ?_) (fun b1 => ?_)
    · replace h := ite_t b1 h
      refine j_aload_n (pc' := 33) dX12_image_32 rfl rfl ?_
      refine j_iconst (pc' := 34) dX12_image_33 rfl ?_
      refine k_putI (pc' := 37) (sl := 6) (i' := 6) kc_11 w_1483 (by decide) (Or.inr ⟨rfl, Or.inr rfl⟩) dX12_image_34 rfl (by decide) sk_133 (by decide) ⟨rfl, rfl⟩ rfl ?_
      exact j_vret dX12_image_37 rfl (by decide) (by decide) (rV_of h)
    · replace h := ite_f b1 h
      refine j_aload_n (pc' := 15) dX12_image_14 rfl rfl ?_
      refine k_getR (pc' := 18) (sl := 2) (r := 135) kc_11 w_1479 (Or.inl rfl) (by decide) dX12_image_15 rfl (by decide) sk_133 (by decide) rfl (by decide) ?_
      refine j_iload_n (pc' := 19) dX12_image_18 rfl rfl ?_
      refine j_aload_n (pc' := 20) dX12_image_19 rfl rfl ?_
      refine k_getR (pc' := 23) (sl := 1) (r := 134) kc_11 w_1478 (Or.inl rfl) (by decide) dX12_image_20 rfl (by decide) sk_133 (by decide) rfl (by decide) ?_
      refine j_iload_n (pc' := 24) dX12_image_23 rfl rfl ?_
      obtain ⟨q2, h⟩ := ck_o h
      refine k_iald (pc' := 25) (z := D 134 x1) dX12_image_24 rfl (by decide) sk_134 (by decide) q2.1 q2.2 rfl ?_
      obtain ⟨q3, h⟩ := ck_o h
      refine k_iast (pc' := 26) dX12_image_25 rfl (by decide) sk_135 (by decide) q3.1 q3.2 ?_
      refine j_iinc (pc' := 29) (z' := (x1 + 1)) (ls' := [some (mR 133), some (mI (x1 + 1))]) dX12_image_26 rfl rfl rfl (by decide) rfl ?_
      refine j_goto (tgt := 7) dX12_image_29 rfl ?_
      exact j_wk (j_widen (ce := 0) (ke := 0) (by decide) (by decide) (ih h)) (And.intro rfl (And.intro rfl trivial))
theorem c_X12_image_e {Ω : mO} {d : Nat} (hd : 1 ≤ d) {r : Int × mD} {D : mD} (h : F_X12_image D = some r) : J Ω M_X12_image d 0 0 (rV r.2) 0 [some (mR 133), none] [] (SK, D, false) 0 0 := by
  rw [F_X12_image] at h
  refine j_aload_n (pc' := 1) dX12_image_0 rfl rfl ?_
  refine j_iconst (pc' := 2) dX12_image_1 rfl ?_
  refine k_putI (pc' := 5) (sl := 0) (i' := 0) kc_11 w_1477 (by decide) (Or.inl rfl) dX12_image_2 rfl (by decide) sk_133 (by decide) ⟨rfl, rfl⟩ rfl ?_
  refine j_iconst (pc' := 6) dX12_image_5 rfl ?_
  refine j_istore_n (pc' := 7) (ls' := [some (mR 133), some (mI 0)]) dX12_image_6 rfl (by decide) rfl ?_
  exact j_wk (j_widen (ce := 0) (ke := 0) (by decide) (by decide) (c_X12_image_L7 hd _ h)) (And.intro rfl (And.intro rfl trivial))
theorem c_X12_image {d : Nat} (hd : 1 ≤ d) {D D' : mD} {v : Int} (h : F_X12_image D = some (v, D')) : CM d 0 0 M_X12_image [mR 133] (SK, D, false) (rV D') := CM.intro pn_X12 rfl rfl (Nat.le_of_ble_eq_true rfl) (fun _ => c_X12_image_e hd h)
theorem c_X12_back_L16 {Ω : mO} {d : Nat} (hd : 1 ≤ d) {r : Int × mD} : ∀ (n : Nat) {x1 : Int} {D : mD}, F_X12_back_L16 n x1 D = some r → J Ω M_X12_back d 0 0 (rI r.1 r.2) 16 [some (mR 133), some (mI x1)] [] (SK, D, false) 0 0 := by
  intro n
  induction n with
  | zero => intro x1 D h; exact absurd (show (none : Option (Int × mD)) = some r from h) nofun
  | succ n ih =>
    intro x1 D h
    rw [F_X12_back_L16] at h
    refine j_iload_n (pc' := 17) dX12_back_16 rfl rfl ?_
    refine j_sipush (pc' := 20) dX12_back_17 rfl rfl ?_
    obtain ⟨q1, h⟩ := ck_o h
    refine j_icmp_ge (tgt := 41) (pc' := 23) dX12_back_20 rfl rfl q1 (by decide) (fun b1 => ?_) (fun b1 => ?_)
    · replace h := ite_t b1 h
      refine j_aload_n (pc' := 42) dX12_back_41 rfl rfl ?_
      refine j_iconst (pc' := 43) dX12_back_42 rfl ?_
      refine k_putI (pc' := 46) (sl := 7) (i' := 7) kc_11 w_1484 (by decide) (Or.inl rfl) dX12_back_43 rfl (by decide) sk_133 (by decide) ⟨rfl, rfl⟩ rfl ?_
      refine j_iconst (pc' := 47) dX12_back_46 rfl ?_
      exact j_zret dX12_back_47 rfl (Or.inr rfl) (by decide) (by decide) (rI_of h)
    · replace h := ite_f b1 h
      refine j_aload_n (pc' := 24) dX12_back_23 rfl rfl ?_
      refine k_getR (pc' := 27) (sl := 1) (r := 134) kc_11 w_1478 (Or.inl rfl) (by decide) dX12_back_24 rfl (by decide) sk_133 (by decide) rfl (by decide) ?_
      refine j_iload_n (pc' := 28) dX12_back_27 rfl rfl ?_
      refine j_aload_n (pc' := 29) dX12_back_28 rfl rfl ?_
      refine k_getR (pc' := 32) (sl := 2) (r := 135) kc_11 w_1479 (Or.inl rfl) (by decide) dX12_back_29 rfl (by decide) sk_133 (by decide) rfl (by decide) ?_
      refine j_iload_n (pc' := 33) dX12_back_32 rfl rfl ?_
      obtain ⟨q2, h⟩ := ck_o h
      refine k_iald (pc' := 34) (z := D 135 x1) dX12_back_33 rfl (by decide) sk_135 (by decide) q2.1 q2.2 rfl ?_
      obtain ⟨q3, h⟩ := ck_o h
      refine k_iast (pc' := 35) dX12_back_34 rfl (by decide) sk_134 (by decide) q3.1 q3.2 ?_
      refine j_iinc (pc' := 38) (z' := (x1 + 1)) (ls' := [some (mR 133), some (mI (x1 + 1))]) dX12_back_35 rfl rfl rfl (by decide) rfl ?_
      refine j_goto (tgt := 16) dX12_back_38 rfl ?_
      exact j_wk (j_widen (ce := 0) (ke := 0) (by decide) (by decide) (ih h)) (And.intro rfl (And.intro rfl trivial))
theorem c_X12_back_e {Ω : mO} {d : Nat} (hd : 1 ≤ d) {r : Int × mD} {D : mD} (h : F_X12_back D = some r) : J Ω M_X12_back d 0 0 (rI r.1 r.2) 0 [some (mR 133), none] [] (SK, D, false) 0 0 := by
  rw [F_X12_back] at h
  refine j_aload_n (pc' := 1) dX12_back_0 rfl rfl ?_
  refine j_iconst (pc' := 2) dX12_back_1 rfl ?_
  refine k_putI (pc' := 5) (sl := 0) (i' := 0) kc_11 w_1477 (by decide) (Or.inl rfl) dX12_back_2 rfl (by decide) sk_133 (by decide) ⟨rfl, rfl⟩ rfl ?_
  refine j_aload_n (pc' := 6) dX12_back_5 rfl rfl ?_
  refine k_getI (pc' := 9) (sl := 6) (z := (pD D 133 0 0) 133 6) kc_11 w_1483 (by decide) dX12_back_6 rfl (by decide) sk_133 (by decide) rfl rfl ?_
  obtain ⟨q1, h⟩ := ck_o h
  refine j_if_ne (tgt := 14) (pc' := 12) dX12_back_9 rfl rfl q1 (fun b1 => ?_) (fun b1 => ?_)
  · replace h := ite_f b1 h
    refine j_iconst (pc' := 15) dX12_back_14 rfl ?_
    refine j_istore_n (pc' := 16) (ls' := [some (mR 133), some (mI 0)]) dX12_back_15 rfl (by decide) rfl ?_
    exact j_wk (j_widen (ce := 0) (ke := 0) (by decide) (by decide) (c_X12_back_L16 hd _ h)) (And.intro rfl (And.intro rfl trivial))
  · replace h := ite_t b1 h
    refine j_iconst (pc' := 13) dX12_back_12 rfl ?_
    exact j_zret dX12_back_13 rfl (Or.inl rfl) (by decide) (by decide) (rI_of h)
theorem c_X12_back {d : Nat} (hd : 1 ≤ d) {D D' : mD} {v : Int} (h : F_X12_back D = some (v, D')) : CM d 0 0 M_X12_back [mR 133] (SK, D, false) (rI v D') := CM.intro pn_X12 rfl rfl (Nat.le_of_ble_eq_true rfl) (fun _ => c_X12_back_e hd h)
theorem c_X12_remembers_L55 {Ω : mO} {d : Nat} (hd : 1 ≤ d) {r : Int × mD} : ∀ (n : Nat) {x1 : Int} {D : mD}, F_X12_remembers_L55 n x1 D = some r → J Ω M_X12_remembers d 0 0 (rV r.2) 55 [some (mR 133), some (mI x1)] [] (SK, D, false) 0 0 := by
  intro n
  induction n with
  | zero => intro x1 D h; exact absurd (show (none : Option (Int × mD)) = some r from h) nofun
  | succ n ih =>
    intro x1 D h
    rw [F_X12_remembers_L55] at h
    refine j_iload_n (pc' := 56) dX12_remembers_55 rfl rfl ?_
    refine j_sipush (pc' := 59) dX12_remembers_56 rfl rfl ?_
    obtain ⟨q1, h⟩ := ck_o h
    refine j_icmp_ge (tgt := 91) (pc' := 62) dX12_remembers_59 rfl rfl q1 (by decide) (fun b1 => ?_) (fun b1 => ?_)
    · replace h := ite_t b1 h
      exact j_vret dX12_remembers_91 rfl (by decide) (by decide) (rV_of h)
    · replace h := ite_f b1 h
      refine j_aload_n (pc' := 63) dX12_remembers_62 rfl rfl ?_
      refine k_getR (pc' := 66) (sl := 5) (r := 138) kc_11 w_1482 (Or.inl rfl) (by decide) dX12_remembers_63 rfl (by decide) sk_133 (by decide) rfl (by decide) ?_
      refine j_sipush (pc' := 69) dX12_remembers_66 rfl rfl ?_
      refine j_aload_n (pc' := 70) dX12_remembers_69 rfl rfl ?_
      refine k_getI (pc' := 73) (sl := 7) (z := D 133 7) kc_11 w_1484 (by decide) dX12_remembers_70 rfl (by decide) sk_133 (by decide) rfl rfl ?_
      refine j_iconst (pc' := 74) dX12_remembers_73 rfl ?_
      refine j_isub (pc' := 75) dX12_remembers_74 rfl ?_
      refine j_imul (pc' := 76) dX12_remembers_75 rfl ?_
      refine j_iload_n (pc' := 77) dX12_remembers_76 rfl rfl ?_
      refine j_iadd (pc' := 78) dX12_remembers_77 rfl ?_
      refine j_aload_n (pc' := 79) dX12_remembers_78 rfl rfl ?_
      refine k_getR (pc' := 82) (sl := 1) (r := 134) kc_11 w_1478 (Or.inl rfl) (by decide) dX12_remembers_79 rfl (by decide) sk_133 (by decide) rfl (by decide) ?_
      refine j_iload_n (pc' := 83) dX12_remembers_82 rfl rfl ?_
      obtain ⟨q2, h⟩ := ck_o h
      refine k_iald (pc' := 84) (z := D 134 x1) dX12_remembers_83 rfl (by decide) sk_134 (by decide) q2.1 q2.2 rfl ?_
      obtain ⟨q3, h⟩ := ck_o h
      refine k_iast (pc' := 85) dX12_remembers_84 rfl (by decide) sk_138 (by decide) q3.1 q3.2 ?_
      refine j_iinc (pc' := 88) (z' := (x1 + 1)) (ls' := [some (mR 133), some (mI (x1 + 1))]) dX12_remembers_85 rfl rfl rfl (by decide) rfl ?_
      refine j_goto (tgt := 55) dX12_remembers_88 rfl ?_
      exact j_wk (j_widen (ce := 0) (ke := 0) (by decide) (by decide) (ih h)) (And.intro rfl (And.intro rfl trivial))
theorem c_X12_remembers_L11 {Ω : mO} {d : Nat} (hd : 1 ≤ d) {r : Int × mD} : ∀ (n : Nat) {x1 : Int} {D : mD}, F_X12_remembers_L11 n x1 D = some r → J Ω M_X12_remembers d 0 0 (rV r.2) 11 [some (mR 133), some (mI x1)] [] (SK, D, false) 0 0 := by
  intro n
  induction n with
  | zero => intro x1 D h; exact absurd (show (none : Option (Int × mD)) = some r from h) nofun
  | succ n ih =>
    intro x1 D h
    rw [F_X12_remembers_L11] at h
    refine j_iload_n (pc' := 12) dX12_remembers_11 rfl rfl ?_
    refine j_sipush (pc' := 15) dX12_remembers_12 rfl rfl ?_
    obtain ⟨q1, h⟩ := ck_o h
    refine j_icmp_ge (tgt := 40) (pc' := 18) dX12_remembers_15 rfl rfl q1 (by decide) (fun b1 => ?_) (fun b1 => ?_)
    · replace h := ite_t b1 h
      refine j_goto (tgt := 53) dX12_remembers_40 rfl ?_
      refine j_iconst (pc' := 54) dX12_remembers_53 rfl ?_
      refine j_istore_n (pc' := 55) (ls' := [some (mR 133), some (mI 0)]) dX12_remembers_54 rfl (by decide) rfl ?_
      exact j_wk (j_widen (ce := 0) (ke := 0) (by decide) (by decide) (c_X12_remembers_L55 hd _ h)) (And.intro rfl (And.intro rfl trivial))
    · replace h := ite_f b1 h
      refine j_aload_n (pc' := 19) dX12_remembers_18 rfl rfl ?_
      refine k_getR (pc' := 22) (sl := 5) (r := 138) kc_11 w_1482 (Or.inl rfl) (by decide) dX12_remembers_19 rfl (by decide) sk_133 (by decide) rfl (by decide) ?_
      refine j_iload_n (pc' := 23) dX12_remembers_22 rfl rfl ?_
      refine j_aload_n (pc' := 24) dX12_remembers_23 rfl rfl ?_
      refine k_getR (pc' := 27) (sl := 5) (r := 138) kc_11 w_1482 (Or.inl rfl) (by decide) dX12_remembers_24 rfl (by decide) sk_133 (by decide) rfl (by decide) ?_
      refine j_iload_n (pc' := 28) dX12_remembers_27 rfl rfl ?_
      refine j_sipush (pc' := 31) dX12_remembers_28 rfl rfl ?_
      refine j_iadd (pc' := 32) dX12_remembers_31 rfl ?_
      obtain ⟨q2, h⟩ := ck_o h
      refine k_iald (pc' := 33) (z := D 138 (x1 + 475)) dX12_remembers_32 rfl (by decide) sk_138 (by decide) q2.1 q2.2 rfl ?_
      obtain ⟨q3, h⟩ := ck_o h
      refine k_iast (pc' := 34) dX12_remembers_33 rfl (by decide) sk_138 (by decide) q3.1 q3.2 ?_
      refine j_iinc (pc' := 37) (z' := (x1 + 1)) (ls' := [some (mR 133), some (mI (x1 + 1))]) dX12_remembers_34 rfl rfl rfl (by decide) rfl ?_
      refine j_goto (tgt := 11) dX12_remembers_37 rfl ?_
      exact j_wk (j_widen (ce := 0) (ke := 0) (by decide) (by decide) (ih h)) (And.intro rfl (And.intro rfl trivial))
theorem c_X12_remembers_e {Ω : mO} {d : Nat} (hd : 1 ≤ d) {r : Int × mD} {D : mD} (h : F_X12_remembers D = some r) : J Ω M_X12_remembers d 0 0 (rV r.2) 0 [some (mR 133), none] [] (SK, D, false) 0 0 := by
  rw [F_X12_remembers] at h
  refine j_aload_n (pc' := 1) dX12_remembers_0 rfl rfl ?_
  refine k_getI (pc' := 4) (sl := 7) (z := D 133 7) kc_11 w_1484 (by decide) dX12_remembers_1 rfl (by decide) sk_133 (by decide) rfl rfl ?_
  refine j_bipush (pc' := 6) dX12_remembers_4 rfl rfl ?_
  obtain ⟨q1, h⟩ := ck_o h
  refine j_icmp_ne (tgt := 43) (pc' := 9) dX12_remembers_6 rfl rfl q1 (by decide) (fun b1 => ?_) (fun b1 => ?_)
  · replace h := ite_f b1 h
    refine j_aload_n (pc' := 44) dX12_remembers_43 rfl rfl ?_
    refine j_dup (pc' := 45) dX12_remembers_44 rfl rfl ?_
    refine k_getI (pc' := 48) (sl := 7) (z := D 133 7) kc_11 w_1484 (by decide) dX12_remembers_45 rfl (by decide) sk_133 (by decide) rfl rfl ?_
    refine j_iconst (pc' := 49) dX12_remembers_48 rfl ?_
    refine j_iadd (pc' := 50) dX12_remembers_49 rfl ?_
    refine k_putI (pc' := 53) (sl := 7) (i' := 7) kc_11 w_1484 (by decide) (Or.inl rfl) dX12_remembers_50 rfl (by decide) sk_133 (by decide) ⟨rfl, rfl⟩ rfl ?_
    refine j_iconst (pc' := 54) dX12_remembers_53 rfl ?_
    refine j_istore_n (pc' := 55) (ls' := [some (mR 133), some (mI 0)]) dX12_remembers_54 rfl (by decide) rfl ?_
    exact j_wk (j_widen (ce := 0) (ke := 0) (by decide) (by decide) (c_X12_remembers_L55 hd _ h)) (And.intro rfl (And.intro rfl trivial))
  · replace h := ite_t b1 h
    refine j_iconst (pc' := 10) dX12_remembers_9 rfl ?_
    refine j_istore_n (pc' := 11) (ls' := [some (mR 133), some (mI 0)]) dX12_remembers_10 rfl (by decide) rfl ?_
    exact j_wk (j_widen (ce := 0) (ke := 0) (by decide) (by decide) (c_X12_remembers_L11 hd _ h)) (And.intro rfl (And.intro rfl trivial))
theorem c_X12_remembers {d : Nat} (hd : 1 ≤ d) {D D' : mD} {v : Int} (h : F_X12_remembers D = some (v, D')) : CM d 0 0 M_X12_remembers [mR 133] (SK, D, false) (rV D') := CM.intro pn_X12 rfl rfl (Nat.le_of_ble_eq_true rfl) (fun _ => c_X12_remembers_e hd h)
theorem c_X12_undo_L26 {Ω : mO} {d : Nat} (hd : 1 ≤ d) {r : Int × mD} : ∀ (n : Nat) {x1 : Int} {D : mD}, F_X12_undo_L26 n x1 D = some r → J Ω M_X12_undo d 0 0 (rI r.1 r.2) 26 [some (mR 133), some (mI x1)] [] (SK, D, false) 0 0 := by
  intro n
  induction n with
  | zero => intro x1 D h; exact absurd (show (none : Option (Int × mD)) = some r from h) nofun
  | succ n ih =>
    intro x1 D h
    rw [F_X12_undo_L26] at h
    refine j_iload_n (pc' := 27) dX12_undo_26 rfl rfl ?_
    refine j_sipush (pc' := 30) dX12_undo_27 rfl rfl ?_
    obtain ⟨q1, h⟩ := ck_o h
    refine j_icmp_ge (tgt := 60) (pc' := 33) dX12_undo_30 rfl rfl q1 (by decide) (fun b1 => ?_) (fun b1 => ?_)
    · replace h := ite_t b1 h
      refine j_iconst (pc' := 61) dX12_undo_60 rfl ?_
      exact j_zret dX12_undo_61 rfl (Or.inr rfl) (by decide) (by decide) (rI_of h)
    · replace h := ite_f b1 h
      refine j_aload_n (pc' := 34) dX12_undo_33 rfl rfl ?_
      refine k_getR (pc' := 37) (sl := 1) (r := 134) kc_11 w_1478 (Or.inl rfl) (by decide) dX12_undo_34 rfl (by decide) sk_133 (by decide) rfl (by decide) ?_
      refine j_iload_n (pc' := 38) dX12_undo_37 rfl rfl ?_
      refine j_aload_n (pc' := 39) dX12_undo_38 rfl rfl ?_
      refine k_getR (pc' := 42) (sl := 5) (r := 138) kc_11 w_1482 (Or.inl rfl) (by decide) dX12_undo_39 rfl (by decide) sk_133 (by decide) rfl (by decide) ?_
      refine j_sipush (pc' := 45) dX12_undo_42 rfl rfl ?_
      refine j_aload_n (pc' := 46) dX12_undo_45 rfl rfl ?_
      refine k_getI (pc' := 49) (sl := 7) (z := D 133 7) kc_11 w_1484 (by decide) dX12_undo_46 rfl (by decide) sk_133 (by decide) rfl rfl ?_
      refine j_imul (pc' := 50) dX12_undo_49 rfl ?_
      refine j_iload_n (pc' := 51) dX12_undo_50 rfl rfl ?_
      refine j_iadd (pc' := 52) dX12_undo_51 rfl ?_
      obtain ⟨q2, h⟩ := ck_o h
      refine k_iald (pc' := 53) (z := D 138 ((475 * (D 133 7)) + x1)) dX12_undo_52 rfl (by decide) sk_138 (by decide) q2.1 q2.2 rfl ?_
      obtain ⟨q3, h⟩ := ck_o h
      refine k_iast (pc' := 54) dX12_undo_53 rfl (by decide) sk_134 (by decide) q3.1 q3.2 ?_
      refine j_iinc (pc' := 57) (z' := (x1 + 1)) (ls' := [some (mR 133), some (mI (x1 + 1))]) dX12_undo_54 rfl rfl rfl (by decide) rfl ?_
      refine j_goto (tgt := 26) dX12_undo_57 rfl ?_
      exact j_wk (j_widen (ce := 0) (ke := 0) (by decide) (by decide) (ih h)) (And.intro rfl (And.intro rfl trivial))
theorem c_X12_undo_e {Ω : mO} {d : Nat} (hd : 1 ≤ d) {r : Int × mD} {D : mD} (h : F_X12_undo D = some r) : J Ω M_X12_undo d 0 0 (rI r.1 r.2) 0 [some (mR 133), none] [] (SK, D, false) 0 0 := by
  rw [F_X12_undo] at h
  refine j_aload_n (pc' := 1) dX12_undo_0 rfl rfl ?_
  refine j_iconst (pc' := 2) dX12_undo_1 rfl ?_
  refine k_putI (pc' := 5) (sl := 0) (i' := 0) kc_11 w_1477 (by decide) (Or.inl rfl) dX12_undo_2 rfl (by decide) sk_133 (by decide) ⟨rfl, rfl⟩ rfl ?_
  refine j_aload_n (pc' := 6) dX12_undo_5 rfl rfl ?_
  refine k_getI (pc' := 9) (sl := 7) (z := (pD D 133 0 0) 133 7) kc_11 w_1484 (by decide) dX12_undo_6 rfl (by decide) sk_133 (by decide) rfl rfl ?_
  obtain ⟨q1, h⟩ := ck_o h
  refine j_if_ne (tgt := 14) (pc' := 12) dX12_undo_9 rfl rfl q1 (fun b1 => ?_) (fun b1 => ?_)
  · replace h := ite_f b1 h
    refine j_aload_n (pc' := 15) dX12_undo_14 rfl rfl ?_
    refine j_dup (pc' := 16) dX12_undo_15 rfl rfl ?_
    refine k_getI (pc' := 19) (sl := 7) (z := (pD D 133 0 0) 133 7) kc_11 w_1484 (by decide) dX12_undo_16 rfl (by decide) sk_133 (by decide) rfl rfl ?_
    refine j_iconst (pc' := 20) dX12_undo_19 rfl ?_
    refine j_isub (pc' := 21) dX12_undo_20 rfl ?_
    refine k_putI (pc' := 24) (sl := 7) (i' := 7) kc_11 w_1484 (by decide) (Or.inl rfl) dX12_undo_21 rfl (by decide) sk_133 (by decide) ⟨rfl, rfl⟩ rfl ?_
    refine j_iconst (pc' := 25) dX12_undo_24 rfl ?_
    refine j_istore_n (pc' := 26) (ls' := [some (mR 133), some (mI 0)]) dX12_undo_25 rfl (by decide) rfl ?_
    exact j_wk (j_widen (ce := 0) (ke := 0) (by decide) (by decide) (c_X12_undo_L26 hd _ h)) (And.intro rfl (And.intro rfl trivial))
  · replace h := ite_t b1 h
    refine j_iconst (pc' := 13) dX12_undo_12 rfl ?_
    exact j_zret dX12_undo_13 rfl (Or.inl rfl) (by decide) (by decide) (rI_of h)
theorem c_X12_undo {d : Nat} (hd : 1 ≤ d) {D D' : mD} {v : Int} (h : F_X12_undo D = some (v, D')) : CM d 0 0 M_X12_undo [mR 133] (SK, D, false) (rI v D') := CM.intro pn_X12 rfl rfl (Nat.le_of_ble_eq_true rfl) (fun _ => c_X12_undo_e hd h)
theorem c_X12_signs_e {Ω : mO} {d : Nat} (hd : 1 ≤ d) {r : Int × mD} {D : mD} (h : F_X12_signs D = some r) : J Ω M_X12_signs d 0 0 (rI r.1 r.2) 0 [some (mR 133)] [] (SK, D, false) 0 0 := by
  rw [F_X12_signs] at h
  refine j_aload_n (pc' := 1) dX12_signs_0 rfl rfl ?_
  refine k_getR (pc' := 4) (sl := 1) (r := 134) kc_11 w_1478 (Or.inl rfl) (by decide) dX12_signs_1 rfl (by decide) sk_133 (by decide) rfl (by decide) ?_
  refine j_iconst (pc' := 5) dX12_signs_4 rfl ?_
  refine k_iald (pc' := 6) (z := D 134 0) dX12_signs_5 rfl (by decide) sk_134 (by decide) (by decide) (by decide) rfl ?_
  exact j_iret dX12_signs_6 rfl (by decide) (by decide) (rI_of h)
theorem c_X12_signs {d : Nat} (hd : 1 ≤ d) {D D' : mD} {v : Int} (h : F_X12_signs D = some (v, D')) : CM d 0 0 M_X12_signs [mR 133] (SK, D, false) (rI v D') := CM.intro pn_X12 rfl rfl (Nat.le_of_ble_eq_true rfl) (fun _ => c_X12_signs_e hd h)
theorem c_X12_letters_e {Ω : mO} {d : Nat} (hd : 1 ≤ d) {r : Int × mD} {D : mD} (h : F_X12_letters D = some r) : J Ω M_X12_letters d 0 0 (rI r.1 r.2) 0 [some (mR 133)] [] (SK, D, false) 0 0 := by
  rw [F_X12_letters] at h
  refine j_aload_n (pc' := 1) dX12_letters_0 rfl rfl ?_
  refine k_getR (pc' := 4) (sl := 1) (r := 134) kc_11 w_1478 (Or.inl rfl) (by decide) dX12_letters_1 rfl (by decide) sk_133 (by decide) rfl (by decide) ?_
  refine j_iconst (pc' := 5) dX12_letters_4 rfl ?_
  refine k_iald (pc' := 6) (z := D 134 1) dX12_letters_5 rfl (by decide) sk_134 (by decide) (by decide) (by decide) rfl ?_
  exact j_iret dX12_letters_6 rfl (by decide) (by decide) (rI_of h)
theorem c_X12_letters {d : Nat} (hd : 1 ≤ d) {D D' : mD} {v : Int} (h : F_X12_letters D = some (v, D')) : CM d 0 0 M_X12_letters [mR 133] (SK, D, false) (rI v D') := CM.intro pn_X12 rfl rfl (Nat.le_of_ble_eq_true rfl) (fun _ => c_X12_letters_e hd h)
theorem c_X12_gaps_e {Ω : mO} {d : Nat} (hd : 6 ≤ d) {r : Int × mD} {D : mD} (h : F_X12_gaps D = some r) : J Ω M_X12_gaps d 0 0 (rI r.1 r.2) 0 [some (mR 133)] [] (SK, D, false) 0 0 := by
  rw [F_X12_gaps] at h
  refine j_iconst (pc' := 1) dX12_gaps_0 rfl ?_
  refine j_aload_n (pc' := 2) dX12_gaps_1 rfl rfl ?_
  obtain ⟨v1, D1, e1, h⟩ := bI_o h
  refine k_cV (d' := 1) (pc' := 5) [] [mI 0] (c_X12_letters (d := 1) (Nat.le_refl _) e1) cw_X12_68 kc_11 w_1788 ws_80 dX12_gaps_2 rfl (by omega) rfl rfl (by decide) sk_133 rfl rfl (by decide) (by decide) ?_
  refine j_iconst (pc' := 6) dX12_gaps_5 rfl ?_
  refine j_isub (pc' := 7) dX12_gaps_6 rfl ?_
  obtain ⟨q1, h⟩ := ck_o h
  refine k_max (pc' := 10) cw_X12_72 w_541 dX12_gaps_7 rfl (by omega) (by decide) q1 rfl (by decide) (by decide) ?_
  exact j_iret dX12_gaps_10 rfl (by decide) (by decide) (rI_of h)
theorem c_X12_gaps {d : Nat} (hd : 6 ≤ d) {D D' : mD} {v : Int} (h : F_X12_gaps D = some (v, D')) : CM d 0 0 M_X12_gaps [mR 133] (SK, D, false) (rI v D') := CM.intro pn_X12 rfl rfl (Nat.le_of_ble_eq_true rfl) (fun _ => c_X12_gaps_e hd h)
theorem c_X12_writers_e {Ω : mO} {d : Nat} (hd : 1 ≤ d) {r : Int × mD} {D : mD} (h : F_X12_writers D = some r) : J Ω M_X12_writers d 0 0 (rI r.1 r.2) 0 [some (mR 133)] [] (SK, D, false) 0 0 := by
  rw [F_X12_writers] at h
  refine j_aload_n (pc' := 1) dX12_writers_0 rfl rfl ?_
  refine k_getR (pc' := 4) (sl := 1) (r := 134) kc_11 w_1478 (Or.inl rfl) (by decide) dX12_writers_1 rfl (by decide) sk_133 (by decide) rfl (by decide) ?_
  refine j_bipush (pc' := 6) dX12_writers_4 rfl rfl ?_
  refine k_iald (pc' := 7) (z := D 134 7) dX12_writers_6 rfl (by decide) sk_134 (by decide) (by decide) (by decide) rfl ?_
  exact j_iret dX12_writers_7 rfl (by decide) (by decide) (rI_of h)
theorem c_X12_writers {d : Nat} (hd : 1 ≤ d) {D D' : mD} {v : Int} (h : F_X12_writers D = some (v, D')) : CM d 0 0 M_X12_writers [mR 133] (SK, D, false) (rI v D') := CM.intro pn_X12 rfl rfl (Nat.le_of_ble_eq_true rfl) (fun _ => c_X12_writers_e hd h)
theorem c_X12_ofSign_e {Ω : mO} {d : Nat} (hd : 1 ≤ d) {r : Int × mD} {x1 x2 : Int} {D : mD} (h : F_X12_ofSign x1 x2 D = some r) : J Ω M_X12_ofSign d 0 0 (rI r.1 r.2) 0 [some (mR 133), some (mI x1), some (mI x2)] [] (SK, D, false) 0 0 := by
  rw [F_X12_ofSign] at h
  refine j_aload_n (pc' := 1) dX12_ofSign_0 rfl rfl ?_
  refine k_getR (pc' := 4) (sl := 1) (r := 134) kc_11 w_1478 (Or.inl rfl) (by decide) dX12_ofSign_1 rfl (by decide) sk_133 (by decide) rfl (by decide) ?_
  refine j_bipush (pc' := 6) dX12_ofSign_4 rfl rfl ?_
  refine j_bipush (pc' := 8) dX12_ofSign_6 rfl rfl ?_
  refine j_iload_n (pc' := 9) dX12_ofSign_8 rfl rfl ?_
  refine j_imul (pc' := 10) dX12_ofSign_9 rfl ?_
  refine j_iadd (pc' := 11) dX12_ofSign_10 rfl ?_
  refine j_iload_n (pc' := 12) dX12_ofSign_11 rfl rfl ?_
  refine j_iadd (pc' := 13) dX12_ofSign_12 rfl ?_
  obtain ⟨q1, h⟩ := ck_o h
  refine k_iald (pc' := 14) (z := D 134 ((15 + (12 * x1)) + x2)) dX12_ofSign_13 rfl (by decide) sk_134 (by decide) q1.1 q1.2 rfl ?_
  exact j_iret dX12_ofSign_14 rfl (by decide) (by decide) (rI_of h)
theorem c_X12_ofSign {d : Nat} (hd : 1 ≤ d) {x1 x2 : Int} {D D' : mD} {v : Int} (h : F_X12_ofSign x1 x2 D = some (v, D')) : CM d 0 0 M_X12_ofSign [mR 133, mI x1, mI x2] (SK, D, false) (rI v D') := CM.intro pn_X12 rfl rfl (Nat.le_of_ble_eq_true rfl) (fun _ => c_X12_ofSign_e hd h)
theorem c_X12_of_e {Ω : mO} {d : Nat} (hd : 1 ≤ d) {r : Int × mD} {x1 x2 : Int} {D : mD} (h : F_X12_of x1 x2 D = some r) : J Ω M_X12_of d 0 0 (rI r.1 r.2) 0 [some (mR 133), some (mI x1), some (mI x2)] [] (SK, D, false) 0 0 := by
  rw [F_X12_of] at h
  refine j_aload_n (pc' := 1) dX12_of_0 rfl rfl ?_
  refine k_getR (pc' := 4) (sl := 1) (r := 134) kc_11 w_1478 (Or.inl rfl) (by decide) dX12_of_1 rfl (by decide) sk_133 (by decide) rfl (by decide) ?_
  refine j_sipush (pc' := 7) dX12_of_4 rfl rfl ?_
  refine j_iconst (pc' := 8) dX12_of_7 rfl ?_
  refine j_iload_n (pc' := 9) dX12_of_8 rfl rfl ?_
  refine j_imul (pc' := 10) dX12_of_9 rfl ?_
  refine j_iadd (pc' := 11) dX12_of_10 rfl ?_
  refine j_iload_n (pc' := 12) dX12_of_11 rfl rfl ?_
  refine j_iadd (pc' := 13) dX12_of_12 rfl ?_
  obtain ⟨q1, h⟩ := ck_o h
  refine k_iald (pc' := 14) (z := D 134 ((159 + (4 * x1)) + x2)) dX12_of_13 rfl (by decide) sk_134 (by decide) q1.1 q1.2 rfl ?_
  exact j_iret dX12_of_14 rfl (by decide) (by decide) (rI_of h)
theorem c_X12_of {d : Nat} (hd : 1 ≤ d) {x1 x2 : Int} {D D' : mD} {v : Int} (h : F_X12_of x1 x2 D = some (v, D')) : CM d 0 0 M_X12_of [mR 133, mI x1, mI x2] (SK, D, false) (rI v D') := CM.intro pn_X12 rfl rfl (Nat.le_of_ble_eq_true rfl) (fun _ => c_X12_of_e hd h)
theorem c_X12_sets_e {Ω : mO} {d : Nat} (hd : 1 ≤ d) {r : Int × mD} {x1 x2 x3 : Int} {D : mD} (h : F_X12_sets x1 x2 x3 D = some r) : J Ω M_X12_sets d 0 0 (rV r.2) 0 [some (mR 133), some (mI x1), some (mI x2), some (mI x3)] [] (SK, D, false) 0 0 := by
  rw [F_X12_sets] at h
  refine j_aload_n (pc' := 1) dX12_sets_0 rfl rfl ?_
  refine k_getR (pc' := 4) (sl := 1) (r := 134) kc_11 w_1478 (Or.inl rfl) (by decide) dX12_sets_1 rfl (by decide) sk_133 (by decide) rfl (by decide) ?_
  refine j_sipush (pc' := 7) dX12_sets_4 rfl rfl ?_
  refine j_iconst (pc' := 8) dX12_sets_7 rfl ?_
  refine j_iload_n (pc' := 9) dX12_sets_8 rfl rfl ?_
  refine j_imul (pc' := 10) dX12_sets_9 rfl ?_
  refine j_iadd (pc' := 11) dX12_sets_10 rfl ?_
  refine j_iload_n (pc' := 12) dX12_sets_11 rfl rfl ?_
  refine j_iadd (pc' := 13) dX12_sets_12 rfl ?_
  refine j_iload_n (pc' := 14) dX12_sets_13 rfl rfl ?_
  obtain ⟨q1, h⟩ := ck_o h
  refine k_iast (pc' := 15) dX12_sets_14 rfl (by decide) sk_134 (by decide) q1.1 q1.2 ?_
  exact j_vret dX12_sets_15 rfl (by decide) (by decide) (rV_of h)
theorem c_X12_sets {d : Nat} (hd : 1 ≤ d) {x1 x2 x3 : Int} {D D' : mD} {v : Int} (h : F_X12_sets x1 x2 x3 D = some (v, D')) : CM d 0 0 M_X12_sets [mR 133, mI x1, mI x2, mI x3] (SK, D, false) (rV D') := CM.intro pn_X12 rfl rfl (Nat.le_of_ble_eq_true rfl) (fun _ => c_X12_sets_e hd h)
theorem c_X12_its_e {Ω : mO} {d : Nat} (hd : 2 ≤ d) {r : Int × mD} {x1 x2 : Int} {D : mD} (h : F_X12_its x1 x2 D = some r) : J Ω M_X12_its d 0 0 (rI r.1 r.2) 0 [some (mR 133), some (mI x1), some (mI x2)] [] (SK, D, false) 0 0 := by
  rw [F_X12_its] at h
  refine j_aload_n (pc' := 1) dX12_its_0 rfl rfl ?_
  refine j_aload_n (pc' := 2) dX12_its_1 rfl rfl ?_
  refine j_iload_n (pc' := 3) dX12_its_2 rfl rfl ?_
  refine j_iconst (pc' := 4) dX12_its_3 rfl ?_
  obtain ⟨v1, D1, e1, h⟩ := bI_o h
  refine k_cV (d' := 1) (pc' := 7) [mI x1, mI 0] [mR 133] (c_X12_of (d := 1) (Nat.le_refl _) e1) cw_X12_78 kc_11 w_1800 ws_83 dX12_its_4 rfl (by omega) rfl rfl (by decide) sk_133 rfl rfl (by decide) (by decide) ?_
  refine j_iload_n (pc' := 8) dX12_its_7 rfl rfl ?_
  obtain ⟨v2, D2, e2, h⟩ := bI_o h
  refine k_cV (d' := 1) (pc' := 11) [mI v1, mI x2] [] (c_X12_ofSign (d := 1) (Nat.le_refl _) e2) cw_X12_81 kc_11 w_1658 ws_57 dX12_its_8 rfl (by omega) rfl rfl (by decide) sk_133 rfl rfl (by decide) (by decide) ?_
  exact j_iret dX12_its_11 rfl (by decide) (by decide) (rI_of h)
theorem c_X12_its {d : Nat} (hd : 2 ≤ d) {x1 x2 : Int} {D D' : mD} {v : Int} (h : F_X12_its x1 x2 D = some (v, D')) : CM d 0 0 M_X12_its [mR 133, mI x1, mI x2] (SK, D, false) (rI v D') := CM.intro pn_X12 rfl rfl (Nat.le_of_ble_eq_true rfl) (fun _ => c_X12_its_e hd h)
theorem c_X12_widthOf_e {Ω : mO} {d : Nat} (hd : 6 ≤ d) {r : Int × mD} {x1 : Int} {D : mD} (h : F_X12_widthOf x1 D = some r) : J Ω M_X12_widthOf d 0 0 (rI r.1 r.2) 0 [some (mR 133), some (mI x1)] [] (SK, D, false) 0 0 := by
  rw [F_X12_widthOf] at h
  refine j_iconst (pc' := 1) dX12_widthOf_0 rfl ?_
  refine j_aload_n (pc' := 2) dX12_widthOf_1 rfl rfl ?_
  refine j_iload_n (pc' := 3) dX12_widthOf_2 rfl rfl ?_
  refine j_iconst (pc' := 4) dX12_widthOf_3 rfl ?_
  obtain ⟨v1, D1, e1, h⟩ := bI_o h
  refine k_cV (d' := 2) (pc' := 7) [mI x1, mI 1] [mI 1] (c_X12_its (d := 2) (Nat.le_refl _) e1) cw_X12_84 kc_11 w_1796 ws_82 dX12_widthOf_4 rfl (by omega) rfl rfl (by decide) sk_133 rfl rfl (by decide) (by decide) ?_
  refine j_aload_n (pc' := 8) dX12_widthOf_7 rfl rfl ?_
  refine j_iload_n (pc' := 9) dX12_widthOf_8 rfl rfl ?_
  refine j_iconst (pc' := 10) dX12_widthOf_9 rfl ?_
  obtain ⟨v2, D2, e2, h⟩ := bI_o h
  refine k_cV (d' := 1) (pc' := 13) [mI x1, mI 1] [mI v1, mI 1] (c_X12_of (d := 1) (Nat.le_refl _) e2) cw_X12_78 kc_11 w_1800 ws_83 dX12_widthOf_10 rfl (by omega) rfl rfl (by decide) sk_133 rfl rfl (by decide) (by decide) ?_
  refine j_isub (pc' := 14) dX12_widthOf_13 rfl ?_
  obtain ⟨q1, h⟩ := ck_o h
  refine k_max (pc' := 17) cw_X12_72 w_541 dX12_widthOf_14 rfl (by omega) (by decide) q1 rfl (by decide) (by decide) ?_
  exact j_iret dX12_widthOf_17 rfl (by decide) (by decide) (rI_of h)
theorem c_X12_widthOf {d : Nat} (hd : 6 ≤ d) {x1 : Int} {D D' : mD} {v : Int} (h : F_X12_widthOf x1 D = some (v, D')) : CM d 0 0 M_X12_widthOf [mR 133, mI x1] (SK, D, false) (rI v D') := CM.intro pn_X12 rfl rfl (Nat.le_of_ble_eq_true rfl) (fun _ => c_X12_widthOf_e hd h)
theorem c_X12_distance_e {Ω : mO} {d : Nat} (hd : 2 ≤ d) {r : Int × mD} {x1 : Int} {D : mD} (h : F_X12_distance x1 D = some r) : J Ω M_X12_distance d 0 0 (rI r.1 r.2) 0 [some (mR 133), some (mI x1)] [] (SK, D, false) 0 0 := by
  rw [F_X12_distance] at h
  refine j_aload_n (pc' := 1) dX12_distance_0 rfl rfl ?_
  refine j_iload_n (pc' := 2) dX12_distance_1 rfl rfl ?_
  refine j_iconst (pc' := 3) dX12_distance_2 rfl ?_
  obtain ⟨v1, D1, e1, h⟩ := bI_o h
  refine k_cV (d' := 1) (pc' := 6) [mI x1, mI 3] [] (c_X12_of (d := 1) (Nat.le_refl _) e1) cw_X12_78 kc_11 w_1800 ws_83 dX12_distance_3 rfl (by omega) rfl rfl (by decide) sk_133 rfl rfl (by decide) (by decide) ?_
  exact j_iret dX12_distance_6 rfl (by decide) (by decide) (rI_of h)
theorem c_X12_distance {d : Nat} (hd : 2 ≤ d) {x1 : Int} {D D' : mD} {v : Int} (h : F_X12_distance x1 D = some (v, D')) : CM d 0 0 M_X12_distance [mR 133, mI x1] (SK, D, false) (rI v D') := CM.intro pn_X12 rfl rfl (Nat.le_of_ble_eq_true rfl) (fun _ => c_X12_distance_e hd h)
theorem c_X12_isPainted_e {Ω : mO} {d : Nat} (hd : 2 ≤ d) {r : Int × mD} {x1 : Int} {D : mD} (h : F_X12_isPainted x1 D = some r) : J Ω M_X12_isPainted d 0 0 (rI r.1 r.2) 0 [some (mR 133), some (mI x1)] [] (SK, D, false) 0 0 := by
  rw [F_X12_isPainted] at h
  refine j_aload_n (pc' := 1) dX12_isPainted_0 rfl rfl ?_
  refine j_iload_n (pc' := 2) dX12_isPainted_1 rfl rfl ?_
  refine j_iconst (pc' := 3) dX12_isPainted_2 rfl ?_
  obtain ⟨v1, D1, e1, h⟩ := bI_o h
  refine k_cV (d' := 1) (pc' := 6) [mI x1, mI 2] [] (c_X12_of (d := 1) (Nat.le_refl _) e1) cw_X12_78 kc_11 w_1800 ws_83 dX12_isPainted_3 rfl (by omega) rfl rfl (by decide) sk_133 rfl rfl (by decide) (by decide) ?_
  obtain ⟨q1, h⟩ := ck_o h
  have hj : J Ω M_X12_isPainted d 0 0 (rI r.1 r.2) 14 [none, none] [mI (if v1 < 0 then (0 : Int) else (1 : Int))] (SK, D1, false) 0 0 := by
    obtain ⟨q2, h⟩ := ck_o h
    exact j_zret dX12_isPainted_14 rfl q2 (by decide) (by decide) (rI_of h)
  refine j_if_lt (tgt := 13) (pc' := 9) dX12_isPainted_6 rfl rfl q1 (fun b1 => ?_) (fun b1 => ?_)
  · refine j_iconst (pc' := 14) dX12_isPainted_13 rfl ?_
    have hj := hj
    try simp only [if_pos b1] at hj
    exact j_wk hj (trivial)
  · refine j_iconst (pc' := 10) dX12_isPainted_9 rfl ?_
    refine j_goto (tgt := 14) dX12_isPainted_10 rfl ?_
    have hj := hj
    try simp only [if_neg b1] at hj
    exact j_wk hj (trivial)
theorem c_X12_isPainted {d : Nat} (hd : 2 ≤ d) {x1 : Int} {D D' : mD} {v : Int} (h : F_X12_isPainted x1 D = some (v, D')) : CM d 0 0 M_X12_isPainted [mR 133, mI x1] (SK, D, false) (rI v D') := CM.intro pn_X12 rfl rfl (Nat.le_of_ble_eq_true rfl) (fun _ => c_X12_isPainted_e hd h)
theorem c_X12_noSign_e {Ω : mO} {d : Nat} (hd : 2 ≤ d) {r : Int × mD} {x1 : Int} {D : mD} (h : F_X12_noSign x1 D = some r) : J Ω M_X12_noSign d 0 0 (rI r.1 r.2) 0 [some (mR 133), some (mI x1)] [] (SK, D, false) 0 0 := by
  rw [F_X12_noSign] at h
  refine j_iload_n (pc' := 1) dX12_noSign_0 rfl rfl ?_
  refine j_iconst (pc' := 2) dX12_noSign_1 rfl ?_
  refine j_aload_n (pc' := 3) dX12_noSign_2 rfl rfl ?_
  obtain ⟨v1, D1, e1, h⟩ := bI_o h
  refine k_cV (d' := 1) (pc' := 6) [] [mI 0, mI x1] (c_X12_signs (d := 1) (Nat.le_refl _) e1) cw_X12_87 kc_11 w_1631 ws_52 dX12_noSign_3 rfl (by omega) rfl rfl (by decide) sk_133 rfl rfl (by decide) (by decide) ?_
  refine j_iconst (pc' := 7) dX12_noSign_6 rfl ?_
  refine j_isub (pc' := 8) dX12_noSign_7 rfl ?_
  obtain ⟨v2, D2, e2, h⟩ := bI_o h
  refine k_cS (d' := 1) (pc' := 11) [mI x1, mI 0, mI (v1 - 1)] [] (c_X12_in (d := 1) (Nat.le_refl _) e2) cw_X12_90 w_1768 dX12_noSign_8 rfl (by omega) rfl rfl rfl rfl (by decide) (by decide) ?_
  obtain ⟨q1, h⟩ := ck_o h
  have hj : J Ω M_X12_noSign d 0 0 (rI r.1 r.2) 19 [none, none] [mI (if v2 = 0 then (1 : Int) else (0 : Int))] (SK, D2, false) 0 0 := by
    obtain ⟨q2, h⟩ := ck_o h
    exact j_zret dX12_noSign_19 rfl q2 (by decide) (by decide) (rI_of h)
  refine j_if_ne (tgt := 18) (pc' := 14) dX12_noSign_11 rfl rfl q1 (fun b1 => ?_) (fun b1 => ?_)
  · refine j_iconst (pc' := 19) dX12_noSign_18 rfl ?_
    have hj := hj
    try simp only [if_neg b1] at hj
    exact j_wk hj (trivial)
  · refine j_iconst (pc' := 15) dX12_noSign_14 rfl ?_
    refine j_goto (tgt := 19) dX12_noSign_15 rfl ?_
    have hj := hj
    try simp only [if_pos b1] at hj
    exact j_wk hj (trivial)
theorem c_X12_noSign {d : Nat} (hd : 2 ≤ d) {x1 : Int} {D D' : mD} {v : Int} (h : F_X12_noSign x1 D = some (v, D')) : CM d 0 0 M_X12_noSign [mR 133, mI x1] (SK, D, false) (rI v D') := CM.intro pn_X12 rfl rfl (Nat.le_of_ble_eq_true rfl) (fun _ => c_X12_noSign_e hd h)
theorem c_X12_noLetter_e {Ω : mO} {d : Nat} (hd : 2 ≤ d) {r : Int × mD} {x1 : Int} {D : mD} (h : F_X12_noLetter x1 D = some r) : J Ω M_X12_noLetter d 0 0 (rI r.1 r.2) 0 [some (mR 133), some (mI x1)] [] (SK, D, false) 0 0 := by
  rw [F_X12_noLetter] at h
  refine j_iload_n (pc' := 1) dX12_noLetter_0 rfl rfl ?_
  refine j_iconst (pc' := 2) dX12_noLetter_1 rfl ?_
  refine j_aload_n (pc' := 3) dX12_noLetter_2 rfl rfl ?_
  obtain ⟨v1, D1, e1, h⟩ := bI_o h
  refine k_cV (d' := 1) (pc' := 6) [] [mI 0, mI x1] (c_X12_letters (d := 1) (Nat.le_refl _) e1) cw_X12_68 kc_11 w_1788 ws_80 dX12_noLetter_3 rfl (by omega) rfl rfl (by decide) sk_133 rfl rfl (by decide) (by decide) ?_
  refine j_iconst (pc' := 7) dX12_noLetter_6 rfl ?_
  refine j_isub (pc' := 8) dX12_noLetter_7 rfl ?_
  obtain ⟨v2, D2, e2, h⟩ := bI_o h
  refine k_cS (d' := 1) (pc' := 11) [mI x1, mI 0, mI (v1 - 1)] [] (c_X12_in (d := 1) (Nat.le_refl _) e2) cw_X12_90 w_1768 dX12_noLetter_8 rfl (by omega) rfl rfl rfl rfl (by decide) (by decide) ?_
  obtain ⟨q1, h⟩ := ck_o h
  have hj : J Ω M_X12_noLetter d 0 0 (rI r.1 r.2) 19 [none, none] [mI (if v2 = 0 then (1 : Int) else (0 : Int))] (SK, D2, false) 0 0 := by
    obtain ⟨q2, h⟩ := ck_o h
    exact j_zret dX12_noLetter_19 rfl q2 (by decide) (by decide) (rI_of h)
  refine j_if_ne (tgt := 18) (pc' := 14) dX12_noLetter_11 rfl rfl q1 (fun b1 => ?_) (fun b1 => ?_)
  · refine j_iconst (pc' := 19) dX12_noLetter_18 rfl ?_
    have hj := hj
    try simp only [if_neg b1] at hj
    exact j_wk hj (trivial)
  · refine j_iconst (pc' := 15) dX12_noLetter_14 rfl ?_
    refine j_goto (tgt := 19) dX12_noLetter_15 rfl ?_
    have hj := hj
    try simp only [if_pos b1] at hj
    exact j_wk hj (trivial)
theorem c_X12_noLetter {d : Nat} (hd : 2 ≤ d) {x1 : Int} {D D' : mD} {v : Int} (h : F_X12_noLetter x1 D = some (v, D')) : CM d 0 0 M_X12_noLetter [mR 133, mI x1] (SK, D, false) (rI v D') := CM.intro pn_X12 rfl rfl (Nat.le_of_ble_eq_true rfl) (fun _ => c_X12_noLetter_e hd h)
theorem c_X12_noGap_e {Ω : mO} {d : Nat} (hd : 7 ≤ d) {r : Int × mD} {x1 : Int} {D : mD} (h : F_X12_noGap x1 D = some r) : J Ω M_X12_noGap d 0 0 (rI r.1 r.2) 0 [some (mR 133), some (mI x1)] [] (SK, D, false) 0 0 := by
  rw [F_X12_noGap] at h
  refine j_iload_n (pc' := 1) dX12_noGap_0 rfl rfl ?_
  refine j_iconst (pc' := 2) dX12_noGap_1 rfl ?_
  refine j_aload_n (pc' := 3) dX12_noGap_2 rfl rfl ?_
  obtain ⟨v1, D1, e1, h⟩ := bI_o h
  refine k_cV (d' := 6) (pc' := 6) [] [mI 0, mI x1] (c_X12_gaps (d := 6) (Nat.le_refl _) e1) cw_X12_94 kc_11 w_1821 ws_87 dX12_noGap_3 rfl (by omega) rfl rfl (by decide) sk_133 rfl rfl (by decide) (by decide) ?_
  refine j_iconst (pc' := 7) dX12_noGap_6 rfl ?_
  refine j_isub (pc' := 8) dX12_noGap_7 rfl ?_
  obtain ⟨v2, D2, e2, h⟩ := bI_o h
  refine k_cS (d' := 1) (pc' := 11) [mI x1, mI 0, mI (v1 - 1)] [] (c_X12_in (d := 1) (Nat.le_refl _) e2) cw_X12_90 w_1768 dX12_noGap_8 rfl (by omega) rfl rfl rfl rfl (by decide) (by decide) ?_
  obtain ⟨q1, h⟩ := ck_o h
  have hj : J Ω M_X12_noGap d 0 0 (rI r.1 r.2) 19 [none, none] [mI (if v2 = 0 then (1 : Int) else (0 : Int))] (SK, D2, false) 0 0 := by
    obtain ⟨q2, h⟩ := ck_o h
    exact j_zret dX12_noGap_19 rfl q2 (by decide) (by decide) (rI_of h)
  refine j_if_ne (tgt := 18) (pc' := 14) dX12_noGap_11 rfl rfl q1 (fun b1 => ?_) (fun b1 => ?_)
  · refine j_iconst (pc' := 19) dX12_noGap_18 rfl ?_
    have hj := hj
    try simp only [if_neg b1] at hj
    exact j_wk hj (trivial)
  · refine j_iconst (pc' := 15) dX12_noGap_14 rfl ?_
    refine j_goto (tgt := 19) dX12_noGap_15 rfl ?_
    have hj := hj
    try simp only [if_pos b1] at hj
    exact j_wk hj (trivial)
theorem c_X12_noGap {d : Nat} (hd : 7 ≤ d) {x1 : Int} {D D' : mD} {v : Int} (h : F_X12_noGap x1 D = some (v, D')) : CM d 0 0 M_X12_noGap [mR 133, mI x1] (SK, D, false) (rI v D') := CM.intro pn_X12 rfl rfl (Nat.le_of_ble_eq_true rfl) (fun _ => c_X12_noGap_e hd h)
theorem c_X12_noWriter_e {Ω : mO} {d : Nat} (hd : 2 ≤ d) {r : Int × mD} {x1 : Int} {D : mD} (h : F_X12_noWriter x1 D = some r) : J Ω M_X12_noWriter d 0 0 (rI r.1 r.2) 0 [some (mR 133), some (mI x1)] [] (SK, D, false) 0 0 := by
  rw [F_X12_noWriter] at h
  refine j_iload_n (pc' := 1) dX12_noWriter_0 rfl rfl ?_
  refine j_iconst (pc' := 2) dX12_noWriter_1 rfl ?_
  refine j_aload_n (pc' := 3) dX12_noWriter_2 rfl rfl ?_
  obtain ⟨v1, D1, e1, h⟩ := bI_o h
  refine k_cV (d' := 1) (pc' := 6) [] [mI 0, mI x1] (c_X12_writers (d := 1) (Nat.le_refl _) e1) cw_X12_97 kc_11 w_1692 ws_64 dX12_noWriter_3 rfl (by omega) rfl rfl (by decide) sk_133 rfl rfl (by decide) (by decide) ?_
  refine j_iconst (pc' := 7) dX12_noWriter_6 rfl ?_
  refine j_isub (pc' := 8) dX12_noWriter_7 rfl ?_
  obtain ⟨v2, D2, e2, h⟩ := bI_o h
  refine k_cS (d' := 1) (pc' := 11) [mI x1, mI 0, mI (v1 - 1)] [] (c_X12_in (d := 1) (Nat.le_refl _) e2) cw_X12_90 w_1768 dX12_noWriter_8 rfl (by omega) rfl rfl rfl rfl (by decide) (by decide) ?_
  obtain ⟨q1, h⟩ := ck_o h
  have hj : J Ω M_X12_noWriter d 0 0 (rI r.1 r.2) 19 [none, none] [mI (if v2 = 0 then (1 : Int) else (0 : Int))] (SK, D2, false) 0 0 := by
    obtain ⟨q2, h⟩ := ck_o h
    exact j_zret dX12_noWriter_19 rfl q2 (by decide) (by decide) (rI_of h)
  refine j_if_ne (tgt := 18) (pc' := 14) dX12_noWriter_11 rfl rfl q1 (fun b1 => ?_) (fun b1 => ?_)
  · refine j_iconst (pc' := 19) dX12_noWriter_18 rfl ?_
    have hj := hj
    try simp only [if_neg b1] at hj
    exact j_wk hj (trivial)
  · refine j_iconst (pc' := 15) dX12_noWriter_14 rfl ?_
    refine j_goto (tgt := 19) dX12_noWriter_15 rfl ?_
    have hj := hj
    try simp only [if_pos b1] at hj
    exact j_wk hj (trivial)
theorem c_X12_noWriter {d : Nat} (hd : 2 ≤ d) {x1 : Int} {D D' : mD} {v : Int} (h : F_X12_noWriter x1 D = some (v, D')) : CM d 0 0 M_X12_noWriter [mR 133, mI x1] (SK, D, false) (rI v D') := CM.intro pn_X12 rfl rfl (Nat.le_of_ble_eq_true rfl) (fun _ => c_X12_noWriter_e hd h)
theorem c_X12_noWhite_e {Ω : mO} {d : Nat} (hd : 2 ≤ d) {r : Int × mD} {x0 : Int} {D : mD} (h : F_X12_noWhite x0 D = some r) : J Ω M_X12_noWhite d 0 0 (rI r.1 r.2) 0 [some (mI x0)] [] (SK, D, false) 0 0 := by
  rw [F_X12_noWhite] at h
  refine j_iload_n (pc' := 1) dX12_noWhite_0 rfl rfl ?_
  refine j_iconst (pc' := 2) dX12_noWhite_1 rfl ?_
  refine j_sipush (pc' := 5) dX12_noWhite_2 rfl rfl ?_
  obtain ⟨v1, D1, e1, h⟩ := bI_o h
  refine k_cS (d' := 1) (pc' := 8) [mI x0, mI 0, mI 2000] [] (c_X12_in (d := 1) (Nat.le_refl _) e1) cw_X12_90 w_1768 dX12_noWhite_5 rfl (by omega) rfl rfl rfl rfl (by decide) (by decide) ?_
  obtain ⟨q1, h⟩ := ck_o h
  have hj : J Ω M_X12_noWhite d 0 0 (rI r.1 r.2) 16 [none] [mI (if v1 = 0 then (1 : Int) else (0 : Int))] (SK, D1, false) 0 0 := by
    obtain ⟨q2, h⟩ := ck_o h
    exact j_zret dX12_noWhite_16 rfl q2 (by decide) (by decide) (rI_of h)
  refine j_if_ne (tgt := 15) (pc' := 11) dX12_noWhite_8 rfl rfl q1 (fun b1 => ?_) (fun b1 => ?_)
  · refine j_iconst (pc' := 16) dX12_noWhite_15 rfl ?_
    have hj := hj
    try simp only [if_neg b1] at hj
    exact j_wk hj (trivial)
  · refine j_iconst (pc' := 12) dX12_noWhite_11 rfl ?_
    refine j_goto (tgt := 16) dX12_noWhite_12 rfl ?_
    have hj := hj
    try simp only [if_pos b1] at hj
    exact j_wk hj (trivial)
theorem c_X12_noWhite {d : Nat} (hd : 2 ≤ d) {x0 : Int} {D D' : mD} {v : Int} (h : F_X12_noWhite x0 D = some (v, D')) : CM d 0 0 M_X12_noWhite [mI x0] (SK, D, false) (rI v D') := CM.intro pn_X12 rfl rfl (Nat.le_of_ble_eq_true rfl) (fun _ => c_X12_noWhite_e hd h)
theorem c_X12_draw_e {Ω : mO} {d : Nat} (hd : 1 ≤ d) {r : Int × mD} {x1 : Int} {D : mD} (h : F_X12_draw x1 D = some r) : J Ω M_X12_draw d 0 0 (rI r.1 r.2) 0 [some (mR 133), some (mI x1)] [] (SK, D, false) 0 0 := by
  rw [F_X12_draw] at h
  refine j_aload_n (pc' := 1) dX12_draw_0 rfl rfl ?_
  refine k_getR (pc' := 4) (sl := 1) (r := 134) kc_11 w_1478 (Or.inl rfl) (by decide) dX12_draw_1 rfl (by decide) sk_133 (by decide) rfl (by decide) ?_
  refine j_bipush (pc' := 6) dX12_draw_4 rfl rfl ?_
  refine j_ldcI (pc' := 8) (n := 1103515245) w_1971 dX12_draw_6 rfl ?_
  refine j_aload_n (pc' := 9) dX12_draw_8 rfl rfl ?_
  refine k_getR (pc' := 12) (sl := 1) (r := 134) kc_11 w_1478 (Or.inl rfl) (by decide) dX12_draw_9 rfl (by decide) sk_133 (by decide) rfl (by decide) ?_
  refine j_bipush (pc' := 14) dX12_draw_12 rfl rfl ?_
  refine k_iald (pc' := 15) (z := D 134 14) dX12_draw_14 rfl (by decide) sk_134 (by decide) (by decide) (by decide) rfl ?_
  refine j_imul (pc' := 16) dX12_draw_15 rfl ?_
  refine j_sipush (pc' := 19) dX12_draw_16 rfl rfl ?_
  refine j_iadd (pc' := 20) dX12_draw_19 rfl ?_
  refine k_wr ?_
  refine k_iast (pc' := 21) dX12_draw_20 rfl (by decide) sk_134 (by decide) (by decide) (by decide) ?_
  refine j_aload_n (pc' := 22) dX12_draw_21 rfl rfl ?_
  refine k_getR (pc' := 25) (sl := 1) (r := 134) kc_11 w_1478 (Or.inl rfl) (by decide) dX12_draw_22 rfl (by decide) sk_133 (by decide) rfl (by decide) ?_
  refine j_bipush (pc' := 27) dX12_draw_25 rfl rfl ?_
  refine k_iald (pc' := 28) (z := (pD D 134 14 (wr ((1103515245 * (D 134 14)) + 12345))) 134 14) dX12_draw_27 rfl (by decide) sk_134 (by decide) (by decide) (by decide) rfl ?_
  refine j_bipush (pc' := 30) dX12_draw_28 rfl rfl ?_
  refine j_ishr (pc' := 31) dX12_draw_30 rfl ?_
  refine j_sipush (pc' := 34) dX12_draw_31 rfl rfl ?_
  refine j_iand (pc' := 35) dX12_draw_34 rfl ?_
  refine j_iload_n (pc' := 36) dX12_draw_35 rfl rfl ?_
  obtain ⟨q1, h⟩ := ck_o h
  obtain ⟨q2, h⟩ := ck_o h
  obtain ⟨q3, h⟩ := ck_o h
  obtain ⟨q4, h⟩ := ck_o h
  refine j_irem (pc' := 37) dX12_draw_36 rfl q1 q2 q3 q4 ?_
  exact j_iret dX12_draw_37 rfl (by decide) (by decide) (rI_of h)
theorem c_X12_draw {d : Nat} (hd : 1 ≤ d) {x1 : Int} {D D' : mD} {v : Int} (h : F_X12_draw x1 D = some (v, D')) : CM d 0 0 M_X12_draw [mR 133, mI x1] (SK, D, false) (rI v D') := CM.intro pn_X12 rfl rfl (Nat.le_of_ble_eq_true rfl) (fun _ => c_X12_draw_e hd h)
