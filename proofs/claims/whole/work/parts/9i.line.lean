/-! LINES of the shop: a sign's line, and every line -/
section PW8
variable {n : Int} {B W0 f f0 g : Int → Int} {L p q b s : Int} {C D E R : mD}
theorem k_sign (hB : CB B L) (rt : RT B L R) (c : CT B L p C) (p0 : 0 ≤ p) (p1 : p ≤ L) (dr : DR n W0 C (R 134)) (hw : isW B L (sTx 15) p = true) : Lock B L n W0 C R (F_X7_readsSign C) (F_X12_readSign (stR R (wd B L p) (sk B L p) (R 134))) := by
  have hr := dr.1.ra
  have a1 := dr.2.1.1
  have iw := isW_yes (tx_ok 15 (by decide) (by decide)).1 hw
  have w2 := wd_r (B := B) p1
  have sf := st_f R (wd B L p) (sk B L p) (R 134)
  obtain ⟨s, es⟩ : ∃ s, s = R 134 0 := ⟨_, rfl⟩
  rw [F_X7_readsSign, a1, ← es, ck_p (by omega), F_X12_readSign, F_X12_signs, bI_q, sf.2.2.1, ← es, ck_p (by omega)]
  by_cases y : s = 12
  · rw [if_neg (by omega), if_pos y]
    exact ⟨0, C, _, _, _, rfl, rfl, FrC.rf, fun i hi => rfl, Or.inl ⟨rfl, c.skp⟩⟩
  · obtain ⟨E1, s1, s2, s3⟩ := c_stepT hB c p0 p1
    change CT B L (nx B L p) E1 at s2
    rw [iw.2.1] at s2
    obtain ⟨P, eP⟩ : ∃ P, P = wd B L p := ⟨_, rfl⟩
    rw [← eP] at s2 w2 ⊢
    have sv := sortV_r B L P
    have w3 := wd_r (B := B) (p := P) (L := L) (by omega)
    rw [if_pos (by omega), s1, bI_q, c_sort hB s2 (by omega) (by omega), bI_q, ck_p (by omega), if_neg y, st_letters hB rt (by omega) (by omega), bI_q, r_sort hB rt (by omega) (by omega), bI_q, ck_p (by omega), pD_eq, ck_p (by omega), st_set]
    obtain ⟨V, eV⟩ : ∃ V, V = sortV B L P := ⟨_, rfl⟩
    rw [← eV] at sv ⊢
    by_cases yv : V = -1
    · rw [if_pos yv, if_neg (show ¬ 0 ≤ V by omega)]
      exact ⟨0, _, _, _, _, rfl, rfl, s3.c, fun i hi => sI_ne (by omega), Or.inl ⟨rfl, s2.skp⟩⟩
    · have nxP := sv.2.2 (by omega)
      obtain ⟨E2, t1, t2, t3⟩ := c_stepT hB s2 (by omega) (by omega)
      change CT B L (nx B L P) E2 at t2
      rw [nxP] at t2
      obtain ⟨E3, u1, u2, u3, u4⟩ := c_takesWord hB t2 (by omega) (by omega) (i := 20) (by decide)
      obtain ⟨Q, eQ⟩ : ∃ Q, Q = wd B L P := ⟨_, rfl⟩
      rw [← eQ] at t2 u1 u3 u4 w3 ⊢
      have w4 := wd_r (B := B) (p := Q) (L := L) (by omega)
      have fr3 : FrC C E3 := s3.c.tr (t3.c.tr u2.c)
      rw [if_neg yv, t1, bI_q, u1, bI_q, if_pos (show 0 ≤ V by omega), st_after hB rt (by omega) (by omega) (by decide) (by decide) (by decide), tx_eq.1.2.2.2.2.2.1]
      cases hw2 : isW B L (sTx 20) Q with
      | false =>
        rw [bi_f, ck_p (by decide), if_pos rfl, if_neg Bool.false_ne_true, bI_q, ck_p (by omega), pD_eq, ck_p (by decide), if_pos (by decide), st_set]
        refine ⟨0, _, _, _, _, rfl, rfl, fr3, fun i hi => by rw [sI_ne (by omega), sI_ne (by omega)], Or.inl ⟨rfl, ?_⟩⟩
        rw [u3 hw2]; exact t2.skp
      | true =>
        have iw2 := isW_yes (tx_ok 20 (by decide) (by decide)).1 hw2
        have c3 := u4 hw2
        rw [iw2.2.1] at c3
        obtain ⟨T, eT⟩ : ∃ T, T = wd B L Q := ⟨_, rfl⟩
        rw [← eT] at c3 w4 ⊢
        obtain ⟨E4, x1, x2, x3, x4⟩ := c_readNumber hB c3 (by omega) (by omega) (lo := 2) (hi := 12) (by omega) (by omega)
        have nr := numV_r B L 2 12 T
        have nd4 := nd_r (B := B) (p := T) (L := L) (by omega)
        rw [bi_t, ck_p (by decide), if_neg (by decide), x1, bI_q, ck_p (by omega), if_pos rfl, bI_q, ck_p (by omega), pD_eq, ck_p (by omega), st_set]
        obtain ⟨W, eW⟩ : ∃ W, W = numV B L 2 12 T := ⟨_, rfl⟩
        rw [← eW] at nr x3 x4 ⊢
        by_cases yw : W = -1
        · rw [if_pos yw, if_pos (show W < 0 by omega), ck_p (by omega)]
          refine ⟨0, _, _, _, _, rfl, rfl, fr3.tr x2.c, fun i hi => by rw [sI_ne (by omega), sI_ne (by omega)], Or.inl ⟨rfl, ?_⟩⟩
          rw [x3 yw]; exact c3.skp
        · have nx4 := nd_yes (B := B) (L := L) (p := T) (by omega)
          have c4 := x4 yw
          rw [nx4] at c4
          obtain ⟨f1, ef1⟩ : ∃ f1, f1 = sI (sI (R 134) (15 + 12 * s + 0) V) (15 + 12 * s + 1) W := ⟨_, rfl⟩
          have f1e : ∀ i : Int, i ≠ 15 + 12 * s + 0 → i ≠ 15 + 12 * s + 1 → f1 i = R 134 i := fun i h1 h2 => by rw [ef1, sI_ne h2, sI_ne h1]
          have f1V : wS f1 s 0 = V := by unfold wS; rw [ef1, sI_ne (by omega), sI_eq]
          have f1W : wS f1 s 1 = W := by unfold wS; rw [ef1, sI_eq]
          obtain ⟨v, E', q', b', g, k1, k2, k3, k4, k5, k6⟩ := k_sides (R := R) (f := f1) (E := pD (pD E4 95 s V) 96 s W) hB rt (p := nd B L T) (s := s) (W := W) (by omega) nd4.2.2 (by omega) (by omega) (by omega) ((c4.put (by omega)).put (by omega)) (pD_eq _ _ _ _) (by rw [f1e 0 (by omega) (by omega)]; omega) f1W (sk B L T)
          rw [if_neg yw, if_neg (show ¬ W < 0 by omega), ck_p (by omega), k1, bI_q, ← ef1, k2]
          have gf : ∀ i : Int, i < 0 ∨ 475 ≤ i → g i = R 134 i := fun i hi => by rw [k5 i (by omega), f1e i (by omega) (by omega)]
          have frE : FrC C E' := by
            refine fr3.tr (x2.c.tr ⟨fun a h1 h2 => by rw [k3 a h1 (by omega) (by omega), pD_ne (by omega), pD_ne (by omega)], fun i _ => by rw [k3 93 (by decide) (by decide) (by decide), pD_ne (by decide), pD_ne (by decide)]⟩)
          rcases k6 with ⟨m1, m2⟩ | ⟨m1, m2, m3, m4, m5⟩
          · rw [m1, ck_p (by decide), if_pos rfl, if_neg (by decide)]
            exact ⟨0, E', _, _, _, rfl, rfl, frE, gf, Or.inl ⟨rfl, m2⟩⟩
          · have cE : ∀ a : Nat, a ≠ 1 → E4 a = C a := fun a h1 => by rw [x2 a h1, u2 a h1, t3 a h1, s3 a h1]
            have e94 : E' 94 0 = s := by rw [k3 94 (by decide) (by decide) (by decide), pD_ne (by decide), pD_ne (by decide), cE 94 (by decide), a1, es]
            rw [m1, ck_p (by decide), if_neg (by decide), if_pos rfl, e94]
            have gS : ∀ k, 0 ≤ k → k < 12 → wS (sI g 0 (s + 1)) s k = wS g s k := fun k h1 h2 => by unfold wS; rw [sI_ne (by omega)]
            have g0 : wS g s 0 = V := by rw [← f1V]; unfold wS; exact k5 _ (by omega)
            have g1 : wS g s 1 = W := by rw [← f1W]; unfold wS; exact k5 _ (by omega)
            refine ⟨1, _, _, _, _, rfl, rfl, frE.tr (FrC.put (by omega)), fun i hi => by rw [sI_ne (by omega)]; exact gf i hi, Or.inr ⟨rfl, m2, m3, m4.put (by omega), ?_⟩⟩
            refine dr.sgn (by omega) (fun i h1 h2 => by rw [sI_ne h1, k5 i (by omega), f1e i (by omega) (by omega)]) (by rw [sI_eq, es]) ?_ (by rw [pD_eq, es]) (fun i hi => by rw [pD_nj hi, k3 94 (by decide) (by decide) (by decide), pD_ne (by decide), pD_ne (by decide), cE 94 (by decide)]) (fun a ha => by rw [pD_ne (by omega), k3 a (by omega) (by omega) (by omega), pD_ne (by omega), pD_ne (by omega), cE a (by omega)]) (fun i hi => ?_) (fun i hi => ?_) ?_ (fun r r0 r1 => ?_)
            · rw [← es]
              unfold SgOk
              rw [gS 0 (by omega) (by omega), gS 1 (by omega) (by omega), g0, g1]
              refine ⟨by omega, by omega, by omega, by omega, fun r r0 r1 => ?_⟩
              rw [gS (2 + r) (by omega) (by omega), gS (7 + r) (by omega) (by omega)]
              have := m5 r r0 r1
              omega
            · rw [pD_ne (by decide), pD_ne (by decide), k3 95 (by decide) (by decide) (by decide), k3 96 (by decide) (by decide) (by decide), pD_ne (by decide), pD_nj (by omega), pD_nj (by omega), pD_ne (by decide), cE 95 (by decide), cE 96 (by decide)]
              exact ⟨rfl, rfl⟩
            · have := k4 i (by omega)
              rw [pD_ne (by decide), pD_ne (by decide), this.1, this.2, pD_ne (by decide), pD_ne (by decide), pD_ne (by decide), pD_ne (by decide), cE 97 (by decide), cE 98 (by decide)]
              exact ⟨rfl, rfl⟩
            · rw [← es, gS 0 (by omega) (by omega), gS 1 (by omega) (by omega), pD_ne (by decide), pD_ne (by decide), k3 95 (by decide) (by decide) (by decide), k3 96 (by decide) (by decide) (by decide), pD_ne (by decide), pD_eq, pD_eq, g0, g1]
              exact ⟨rfl, rfl⟩
            · rw [← es, gS (2 + r) (by omega) (by omega), gS (7 + r) (by omega) (by omega), pD_ne (by decide), pD_ne (by decide)]
              have := m5 r r0 r1
              exact ⟨this.1, this.2.1⟩
end PW8
