/-! LINES of the shop: lookers, writers, words, signs -/
section PW3
variable {n : Int} {B W0 f g : Int → Int} {L p q b : Int} {C D E R : mD}
theorem Wi.wl (H : Wi n f) (e : ∀ i : Int, i ≠ 7 → i ≠ 8 → ¬ (215 ≤ i ∧ i < 235) → g i = f i) (h7 : 0 ≤ g 7 ∧ g 7 ≤ 6) (h8 : 0 ≤ g 8 ∧ g 8 ≤ 8)
    (hw : ∀ j, 0 ≤ j → j < g 7 → 0 ≤ g (215 + 2 * j) ∧ g (215 + 2 * j) ≤ 999 ∧ 0 ≤ g (215 + 2 * j + 1) ∧ g (215 + 2 * j + 1) ≤ 100) (hk : ∀ j, 0 ≤ j → j < g 8 → 0 ≤ g (227 + j) ∧ g (227 + j) ≤ 200) : Wi n g := by
  have hr := H.ra
  have eL : ∀ l k, 0 ≤ l → l < 14 → 0 ≤ k → k < 4 → wL g l k = wL f l k := fun l k h1 h2 h3 h4 => e _ (by omega) (by omega) (by omega)
  have eS : ∀ s k, 0 ≤ s → s < 12 → 0 ≤ k → k < 12 → wS g s k = wS f s k := fun s k h1 h2 h3 h4 => e _ (by omega) (by omega) (by omega)
  have e0 := e 0 (by omega) (by omega) (by omega)
  have e1 := e 1 (by omega) (by omega) (by omega)
  have e12 := e 12 (by omega) (by omega) (by omega)
  have e13 := e 13 (by omega) (by omega) (by omega)
  refine ⟨?_, fun s h0 h1 => ?_, fun l h0 h1 => ?_, hw, hk, fun j' h0 h1 => ?_, fun h0 => ?_, fun h10 => ?_⟩
  · have e2 := e 2 (by omega) (by omega) (by omega)
    have e3 := e 3 (by omega) (by omega) (by omega)
    have e4 := e 4 (by omega) (by omega) (by omega)
    have e5 := e 5 (by omega) (by omega) (by omega)
    have e6 := e 6 (by omega) (by omega) (by omega)
    have e9 := e 9 (by omega) (by omega) (by omega)
    have e10 := e 10 (by omega) (by omega) (by omega)
    have e11 := e 11 (by omega) (by omega) (by omega)
    have e14 := e 14 (by omega) (by omega) (by omega)
    unfold Wr
    omega
  · have hs := H.sg h0 (by omega)
    unfold SgOk at hs ⊢
    rw [eS s 0 h0 (by omega) (by omega) (by omega), eS s 1 h0 (by omega) (by omega) (by omega)]
    refine ⟨hs.1, hs.2.1, hs.2.2.1, hs.2.2.2.1, fun r r0 r1 => ?_⟩
    rw [eS s (2 + r) h0 (by omega) (by omega) (by omega), eS s (7 + r) h0 (by omega) (by omega) (by omega)]
    exact hs.2.2.2.2 r r0 r1
  · have a := H.lta h0 (by omega)
    unfold LtOk
    rw [eL l 0 h0 (by omega) (by omega) (by omega), eL l 1 h0 (by omega) (by omega) (by omega), eL l 2 h0 (by omega) (by omega) (by omega), eL l 3 h0 (by omega) (by omega) (by omega), eS (wL f l 0) 1 (by omega) (by omega) (by omega) (by omega), e0]
    exact a
  · rw [e (235 + 4 * j') (by omega) (by omega) (by omega), e (235 + 4 * j' + 1) (by omega) (by omega) (by omega), e (235 + 4 * j' + 2) (by omega) (by omega) (by omega), e (235 + 4 * j' + 3) (by omega) (by omega) (by omega)]; exact H.lg h0 (by omega)
  · rw [e12] at h0 ⊢
    rw [e1, eL (f 12) 2 h0 (by omega) (by omega) (by omega)]
    exact H.wet h0
  · rw [e 10 (by omega) (by omega) (by omega)] at h10
    exact LawOk_same (fun i hi => e i (by omega) (by omega) (by omega)) (H.law h10)
theorem DR.wl (h : DR n W0 C f) (e : ∀ i : Int, i ≠ 7 → i ≠ 8 → ¬ (215 ≤ i ∧ i < 235) → g i = f i) (h7 : 0 ≤ g 7 ∧ g 7 ≤ 6) (h8 : 0 ≤ g 8 ∧ g 8 ≤ 8)
    (hw : ∀ j, 0 ≤ j → j < g 7 → 0 ≤ g (215 + 2 * j) ∧ g (215 + 2 * j) ≤ 999 ∧ 0 ≤ g (215 + 2 * j + 1) ∧ g (215 + 2 * j + 1) ≤ 100) (hk : ∀ j, 0 ≤ j → j < g 8 → 0 ≤ g (227 + j) ∧ g (227 + j) ≤ 200)
    (c1 : ∀ a : Nat, (a = 93 ∨ (95 ≤ a ∧ a ≤ 99)) → E a = C a) (c2 : ∀ i : Int, i ≠ 11 → i ≠ 14 → E 94 i = C 94 i) (c3 : E 94 11 = g 7) (c4 : E 94 14 = g 8)
    (c5 : ∀ j, 0 ≤ j → j < g 7 → E 100 j = g (215 + 2 * j) ∧ E 101 j = g (215 + 2 * j + 1)) (c6 : ∀ j, 0 ≤ j → j < g 8 → E 102 j = g (227 + j)) : DR n W0 E g := by
  obtain ⟨H, ⟨a1, a2, a3, a4, a5, a6, a7, a8, a9, b1, b2, b3, b4⟩, h3, h4⟩ := h
  have hr := H.ra
  have eL : ∀ l k, 0 ≤ l → l < 14 → 0 ≤ k → k < 4 → wL g l k = wL f l k := fun l k h1 h2 h3 h4 => e _ (by omega) (by omega) (by omega)
  have eS : ∀ s k, 0 ≤ s → s < 12 → 0 ≤ k → k < 12 → wS g s k = wS f s k := fun s k h1 h2 h3 h4 => e _ (by omega) (by omega) (by omega)
  have e1 := e 1 (by omega) (by omega) (by omega)
  refine ⟨H.wl e h7 h8 hw hk, ⟨?_, ?_, ?_, ?_, ?_, ?_, c3, c4, ?_, fun s h0 h1 => ?_, fun l h0 h1 => ?_, c5, c6⟩, fun i hi => by rw [e i (by omega) (by omega) (by omega)]; exact h3 i hi, ?_⟩
  · rw [c2 0 (by omega) (by omega), e 0 (by omega) (by omega) (by omega)]; exact a1
  · rw [c2 5 (by omega) (by omega), e1]; exact a2
  · rw [c2 7 (by omega) (by omega), e 2 (by omega) (by omega) (by omega)]; exact a3
  · rw [c2 8 (by omega) (by omega), e 3 (by omega) (by omega) (by omega)]; exact a4
  · rw [c2 9 (by omega) (by omega), e 4 (by omega) (by omega) (by omega)]; exact a5
  · rw [c2 10 (by omega) (by omega), e 6 (by omega) (by omega) (by omega)]; exact a6
  · rw [c2 16 (by omega) (by omega), e 9 (by omega) (by omega) (by omega)]; exact a9
  · rw [e 0 (by omega) (by omega) (by omega)] at h1
    rw [eS s 0 h0 (by omega) (by omega) (by omega), eS s 1 h0 (by omega) (by omega) (by omega), c1 95 (by omega), c1 96 (by omega), c1 97 (by omega), c1 98 (by omega)]
    refine ⟨(b1 s h0 h1).1, (b1 s h0 h1).2.1, fun r r0 r1 => ?_⟩
    rw [eS s (2 + r) h0 (by omega) (by omega) (by omega), eS s (7 + r) h0 (by omega) (by omega) (by omega)]
    exact (b1 s h0 h1).2.2 r r0 r1
  · rw [e1] at h1
    rw [eL l 0 h0 (by omega) (by omega) (by omega), c1 99 (by omega)]; exact b2 l h0 h1
  · rw [c1 93 (by omega)]
    rcases h4 with ⟨a, c⟩ | ⟨a, c1, c2, c3⟩
    · exact Or.inl ⟨a, fun i hi => by rw [e i (by omega) (by omega) (by omega)]; exact c i hi⟩
    · refine Or.inr ⟨a, by rw [e 12 (by omega) (by omega) (by omega)]; exact c1, by rw [e1]; exact c2, fun l l0 l1 => ?_⟩
      rw [e1] at l1
      rw [eL l 1 l0 (by omega) (by omega) (by omega), eL l 2 l0 (by omega) (by omega) (by omega), eL l 3 l0 (by omega) (by omega) (by omega)]
      exact c3 l l0 l1
theorem k_looker (hB : CB B L) (rt : RT B L R) (c : CT B L p C) (p0 : 0 ≤ p) (p1 : p ≤ L) (dr : DR n W0 C (R 134)) (hw : isW B L (sTx 26) p = true) : Lock B L n W0 C R (F_X7_readsLooker C) (F_X12_readLooker (stR R (wd B L p) (sk B L p) (R 134))) := by
  have hr := dr.1.ra
  obtain ⟨a1, a2, a3, a4, a5, a6, a7, a8, a9, b1, b2, b3, b4⟩ := dr.2.1
  have iw := isW_yes (tx_ok 26 (by decide) (by decide)).1 hw
  have w2 := wd_r (B := B) p1
  have sf := st_f R (wd B L p) (sk B L p) (R 134)
  rw [F_X7_readsLooker, a8, ck_p (by omega), F_X12_readLooker, sf.2.2.1, ck_p (by omega)]
  by_cases y : R 134 8 = 8
  · rw [if_neg (by omega), if_pos y]
    exact ⟨0, C, _, _, _, rfl, rfl, FrC.rf, fun i hi => rfl, Or.inl ⟨rfl, c.skp⟩⟩
  · obtain ⟨E1, s1, s2, s3⟩ := c_stepT hB c p0 p1
    change CT B L (nx B L p) E1 at s2
    rw [iw.2.1] at s2
    obtain ⟨E, e1, e2, e3, e4⟩ := c_readNumber hB s2 (by omega) (by omega) (lo := 0) (hi := 200) (by omega) (by omega)
    have nr := numV_r B L 0 200 (wd B L p)
    have nr2 := nd_r (B := B) (p := wd B L p) (L := L) (by omega)
    have et : ∀ v : Int, (pD (pD E 102 (R 134 8) v) 94 14 (((pD E 102 (R 134 8) v) 94 14) + 1)) 102 (R 134 8) = v := fun v => by rw [pD_ne (by decide), pD_eq]
    have e14 : ∀ v : Int, (pD E 102 (R 134 8) v) 94 14 = R 134 8 := fun v => by rw [pD_ne (by decide), e2 94 (by decide), s3 94 (by decide), a8]
    rw [if_pos (by omega), s1, bI_q, e1, bI_q, ck_p (by omega), et, ck_p (by omega), e14, if_neg y, st_number hB rt (by omega) (by omega) (by decide) (by decide), bI_q]
    by_cases z : numV B L 0 200 (wd B L p) = -1
    · rw [if_pos z, ck_p (Or.inl rfl), ck_p (by omega), if_neg (by omega)]
      refine ⟨0, _, _, _, _, rfl, rfl, s3.c.tr (e2.c.tr ((FrC.put (by omega)).tr (FrC.put (by omega)))), fun i hi => rfl, Or.inl ⟨rfl, ?_⟩⟩
      rw [pD_ne (by decide), pD_ne (by decide), e3 z]
      exact s2.skp
    · have sf2 := st_f R (nd B L (wd B L p)) (sk B L (wd B L p)) (R 134)
      have nx2 := nd_yes (B := B) (L := L) (p := wd B L p) (by omega)
      rw [if_neg z, ck_p (Or.inr rfl), ck_p (by omega), if_pos (by omega), sf2.2.2.1, ck_p (by omega), st_set, (st_f R _ _ _).2.2.1, sI_ne (i := 227 + R 134 8) (j := 8) (by omega), st_set]
      refine ⟨1, _, _, _, _, rfl, rfl, s3.c.tr (e2.c.tr ((FrC.put (by omega)).tr (FrC.put (by omega)))), fun i hi => by rw [sI_ne (by omega), sI_ne (by omega)], Or.inr ⟨rfl, by omega, by omega, ?_, ?_⟩⟩
      · rw [← nx2]; exact ((e4 z).put (by omega)).put (by omega)
      · have cE : ∀ a : Nat, a ≠ 1 → E a = C a := fun a ha => (e2 a ha).trans (s3 a ha)
        refine dr.wl (fun i h7 h8 h9 => by rw [sI_ne h8, sI_ne (by omega)]) (by rw [sI_ne (by omega), sI_ne (by omega)]; omega) (by rw [sI_eq]; omega) (fun j j0 j1 => ?_) (fun j j0 j1 => ?_) (fun a ha => by rw [pD_ne (by omega), pD_ne (by omega)]; exact cE a (by omega)) (fun i h1 h2 => by rw [pD_nj h2, pD_ne (by decide)]; rw [cE 94 (by decide)]) (by rw [pD_nj (by decide), pD_ne (by decide), cE 94 (by decide), sI_ne (by omega), sI_ne (by omega)]; exact a7) (by rw [pD_eq, sI_eq]) (fun j j0 j1 => ?_) (fun j j0 j1 => ?_)
        · rw [sI_ne (by omega), sI_ne (by omega)] at j1
          rw [sI_ne (by omega), sI_ne (by omega), sI_ne (by omega), sI_ne (by omega)]; exact dr.1.wt j0 j1
        · rw [sI_eq] at j1
          rw [sI_ne (by omega)]
          by_cases x : j = R 134 8
          · rw [x, sI_eq]; omega
          · rw [sI_ne (by omega)]; exact dr.1.lk j0 (by omega)
        · rw [sI_ne (by omega), sI_ne (by omega)] at j1
          rw [pD_ne (by decide), pD_ne (by decide), pD_ne (by decide), pD_ne (by decide), cE 100 (by decide), cE 101 (by decide), sI_ne (by omega), sI_ne (by omega), sI_ne (by omega), sI_ne (by omega)]; exact b3 j j0 j1
        · rw [sI_eq] at j1
          rw [sI_ne (by omega), pD_ne (by decide)]
          by_cases x : j = R 134 8
          · rw [x, sI_eq, pD_eq]
          · rw [sI_ne (by omega), pD_nj x, cE 102 (by decide)]; exact b4 j j0 (by omega)
theorem k_writer (hB : CB B L) (rt : RT B L R) (c : CT B L p C) (p0 : 0 ≤ p) (p1 : p ≤ L) (dr : DR n W0 C (R 134)) (hw : isW B L (sTx 23) p = true) : Lock B L n W0 C R (F_X7_readsWriter C) (F_X12_readWriter (stR R (wd B L p) (sk B L p) (R 134))) := by
  have hr := dr.1.ra
  obtain ⟨a1, a2, a3, a4, a5, a6, a7, a8, a9, b1, b2, b3, b4⟩ := dr.2.1
  have iw := isW_yes (tx_ok 23 (by decide) (by decide)).1 hw
  have w2 := wd_r (B := B) p1
  have sf := st_f R (wd B L p) (sk B L p) (R 134)
  obtain ⟨k, ek⟩ : ∃ k, k = R 134 7 := ⟨_, rfl⟩
  rw [F_X7_readsWriter, a7, ck_p (by omega), F_X12_readWriter, F_X12_writers, bI_q, sf.2.2.1, ck_p (by omega)]
  by_cases y : R 134 7 = 6
  · rw [if_neg (by omega), if_pos y]
    exact ⟨0, C, _, _, _, rfl, rfl, FrC.rf, fun i hi => rfl, Or.inl ⟨rfl, c.skp⟩⟩
  · obtain ⟨E1, s1, s2, s3⟩ := c_stepT hB c p0 p1
    change CT B L (nx B L p) E1 at s2
    rw [iw.2.1] at s2
    obtain ⟨E2, t1, t2, t3, t4⟩ := c_takesWord hB s2 (by omega) (by omega) (i := 24) (by decide)
    have w3 := wd_r (B := B) (p := wd B L p) (L := L) (by omega)
    rw [if_pos (by omega), s1, bI_q, t1, bI_q, ck_p (by cases isW B L (sTx 24) (wd B L p) <;> decide), if_neg y, st_after hB rt (by omega) (by omega) (by decide) (by decide) (by decide), tx_eq.2.2.2.2.1]
    cases hw2 : isW B L (sTx 24) (wd B L p) with
    | false =>
      rw [bi_f, if_pos rfl, if_neg (by decide), bI_q, ck_p (by decide), if_neg (by decide), F_X12_readWriter_j39, ck_p (by decide), if_neg (by decide)]
      refine ⟨0, _, _, _, _, rfl, rfl, s3.c.tr t2.c, fun i hi => rfl, Or.inl ⟨rfl, ?_⟩⟩
      rw [t3 hw2]
      exact s2.skp
    | true =>
      have iw2 := isW_yes (tx_ok 24 (by decide) (by decide)).1 hw2
      have c2 := t4 hw2
      rw [iw2.2.1] at c2
      obtain ⟨E3, u1, u2, u3, u4⟩ := c_readNumber hB c2 (by omega) (by omega) (lo := 0) (hi := 999) (by omega) (by omega)
      have nr := numV_r B L 0 999 (wd B L (wd B L p))
      have nr2 := nd_r (B := B) (p := wd B L (wd B L p)) (L := L) (by omega)
      rw [bi_t, if_neg (by decide), u1, bI_q, ck_p (by omega), pD_eq, ck_p (by omega), if_pos rfl, bI_q, ck_p (by omega)]
      by_cases z : numV B L 0 999 (wd B L (wd B L p)) = -1
      · rw [if_pos z, if_neg (by omega), F_X12_readWriter_j39, ck_p (by decide), if_neg (by decide)]
        refine ⟨0, _, _, _, _, rfl, rfl, s3.c.tr (t2.c.tr (u2.c.tr (FrC.put (by omega)))), fun i hi => rfl, Or.inl ⟨rfl, ?_⟩⟩
        rw [pD_ne (by decide), u3 z]
        exact c2.skp
      · have nx3 := nd_yes (B := B) (L := L) (p := wd B L (wd B L p)) (by omega)
        have c3 := (u4 z).put (a := 100) (i := R 134 7) (v := numV B L 0 999 (wd B L (wd B L p))) (by omega)
        rw [nx3] at c3
        obtain ⟨E4, v1, v2, v3, v4⟩ := c_takesWord hB c3 (by omega) (by omega) (i := 25) (by decide)
        have w5 := wd_r (B := B) (p := nd B L (wd B L (wd B L p))) (L := L) (by omega)
        rw [if_neg z, if_pos (by omega), v1, bI_q, ck_p (by cases isW B L (sTx 25) (nd B L (wd B L (wd B L p))) <;> decide), st_after hB rt (by omega) (by omega) (by decide) (by decide) (by decide), tx_eq.2.2.2.2.2.1]
        cases hw3 : isW B L (sTx 25) (nd B L (wd B L (wd B L p))) with
        | false =>
          rw [bi_f, if_pos rfl, if_neg (by decide), bI_q, F_X12_readWriter_j39, ck_p (by decide), if_neg (by decide)]
          refine ⟨0, _, _, _, _, rfl, rfl, s3.c.tr (t2.c.tr (u2.c.tr ((FrC.put (by omega)).tr v2.c))), fun i hi => rfl, Or.inl ⟨rfl, ?_⟩⟩
          rw [v3 hw3]
          exact c3.skp
        | true =>
          have iw3 := isW_yes (tx_ok 25 (by decide) (by decide)).1 hw3
          have c4 := v4 hw3
          rw [iw3.2.1] at c4
          obtain ⟨A, eA⟩ : ∃ A, A = numV B L 0 999 (wd B L (wd B L p)) := ⟨_, rfl⟩
          obtain ⟨P, eP⟩ : ∃ P, P = wd B L (nd B L (wd B L (wd B L p))) := ⟨_, rfl⟩
          rw [← eP] at c4 w5
          obtain ⟨E5, x1, x2, x3, x4⟩ := c_readNumber hB c4 (by omega) (by omega) (lo := 0) (hi := 100) (by omega) (by omega)
          have nr5 := numV_r B L 0 100 P
          have nr6 := nd_r (B := B) (p := P) (L := L) (by omega)
          have cE4 : ∀ a : Nat, a ≠ 1 → a ≠ 100 → E5 a = C a := fun a h1 h2 => by rw [x2 a h1, v2 a h1, pD_ne h2, u2 a h1, t2 a h1, s3 a h1]
          have cE5 : ∀ j : Int, E5 100 j = if j = R 134 7 then A else C 100 j := fun j => by rw [x2 100 (by decide), v2 100 (by decide), pD_at, u2 100 (by decide), t2 100 (by decide), s3 100 (by decide), eA]
          have et : ∀ v : Int, (pD (pD E5 101 (R 134 7) v) 94 11 (((pD E5 101 (R 134 7) v) 94 11) + 1)) 101 (R 134 7) = v := fun v => by rw [pD_ne (by decide), pD_eq]
          have e14 : ∀ v : Int, (pD E5 101 (R 134 7) v) 94 11 = R 134 7 := fun v => by rw [pD_ne (by decide), cE4 94 (by decide) (by decide), a7]
          have fr : FrC C (pD (pD E5 101 (R 134 7) (numV B L 0 100 P)) 94 11 (R 134 7 + 1)) := s3.c.tr (t2.c.tr (u2.c.tr ((FrC.put (by omega)).tr (v2.c.tr (x2.c.tr ((FrC.put (by omega)).tr (FrC.put (by omega))))))))
          rw [bi_t, if_neg (by decide), ← eP, x1, bI_q, et, ck_p (by omega), e14, if_pos rfl, bI_q, F_X12_readWriter_j39, ck_p (by omega)]
          by_cases u : numV B L 0 100 P = -1
          · rw [if_pos u, ck_p (by omega), if_neg (by omega)]
            refine ⟨0, _, _, _, _, rfl, rfl, fr, fun i hi => rfl, Or.inl ⟨rfl, ?_⟩⟩
            rw [pD_ne (by decide), pD_ne (by decide), x3 u]
            exact c4.skp
          · have nx5 := nd_yes (B := B) (L := L) (p := P) (by omega)
            rw [if_neg u, ck_p (by omega), if_pos (by omega), F_X12_writers, bI_q, (st_f R _ _ _).2.2.1, ck_p (by omega), st_set, F_X12_writers, bI_q, (st_f R _ _ _).2.2.1, sI_ne (i := 215 + 2 * R 134 7) (j := 7) (by omega), ck_p (by omega), st_set, (st_f R _ _ _).2.2.1, sI_ne (i := 215 + 2 * R 134 7 + 1) (j := 7) (by omega), sI_ne (i := 215 + 2 * R 134 7) (j := 7) (by omega), st_set, ← eA]
            refine ⟨1, _, _, _, _, rfl, rfl, fr, fun i hi => by rw [sI_ne (by omega), sI_ne (by omega), sI_ne (by omega)], Or.inr ⟨rfl, by omega, by omega, ?_, ?_⟩⟩
            · rw [← nx5]; exact ((x4 u).put (by omega)).put (by omega)
            · refine dr.wl (fun i h7 h8 h9 => by rw [sI_ne h7, sI_ne (by omega), sI_ne (by omega)]) (by rw [sI_eq]; omega) (by rw [sI_ne (by omega), sI_ne (by omega), sI_ne (by omega)]; omega) (fun j j0 j1 => ?_) (fun j j0 j1 => ?_) (fun a ha => by rw [pD_ne (by omega), pD_ne (by omega)]; exact cE4 a (by omega) (by omega)) (fun i h1 h2 => by rw [pD_nj h1, pD_ne (by decide), cE4 94 (by decide) (by decide)]) (by rw [pD_eq, sI_eq]) (by rw [pD_nj (by decide), pD_ne (by decide), cE4 94 (by decide) (by decide), sI_ne (by omega), sI_ne (by omega), sI_ne (by omega)]; exact a8) (fun j j0 j1 => ?_) (fun j j0 j1 => ?_)
              · rw [sI_eq] at j1
                rw [sI_ne (i := 7) (by omega), sI_ne (i := 7) (j := 215 + 2 * j + 1) (by omega)]
                by_cases x : j = R 134 7
                · rw [x, sI_ne (i := 215 + 2 * R 134 7 + 1) (by omega), sI_eq, sI_eq]; omega
                · rw [sI_ne (by omega), sI_ne (by omega), sI_ne (by omega), sI_ne (by omega)]; exact dr.1.wt j0 (by omega)
              · rw [sI_ne (by omega), sI_ne (by omega), sI_ne (by omega)] at j1
                rw [sI_ne (by omega), sI_ne (by omega), sI_ne (by omega)]; exact dr.1.lk j0 j1
              · rw [sI_eq] at j1
                rw [sI_ne (i := 7) (by omega), sI_ne (i := 7) (j := 215 + 2 * j + 1) (by omega), pD_ne (a := 94) (by decide), pD_ne (a := 101) (by decide), pD_ne (a := 94) (b := 101) (by decide), cE5]
                by_cases x : j = R 134 7
                · rw [if_pos x, x, sI_ne (i := 215 + 2 * R 134 7 + 1) (by omega), sI_eq, sI_eq, pD_eq]; exact ⟨rfl, rfl⟩
                · rw [if_neg x, sI_ne (by omega), sI_ne (by omega), sI_ne (by omega), sI_ne (by omega), pD_nj x, cE4 101 (by decide) (by decide)]; exact b3 j j0 (by omega)
              · rw [sI_ne (by omega), sI_ne (by omega), sI_ne (by omega)] at j1
                rw [sI_ne (by omega), sI_ne (by omega), sI_ne (by omega), pD_ne (by decide), pD_ne (by decide), cE4 102 (by decide) (by decide)]; exact b4 j j0 j1
end PW3
