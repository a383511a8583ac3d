/-! LINES of the shop: signs, both ends -/
section PW6
variable {n : Int} {B W0 f f0 g : Int → Int} {L p q b s : Int} {C D E R : mD}
theorem Wi.sgn (H : Wi n f) (h12 : f 0 < 12) (e : ∀ i : Int, i ≠ 0 → ¬ (15 + 12 * f 0 ≤ i ∧ i < 27 + 12 * f 0) → g i = f i) (h0 : g 0 = f 0 + 1) (ok : SgOk g (f 0)) : Wi n g := by
  have hr := H.ra
  have eS : ∀ s k, 0 ≤ s → s < f 0 → 0 ≤ k → k < 12 → wS g s k = wS f s k := fun s k h1 h2 h3 h4 => e _ (by omega) (by omega)
  have eL : ∀ l k, 0 ≤ l → l < 14 → 0 ≤ k → k < 4 → wL g l k = wL f l k := fun l k h1 h2 h3 h4 => e _ (by omega) (by omega)
  have e1 := e 1 (by omega) (by omega)
  have e7 := e 7 (by omega) (by omega)
  have e8 := e 8 (by omega) (by omega)
  have e12 := e 12 (by omega) (by omega)
  have e13 := e 13 (by omega) (by omega)
  refine ⟨?_, fun s s0 s1 => ?_, fun l l0 l1 => ?_, fun j' h0 h1 => ?_, fun j' h0 h1 => ?_, fun j' h0 h1 => ?_, fun h0 => ?_, fun h10 => ?_⟩
  · have e2 := e 2 (by omega) (by omega)
    have e3 := e 3 (by omega) (by omega)
    have e4 := e 4 (by omega) (by omega)
    have e5 := e 5 (by omega) (by omega)
    have e6 := e 6 (by omega) (by omega)
    have e9 := e 9 (by omega) (by omega)
    have e10 := e 10 (by omega) (by omega)
    have e11 := e 11 (by omega) (by omega)
    have e14 := e 14 (by omega) (by omega)
    unfold Wr
    omega
  · by_cases y : s = f 0
    · rw [y]; exact ok
    · have hs := H.sg s0 (by omega)
      unfold SgOk at hs ⊢
      rw [eS s 0 s0 (by omega) (by omega) (by omega), eS s 1 s0 (by omega) (by omega) (by omega)]
      refine ⟨hs.1, hs.2.1, hs.2.2.1, hs.2.2.2.1, fun r r0 r1 => ?_⟩
      rw [eS s (2 + r) s0 (by omega) (by omega) (by omega), eS s (7 + r) s0 (by omega) (by omega) (by omega)]
      exact hs.2.2.2.2 r r0 r1
  · have a := H.lta l0 (by omega)
    unfold LtA at a
    unfold LtOk
    rw [eL l 0 l0 (by omega) (by omega) (by omega), eL l 1 l0 (by omega) (by omega) (by omega), eL l 2 l0 (by omega) (by omega) (by omega), eL l 3 l0 (by omega) (by omega) (by omega), eS (wL f l 0) 1 (by omega) (by omega) (by omega) (by omega)]
    omega
  · rw [e (215 + 2 * j') (by omega) (by omega), e (215 + 2 * j' + 1) (by omega) (by omega)]; exact H.wt h0 (by omega)
  · rw [e (227 + j') (by omega) (by omega)]; exact H.lk h0 (by omega)
  · rw [e (235 + 4 * j') (by omega) (by omega), e (235 + 4 * j' + 1) (by omega) (by omega), e (235 + 4 * j' + 2) (by omega) (by omega), e (235 + 4 * j' + 3) (by omega) (by omega)]; exact H.lg h0 (by omega)
  · rw [e12] at h0 ⊢
    rw [e1, eL (f 12) 2 h0 (by omega) (by omega) (by omega)]
    exact H.wet h0
  · rw [e 10 (by omega) (by omega)] at h10
    exact LawOk_same (fun i hi => e i (by omega) (by omega)) (H.law h10)
theorem DR.sgn (h : DR n W0 C f) (h12 : f 0 < 12) (e : ∀ i : Int, i ≠ 0 → ¬ (15 + 12 * f 0 ≤ i ∧ i < 27 + 12 * f 0) → g i = f i) (h0 : g 0 = f 0 + 1) (ok : SgOk g (f 0))
    (c0 : E 94 0 = f 0 + 1) (c1 : ∀ i : Int, i ≠ 0 → E 94 i = C 94 i) (c2 : ∀ a : Nat, (a = 93 ∨ (99 ≤ a ∧ a ≤ 102)) → E a = C a) (c3 : ∀ i : Int, i < f 0 → E 95 i = C 95 i ∧ E 96 i = C 96 i) (c4 : ∀ i : Int, i < 5 * f 0 → E 97 i = C 97 i ∧ E 98 i = C 98 i)
    (d1 : E 95 (f 0) = wS g (f 0) 0 ∧ E 96 (f 0) = wS g (f 0) 1) (d2 : ∀ r, 0 ≤ r → r < 5 → E 97 (f 0 * 5 + r) = wS g (f 0) (2 + r) ∧ E 98 (f 0 * 5 + r) = wS g (f 0) (7 + r)) : DR n W0 E g := by
  obtain ⟨H, ⟨a1, a2, a3, a4, a5, a6, a7, a8, a9, b1, b2, b3, b4⟩, h3, h4⟩ := h
  have hr := H.ra
  have eS : ∀ s k, 0 ≤ s → s < f 0 → 0 ≤ k → k < 12 → wS g s k = wS f s k := fun s k h1 h2 h3 h4 => e _ (by omega) (by omega)
  have eL : ∀ l k, 0 ≤ l → l < 14 → 0 ≤ k → k < 4 → wL g l k = wL f l k := fun l k h1 h2 h3 h4 => e _ (by omega) (by omega)
  have e1 := e 1 (by omega) (by omega)
  have e7 := e 7 (by omega) (by omega)
  have e8 := e 8 (by omega) (by omega)
  refine ⟨H.sgn h12 e h0 ok, ⟨by omega, ?_, ?_, ?_, ?_, ?_, ?_, ?_, ?_, fun s s0 s1 => ?_, fun l l0 l1 => ?_, fun j j0 j1 => ?_, fun j j0 j1 => ?_⟩, fun i hi => by rw [e i (by omega) (by omega)]; exact h3 i hi, ?_⟩
  · rw [c1 5 (by omega), e1]; exact a2
  · rw [c1 7 (by omega), e 2 (by omega) (by omega)]; exact a3
  · rw [c1 8 (by omega), e 3 (by omega) (by omega)]; exact a4
  · rw [c1 9 (by omega), e 4 (by omega) (by omega)]; exact a5
  · rw [c1 10 (by omega), e 6 (by omega) (by omega)]; exact a6
  · rw [c1 11 (by omega), e7]; exact a7
  · rw [c1 14 (by omega), e8]; exact a8
  · rw [c1 16 (by omega), e 9 (by omega) (by omega)]; exact a9
  · by_cases y : s = f 0
    · rw [y]; exact ⟨d1.1, d1.2, d2⟩
    · have z := b1 s s0 (by omega)
      rw [eS s 0 s0 (by omega) (by omega) (by omega), eS s 1 s0 (by omega) (by omega) (by omega), (c3 s (by omega)).1, (c3 s (by omega)).2]
      refine ⟨z.1, z.2.1, fun r r0 r1 => ?_⟩
      rw [eS s (2 + r) s0 (by omega) (by omega) (by omega), eS s (7 + r) s0 (by omega) (by omega) (by omega), (c4 (s * 5 + r) (by omega)).1, (c4 (s * 5 + r) (by omega)).2]
      exact z.2.2 r r0 r1
  · rw [e1] at l1
    rw [eL l 0 l0 (by omega) (by omega) (by omega), c2 99 (by omega)]; exact b2 l l0 l1
  · rw [e7] at j1
    rw [c2 100 (by omega), c2 101 (by omega), e (215 + 2 * j) (by omega) (by omega), e (215 + 2 * j + 1) (by omega) (by omega)]; exact b3 j j0 j1
  · rw [e8] at j1
    rw [c2 102 (by omega), e (227 + j) (by omega) (by omega)]; exact b4 j j0 j1
  · rw [c2 93 (by omega)]
    rcases h4 with ⟨a, c⟩ | ⟨a, c1, c2, c3⟩
    · exact Or.inl ⟨a, fun i hi => by rw [e i (by omega) (by omega)]; exact c i hi⟩
    · refine Or.inr ⟨a, by rw [e 12 (by omega) (by omega)]; exact c1, by rw [e1]; exact c2, fun l l0 l1 => ?_⟩
      rw [e1] at l1
      rw [eL l 1 l0 (by omega) (by omega) (by omega), eL l 2 l0 (by omega) (by omega) (by omega), eL l 3 l0 (by omega) (by omega) (by omega)]
      exact c3 l l0 l1
/-- the left figures -/
theorem c_figs (hB : CB B L) (p0 : 0 ≤ p) (p1 : p ≤ L) (h5 : fig5 B L p = true) (s0 : 0 ≤ s) (s1 : s < 12) : ∀ (m fuel : Nat) (x : Int) (E : mD), m < fuel → 0 ≤ x → x + m = 5 → CT B L p E →
    ∃ E', F_X7_readsSides_L26 s fuel x E = (bI (F_X8_step E') fun _ D1 =>
      bI (F_X8_takesWord 22 D1) fun v2 D2 =>
      ck (nR v2) <|
      if v2 = 0 then
        some (0, D2)
      else
        bI (F_X8_isFigures D2) fun v3 D3 =>
        ck (nR v3) <|
        if v3 = 0 then
          some (0, D3)
        else
          F_X7_readsSides_L91 s fuelN 0 D3) ∧ (∀ a : Nat, a ≠ 97 → E' a = E a) ∧ (∀ i : Int, i < 5 * s + x → E' 97 i = E 97 i) ∧ ∀ r, x ≤ r → r < 5 → E' 97 (s * 5 + r) = B (sk B L p + r) - 48 := by
  have l4 := hB.2.1
  have k := nd_r (B := B) p1
  have tk5 := h5
  unfold fig5 at tk5
  rw [decide_eq_true_eq] at tk5
  intro m
  induction m with
  | zero =>
    intro fuel x E hf x0 hx c
    obtain ⟨j, rfl⟩ : ∃ j, fuel = j + 1 := ⟨fuel - 1, by omega⟩
    rw [F_X7_readsSides_L26, ck_p (by omega), if_pos (by omega)]
    exact ⟨E, rfl, fun _ _ => rfl, fun _ _ => rfl, fun r h1 h2 => by omega⟩
  | succ m ih =>
    intro fuel x E hf x0 hx c
    obtain ⟨j, rfl⟩ : ∃ j, fuel = j + 1 := ⟨fuel - 1, by omega⟩
    obtain ⟨E', e1, e2, e3, e4⟩ := ih j (x + 1) (pD E 97 (s * 5 + x) (B (sk B L p + x) - 48)) (by omega) (by omega) (by omega) (c.put (by omega))
    rw [F_X7_readsSides_L26, ck_p (by omega), if_neg (show ¬ 5 ≤ x by omega), F_X8_figureOf, c.skp, ck_p (by omega), bI_q, c.1, ck_p (by omega), e1]
    refine ⟨E', rfl, fun a ha => by rw [e2 a ha, pD_ne ha], fun i hi => by rw [e3 i (by omega), pD_nj (by omega)], fun r r0 r1 => ?_⟩
    by_cases y : r = x
    · rw [y, e3 (s * 5 + x) (by omega), pD_eq]
    · exact e4 r (by omega) r1
/-- the sums, and the right figures -/
theorem k_sums {lf rf : Int → Int} {W : Int} (hB : CB B L) (p0 : 0 ≤ p) (p1 : p ≤ L) (h5 : fig5 B L p = true) (s0 : 0 ≤ s) (s1 : s < 12) (hW : 2 ≤ W ∧ W ≤ 12) (hl : ∀ r, 0 ≤ r → r < 5 → 0 ≤ lf r ∧ lf r ≤ 9) (hrf : ∀ r, 0 ≤ r → r < 5 → rf r = B (sk B L p + r) - 48)
    (f0e : f 0 = s) (fW : wS f s 1 = W) (fl : ∀ r, 0 ≤ r → r < 5 → wS f s (2 + r) = lf r ∧ wS f s (7 + r) = rf r) : ∀ (m fuel : Nat) (x : Int) (E : mD), m < fuel → 0 ≤ x → x + m = 5 → CT B L p E → E 96 s = W → (∀ r, 0 ≤ r → r < 5 → E 97 (s * 5 + r) = lf r) →
    ∃ v E', F_X7_readsSides_L91 s fuel x E = some (v, E') ∧ F_X12_readSign_L107 s fuel x (stR R q b f) = some (v, stR R q b (if v = 1 then sI f 0 (s + 1) else f)) ∧ (∀ a : Nat, a ≠ 1 → a ≠ 98 → E' a = E a) ∧ (∀ i : Int, i < 5 * s + x → E' 98 i = E 98 i) ∧
      ((v = 0 ∧ E' 1 = E 1) ∨ (v = 1 ∧ CT B L (nx B L p) E' ∧ ∀ r, x ≤ r → r < 5 → lf r + rf r < W ∧ E' 98 (s * 5 + r) = rf r)) := by
  have l4 := hB.2.1
  have k := nd_r (B := B) p1
  have tk5 := h5
  unfold fig5 at tk5
  rw [decide_eq_true_eq] at tk5
  have sf := st_f R q b f
  intro m
  induction m with
  | zero =>
    intro fuel x E hf x0 hx c eW el
    obtain ⟨j, rfl⟩ : ∃ j, fuel = j + 1 := ⟨fuel - 1, by omega⟩
    obtain ⟨E1, s1, s2, s3⟩ := c_stepT hB c p0 p1
    rw [F_X7_readsSides_L91, ck_p (by omega), if_pos (show 5 ≤ x by omega), s1, bI_q, F_X12_readSign_L107, ck_p (by omega), if_pos (show 5 ≤ x by omega), sf.2.2.1, st_set, f0e]
    exact ⟨1, E1, rfl, rfl, fun a h1 _ => s3 a h1, fun i _ => by rw [s3 98 (by decide)], Or.inr ⟨rfl, s2, fun r h1 h2 => by omega⟩⟩
  | succ m ih =>
    intro fuel x E hf x0 hx c eW el
    obtain ⟨j, rfl⟩ : ∃ j, fuel = j + 1 := ⟨fuel - 1, by omega⟩
    have fx := fl x x0 (by omega)
    have lx := hl x x0 (by omega)
    have rx := hrf x x0 (by omega)
    have fb := fig5_in h5 (j := x) x0 (by omega)
    unfold wS at fW fx
    have hR : F_X12_readSign_L107 s (j + 1) x (stR R q b f) = if lf x + rf x < W then F_X12_readSign_L107 s j (x + 1) (stR R q b f) else some (0, stR R q b f) := by
      rw [F_X12_readSign_L107, ck_p (by omega), if_neg (show ¬ 5 ≤ x by omega), F_X12_ofSign, ck_p (by omega), bI_q, F_X12_ofSign, ck_p (by omega), bI_q, F_X12_ofSign, ck_p (by omega), bI_q, sf.2.2.1, fx.1, fx.2, fW, ck_p (by omega), ck_p (by omega)]
    rw [F_X7_readsSides_L91, ck_p (by omega), if_neg (show ¬ 5 ≤ x by omega), F_X8_figureOf, c.skp, ck_p (by omega), bI_q, c.1, F_X6_leftOf, ck_p (by omega), bI_q, ck_p (by omega), show (94 : Nat) + 3 = 97 from rfl, el x x0 (by omega), ck_p (by omega), eW, ck_p (by omega), hR, ← rx]
    by_cases y : lf x + rf x < W
    · obtain ⟨v, E', e1, e2, e3, e4, e5⟩ := ih j (x + 1) (pD E 98 (s * 5 + x) (rf x)) (by omega) (by omega) (by omega) (c.put (by omega)) (by rw [pD_ne (by decide)]; exact eW) (fun r r0 r1 => by rw [pD_ne (by decide)]; exact el r r0 r1)
      rw [if_pos y, if_pos y, ck_p (by omega), e1, e2]
      refine ⟨v, E', rfl, rfl, fun a h1 h2 => by rw [e3 a h1 h2, pD_ne h2], fun i hi => by rw [e4 i (by omega), pD_nj (by omega)], ?_⟩
      rcases e5 with ⟨u1, u2⟩ | ⟨u1, u2, u3⟩
      · exact Or.inl ⟨u1, by rw [u2, pD_ne (by decide)]⟩
      · refine Or.inr ⟨u1, u2, fun r r0 r1 => ?_⟩
        by_cases z : r = x
        · rw [z, e4 (s * 5 + x) (by omega), pD_eq]; exact ⟨y, rfl⟩
        · exact u3 r (by omega) r1
    · rw [if_neg y, if_neg y]
      exact ⟨0, E, rfl, rfl, fun _ _ _ => rfl, fun _ _ => rfl, Or.inl ⟨rfl, rfl⟩⟩
end PW6
