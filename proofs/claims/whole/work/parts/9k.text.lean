/-! TEXT of a shop: whole -/
section PWa
variable {n : Int} {B W0 f f0 g : Int → Int} {L p q b s : Int} {C D E R : mD}
theorem stA (R : mD) (q b : Int) (f g : Int → Int) : stR (sA R 134 f) q b g = stR R q b g := by
  unfold stR posD
  funext a j
  unfold pD sA
  by_cases h : a = 134
  · subst h; simp
  · simp only [h, if_false]
    by_cases h2 : a = 133
    · subst h2; simp
    · simp [h2]
theorem tk_0 (h : p ≤ L) : tk B L (sk B L p) = 0 ↔ sk B L p = L := by
  have s := sk_r (B := B) h
  unfold tk
  by_cases y : sk B L p < L
  · rw [if_pos y]
    have := kd_r (B (sk B L p))
    omega
  · rw [if_neg y]
    omega
theorem c_takesMark (hB : CB B L) (h : CT B L p D) (p0 : 0 ≤ p) (p1 : p ≤ L) {c : Int} (hc : kd c = 3) (cr : nR c) : ∃ E, F_X8_takesMark c D = some (bi (isM B L c p), E) ∧ Fr1 D E ∧ (isM B L c p = false → E = D) ∧ (isM B L c p = true → CT B L (sk B L p + 1) E) := by
  rw [F_X8_takesMark, c_isMark hB h p0 p1 hc cr, bI_q]
  cases hw : isM B L c p with
  | false =>
    rw [bi_f, ck_p (by decide), if_pos rfl]
    exact ⟨D, rfl, Fr1.rf, fun _ => rfl, fun z => Bool.noConfusion z⟩
  | true =>
    obtain ⟨E, e1, e2, e3⟩ := c_stepT hB h p0 p1
    rw [bi_t, ck_p (by decide), if_neg (by decide), e1, bI_q]
    change CT B L (nx B L p) E at e2
    rw [(isM_yes hc hw).2.1] at e2
    exact ⟨E, rfl, e3, fun z => Bool.noConfusion z, fun _ => e2⟩
theorem st_mark (hB : CB B L) (rt : RT B L R) (p0 : 0 ≤ p) (p1 : p ≤ L) : F_X12_isAt 59 59 (stR R (sk B L p) b f) = some (bi (isM B L 59 p), stR R (sk B L p) b f) := by
  have s := sk_r (B := B) p1
  rw [r_isAt (R := stR R (sk B L p) b f) hB (st_RT rt _ _ _) (st_f R _ _ _).1 (by omega) s.2 (by decide) (by decide)]
  unfold isM
  congr 3
  exact decide_eq_decide.mpr (by omega)
theorem st_10 (R : mD) (q b q' : Int) (f : Int → Int) : pD (stR R q b f) 133 10 q' = stR R q' b f := by
  have := st_pos R q b q' b f
  rw [← this, ← pos_10 (stR R q b f) q b q', st_pos R q b q b f]
theorem k_text_L (hB : CB B L) (rt : RT B L R) : ∀ (m fuel : Nat) (x p b : Int) (f : Int → Int) (C : mD), m < fuel → 0 ≤ x → x + m = 14 → 0 ≤ p → p ≤ L → CT B L p C → DR n W0 C f → C 93 1 = 14 →
    ∃ v w C' q' b' f', F_X9_readsText_S_L21 fuel x C = some (v, C') ∧ F_X12_readAll_L28 1 fuel x (stR R p b f) = some (w, stR R q' b' f') ∧ FrC C C' ∧ (∀ i : Int, i < 0 ∨ 475 ≤ i → f' i = f i) ∧
      ((v = 0 ∧ w = -1 ∧ C' 1 3 = b') ∨ (v = 1 ∧ 0 ≤ w ∧ w ≤ 14 ∧ DR n W0 C' f')) := by
  have l4 := hB.2.1
  have n10 : ¬ ((1 : Int) = 0) := by decide
  intro m
  induction m with
  | zero =>
    intro fuel x p b f C hf x0 hx p0 p1 c dr e93
    obtain ⟨j, rfl⟩ : ∃ j, fuel = j + 1 := ⟨fuel - 1, by omega⟩
    have hx' : x = 14 := by omega
    subst hx'
    have hR : F_X12_readAll_L28 1 (j + 1) 14 (stR R p b f) = some (-1, stR R (wd B L p) (sk B L p) f) := by
      rw [F_X12_readAll_L28, F_X12_readLine, st_letters hB rt p0 p1, bI_q, ck_p (by decide), F_X12_readLine_j16, ck_p (by decide), if_neg n10, ck_p (by decide), if_pos (by decide), bI_q, ck_p (by decide), if_pos rfl]
    rw [hR, F_X9_readsText_S_L21, ck_p (by decide), e93, ck_p (by decide), if_pos (by decide)]
    exact ⟨0, -1, C, _, _, f, rfl, rfl, FrC.rf, fun _ _ => rfl, Or.inl ⟨rfl, rfl, c.skp⟩⟩
  | succ m ih =>
    intro fuel x p b f C hf x0 hx p0 p1 c dr e93
    obtain ⟨j, rfl⟩ : ∃ j, fuel = j + 1 := ⟨fuel - 1, by omega⟩
    have K := k_line (R := sA R 134 f) hB (rt.go (by rw [sA_ne (by decide)]) (by rw [sA_ne (by decide)])) c p0 p1 (by rw [sA_eq]; exact dr)
    rw [sA_eq, stA] at K
    have K2 := K.r2
    obtain ⟨v, C', q, b', g, k1, k2, k3, k4, k5⟩ := K
    rw [stA] at k2
    rw [sA_eq] at k4
    have hR : F_X12_readLine 1 x (stR R p b f) = some (v, stR R q b' g) := by
      rw [F_X12_readLine, st_letters hB rt p0 p1, bI_q, ck_p (by decide), F_X12_readLine_j16, ck_p (by omega), if_neg n10, ck_p (by decide), if_neg (by omega), ck_p (by decide), if_neg n10, K2, k2]
    have e93' : C' 93 1 = 14 := by rw [k3.2 1 (by decide)]; exact e93
    rw [F_X9_readsText_S_L21, ck_p (by omega), e93, ck_p (by omega), if_neg (by omega), k1, bI_q, F_X12_readAll_L28, hR, bI_q]
    rcases k5 with ⟨u1, u2⟩ | ⟨u1, u2, u3, u4, u5⟩
    · rw [u1, ck_p (by decide), if_pos rfl, ck_p (by decide), if_pos rfl]
      exact ⟨0, -1, C', _, _, g, rfl, rfl, k3, k4, Or.inl ⟨rfl, rfl, u2⟩⟩
    · have skr := sk_r (B := B) u3
      have tkr := tk_r B L (sk B L q)
      have t0 := tk_0 (B := B) u3
      have sf := st_f R (sk B L q) (sk B L q) g
      have hS : (bI (F_X12_blanks (stR R q b' g)) fun _ D2 =>
          ck (nR (D2 133 10)) <|
          ck (nR (D2 133 11)) <|
          if (D2 133 10) = (D2 133 11) then
            some ((x + 1), D2)
          else
            bI (F_X12_isAt 59 59 D2) fun v3 D3 =>
            ck (nR v3) <|
            if v3 = 0 then
              some ((-1), D3)
            else
              F_X12_readAll_L28 1 j (x + 1) (pD D3 133 10 ((D3 133 10) + 1))) = if sk B L q = L then some (x + 1, stR R (sk B L q) (sk B L q) g) else if isM B L 59 q = true then F_X12_readAll_L28 1 j (x + 1) (stR R (sk B L q + 1) (sk B L q) g) else some (-1, stR R (sk B L q) (sk B L q) g) := by
        rw [st_blanks hB rt u2 u3, bI_q, sf.1, sf.2.2.2.2 11 (by decide) (by decide), rt.1, ck_p (by omega), ck_p (by omega)]
        by_cases y : sk B L q = L
        · rw [if_pos y, if_pos y]
        · rw [if_neg y, if_neg y, st_mark hB rt u2 u3, bI_q]
          cases hw : isM B L 59 q with
          | false => rw [bi_f, ck_p (by decide), if_pos rfl, if_neg Bool.false_ne_true]
          | true => rw [bi_t, ck_p (by decide), if_neg (by decide), if_pos rfl, sf.1, st_10]
      rw [u1, ck_p (by decide), if_neg n10, u4.2.2.2.1, ck_p (by omega), ck_p (by decide), if_neg n10, hS]
      by_cases y : sk B L q = L
      · rw [if_pos (t0.mpr y), if_pos y]
        exact ⟨1, x + 1, C', _, _, g, rfl, rfl, k3, k4, Or.inr ⟨rfl, by omega, by omega, u5⟩⟩
      · rw [if_neg (fun z => y (t0.mp z)), if_neg y]
        obtain ⟨F, m1, m2, m3, m4⟩ := c_takesMark hB u4 u2 u3 (c := 59) (by decide) (by decide)
        rw [m1, bI_q]
        cases hw : isM B L 59 q with
        | false =>
          rw [bi_f, ck_p (by decide), if_pos rfl, if_neg Bool.false_ne_true]
          exact ⟨0, -1, F, _, _, g, rfl, rfl, k3.tr m2.c, k4, Or.inl ⟨rfl, rfl, by rw [m3 hw]; exact u4.skp⟩⟩
        | true =>
          have iy := isM_yes (by decide) hw
          rw [bi_t, ck_p (by decide), if_neg (by decide), if_pos rfl]
          obtain ⟨v', w', C2, q2, b2, f2, i1, i2, i3, i4, i5⟩ := ih j (x + 1) (sk B L q + 1) (sk B L q) g F (by omega) (by omega) (by omega) (by omega) (by omega) (m4 hw) (u5.cls (fun a h1 _ => m2 a (by omega))) (by rw [m2 93 (by decide)]; exact e93')
          exact ⟨v', w', C2, q2, b2, f2, i1, i2, (k3.tr m2.c).tr i3, fun i hi => (i4 i hi).trans (k4 i hi), i5⟩
/-- the text of a shop, read by both -/
theorem k_text (hB : CB B L) (c2 : C 2 = B) (c1 : C 1 1 = L) (dr : DR n W0 C (D 134)) (e93 : C 93 1 = 14) (rt : ∀ j, 0 ≤ j → j < 400 → -128 ≤ D 139 j ∧ D 139 j ≤ 127 ∧ B j = D 139 j % 256) (e9 : D 133 9 = L) :
    ∃ v w C' q' b' f', F_X9_readsText_S C = some (v, C') ∧ F_X12_readAll 1 D = some (w, stR (pD (useD D) 133 16 0) q' b' f') ∧ FrC C C' ∧ (∀ i : Int, i < 0 ∨ 475 ≤ i → f' i = D 134 i) ∧
      ((v = 0 ∧ w = -1 ∧ C' 1 3 = b') ∨ (v = 1 ∧ 0 ≤ w ∧ w ≤ 14 ∧ DR n W0 C' f')) := by
  have hN := fN
  have l4 := hB.2.1
  have l0 := hB.1
  obtain ⟨R, eR⟩ : ∃ R, R = pD (useD D) 133 16 0 := ⟨_, rfl⟩
  have v := useD_v (D := D)
  have rtR : RT B L R := by
    rw [eR]
    refine ⟨by rw [pD_nj (by decide), v.2.2.2]; exact e9, ?_⟩
    rw [pD_ne (by decide), useD_ne (by decide)]
    exact rt
  have R10 : R 133 10 = 0 := by rw [eR, pD_nj (by decide)]; exact v.2.2.1
  have R134 : R 134 = D 134 := by rw [eR, pD_ne (by decide), useD_ne (by decide)]
  obtain ⟨E, e1, e2, e3⟩ := c_step (D := pD C 1 4 0) (p := 0) hB (by rw [pD_ne (by decide)]; exact c2) (by rw [pD_nj (by decide)]; exact c1) (pD_eq _ _ _ _) (by omega) l0
  have fE : FrC C E := FrC.tr ⟨fun a h1 _ => pD_ne h1, fun i _ => by rw [pD_ne (by decide)]⟩ e3.c
  have skr := sk_r (B := B) l0
  have tkr := tk_r B L (sk B L 0)
  have t0 := tk_0 (B := B) l0
  have sf := st_f R (sk B L 0) (sk B L 0) (R 134)
  have hR : F_X12_readAll 1 D = if sk B L 0 = L then some (0, stR R (sk B L 0) (sk B L 0) (R 134)) else F_X12_readAll_L28 1 fuelN 0 (stR R (sk B L 0) (sk B L 0) (R 134)) := by
    rw [F_X12_readAll, r_uses, bI_q, ← eR, r_blanks hB rtR R10 (by omega) l0, bI_q, st_0, sf.1, sf.2.2.2.2 11 (by decide) (by decide), rtR.1, ck_p (by omega), ck_p (by omega)]
  rw [← eR, F_X9_readsText_S, F_X8_rewind, e1, bI_q, bI_q, e2.2.2.2.1, ck_p (by omega), hR]
  have drE : DR n W0 E (D 134) := dr.cls (fun a h1 _ => by rw [e3 a (by omega), pD_ne (by omega)])
  by_cases y : sk B L 0 = L
  · rw [if_pos (t0.mpr y), if_pos y, R134]
    exact ⟨1, 0, E, _, _, D 134, rfl, rfl, fE, fun i _ => rfl, Or.inr ⟨rfl, by omega, by omega, drE⟩⟩
  · rw [if_neg (fun z => y (t0.mp z)), if_neg y, R134]
    obtain ⟨v', w', C2, q2, b2, f2, i1, i2, i3, i4, i5⟩ := k_text_L (R := R) (n := n) (W0 := W0) hB rtR 14 fuelN 0 (sk B L 0) (sk B L 0) (D 134) E (by omega) (by omega) (by omega) (by omega) skr.2 (e2.sk l0) drE (by rw [fE.2 1 (by decide)]; exact e93)
    exact ⟨v', w', C2, q2, b2, f2, i1, i2, fE.tr i3, i4, i5⟩
end PWa
