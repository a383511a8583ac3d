/-! LAW's text: whole -/
section PXh
variable {n : Int} {B f g w : Int → Int} {L p q b s S d x : Int} {C D E F R : mD} {st st' : List Bool} {fc fr : RI}
theorem k_ltext_L (hB : CB B L) (rt : RT B L R) : ∀ (m fuel : Nat) (x p b S d : Int) (f : Int → Int) (C : mD), m < fuel → 0 ≤ x → x + m = 12 → 0 ≤ p → p ≤ L → S ≤ p → CT B L p C → DL C f S x → C 103 1 = 12 →
    ∃ v w C' q' b' f' S' d', F_X9_readsText_L_L21 fuel x C = some (v, C') ∧ F_X12_readAll_L28 0 fuel x (stR (rS R S d) p b f) = some (w, stR (rS R S' d') q' b' f') ∧ FrD C C' ∧ (∀ i : Int, i < 1325 → f' i = f i) ∧
      ((v = 0 ∧ w = -1 ∧ C' 1 3 = b') ∨ (v = 1 ∧ 0 ≤ w ∧ w ≤ 12 ∧ DL C' f' S' w)) := by
  have l4 := hB.2.1
  have n10 : ¬ ((1 : Int) = 0) := by decide
  intro m
  induction m with
  | zero =>
    intro fuel x p b S d f C hf x0 hx p0 p1 hS c dl e93
    obtain ⟨j, rfl⟩ : ∃ j, fuel = j + 1 := ⟨fuel - 1, by omega⟩
    have hx' : x = 12 := by omega
    subst hx'
    have hR : F_X12_readAll_L28 0 (j + 1) 12 (stR (rS R S d) p b f) = some (-1, stR (rS R S d) (wd B L p) (sk B L p) f) := by
      rw [F_X12_readAll_L28, F_X12_readLine, st_letters hB (rS_RT rt _ _) p0 p1, bI_q, ck_p (by decide), F_X12_readLine_j16, ck_p (by decide), if_pos rfl, ck_p (by decide), if_pos (by decide), bI_q, ck_p (by decide), if_pos rfl]
    rw [hR, F_X9_readsText_L_L21, ck_p (by decide), e93, ck_p (by decide), if_pos (by decide)]
    exact ⟨0, -1, C, _, _, f, S, d, rfl, rfl, FrD.rf, fun _ _ => rfl, Or.inl ⟨rfl, rfl, c.skp⟩⟩
  | succ m ih =>
    intro fuel x p b S d f C hf x0 hx p0 p1 hS c dl e93
    obtain ⟨j, rfl⟩ : ∃ j, fuel = j + 1 := ⟨fuel - 1, by omega⟩
    obtain ⟨v, C', q, b', g, S1, d1, k1, k2, k3, k4, k5⟩ := k_lline (R := R) (x := x) (d := d) hB rt (by omega) c dl p0 p1 hS
    have hv : v = 0 ∨ v = 1 := by rcases k5 with k | k <;> omega
    have hR : F_X12_readLine 0 x (stR (rS R S d) p b f) = some (v, stR (rS R S1 d1) q b' g) := by
      rw [F_X12_readLine, st_letters hB (rS_RT rt _ _) p0 p1, bI_q, ck_p (by decide), F_X12_readLine_j16, ck_p (by omega), if_pos rfl, ck_p (by decide), if_neg (by omega), ck_p (by decide), if_pos rfl, w2_id k2 hv, k2]
    have e93' : C' 103 1 = 12 := by rw [k3 103 (by decide) (by omega)]; exact e93
    rw [F_X9_readsText_L_L21, ck_p (by omega), e93, ck_p (by omega), if_neg (by omega), k1, bI_q, F_X12_readAll_L28, hR, bI_q]
    rcases k5 with ⟨u1, u2⟩ | ⟨u1, u2, u3, u4, u5, u6⟩
    · rw [u1, ck_p (by decide), if_pos rfl, ck_p (by decide), if_pos rfl]
      exact ⟨0, -1, C', _, _, g, S1, d1, rfl, rfl, k3, k4, Or.inl ⟨rfl, rfl, u2⟩⟩
    · have skr := sk_r (B := B) u3
      have tkr := tk_r B L (sk B L q)
      have t0 := tk_0 (B := B) u3
      have rtS := rS_RT rt S1 d1
      have sf := st_f (rS R S1 d1) (sk B L q) (sk B L q) g
      have hS : (bI (F_X12_blanks (stR (rS R S1 d1) q b' g)) fun _ D2 =>
          ck (nR (D2 133 10)) <|
          ck (nR (D2 133 11)) <|
          if (D2 133 10) = (D2 133 11) then
            some ((x + 1), D2)
          else
            bI (F_X12_isAt 59 59 D2) fun v3 D3 =>
            ck (nR v3) <|
            if v3 = 0 then
              some ((-1), D3)
            else
              F_X12_readAll_L28 0 j (x + 1) (pD D3 133 10 ((D3 133 10) + 1))) = if sk B L q = L then some (x + 1, stR (rS R S1 d1) (sk B L q) (sk B L q) g) else if isM B L 59 q = true then F_X12_readAll_L28 0 j (x + 1) (stR (rS R S1 d1) (sk B L q + 1) (sk B L q) g) else some (-1, stR (rS R S1 d1) (sk B L q) (sk B L q) g) := by
        rw [st_blanks hB rtS u2 u3, bI_q, sf.1, sf.2.2.2.2 11 (by decide) (by decide), rtS.1, ck_p (by omega), ck_p (by omega)]
        by_cases y : sk B L q = L
        · rw [if_pos y, if_pos y]
        · rw [if_neg y, if_neg y, st_mark hB rtS u2 u3, bI_q]
          cases hw : isM B L 59 q with
          | false => rw [bi_f, ck_p (by decide), if_pos rfl, if_neg Bool.false_ne_true]
          | true => rw [bi_t, ck_p (by decide), if_neg (by decide), if_pos rfl, sf.1, st_10]
      rw [u1, ck_p (by decide), if_neg n10, u5.2.2.2.1, ck_p (by omega), ck_p (by decide), if_neg n10, hS]
      by_cases y : sk B L q = L
      · rw [if_pos (t0.mpr y), if_pos y]
        exact ⟨1, x + 1, C', _, _, g, S1, d1, rfl, rfl, k3, k4, Or.inr ⟨rfl, by omega, by omega, u6⟩⟩
      · rw [if_neg (fun z => y (t0.mp z)), if_neg y]
        obtain ⟨F, m1, m2, m3, m4⟩ := c_takesMark hB u5 u2 u3 (c := 59) (by decide) (by decide)
        rw [m1, bI_q]
        cases hw : isM B L 59 q with
        | false =>
          rw [bi_f, ck_p (by decide), if_pos rfl, if_neg Bool.false_ne_true]
          exact ⟨0, -1, F, _, _, g, S1, d1, rfl, rfl, k3.tr m2.l.far, k4, Or.inl ⟨rfl, rfl, by rw [m3 hw]; exact u5.skp⟩⟩
        | true =>
          have iy := isM_yes (by decide) hw
          have dlF : DL F g S1 (x + 1) := by
            obtain ⟨z1, z2, z3, z4⟩ := u6
            unfold DL
            rw [m2 104 (by decide), m2 105 (by decide), m2 106 (by decide), m2 107 (by decide)]
            exact ⟨z1, z2.go m2, z3, z4⟩
          rw [bi_t, ck_p (by decide), if_neg (by decide), if_pos rfl]
          obtain ⟨v', w', C2, q2, b2, f2, S2, d2, i1, i2, i3, i4, i5⟩ := ih j (x + 1) (sk B L q + 1) (sk B L q) S1 d1 g F (by omega) (by omega) (by omega) (by omega) (by omega) (by omega) (m4 hw) dlF (by rw [m2 103 (by decide)]; exact e93')
          exact ⟨v', w', C2, q2, b2, f2, S2, d2, i1, i2, (k3.tr m2.l.far).tr i3, fun i hi => (i4 i hi).trans (k4 i hi), i5⟩
/-- the text of a law, read by both -/
theorem k_ltext (hB : CB B L) (c2 : C 2 = B) (c1 : C 1 1 = L) (h0 : C 104 0 = 0 ∧ C 104 5 = 0) (e93 : C 103 1 = 12) (rt : ∀ j, 0 ≤ j → j < 400 → -128 ≤ D 139 j ∧ D 139 j ≤ 127 ∧ B j = D 139 j % 256) (e9 : D 133 9 = L) :
    ∃ v w C' q' b' f' S' d', F_X9_readsText_L C = some (v, C') ∧ F_X12_readAll 0 D = some (w, stR (rS (useD D) S' d') q' b' f') ∧ FrD C C' ∧ (∀ i : Int, i < 1325 → f' i = D 134 i) ∧
      ((v = 0 ∧ w = -1 ∧ C' 1 3 = b') ∨ (v = 1 ∧ 0 ≤ w ∧ w ≤ 12 ∧ DL C' f' S' w)) := by
  have hN := fN
  have l4 := hB.2.1
  have l0 := hB.1
  have v := useD_v (D := D)
  have rtR : RT B L (useD D) := by
    refine ⟨by rw [v.2.2.2]; exact e9, ?_⟩
    rw [useD_ne (by decide)]
    exact rt
  obtain ⟨d0, ed0⟩ : ∃ d0, d0 = D 133 13 := ⟨_, rfl⟩
  have eR : pD (useD D) 133 16 0 = rS (useD D) 0 d0 := by
    unfold rS
    have : (pD (useD D) 133 16 0) 133 13 = d0 := by rw [pD_nj (by decide), useD_at (by decide) (by decide) (by decide) (by decide), ed0]
    rw [← this, pD_self]
  obtain ⟨R, eR2⟩ : ∃ R, R = rS (useD D) 0 d0 := ⟨_, rfl⟩
  have rtR2 : RT B L R := by rw [eR2]; exact rS_RT rtR 0 d0
  have R10 : R 133 10 = 0 := by rw [eR2, ← eR, pD_nj (by decide)]; exact v.2.2.1
  have R134 : R 134 = D 134 := by rw [eR2, ← eR, pD_ne (by decide), useD_ne (by decide)]
  obtain ⟨E, e1, e2, e3⟩ := c_step (D := pD C 1 4 0) (p := 0) hB (by rw [pD_ne (by decide)]; exact c2) (by rw [pD_nj (by decide)]; exact c1) (pD_eq _ _ _ _) (by omega) l0
  have fE : FrD C E := fun a h1 h2 => by rw [e3 a h1, pD_ne h1]
  have skr := sk_r (B := B) l0
  have tkr := tk_r B L (sk B L 0)
  have t0 := tk_0 (B := B) l0
  have sf := st_f R (sk B L 0) (sk B L 0) (R 134)
  have hR : F_X12_readAll 0 D = if sk B L 0 = L then some (0, stR R (sk B L 0) (sk B L 0) (R 134)) else F_X12_readAll_L28 0 fuelN 0 (stR R (sk B L 0) (sk B L 0) (R 134)) := by
    rw [F_X12_readAll, r_uses, bI_q, eR, ← eR2, r_blanks hB rtR2 R10 (by omega) l0, bI_q, st_0, sf.1, sf.2.2.2.2 11 (by decide) (by decide), rtR2.1, ck_p (by omega), ck_p (by omega)]
  have dlE : DL E (D 134) 0 0 := by
    refine ⟨by rw [e3 104 (by decide), pD_ne (by decide)]; exact h0.1, ⟨by rw [e3 104 (by decide), pD_ne (by decide)]; exact h0.2, by omega, fun i i0 i1 => by omega⟩, by rw [if_pos rfl], fun k k0 k1 => by omega⟩
  rw [F_X9_readsText_L, F_X8_rewind, e1, bI_q, bI_q, e2.2.2.2.1, ck_p (by omega), hR, R134]
  by_cases y : sk B L 0 = L
  · rw [if_pos (t0.mpr y), if_pos y]
    exact ⟨1, 0, E, _, _, D 134, 0, d0, rfl, by rw [← eR2], fE, fun i _ => rfl, Or.inr ⟨rfl, by omega, by omega, dlE⟩⟩
  · rw [if_neg (fun z => y (t0.mp z)), if_neg y, eR2]
    obtain ⟨v', w', C2, q2, b2, f2, S2, d2, i1, i2, i3, i4, i5⟩ := k_ltext_L (R := useD D) hB rtR 12 fuelN 0 (sk B L 0) (sk B L 0) 0 d0 (D 134) E (by omega) (by omega) (by omega) (by omega) skr.2 (by omega) (e2.sk l0) dlE (by rw [fE 103 (by decide) (by omega)]; exact e93)
    exact ⟨v', w', C2, q2, b2, f2, S2, d2, i1, i2, fE.tr i3, i4, i5⟩
end PXh
