/-! LINES of the shop: signs, whole -/
section PW7
variable {n : Int} {B W0 f f0 g : Int → Int} {L p q b s : Int} {C D E R : mD}
theorem k_sides {W : Int} (hB : CB B L) (rt : RT B L R) (p0 : 0 ≤ p) (p1 : p ≤ L) (s0 : 0 ≤ s) (s1 : s < 12) (hW : 2 ≤ W ∧ W ≤ 12) (c : CT B L p E) (eW : E 96 s = W) (f0e : f 0 = s) (fW : wS f s 1 = W) (b : Int) :
    ∃ v E' q' b' g, F_X7_readsSides s E = some (v, E') ∧ (bI (F_X12_readRows 60 ((15 + (12 * s)) + 2) (stR R p b f)) fun v5 D5 =>
        ck (nR v5) <|
        if v5 = 0 then
          some (0, D5)
        else
          bI (F_X12_readRows 61 ((15 + (12 * s)) + 7) D5) fun v6 D6 =>
          ck (nR v6) <|
          if v6 = 0 then
            some (0, D6)
          else
            F_X12_readSign_L107 s fuelN 0 D6) = some (v, stR R q' b' (if v = 1 then sI g 0 (s + 1) else g)) ∧ (∀ a : Nat, a ≠ 1 → a ≠ 97 → a ≠ 98 → E' a = E a) ∧ (∀ i : Int, i < 5 * s → E' 97 i = E 97 i ∧ E' 98 i = E 98 i) ∧ (∀ i : Int, ¬ (17 + 12 * s ≤ i ∧ i < 27 + 12 * s) → g i = f i) ∧
      ((v = 0 ∧ E' 1 3 = b') ∨ (v = 1 ∧ 0 ≤ q' ∧ q' ≤ L ∧ CT B L q' E' ∧ ∀ r, 0 ≤ r → r < 5 → E' 97 (s * 5 + r) = wS g s (2 + r) ∧ E' 98 (s * 5 + r) = wS g s (7 + r) ∧ 0 ≤ wS g s (2 + r) ∧ wS g s (2 + r) ≤ 9 ∧ 0 ≤ wS g s (7 + r) ∧ wS g s (7 + r) ≤ 9 ∧ wS g s (2 + r) + wS g s (7 + r) < W)) := by
  have hN := fN
  have w4 := wd_r (B := B) p1
  obtain ⟨E1, t1, t2, t3, t4⟩ := c_takesWord hB c p0 p1 (i := 21) (by decide)
  have rr := r_rows (f := f) hB rt p0 p1 (i := 60) (by decide) (x := 15 + 12 * s + 2) (by omega) (by omega) p b rfl
  rw [tx_eq.1.2.2.2.2.2.2.1] at rr
  rw [F_X7_readsSides, t1, bI_q]
  rcases rr with ⟨u1, u2⟩ | ⟨u1, u2, u3⟩ | ⟨u1, u2, g, u3, u4, u5⟩
  · rw [u1, bi_f, ck_p (by decide), if_pos rfl, u2, bI_q, ck_p (by decide), if_pos rfl]
    have ee := t3 u1
    exact ⟨0, E1, _, _, f, rfl, rfl, fun a h1 _ _ => t2 a h1, fun i _ => ⟨by rw [ee], by rw [ee]⟩, fun _ _ => rfl, Or.inl ⟨rfl, by rw [ee]; exact c.skp⟩⟩
  · have iw := isW_yes (tx_ok 21 (by decide) (by decide)).1 u1
    have c5 := t4 u1
    rw [iw.2.1] at c5
    rw [u1, bi_t, ck_p (by decide), if_neg (by decide), c_isFigures hB c5 (by omega) w4.2.2, bI_q, u2, bi_f, ck_p (by decide), if_pos rfl, u3, bI_q, ck_p (by decide), if_pos rfl]
    exact ⟨0, E1, _, _, f, rfl, rfl, fun a h1 _ _ => t2 a h1, fun i _ => ⟨by rw [t2 97 (by decide)], by rw [t2 98 (by decide)]⟩, fun _ _ => rfl, Or.inl ⟨rfl, c5.skp⟩⟩
  · have iw := isW_yes (tx_ok 21 (by decide) (by decide)).1 u1
    have c5 := t4 u1
    rw [iw.2.1] at c5
    obtain ⟨E2, x1, x2, x3, x4⟩ := c_figs hB (by omega) w4.2.2 u2 s0 s1 5 fuelN 0 E1 (by omega) (by omega) (by omega) c5
    have n5 := nd_r (B := B) (p := wd B L p) w4.2.2
    have tk5 := fig5_tk u2
    obtain ⟨E3, y1, y2, y3⟩ := c_stepT (p := wd B L p) (D := E2) hB (c5.go (x2 1 (by decide)) (x2 2 (by decide))) (by omega) w4.2.2
    change CT B L (nx B L (wd B L p)) E3 at y2
    rw [tk5.2] at y2
    obtain ⟨E4, z1, z2, z3, z4⟩ := c_takesWord hB y2 (by omega) n5.2.2 (i := 22) (by decide)
    obtain ⟨P, eP⟩ : ∃ P, P = nd B L (wd B L p) := ⟨_, rfl⟩
    rw [← eP] at y2 z1 z3 z4 n5 u3
    have w6 := wd_r (B := B) n5.2.2
    have rr := r_rows (f := g) hB rt (by omega) n5.2.2 (i := 61) (by decide) (x := 15 + 12 * s + 7) (by omega) (by omega) P (sk B L (wd B L p)) rfl
    rw [tx_eq.1.2.2.2.2.2.2.2.1] at rr
    have ge : ∀ i : Int, ¬ (17 + 12 * s ≤ i ∧ i < 27 + 12 * s) → g i = f i := fun i hi => u4 i (by omega)
    have cE4 : ∀ a : Nat, a ≠ 1 → a ≠ 97 → a ≠ 98 → E4 a = E a := fun a h1 h2 h3 => by rw [z2 a h1, y3 a h1, x2 a h2, t2 a h1]
    have cE5 : ∀ i : Int, i < 5 * s → E4 97 i = E 97 i ∧ E4 98 i = E 98 i := fun i hi => ⟨by rw [z2 97 (by decide), y3 97 (by decide), x3 i (by omega), t2 97 (by decide)], by rw [z2 98 (by decide), y3 98 (by decide), x2 98 (by decide), t2 98 (by decide)]⟩
    rw [u1, bi_t, ck_p (by decide), if_neg (by decide), c_isFigures hB c5 (by omega) w4.2.2, bI_q, u2, bi_t, ck_p (by decide), if_neg (by decide), x1, y1, bI_q, u3, bI_q, ck_p (by decide), if_neg (by decide), z1, bI_q]
    rcases rr with ⟨v1, v2⟩ | ⟨v1, v2, v3⟩ | ⟨v1, v2, h, v3, v4, v5⟩
    · rw [v1, bi_f, ck_p (by decide), if_pos rfl, v2, bI_q, ck_p (by decide), if_pos rfl]
      exact ⟨0, E4, _, _, g, rfl, rfl, cE4, cE5, ge, Or.inl ⟨rfl, by rw [z3 v1]; exact y2.skp⟩⟩
    · have iw2 := isW_yes (tx_ok 22 (by decide) (by decide)).1 v1
      have c7 := z4 v1
      rw [iw2.2.1] at c7
      rw [v1, bi_t, ck_p (by decide), if_neg (by decide), c_isFigures hB c7 (by omega) w6.2.2, bI_q, v2, bi_f, ck_p (by decide), if_pos rfl, v3, bI_q, ck_p (by decide), if_pos rfl]
      exact ⟨0, E4, _, _, g, rfl, rfl, cE4, cE5, ge, Or.inl ⟨rfl, c7.skp⟩⟩
    · have iw2 := isW_yes (tx_ok 22 (by decide) (by decide)).1 v1
      have c7 := z4 v1
      rw [iw2.2.1] at c7
      have n7 := nd_r (B := B) (p := wd B L P) w6.2.2
      have tk7 := fig5_tk v2
      have lf : ∀ r, 0 ≤ r → r < 5 → wS h s (2 + r) = B (sk B L (wd B L p) + r) - 48 ∧ wS h s (7 + r) = B (sk B L (wd B L P) + r) - 48 := fun r r0 r1 => by
        unfold wS
        exact ⟨by rw [v4 _ (by omega), show 15 + 12 * s + (2 + r) = 15 + 12 * s + 2 + r by omega, u5 r r0 r1], by rw [show 15 + 12 * s + (7 + r) = 15 + 12 * s + 7 + r by omega, v5 r r0 r1]⟩
      have he : ∀ i : Int, ¬ (17 + 12 * s ≤ i ∧ i < 27 + 12 * s) → h i = f i := fun i hi => by rw [v4 i (by omega), ge i hi]
      obtain ⟨v, E', k1, k2, k3, k4, k5⟩ := k_sums (R := R) (q := nd B L (wd B L P)) (b := sk B L (wd B L P)) (f := h) (lf := fun r => B (sk B L (wd B L p) + r) - 48) (rf := fun r => B (sk B L (wd B L P) + r) - 48) (W := W) hB (by omega) w6.2.2 v2 s0 s1 hW (fun r r0 r1 => by have := fig5_in u2 r0 r1; omega) (fun r _ _ => rfl) (by rw [he 0 (by omega)]; exact f0e) (by unfold wS at fW ⊢; rw [he _ (by omega)]; exact fW) (fun r r0 r1 => lf r r0 r1) 5 fuelN 0 E4 (by omega) (by omega) (by omega) c7 (by rw [cE4 96 (by decide) (by decide) (by decide)]; exact eW) (fun r r0 r1 => by rw [z2 97 (by decide), y3 97 (by decide)]; exact x4 r r0 r1)
      rw [v1, bi_t, ck_p (by decide), if_neg (by decide), c_isFigures hB c7 (by omega) w6.2.2, bI_q, v2, bi_t, ck_p (by decide), if_neg (by decide), v3, bI_q, ck_p (by decide), if_neg (by decide), k1, k2]
      refine ⟨v, E', _, _, h, rfl, rfl, fun a h1 h2 h3 => by rw [k3 a h1 h3, cE4 a h1 h2 h3], fun i hi => ⟨by rw [k3 97 (by decide) (by decide), (cE5 i hi).1], by rw [k4 i (by omega), (cE5 i hi).2]⟩, he, ?_⟩
      rcases k5 with ⟨m1, m2⟩ | ⟨m1, m2, m3⟩
      · exact Or.inl ⟨m1, by rw [m2]; exact c7.skp⟩
      · rw [tk7.2] at m2
        refine Or.inr ⟨m1, by omega, n7.2.2, m2, fun r r0 r1 => ?_⟩
        have a1 := lf r r0 r1
        have a2 := m3 r r0 r1
        have a3 := fig5_in u2 r0 r1
        have a4 := fig5_in v2 r0 r1
        have a5 := x4 r r0 r1
        rw [k3 97 (by decide) (by decide), z2 97 (by decide), y3 97 (by decide), a5, a2.2, a1.1, a1.2]
        omega
/-- a sort's number -/
def sortV (B : Int → Int) (L p : Int) : Int := if isW B L (sTx 16) p = true then 0 else if isW B L (sTx 17) p = true then 1 else if isW B L (sTx 18) p = true then 2 else if isW B L (sTx 19) p = true then 3 else -1
theorem sortV_r (B : Int → Int) (L p : Int) : -1 ≤ sortV B L p ∧ sortV B L p ≤ 3 ∧ (0 ≤ sortV B L p → nx B L p = wd B L p) := by
  have t16 := fun h => (isW_yes (B := B) (L := L) (p := p) (tx_ok 16 (by decide) (by decide)).1 h).2.1
  have t17 := fun h => (isW_yes (B := B) (L := L) (p := p) (tx_ok 17 (by decide) (by decide)).1 h).2.1
  have t18 := fun h => (isW_yes (B := B) (L := L) (p := p) (tx_ok 18 (by decide) (by decide)).1 h).2.1
  have t19 := fun h => (isW_yes (B := B) (L := L) (p := p) (tx_ok 19 (by decide) (by decide)).1 h).2.1
  unfold sortV
  by_cases h1 : isW B L (sTx 16) p = true
  · rw [if_pos h1]; exact ⟨by omega, by omega, fun _ => t16 h1⟩
  · rw [if_neg h1]
    by_cases h2 : isW B L (sTx 17) p = true
    · rw [if_pos h2]; exact ⟨by omega, by omega, fun _ => t17 h2⟩
    · rw [if_neg h2]
      by_cases h3 : isW B L (sTx 18) p = true
      · rw [if_pos h3]; exact ⟨by omega, by omega, fun _ => t18 h3⟩
      · rw [if_neg h3]
        by_cases h4 : isW B L (sTx 19) p = true
        · rw [if_pos h4]; exact ⟨by omega, by omega, fun _ => t19 h4⟩
        · rw [if_neg h4]; exact ⟨by omega, by omega, fun z => by omega⟩
theorem c_sort (hB : CB B L) (c : CT B L p D) (p0 : 0 ≤ p) (p1 : p ≤ L) : F_X7_sortHere D = some (sortV B L p, D) := by
  unfold sortV
  rw [F_X7_sortHere, c_isWord hB c p0 p1 (by decide), bI_q]
  cases h1 : isW B L (sTx 16) p with
  | true => rw [bi_t, ck_p (by decide), if_neg (by decide), if_pos rfl]
  | false =>
    rw [bi_f, ck_p (by decide), if_pos rfl, c_isWord hB c p0 p1 (by decide), bI_q, if_neg Bool.false_ne_true]
    cases h2 : isW B L (sTx 17) p with
    | true => rw [bi_t, ck_p (by decide), if_neg (by decide), if_pos rfl]
    | false =>
      rw [bi_f, ck_p (by decide), if_pos rfl, c_isWord hB c p0 p1 (by decide), bI_q, if_neg Bool.false_ne_true]
      cases h3 : isW B L (sTx 18) p with
      | true => rw [bi_t, ck_p (by decide), if_neg (by decide), if_pos rfl]
      | false =>
        rw [bi_f, ck_p (by decide), if_pos rfl, c_isWord hB c p0 p1 (by decide), bI_q, if_neg Bool.false_ne_true]
        cases h4 : isW B L (sTx 19) p with
        | true => rw [bi_t, ck_p (by decide), if_neg (by decide), if_pos rfl]
        | false => rw [bi_f, ck_p (by decide), if_pos rfl, if_neg Bool.false_ne_true]
theorem r_sort (hB : CB B L) (rt : RT B L R) (p0 : 0 ≤ p) (p1 : p ≤ L) : F_X12_sortTold (stR R (wd B L p) (sk B L p) f) = some (sortV B L p, stR R (wd B L p) (sk B L p) f) := by
  unfold sortV
  rw [F_X12_sortTold, st_word hB rt p0 p1 (by decide), bI_q, tx_eq.1.2.1]
  cases h1 : isW B L (sTx 16) p with
  | true => rw [bi_t, ck_p (by decide), if_neg (by decide), if_pos rfl]
  | false =>
    rw [bi_f, ck_p (by decide), if_pos rfl, st_word hB rt p0 p1 (by decide), bI_q, if_neg Bool.false_ne_true, tx_eq.1.2.2.1]
    cases h2 : isW B L (sTx 17) p with
    | true => rw [bi_t, ck_p (by decide), if_neg (by decide), if_pos rfl]
    | false =>
      rw [bi_f, ck_p (by decide), if_pos rfl, st_word hB rt p0 p1 (by decide), bI_q, if_neg Bool.false_ne_true, tx_eq.1.2.2.2.1]
      cases h3 : isW B L (sTx 18) p with
      | true => rw [bi_t, ck_p (by decide), if_neg (by decide), if_pos rfl]
      | false =>
        rw [bi_f, ck_p (by decide), if_pos rfl, st_word hB rt p0 p1 (by decide), bI_q, if_neg Bool.false_ne_true, tx_eq.1.2.2.2.2.1]
        cases h4 : isW B L (sTx 19) p with
        | true => rw [bi_t, ck_p (by decide), if_neg (by decide), if_pos rfl]
        | false => rw [bi_f, ck_p (by decide), if_pos rfl, if_neg Bool.false_ne_true]
end PW7
