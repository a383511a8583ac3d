/-! THE CLASS: weights, fades, spaces, whites -/
section PC2
variable {n : Int} {D : mD}
theorem c_lines (R : CW n D) : D 12 0 = if D 134 10 = 1 then D 134 475 else -1 := R.2.2.1.1
theorem c_line (R : CW n D) (h : D 134 10 = 1) {k : Int} (h0 : 0 ≤ k) (h1 : k < D 134 475) : D 13 k = D 134 (476 + 4 * k) ∧ D 14 k = D 134 (476 + 4 * k + 1) ∧ D 15 k = D 134 (476 + 4 * k + 3) ∧
    ∀ i, D 134 (476 + 4 * k + 2) ≤ i → i < D 134 (476 + 4 * k + 3) → D 16 i = cItem (D 134 (524 + 2 * i)) (D 134 (524 + 2 * i + 1)) := R.2.2.1.2 h k h0 h1
theorem c_sumOf_L (R : CW n D) (hw : D 134 10 = 1) {kind : Int} (hk : nR kind) {E : mD} (q : Qc D E) {f : Int → Int → Int} (hF : FactsR E f) (hf : FctOk f) :
    ∀ (m fuel : Nat) (k s : Int) (g : Int → Int), m < fuel → 0 ≤ k → k + m = D 134 475 →
      ∃ g', F_X0_sumOfLines_L4 kind fuel s k (sA E 24 g) = some (s + sumF (fun k => if D 134 (475 + 1 + 4 * k) = kind ∧ evLine (D 134) 475 f k = 1 then D 134 (475 + 1 + 4 * k + 1) else 0) k m, sA E 24 g') := by
  have hL := R.wi.law hw
  have hl := hL.2.1
  have e12 : D 12 0 = D 134 475 := by rw [c_lines R, if_pos hw]
  intro m
  induction m with
  | zero =>
    intro fuel k s g hfu hk0 hkm
    obtain ⟨j, rfl⟩ : ∃ j, fuel = j + 1 := ⟨fuel - 1, by omega⟩
    refine ⟨g, ?_⟩
    rw [F_X0_sumOfLines_L4, ck_p (by omega), sA_ne (by decide), q 12 (by omega), e12, ck_p (by omega), if_pos (by omega), sumF, Int.add_zero]
  | succ m ih =>
    intro fuel k s g hfu hk0 hkm
    obtain ⟨j, rfl⟩ : ∃ j, fuel = j + 1 := ⟨fuel - 1, by omega⟩
    obtain ⟨b1, b2, b3, b4, b5, b6, b7, b8⟩ := hL.2.2 k hk0 (by omega)
    rw [e475] at b1 b2 b3 b4 b5 b6 b7 b8
    rw [e475] at b7
    obtain ⟨d1, d2, d3, d4⟩ := c_line R hw hk0 (by omega)
    have e13 : (sA E 24 g) 13 k = D 134 (476 + 4 * k) := by rw [sA_ne (by decide), q 13 (by omega), d1]
    rw [F_X0_sumOfLines_L4, ck_p (by omega), show (sA E 24 g) 12 0 = D 134 475 by rw [sA_ne (by decide), q 12 (by omega), e12], ck_p (by omega), if_neg (by omega), ck_p (by omega), e13, ck_p (by omega), ck_p hk, sumF]
    simp only [e475]
    by_cases qk : D 134 (476 + 4 * k) = kind
    · rw [if_pos qk]
      have hb : F_X2_codeBegin 12 k (sA E 24 g) = some (D 134 (476 + 4 * k + 2), sA E 24 g) := by
        unfold F_X2_codeBegin
        rw [ck_p (by omega), ck_p (fun _ => by omega), b7]
        by_cases z : k = 0
        · rw [if_pos (by omega), if_pos z]
        · rw [if_neg (by omega), if_neg z, show (12 + 3 : Nat) = 15 from rfl, sA_ne (by decide), q 15 (by omega), (c_line R hw (k := k - 1) (by omega) (by omega)).2.2.1]
      have e15 : (sA E 24 g) 15 k = D 134 (476 + 4 * k + 3) := by rw [sA_ne (by decide), q 15 (by omega), d3]
      have hh : ∃ g', F_X0_holds (D 134 (476 + 4 * k + 2)) (D 134 (476 + 4 * k + 3)) (sA E 24 g) = some (evLine (D 134) 475 f k, sA E 24 g') := by
        unfold F_X0_holds evLine
        rw [e475]
        by_cases z : D 134 (476 + 4 * k + 2) = D 134 (476 + 4 * k + 3)
        · rw [if_pos z, z]
          refine ⟨g, ?_⟩
          obtain ⟨i, ei⟩ := fuel_big (n := 0) (by decide)
          rw [show fuelN = i + 1 by omega, F_X0_holds_L5, ck_p (by omega), ck_p (by omega), if_pos (Int.le_refl _), ck_p (by omega), ck_p (fun y => absurd (Int.le_refl _) y), if_pos (Int.le_refl _), ck_p (Or.inr rfl)]
        · rw [if_neg z]
          rcases b8 with b8 | b8
          · exact absurd b8 z
          · exact c_holds (D := E) hF hf (fr := D 134 (476 + 4 * k + 2)) (to := D 134 (476 + 4 * k + 3)) b4 (by omega) b6 (fun i i0 i1 => by rw [q 16 (by omega)]; exact d4 i i0 i1) (D 134 (476 + 4 * k + 3) - D 134 (476 + 4 * k + 2)).toNat fuelN (D 134 (476 + 4 * k + 2)) [] [] g (by unfold fuelN; omega) (by omega) (by omega) b8 trivial (by simp; omega) (by decide) trivial
      obtain ⟨g', hg'⟩ := hh
      rw [bI_e hb, e15, bI_e hg']
      rcases evLine_01 hf hL hk0 (by omega) with e | e
      · rw [e, ck_p (by decide), if_pos rfl, if_neg (by simp)]
        obtain ⟨f2, hf2⟩ := ih j (k + 1) s g' (by omega) (by omega) (by omega)
        refine ⟨f2, ?_⟩
        rw [hf2]
        simp only [e475]
        congr 2
        omega
      · rw [e, ck_p (by decide), if_neg (by decide), if_pos ⟨qk, rfl⟩, sA_ne (by decide), q 14 (by omega), d2]
        obtain ⟨f2, hf2⟩ := ih j (k + 1) (s + D 134 (476 + 4 * k + 1)) g' (by omega) (by omega) (by omega)
        refine ⟨f2, ?_⟩
        rw [hf2]
        simp only [e475]
        congr 2
        omega
    · rw [if_neg qk, if_neg (fun z => qk z.1)]
      obtain ⟨f2, hf2⟩ := ih j (k + 1) s g (by omega) (by omega) (by omega)
      refine ⟨f2, ?_⟩
      rw [hf2]
      simp only [e475]
      congr 2
      omega
theorem c_sumOf (R : CW n D) (hw : D 134 10 = 1) {kind : Int} (hk : nR kind) {E : mD} (q : Qc D E) {f : Int → Int → Int} (hF : FactsR E f) (hf : FctOk f) :
    ∃ g', F_X0_sumOfLines kind E = some (evSum (D 134) 475 kind f, sA E 24 g') := by
  have hL := R.wi.law hw
  have h1 := hL.1
  have h2 := hL.2.1
  obtain ⟨g, h⟩ := c_sumOf_L R hw hk q hF hf (D 134 475).toNat fuelN 0 0 (E 24) (by unfold fuelN; omega) (by omega) (by omega)
  rw [sA_id] at h
  refine ⟨g, ?_⟩
  unfold F_X0_sumOfLines
  rw [h, Int.zero_add]
  rfl
theorem c_sumOf0 (R : CW n D) (hw : D 134 10 = 0) {kind : Int} {E : mD} (q : Qc D E) : F_X0_sumOfLines kind E = some (0, E) := by
  have e12 : D 12 0 = -1 := by rw [c_lines R, if_neg (by omega)]
  unfold F_X0_sumOfLines
  obtain ⟨i, ei⟩ := fuel_big (n := 0) (by decide)
  rw [show fuelN = i + 1 by omega, F_X0_sumOfLines_L4, ck_p (by decide), q 12 (by omega), e12, ck_p (by decide), if_pos (by decide)]
theorem c_leftOf (R : CW n D) {E : mD} (q : Qc D E) {s r : Int} (h0 : 0 ≤ s) (h1 : s < D 134 0) (r0 : 0 ≤ r) (r1 : r < 5) : F_X6_leftOf 3 s r E = some (wS (D 134) s (2 + r), E) := by
  have hr := R.wi.r
  unfold Wr at hr
  unfold F_X6_leftOf
  rw [ck_p (by omega), show (3 + 3 : Nat) = 6 from rfl, q 6 (by omega), (R.sd h0 h1 r0 r1).1]
theorem c_rightOf (R : CW n D) {E : mD} (q : Qc D E) {s r : Int} (h0 : 0 ≤ s) (h1 : s < D 134 0) (r0 : 0 ≤ r) (r1 : r < 5) : F_X6_rightOf 3 s r E = some (wS (D 134) s (7 + r), E) := by
  have hr := R.wi.r
  unfold Wr at hr
  unfold F_X6_rightOf
  rw [ck_p (by omega), show (3 + 4 : Nat) = 7 from rfl, q 7 (by omega), (R.sd h0 h1 r0 r1).2]
theorem c_noteSort {E : mD} {s : Int} (h0 : 0 ≤ s) (h1 : s ≤ 3) : F_X0_noteSort s E = some (0, sA E 23 (fun j => if 1 ≤ s ∧ j = 5 + s then 1 else E 23 j)) := by
  unfold F_X0_noteSort
  rw [ck_p (by omega)]
  by_cases q : s ≤ 0
  · rw [if_pos q]
    congr 2
    have e : (fun j => if 1 ≤ s ∧ j = 5 + s then (1 : Int) else E 23 j) = E 23 := by
      funext j
      rw [if_neg (by omega)]
    rw [e, sA_id]
  · rw [if_neg q, ck_p (by omega)]
    congr 2
    unfold pD
    congr 1
    funext j
    unfold sI
    by_cases z : j = 6 + s - 1
    · rw [if_pos z, if_pos (by omega)]
    · rw [if_neg z, if_neg (by omega)]
theorem lt_sg {w : Int → Int} (H : Wi n w) {l : Int} (h0 : 0 ≤ l) (h1 : l < w 1) : 0 ≤ wL w l 0 ∧ wL w l 0 < w 0 := by
  have hl := H.lt h0 h1
  unfold LtOk at hl
  omega
theorem c_weightOf (R : CW n D) {E : mD} (q : Qc D E) {g d r : Int} (hg : 0 ≤ g ∧ g + 1 < D 134 1) (hd : 0 ≤ d ∧ d ≤ 30) (hr : 0 ≤ r ∧ r < 5) :
    ∃ E', F_X0_weightOf g r d E = some (wWeight (D 134) g d r, E') ∧ Qc D E' ∧ E' 25 = E 25 := by
  have H := R.wi
  have hrr := H.r
  unfold Wr at hrr
  have e12 := c_lines R
  unfold F_X0_weightOf wWeight
  rw [q 12 (by omega)]
  by_cases hw : D 134 10 = 0
  · rw [if_neg (show ¬ D 134 10 = 1 by omega)] at e12
    rw [if_pos hw, ck_p (by omega), if_pos e12]
    exact ⟨E, rfl, q, rfl⟩
  · have hL := H.law (show D 134 10 = 1 by omega)
    have hl1 := hL.1
    have hl2 := hL.2.1
    rw [if_pos (show D 134 10 = 1 by omega)] at e12
    have g1 := lt_sg H (l := g) (by omega) (by omega)
    have g2 := lt_sg H (l := g + 1) (by omega) (by omega)
    have s1 := wI0_r H (l := g) (by omega) (by omega)
    have s2 := wI0_r H (l := g + 1) (by omega) (by omega)
    rw [if_neg hw, ck_p (by omega), if_neg (by omega), ck_p (by omega), ck_p (by omega), q 8 (by omega), R.wd (l := g) (by omega) (by omega), R.wd (l := g + 1) (by omega) (by omega)]
    obtain ⟨E1, h1⟩ : ∃ E1, E1 = pD (pD (fillD E 23 9 0) 23 0 r) 23 1 d := ⟨_, rfl⟩
    have q1 : Qc D E1 := by rw [h1]; exact ((q.tr (Qc.puts (by decide))).tr (Qc.put (by decide))).tr (Qc.put (by decide))
    rw [← h1, bI_e (c_rightOf R q1 (s := wL (D 134) g 0) g1.1 g1.2 hr.1 hr.2)]
    obtain ⟨E2, h2⟩ : ∃ E2, E2 = pD E1 23 2 (wS (D 134) (wL (D 134) g 0) (7 + r)) := ⟨_, rfl⟩
    have q2 : Qc D E2 := by rw [h2]; exact q1.tr (Qc.put (by decide))
    rw [← h2, bI_e (c_leftOf R q2 (s := wL (D 134) (g + 1) 0) g2.1 g2.2 hr.1 hr.2)]
    obtain ⟨E3, h3⟩ : ∃ E3, E3 = pD E2 23 3 (wS (D 134) (wL (D 134) (g + 1) 0) (2 + r)) := ⟨_, rfl⟩
    have q3 : Qc D E3 := by rw [h3]; exact q2.tr (Qc.put (by decide))
    rw [← h3, ck_p (by omega), q3 4 (by omega), (R.sg g1.1 g1.2).1, show wS (D 134) (wL (D 134) g 0) 0 = wI (D 134) g 0 from rfl, bI_e (c_noteSort (E := E3) s1.1 s1.2), ck_p (by omega)]
    obtain ⟨E4, h4⟩ : ∃ E4, E4 = sA E3 23 (fun j => if 1 ≤ wI (D 134) g 0 ∧ j = 5 + wI (D 134) g 0 then 1 else E3 23 j) := ⟨_, rfl⟩
    have q4 : Qc D E4 := by rw [h4]; exact q3.tr (Qc.puts (by decide))
    rw [← h4, q4 4 (by omega), (R.sg g2.1 g2.2).1, show wS (D 134) (wL (D 134) (g + 1) 0) 0 = wI (D 134) (g + 1) 0 from rfl, bI_e (c_noteSort (E := E4) s2.1 s2.2)]
    obtain ⟨E5, h5⟩ : ∃ E5, E5 = sA E4 23 (fun j => if 1 ≤ wI (D 134) (g + 1) 0 ∧ j = 5 + wI (D 134) (g + 1) 0 then 1 else E4 23 j) := ⟨_, rfl⟩
    have q5 : Qc D E5 := by rw [h5]; exact q4.tr (Qc.puts (by decide))
    rw [← h5]
    have f25 : E5 25 = E 25 := by
      rw [h5, sA_ne (by decide), h4, sA_ne (by decide), h3, pD_ne (by decide), h2, pD_ne (by decide), h1, pD_ne (by decide), pD_ne (by decide)]
      unfold fillD
      rw [sA_ne (by decide)]
    have v : ∀ j : Int, E5 23 j = if 1 ≤ wI (D 134) (g + 1) 0 ∧ j = 5 + wI (D 134) (g + 1) 0 then 1 else if 1 ≤ wI (D 134) g 0 ∧ j = 5 + wI (D 134) g 0 then 1 else if j = 3 then wS (D 134) (wL (D 134) (g + 1) 0) (2 + r) else if j = 2 then wS (D 134) (wL (D 134) g 0) (7 + r) else if j = 1 then d else if j = 0 then r else if 0 ≤ j ∧ j < 9 then 0 else E 23 j := by
      intro j
      rw [h5, sA_eq, h4, sA_eq, h3, pD_at, h2, pD_at, h1, pD_at, pD_at]
      unfold fillD
      rw [sA_eq]
    have hF : FactsR E5 (fctW (D 134) g d 0 0 r) := by
      refine ⟨fun s a b k => ?_, fun k a b => ?_⟩
      · rw [v s, if_neg (by omega), if_neg (by omega)]
        unfold fctW wI
        by_cases z3 : s = 3
        · subst z3; simp [hg.1]
        by_cases z2 : s = 2
        · subst z2; simp [hg.1]
        by_cases z1 : s = 1
        · subst z1; simp [hg.1]
        by_cases z0 : s = 0
        · subst z0; simp [hg.1]
        rw [if_neg z3, if_neg z2, if_neg z1, if_neg z0, if_pos (by omega), if_neg z0, if_neg z1, if_neg z2, if_neg z3]
        by_cases z4 : s = 4
        · rw [if_pos z4]
        · rw [if_neg z4, if_pos (by omega)]
      · rw [v (5 + k)]
        unfold fctW
        simp only [if_neg (show ¬ (6 : Int) = 0 by decide), if_neg (show ¬ (6 : Int) = 1 by decide), if_neg (show ¬ (6 : Int) = 2 by decide), if_neg (show ¬ (6 : Int) = 3 by decide), if_neg (show ¬ (6 : Int) = 4 by decide), if_neg (show ¬ (6 : Int) = 5 by decide), if_true]
        by_cases z1 : wI (D 134) (g + 1) 0 = k
        · rw [if_pos (by omega), b01_t (by omega)]
        · rw [if_neg (by omega)]
          by_cases z2 : wI (D 134) g 0 = k
          · rw [if_pos (by omega), b01_t (by omega)]
          · rw [if_neg (by omega), if_neg (by omega), if_neg (by omega), if_neg (by omega), if_neg (by omega), if_pos (by omega), b01_f (by omega)]
    obtain ⟨g', hg'⟩ := c_sumOf R (by omega) (kind := 0) (by decide) q5 hF (fctW_ok H (Or.inr hg) hd (by omega) (by omega) hr)
    rw [bI_e hg']
    exact ⟨_, rfl, q5.tr (Qc.puts (by decide)), by rw [sA_ne (by decide)]; exact f25⟩
theorem c_fadingAt (R : CW n D) {E : mD} (q : Qc D E) {Y L : Int} (hY : 0 ≤ Y ∧ Y ≤ 60) (hL : 0 ≤ L ∧ L ≤ 60) : ∃ E', F_X0_fadingAt Y L E = some (wFades (D 134) Y L, E') ∧ Qc D E' ∧ E' 25 = E 25 := by
  have H := R.wi
  have hrr := H.r
  unfold Wr at hrr
  unfold F_X0_fadingAt wFades
  obtain ⟨E1, h1⟩ : ∃ E1, E1 = pD (pD (fillD E 23 9 0) 23 4 L) 23 5 Y := ⟨_, rfl⟩
  have q1 : Qc D E1 := by rw [h1]; exact ((q.tr (Qc.puts (by decide))).tr (Qc.put (by decide))).tr (Qc.put (by decide))
  have f25 : E1 25 = E 25 := by
    rw [h1, pD_ne (by decide), pD_ne (by decide)]
    unfold fillD
    rw [sA_ne (by decide)]
  rw [← h1]
  by_cases hw : D 134 10 = 0
  · rw [if_pos hw, bI_e (c_sumOf0 R hw q1)]
    exact ⟨E1, rfl, q1, f25⟩
  · have v : ∀ j : Int, E1 23 j = if j = 5 then Y else if j = 4 then L else if 0 ≤ j ∧ j < 9 then 0 else E 23 j := by
      intro j
      rw [h1, pD_at, pD_at]
      unfold fillD
      rw [sA_eq]
    have hF : FactsR E1 (fctW (D 134) (-1) 0 L Y 0) := by
      refine ⟨fun s a b k => ?_, fun k a b => ?_⟩
      · rw [v s]
        unfold fctW
        by_cases z5 : s = 5
        · subst z5; simp
        by_cases z4 : s = 4
        · subst z4; simp
        rw [if_neg z5, if_neg z4, if_pos (by omega)]
        by_cases z0 : s = 0
        · subst z0; simp
        by_cases z1 : s = 1
        · subst z1; simp
        by_cases z2 : s = 2
        · subst z2; simp
        have z3 : s = 3 := by omega
        subst z3; simp
      · rw [v (5 + k), if_neg (by omega), if_neg (by omega), if_pos (by omega)]
        unfold fctW
        simp only [if_neg (show ¬ (6 : Int) = 0 by decide), if_neg (show ¬ (6 : Int) = 1 by decide), if_neg (show ¬ (6 : Int) = 2 by decide), if_neg (show ¬ (6 : Int) = 3 by decide), if_neg (show ¬ (6 : Int) = 4 by decide), if_neg (show ¬ (6 : Int) = 5 by decide), if_true]
        rw [b01_f (by omega)]
    obtain ⟨g', hg'⟩ := c_sumOf R (by omega) (kind := 1) (by decide) q1 hF (fctW_ok H (Or.inl rfl) (by omega) hL hY (by omega))
    rw [if_neg hw, bI_e hg']
    exact ⟨_, rfl, q1.tr (Qc.puts (by decide)), by rw [sA_ne (by decide)]; exact f25⟩
theorem c_spaceOf (R : CW n D) {E : mD} (q : Qc D E) {g d r sh : Int} (hg : 0 ≤ g ∧ g + 1 < D 134 1) (hd : 0 ≤ d ∧ d ≤ 30) (hr : 0 ≤ r ∧ r < 5) (hs : 0 ≤ sh ∧ sh ≤ 9) : F_X0_spaceOf g r d sh E = some (wSpace (D 134) sh g d r, E) := by
  have H := R.wi
  have hrr := H.r
  unfold Wr at hrr
  have g1 := lt_sg H (l := g) (by omega) (by omega)
  have g2 := lt_sg H (l := g + 1) (by omega) (by omega)
  have h1 := wIr H (l := g) hg.1 (by omega) hr
  have h2 := wIr H (l := g + 1) (by omega) hg.2 hr
  have e8 : E 8 = D 8 := q 8 (by omega)
  have e3 : E 3 = D 3 := q 3 (by omega)
  unfold F_X0_spaceOf wSpace
  unfold wI at h1 h2 ⊢
  rw [ck_p (by omega), ck_p (by omega), e8, R.wd (l := g) (by omega) (by omega), bI_e (c_rightOf R q g1.1 g1.2 hr.1 hr.2), ck_p (by omega), e8, R.wd (l := g + 1) (by omega) (by omega), bI_e (c_leftOf R q g2.1 g2.2 hr.1 hr.2), e3, R.shop.2.2.2.2.1, ck_p (by omega), ck_p (by omega)]
  congr 3
  omega
theorem c_whiteOf_L (R : CW n D) {E : mD} (qE : Qc D E) {g d x : Int} (hg : 0 ≤ g ∧ g + 1 < D 134 1) (hd : 0 ≤ d ∧ d ≤ 30) (hx : 0 ≤ x ∧ x < 403) : ∀ (m fuel : Nat) (k s : Int) (F : mD), m < fuel → 0 ≤ k → k + m = 5 → Qc D F → F 25 = E 25 →
    ∃ F' v, F_X0_whiteOf_L23 g d x fuel s k F = some (v, pD F' 25 x v) ∧ v = s + sumF (fun r => wSpace (D 134) (D 134 5) g d r * wWeight (D 134) g d r) k m ∧ Qc D F' ∧ F' 25 = E 25 := by
  have hrr := R.wi.r
  unfold Wr at hrr
  intro m
  induction m with
  | zero =>
    intro fuel k s F hfu hk0 hkm qF e25
    obtain ⟨j, rfl⟩ : ∃ j, fuel = j + 1 := ⟨fuel - 1, by omega⟩
    refine ⟨F, s, ?_, by rw [sumF, Int.add_zero], qF, e25⟩
    rw [F_X0_whiteOf_L23, ck_p (by omega), if_pos (by omega), ck_p hx, pD_eq]
  | succ m ih =>
    intro fuel k s F hfu hk0 hkm qF e25
    obtain ⟨j, rfl⟩ : ∃ j, fuel = j + 1 := ⟨fuel - 1, by omega⟩
    have e17 : F 17 5 = D 134 5 := by rw [qF 17 (by omega)]; exact R.2.2.2.1
    obtain ⟨F2, h2, q2, f2⟩ := c_weightOf R qF (g := g) (d := d) (r := k) hg hd (by omega)
    obtain ⟨F', v, h3, hv, q3, f3⟩ := ih j (k + 1) (s + wSpace (D 134) (D 134 5) g d k * wWeight (D 134) g d k) F2 (by omega) (by omega) (by omega) q2 (f2.trans e25)
    refine ⟨F', v, ?_, ?_, q3, f3⟩
    · rw [F_X0_whiteOf_L23, ck_p (by omega), if_neg (by omega), e17, bI_e (c_spaceOf R qF hg hd (by omega) (by omega)), bI_e h2, h3]
    · rw [hv, sumF]
      omega
theorem c_whiteOf (R : CW n D) {g d : Int} (hg : 0 ≤ g ∧ g + 1 < D 134 1) (hd : 0 ≤ d ∧ d ≤ 30) : ∃ D', F_X0_whiteOf g d D = some (wWhite (D 134) g d, D') ∧ Qc D D' ∧ CW n D' := by
  have hrr := R.wi.r
  unfold Wr at hrr
  have hw := wWhite_r R.wi hg hd
  have hc := R.2.2.2.2 g d hg.1 hg.2 hd.1 hd.2
  unfold F_X0_whiteOf
  rw [ck_p (by omega), ck_p (by omega)]
  by_cases q : D 25 (g * 31 + d) = -1
  · rw [if_pos q]
    obtain ⟨F', v, h, hv, q2, f2⟩ := c_whiteOf_L R Qc.rf hg hd (x := g * 31 + d) (by omega) 5 fuelN 0 0 D (by unfold fuelN; omega) (by omega) (by omega) Qc.rf rfl
    have ev : v = wWhite (D 134) g d := by rw [hv, Int.zero_add]; rfl
    rw [h, ev]
    have q3 : Qc D (pD F' 25 (g * 31 + d) (wWhite (D 134) g d)) := q2.tr (Qc.put (by decide))
    refine ⟨_, rfl, q3, R.go q3 ?_⟩
    intro g' d' a1 a2 a3 a4
    rw [q3.w] at a2 ⊢
    rw [pD_at]
    by_cases z : g' * 31 + d' = g * 31 + d
    · rw [if_pos z]
      have eg : g' = g := by omega
      have ed : d' = d := by omega
      rw [eg, ed]
      exact Or.inr rfl
    · rw [if_neg z, f2]
      exact R.2.2.2.2 g' d' a1 a2 a3 a4
  · rw [if_neg q]
    rcases hc with hc | hc
    · exact absurd hc q
    · rw [hc]
      exact ⟨D, rfl, Qc.rf, R⟩
theorem c_whiteCR (R : CR n D) {g d : Int} (hg : 0 ≤ g ∧ g + 1 < D 134 1) (hd : 0 ≤ d ∧ d ≤ 30) : ∃ D', F_X0_whiteOf g d D = some (wWhite (D 134) g d, D') ∧ Qc D D' ∧ CR n D' := by
  obtain ⟨D', h, q, R'⟩ := c_whiteOf R.cw hg hd
  exact ⟨D', h, q, R.go q R'.2.2.2.2⟩
end PC2
