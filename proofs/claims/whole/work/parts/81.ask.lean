/-! QUESTIONS: signs, letters, gaps, rows, fading -/
section PA1
variable {n : Int} {D : mD}
theorem q_sign (R : CR n D) {x y : Int} (hx : nR x) (hy : nR y) : Ans n D [2, 4] (F_X11_sign x y) (F_X12_sign x y) := by
  have hr := R.wi.ra
  have hz : ∀ E, F_X12_sign x y E = F_X12_sign x y (pD E 133 0 0) := (fun E => by simp only [F_X12_sign, pD_pD])
  by_cases a : 0 ≤ x ∧ x ≤ D 134 0 - 1
  · have sg := R.sg (s := x) (by omega) (by omega)
    by_cases b : 0 ≤ y ∧ y ≤ 2
    · obtain b | b | b : y = 0 ∨ y = 1 ∨ y = 2 := by omega
      · subst b
        refine Ans.ok (v := wS (D 134) x 0) (by simp (disch := omega) only [F_X11_sign, n_sign_t R hx a, sg.1, bI_s, bX_s, bX_t, t_0, t_1, in_t, in_f, ck_p, if_pos, if_neg, if_true]) (Ke.rf R) hz ?_
        intro G e z
        have H : Wi n (G 134) := by rw [e]; exact R.wi
        rw [← e] at a hr ⊢
        exact ⟨G, by simp (disch := omega) only [F_X12_sign, F_X12_sign_j33, z, noSign_t H hx a, e_ofSign, bI_s, bX_s, bX_t, t_0, t_1, in_t, in_f, ck_p, if_pos, if_neg, if_true], Qw.rf⟩
      · subst b
        refine Ans.ok (v := wS (D 134) x 1) (by simp (disch := omega) only [F_X11_sign, n_sign_t R hx a, sg.2, bI_s, bX_s, bX_t, t_0, t_1, in_t, in_f, ck_p, if_pos, if_neg, if_true]) (Ke.rf R) hz ?_
        intro G e z
        have H : Wi n (G 134) := by rw [e]; exact R.wi
        rw [← e] at a hr ⊢
        exact ⟨G, by simp (disch := omega) only [F_X12_sign, F_X12_sign_j33, z, noSign_t H hx a, e_ofSign, bI_s, bX_s, bX_t, t_0, t_1, in_t, in_f, ck_p, if_pos, if_neg, if_true], Qw.rf⟩
      · subst b
        refine Ans.ok (v := wInk (D 134) x) (by simp (disch := omega) only [F_X11_sign, n_sign_t R hx a, c_inkOf R, bI_s, bX_s, bX_t, t_0, t_1, in_t, in_f, ck_p, if_pos, if_neg, if_true]) (Ke.rf R) hz ?_
        intro G e z
        have H : Wi n (G 134) := by rw [e]; exact R.wi
        rw [← e] at a hr ⊢
        exact ⟨G, by simp (disch := omega) only [F_X12_sign, F_X12_sign_j33, z, noSign_t H hx a, r_inkOf H, bI_s, bX_s, bX_t, t_0, t_1, in_t, in_f, ck_p, if_pos, if_neg, if_true], Qw.rf⟩
    · refine Ans.no 1 rfl (i := 4) (by simp (disch := omega) only [F_X11_sign, n_sign_t R hx a, bI_s, bX_s, bX_t, t_0, t_1, in_t, in_f, ck_p, if_pos, if_neg, if_true]) (Ke.rf R) hz ?_
      intro G e z
      have H : Wi n (G 134) := by rw [e]; exact R.wi
      rw [← e] at a
      exact ⟨0, G, by simp (disch := omega) only [F_X12_sign, F_X12_sign_j33, z, noSign_t H hx a, bI_s, bX_s, bX_t, t_0, t_1, in_t, in_f, ck_p, if_pos, if_neg, if_true]; rfl, Qw.rf⟩
  · refine Ans.no 0 rfl (i := 2) (by simp (disch := omega) only [F_X11_sign, n_sign_f R hx a, bI_s, bX_s, bX_t, t_0, t_1, in_t, in_f, ck_p, if_pos, if_neg, if_true]) (Ke.rf R) hz ?_
    intro G e z
    have H : Wi n (G 134) := by rw [e]; exact R.wi
    rw [← e] at a
    exact ⟨0, G, by simp (disch := omega) only [F_X12_sign, z, noSign_f H hx a, bI_s, bX_s, bX_t, t_0, t_1, in_t, in_f, ck_p, if_pos, if_neg, if_true]; rfl, Qw.rf⟩
theorem lr_S {E : mD} (R : CR n D) (q : Qc D E) {s r : Int} (s0 : 0 ≤ s) (s1 : s < D 134 0) (r0 : 0 ≤ r) (r1 : r < 5) : F_X6_leftOf 3 s r E = some (wS (D 134) s (2 + r), E) ∧ F_X6_rightOf 3 s r E = some (wS (D 134) s (7 + r), E) :=
  ⟨c_leftOf R.cw q s0 s1 r0 r1, c_rightOf R.cw q s0 s1 r0 r1⟩
theorem q_side (R : CR n D) {x y b : Int} (hx : nR x) (hy : nR y) (hb : b = 0 ∨ b = 1) : Ans n D [2] (F_X11_side x y b) (F_X12_side x y b) := by
  have hr := R.wi.ra
  have hz : ∀ E, F_X12_side x y b E = F_X12_side x y b (pD E 133 0 0) := (fun E => by simp only [F_X12_side, pD_pD])
  by_cases a : 0 ≤ x ∧ x ≤ D 134 0 - 1
  · by_cases c : 0 ≤ y ∧ y ≤ 4
    · have lr := lr_S R Qc.rf (s := x) (r := y) (by omega) (by omega) (by omega) (by omega)
      refine Ans.ok (v := wS (D 134) x ((if b = 0 then 2 else 7) + y)) ?_ (Ke.rf R) hz ?_
      · obtain rfl | rfl := hb
        · simp (disch := omega) only [F_X11_side, n_sign_t R hx a, n_row_t hy c, lr.1, lr.2, bI_s, bX_s, bX_t, t_0, t_1, in_t, in_f, ck_p, if_pos, if_neg, if_true]
        · simp (disch := omega) only [F_X11_side, n_sign_t R hx a, n_row_t hy c, lr.1, lr.2, bI_s, bX_s, bX_t, t_0, t_1, in_t, in_f, ck_p, if_pos, if_neg, if_true]
      · intro G e z
        have H : Wi n (G 134) := by rw [e]; exact R.wi
        rw [← e] at a hr ⊢
        refine ⟨G, ?_, Qw.rf⟩
        obtain rfl | rfl := hb
        · simp (disch := omega) only [F_X12_side, F_X12_side_j28, F_X12_side_j51, z, noSign_t H hx a, e_ofSign, bI_s, bX_s, bX_t, t_0, t_1, in_t, in_f, ck_p, if_pos, if_neg, if_true]
        · simp (disch := omega) only [F_X12_side, F_X12_side_j28, F_X12_side_j51, z, noSign_t H hx a, e_ofSign, bI_s, bX_s, bX_t, t_0, t_1, in_t, in_f, ck_p, if_pos, if_neg, if_true]
    · refine Ans.no 0 rfl (i := 2) (by simp (disch := omega) only [F_X11_side, n_sign_t R hx a, n_row_f hy c, bI_s, bX_s, bX_t, t_0, t_1, in_t, in_f, ck_p, if_pos, if_neg, if_true]) (Ke.rf R) hz ?_
      intro G e z
      have H : Wi n (G 134) := by rw [e]; exact R.wi
      rw [← e] at a
      exact ⟨0, G, by simp (disch := omega) only [F_X12_side, F_X12_side_j28, z, noSign_t H hx a, bI_s, bX_s, bX_t, t_0, t_1, in_t, in_f, ck_p, if_pos, if_neg, if_true]; rfl, Qw.rf⟩
  · refine Ans.no 0 rfl (i := 2) (by simp (disch := omega) only [F_X11_side, n_sign_f R hx a, bI_s, bX_s, bX_t, t_0, t_1, in_t, in_f, ck_p, if_pos, if_neg, if_true]) (Ke.rf R) hz ?_
    intro G e z
    have H : Wi n (G 134) := by rw [e]; exact R.wi
    rw [← e] at a
    exact ⟨0, G, by simp (disch := omega) only [F_X12_side, F_X12_side_j23, F_X12_side_j28, z, noSign_f H hx a, bI_s, bX_s, bX_t, t_0, t_1, in_t, in_f, ck_p, if_pos, if_neg, if_true]; rfl, Qw.rf⟩
theorem q_letter (R : CR n D) {x y : Int} (hx : nR x) (hy : nR y) : Ans n D [2, 4] (F_X11_letter x y) (F_X12_letter x y) := by
  have hr := R.wi.ra
  have hz : ∀ E, F_X12_letter x y E = F_X12_letter x y (pD E 133 0 0) := (fun E => by simp only [F_X12_letter, pD_pD])
  by_cases a : 0 ≤ x ∧ x ≤ D 134 1 - 1
  · have sq := R.sq (l := x) (by omega) (by omega)
    have wd := R.wd (l := x) (by omega) (by omega)
    by_cases b : 0 ≤ y ∧ y ≤ 4
    · refine Ans.ok (v := if y = 0 then wL (D 134) x 0 else if y = 1 then wL (D 134) x 1 else if y = 2 then wWid (D 134) x else if y = 3 then wBeg (D 134) x else wL (D 134) x 2) ?_ (Ke.rf R) hz ?_
      · obtain b | b | b | b | b : y = 0 ∨ y = 1 ∨ y = 2 ∨ y = 3 ∨ y = 4 := by omega
        · subst b; simp (disch := omega) only [F_X11_letter, n_letter_t R hx a, wd, bI_s, bX_s, bX_t, t_0, t_1, in_t, in_f, ck_p, if_pos, if_neg, if_true]
        · subst b; simp (disch := omega) only [F_X11_letter, n_letter_t R hx a, sq.1, bI_s, bX_s, bX_t, t_0, t_1, in_t, in_f, ck_p, if_pos, if_neg, if_true]
        · subst b; simp (disch := omega) only [F_X11_letter, n_letter_t R hx a, c_widthOf R, bI_s, bX_s, bX_t, t_0, t_1, in_t, in_f, ck_p, if_pos, if_neg, if_true]
        · subst b; simp (disch := omega) only [F_X11_letter, n_letter_t R hx a, c_beginOf R, bI_s, bX_s, bX_t, t_0, t_1, in_t, in_f, ck_p, if_pos, if_neg, if_true]
        · subst b; simp (disch := omega) only [F_X11_letter, n_letter_t R hx a, sq.2, bI_s, bX_s, bX_t, t_0, t_1, in_t, in_f, ck_p, if_pos, if_neg, if_true]
      · intro G e z
        have H : Wi n (G 134) := by rw [e]; exact R.wi
        rw [← e] at a hr ⊢
        refine ⟨G, ?_, Qw.rf⟩
        obtain b | b | b | b | b : y = 0 ∨ y = 1 ∨ y = 2 ∨ y = 3 ∨ y = 4 := by omega
        · subst b; simp (disch := omega) only [F_X12_letter, F_X12_letter_j33, z, noLetter_t H hx a, e_of, bI_s, bX_s, bX_t, t_0, t_1, in_t, in_f, ck_p, if_pos, if_neg, if_true]
        · subst b; simp (disch := omega) only [F_X12_letter, F_X12_letter_j33, z, noLetter_t H hx a, e_of, bI_s, bX_s, bX_t, t_0, t_1, in_t, in_f, ck_p, if_pos, if_neg, if_true]
        · subst b; simp (disch := omega) only [F_X12_letter, F_X12_letter_j33, z, noLetter_t H hx a, e_widthOf H, bI_s, bX_s, bX_t, t_0, t_1, in_t, in_f, ck_p, if_pos, if_neg, if_true]
        · subst b; simp (disch := omega) only [F_X12_letter, F_X12_letter_j33, z, noLetter_t H hx a, r_beginOf H, bI_s, bX_s, bX_t, t_0, t_1, in_t, in_f, ck_p, if_pos, if_neg, if_true]
        · subst b; simp (disch := omega) only [F_X12_letter, F_X12_letter_j33, z, noLetter_t H hx a, e_of, bI_s, bX_s, bX_t, t_0, t_1, in_t, in_f, ck_p, if_pos, if_neg, if_true]
    · refine Ans.no 1 rfl (i := 4) (by simp (disch := omega) only [F_X11_letter, n_letter_t R hx a, bI_s, bX_s, bX_t, t_0, t_1, in_t, in_f, ck_p, if_pos, if_neg, if_true]) (Ke.rf R) hz ?_
      intro G e z
      have H : Wi n (G 134) := by rw [e]; exact R.wi
      rw [← e] at a
      exact ⟨0, G, by simp (disch := omega) only [F_X12_letter, F_X12_letter_j33, z, noLetter_t H hx a, bI_s, bX_s, bX_t, t_0, t_1, in_t, in_f, ck_p, if_pos, if_neg, if_true]; rfl, Qw.rf⟩
  · refine Ans.no 0 rfl (i := 2) (by simp (disch := omega) only [F_X11_letter, n_letter_f R hx a, bI_s, bX_s, bX_t, t_0, t_1, in_t, in_f, ck_p, if_pos, if_neg, if_true]) (Ke.rf R) hz ?_
    intro G e z
    have H : Wi n (G 134) := by rw [e]; exact R.wi
    rw [← e] at a
    exact ⟨0, G, by simp (disch := omega) only [F_X12_letter, z, noLetter_f H hx a, bI_s, bX_s, bX_t, t_0, t_1, in_t, in_f, ck_p, if_pos, if_neg, if_true]; rfl, Qw.rf⟩
theorem q_gap (R : CR n D) {x y : Int} (hx : nR x) (hy : nR y) : Ans n D [2, 4] (F_X11_gap x y) (F_X12_gap x y) := by
  have hr := R.wi.ra
  have hc := R.ca
  have hz : ∀ E, F_X12_gap x y E = F_X12_gap x y (pD E 133 0 0) := (fun E => by simp only [F_X12_gap, pD_pD])
  by_cases a : 0 ≤ x ∧ x ≤ max 0 (D 134 1 - 1) - 1
  · have hl := R.wi.lta (l := x) (by omega) (by omega)
    have ds := R.ds (g := x) (by omega) (by omega)
    by_cases b : 0 ≤ y ∧ y ≤ 2
    · obtain b | b | b : y = 0 ∨ y = 1 ∨ y = 2 := by omega
      · subst b
        refine Ans.ok (v := wL (D 134) x 3) (by simp (disch := omega) only [F_X11_gap, n_gap_t R hx a, ds, bI_s, bX_s, bX_t, t_0, t_1, in_t, in_f, ck_p, if_pos, if_neg, if_true]) (Ke.rf R) hz ?_
        intro G e z
        have H : Wi n (G 134) := by rw [e]; exact R.wi
        rw [← e] at a hr ⊢
        exact ⟨G, by simp (disch := omega) only [F_X12_gap, F_X12_gap_j33, z, noGap_t H hx a, e_distance, bI_s, bX_s, bX_t, t_0, t_1, in_t, in_f, ck_p, if_pos, if_neg, if_true], Qw.rf⟩
      · subst b
        obtain ⟨E1, h1, K1⟩ := b_whiteOf (Kq.rf R) (g := x) (d := wL (D 134) x 3) (by omega) (by omega)
        refine Ans.ok (v := wWhite (D 134) x (wL (D 134) x 3)) (by simp (disch := omega) only [F_X11_gap, n_gap_t R hx a, ds, h1, bI_s, bX_s, bX_t, t_0, t_1, in_t, in_f, ck_p, if_pos, if_neg, if_true]) K1.ke hz ?_
        intro G e z
        have H : Wi n (G 134) := by rw [e]; exact R.wi
        rw [← e] at a hr ⊢
        obtain ⟨F, h2, q2⟩ := s_white H Qw.rf (g := x) (by omega)
        exact ⟨F, by simp (disch := omega) only [F_X12_gap, F_X12_gap_j33, z, noGap_t H hx a, h2, bI_s, bX_s, bX_t, t_0, t_1, in_t, in_f, ck_p, if_pos, if_neg, if_true], q2⟩
      · subst b
        refine Ans.ok (v := wLeast (D 134) (D 134 5) x (wL (D 134) x 3)) (by simp (disch := omega) only [F_X11_gap, n_gap_t R hx a, ds, hc.2.2.2.2.2.2.2.2.2.2.2.1, c_leastSpace R, bI_s, bX_s, bX_t, t_0, t_1, in_t, in_f, ck_p, if_pos, if_neg, if_true]) (Ke.rf R) hz ?_
        intro G e z
        have H : Wi n (G 134) := by rw [e]; exact R.wi
        rw [← e] at a hr ⊢
        exact ⟨G, by simp (disch := omega) only [F_X12_gap, F_X12_gap_j33, z, noGap_t H hx a, r_leastSpace H, bI_s, bX_s, bX_t, t_0, t_1, in_t, in_f, ck_p, if_pos, if_neg, if_true], Qw.rf⟩
    · refine Ans.no 1 rfl (i := 4) (by simp (disch := omega) only [F_X11_gap, n_gap_t R hx a, bI_s, bX_s, bX_t, t_0, t_1, in_t, in_f, ck_p, if_pos, if_neg, if_true]) (Ke.rf R) hz ?_
      intro G e z
      have H : Wi n (G 134) := by rw [e]; exact R.wi
      rw [← e] at a
      exact ⟨0, G, by simp (disch := omega) only [F_X12_gap, F_X12_gap_j33, z, noGap_t H hx a, bI_s, bX_s, bX_t, t_0, t_1, in_t, in_f, ck_p, if_pos, if_neg, if_true]; rfl, Qw.rf⟩
  · refine Ans.no 0 rfl (i := 2) (by simp (disch := omega) only [F_X11_gap, n_gap_f R hx a, bI_s, bX_s, bX_t, t_0, t_1, in_t, in_f, ck_p, if_pos, if_neg, if_true]) (Ke.rf R) hz ?_
    intro G e z
    have H : Wi n (G 134) := by rw [e]; exact R.wi
    rw [← e] at a
    exact ⟨0, G, by simp (disch := omega) only [F_X12_gap, z, noGap_f H hx a, bI_s, bX_s, bX_t, t_0, t_1, in_t, in_f, ck_p, if_pos, if_neg, if_true]; rfl, Qw.rf⟩
theorem q_row (R : CR n D) {x y b : Int} (hx : nR x) (hy : nR y) (hb : b = 0 ∨ b = 1) : Ans n D [2] (F_X11_row x y b) (F_X12_row x y b) := by
  have hr := R.wi.ra
  have hc := R.ca
  have hz : ∀ E, F_X12_row x y b E = F_X12_row x y b (pD E 133 0 0) := (fun E => by simp only [F_X12_row, pD_pD])
  by_cases a : 0 ≤ x ∧ x ≤ max 0 (D 134 1 - 1) - 1
  · have hl := R.wi.lta (l := x) (by omega) (by omega)
    have ds := R.ds (g := x) (by omega) (by omega)
    by_cases c : 0 ≤ y ∧ y ≤ 4
    · obtain rfl | rfl := hb
      · refine Ans.ok (v := wSpace (D 134) (D 134 5) x (wL (D 134) x 3) y) (by simp (disch := omega) only [F_X11_row, n_gap_t R hx a, n_row_t hy c, ds, hc.2.2.2.2.2.2.2.2.2.2.2.1, c_spaceOf R.cw Qc.rf, bI_s, bX_s, bX_t, t_0, t_1, in_t, in_f, ck_p, if_pos, if_neg, if_true]) (Ke.rf R) hz ?_
        intro G e z
        have H : Wi n (G 134) := by rw [e]; exact R.wi
        rw [← e] at a hr hl ⊢
        exact ⟨G, by simp (disch := omega) only [F_X12_row, F_X12_row_j28, z, noGap_t H hx a, e_distance, r_spaceOf H, bI_s, bX_s, bX_t, t_0, t_1, in_t, in_f, ck_p, if_pos, if_neg, if_true], Qw.rf⟩
      · obtain ⟨E1, h1, q1, e1⟩ := c_weightOf R.cw Qc.rf (g := x) (d := wL (D 134) x 3) (r := y) (by omega) (by omega) (by omega)
        refine Ans.ok (v := wWeight (D 134) x (wL (D 134) x 3) y) (by simp (disch := omega) only [F_X11_row, n_gap_t R hx a, n_row_t hy c, ds, h1, bI_s, bX_s, bX_t, t_0, t_1, in_t, in_f, ck_p, if_pos, if_neg, if_true]) ⟨q1.qd, R.go25 q1 e1⟩ hz ?_
        intro G e z
        have H : Wi n (G 134) := by rw [e]; exact R.wi
        rw [← e] at a hr hl ⊢
        obtain ⟨F, h2, q2⟩ := r_weightOf H (g := x) (d := wL (G 134) x 3) (r := y) (by omega) (by omega) (by omega)
        exact ⟨F, by simp (disch := omega) only [F_X12_row, F_X12_row_j28, z, noGap_t H hx a, e_distance, h2, bI_s, bX_s, bX_t, t_0, t_1, in_t, in_f, ck_p, if_pos, if_neg, if_true], q2.qw⟩
    · refine Ans.no 0 rfl (i := 2) (by simp (disch := omega) only [F_X11_row, n_gap_t R hx a, n_row_f hy c, bI_s, bX_s, bX_t, t_0, t_1, in_t, in_f, ck_p, if_pos, if_neg, if_true]) (Ke.rf R) hz ?_
      intro G e z
      have H : Wi n (G 134) := by rw [e]; exact R.wi
      rw [← e] at a
      exact ⟨0, G, by simp (disch := omega) only [F_X12_row, F_X12_row_j28, z, noGap_t H hx a, bI_s, bX_s, bX_t, t_0, t_1, in_t, in_f, ck_p, if_pos, if_neg, if_true]; rfl, Qw.rf⟩
  · refine Ans.no 0 rfl (i := 2) (by simp (disch := omega) only [F_X11_row, n_gap_f R hx a, bI_s, bX_s, bX_t, t_0, t_1, in_t, in_f, ck_p, if_pos, if_neg, if_true]) (Ke.rf R) hz ?_
    intro G e z
    have H : Wi n (G 134) := by rw [e]; exact R.wi
    rw [← e] at a
    exact ⟨0, G, by simp (disch := omega) only [F_X12_row, F_X12_row_j23, F_X12_row_j28, z, noGap_f H hx a, bI_s, bX_s, bX_t, t_0, t_1, in_t, in_f, ck_p, if_pos, if_neg, if_true]; rfl, Qw.rf⟩
theorem q_fades (R : CR n D) {x y : Int} (hx : nR x) (hy : nR y) : Ans n D [0] (F_X11_fades x y) (F_X12_fades x y) := by
  have hz : ∀ E, F_X12_fades x y E = F_X12_fades x y (pD E 133 0 0) := (fun E => by simp only [F_X12_fades, pD_pD])
  by_cases a : 1 ≤ x ∧ x ≤ 60
  · by_cases b : 0 ≤ y ∧ y ≤ 9
    · obtain ⟨E1, h1, K1⟩ := b_fadingAt (Kq.rf R) (Y := x) (L := y) (by omega) (by omega)
      refine Ans.ok (v := wFades (D 134) x y) (by simp (disch := omega) only [F_X11_fades, n_yards_t hx a, n_light_t hy b, h1, bI_s, bX_s, bX_t, t_0, t_1, in_t, in_f, ck_p, if_pos, if_neg, if_true]) K1.ke hz ?_
      intro G e z
      have H : Wi n (G 134) := by rw [e]; exact R.wi
      rw [← e]
      obtain ⟨F, h2, q2⟩ := s_fadesBy H Qw.rf (Y := x) (L := y) (by omega) (by omega)
      exact ⟨F, by simp (disch := omega) only [F_X12_fades, z, noLight_t hx hy a b, h2, bI_s, bX_s, bX_t, t_0, t_1, in_t, in_f, ck_p, if_pos, if_neg, if_true], q2⟩
    · refine Ans.no 0 rfl (i := 0) (by simp (disch := omega) only [F_X11_fades, n_yards_t hx a, n_light_f hy b, bI_s, bX_s, bX_t, t_0, t_1, in_t, in_f, ck_p, if_pos, if_neg, if_true]) (Ke.rf R) hz ?_
      intro G e z
      exact ⟨0, G, by simp (disch := omega) only [F_X12_fades, z, noLight_f hx hy (Or.inr b), bI_s, bX_s, bX_t, t_0, t_1, in_t, in_f, ck_p, if_pos, if_neg, if_true]; rfl, Qw.rf⟩
  · refine Ans.no 0 rfl (i := 0) (by simp (disch := omega) only [F_X11_fades, n_yards_f hx a, bI_s, bX_s, bX_t, t_0, t_1, in_t, in_f, ck_p, if_pos, if_neg, if_true]) (Ke.rf R) hz ?_
    intro G e z
    exact ⟨0, G, by simp (disch := omega) only [F_X12_fades, z, noLight_f hx hy (Or.inl a), bI_s, bX_s, bX_t, t_0, t_1, in_t, in_f, ck_p, if_pos, if_neg, if_true]; rfl, Qw.rf⟩
end PA1
