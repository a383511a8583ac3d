/-! THE REFERENCE leaves the cell 148 alone (by program out of 16.fdefs) -/
def oD (D : mD) (f : Int → Int) : mD := sA D 148 f
def fm (f : Int → Int) (x : RI) : RI := match x with
  | some (v, D) => some (v, oD D f)
  | none => none
section PFm
variable {z : Int → Int} {D : mD}
theorem oD_r {a : Nat} {i : Int} (h : a ≠ 148) : oD D z a i = D a i := by unfold oD; rw [sA_ne h]
theorem oD_c {a : Nat} (h : a ≠ 148) : oD D z a = D a := sA_ne h
theorem oD_p {a : Nat} {i v : Int} (h : a ≠ 148) : pD (oD D z) a i v = oD (pD D a i v) z := by
  funext b j
  unfold pD oD sA sI
  by_cases y : b = a
  · subst y
    simp [h]
  · by_cases q : b = 148
    · subst q
      have : ¬ (148 : Nat) = a := fun e => h e.symm
      simp [this]
    · simp [y, q]
theorem fm_ck {p : Prop} [Decidable p] {x : RI} : fm z (ck p x) = ck p (fm z x) := by
  unfold ck
  by_cases h : p
  · rw [if_pos h, if_pos h]
  · rw [if_neg h, if_neg h]; rfl
theorem fm_ite {p : Prop} [Decidable p] {x y : RI} : fm z (if p then x else y) = if p then fm z x else fm z y := by
  by_cases h : p
  · rw [if_pos h, if_pos h]
  · rw [if_neg h, if_neg h]
theorem fm_bI {x : RI} {f : Int → mD → RI} : fm z (bI x f) = bI x (fun v D => fm z (f v D)) := by
  cases x with
  | none => rfl
  | some p => rfl
theorem bI_fm {x : RI} {f : Int → mD → RI} : bI (fm z x) f = bI x (fun v D => f v (oD D z)) := by
  cases x with
  | none => rfl
  | some p => rfl
theorem fm_s {v : Int} : fm z (some (v, D)) = some (v, oD D z) := rfl
theorem fm_n : fm z none = none := rfl

theorem fr_F_X12_thrown {D : mD} : F_X12_thrown (oD D z) = fm z (F_X12_thrown D) := by
  unfold F_X12_thrown
  simp (maxSteps := 2000000) (disch := first | decide | assumption) only [oD_r, oD_p, fm_ck, fm_ite, fm_bI, bI_fm, fm_s, fm_n]
theorem fr_F_X12_throwsIf {x1 : Int} {x2 : Int} {D : mD} : F_X12_throwsIf x1 x2 (oD D z) = fm z (F_X12_throwsIf x1 x2 D) := by
  unfold F_X12_throwsIf
  simp (maxSteps := 2000000) (disch := first | decide | assumption) only [oD_r, oD_p, fm_ck, fm_ite, fm_bI, bI_fm, fm_s, fm_n]
theorem fr_F_X12_in {x0 : Int} {x1 : Int} {x2 : Int} {D : mD} : F_X12_in x0 x1 x2 (oD D z) = fm z (F_X12_in x0 x1 x2 D) := by
  unfold F_X12_in
  simp (maxSteps := 2000000) (disch := first | decide | assumption) only [oD_r, oD_p, fm_ck, fm_ite, fm_bI, bI_fm, fm_s, fm_n]
theorem fr_F_X12_has {x0 : Int} {x1 : Int} {D : mD} : F_X12_has x0 x1 (oD D z) = fm z (F_X12_has x0 x1 D) := by
  unfold F_X12_has
  simp (maxSteps := 2000000) (disch := first | decide | assumption) only [oD_r, oD_p, fm_ck, fm_ite, fm_bI, bI_fm, fm_s, fm_n]
theorem fr_F_X12_image_L7 : ∀ (n : Nat) (w0 : Int) (D : mD), F_X12_image_L7 n w0 (oD D z) = fm z (F_X12_image_L7 n w0 D) := by
  intro n
  induction n with
  | zero => intro w0 D; rfl
  | succ n ih => intro w0 D; simp (maxSteps := 2000000) (disch := first | decide | assumption) only [F_X12_image_L7, ih, oD_r, oD_p, fm_ck, fm_ite, fm_bI, bI_fm, fm_s, fm_n]
theorem fr_F_X12_image {D : mD} : F_X12_image (oD D z) = fm z (F_X12_image D) := by
  unfold F_X12_image
  simp (maxSteps := 2000000) (disch := first | decide | assumption) only [oD_r, oD_p, fm_ck, fm_ite, fm_bI, bI_fm, fm_s, fm_n, fr_F_X12_image_L7]
theorem fr_F_X12_back_L16 : ∀ (n : Nat) (w0 : Int) (D : mD), F_X12_back_L16 n w0 (oD D z) = fm z (F_X12_back_L16 n w0 D) := by
  intro n
  induction n with
  | zero => intro w0 D; rfl
  | succ n ih => intro w0 D; simp (maxSteps := 2000000) (disch := first | decide | assumption) only [F_X12_back_L16, ih, oD_r, oD_p, fm_ck, fm_ite, fm_bI, bI_fm, fm_s, fm_n]
theorem fr_F_X12_back {D : mD} : F_X12_back (oD D z) = fm z (F_X12_back D) := by
  unfold F_X12_back
  simp (maxSteps := 2000000) (disch := first | decide | assumption) only [oD_r, oD_p, fm_ck, fm_ite, fm_bI, bI_fm, fm_s, fm_n, fr_F_X12_back_L16]
theorem fr_F_X12_remembers_L55 : ∀ (n : Nat) (w0 : Int) (D : mD), F_X12_remembers_L55 n w0 (oD D z) = fm z (F_X12_remembers_L55 n w0 D) := by
  intro n
  induction n with
  | zero => intro w0 D; rfl
  | succ n ih => intro w0 D; simp (maxSteps := 2000000) (disch := first | decide | assumption) only [F_X12_remembers_L55, ih, oD_r, oD_p, fm_ck, fm_ite, fm_bI, bI_fm, fm_s, fm_n]
theorem fr_F_X12_remembers_L11 : ∀ (n : Nat) (w0 : Int) (D : mD), F_X12_remembers_L11 n w0 (oD D z) = fm z (F_X12_remembers_L11 n w0 D) := by
  intro n
  induction n with
  | zero => intro w0 D; rfl
  | succ n ih => intro w0 D; simp (maxSteps := 2000000) (disch := first | decide | assumption) only [F_X12_remembers_L11, ih, oD_r, oD_p, fm_ck, fm_ite, fm_bI, bI_fm, fm_s, fm_n, fr_F_X12_remembers_L55]
theorem fr_F_X12_remembers {D : mD} : F_X12_remembers (oD D z) = fm z (F_X12_remembers D) := by
  unfold F_X12_remembers
  simp (maxSteps := 2000000) (disch := first | decide | assumption) only [oD_r, oD_p, fm_ck, fm_ite, fm_bI, bI_fm, fm_s, fm_n, fr_F_X12_remembers_L11, fr_F_X12_remembers_L55]
theorem fr_F_X12_undo_L26 : ∀ (n : Nat) (w0 : Int) (D : mD), F_X12_undo_L26 n w0 (oD D z) = fm z (F_X12_undo_L26 n w0 D) := by
  intro n
  induction n with
  | zero => intro w0 D; rfl
  | succ n ih => intro w0 D; simp (maxSteps := 2000000) (disch := first | decide | assumption) only [F_X12_undo_L26, ih, oD_r, oD_p, fm_ck, fm_ite, fm_bI, bI_fm, fm_s, fm_n]
theorem fr_F_X12_undo {D : mD} : F_X12_undo (oD D z) = fm z (F_X12_undo D) := by
  unfold F_X12_undo
  simp (maxSteps := 2000000) (disch := first | decide | assumption) only [oD_r, oD_p, fm_ck, fm_ite, fm_bI, bI_fm, fm_s, fm_n, fr_F_X12_undo_L26]
theorem fr_F_X12_signs {D : mD} : F_X12_signs (oD D z) = fm z (F_X12_signs D) := by
  unfold F_X12_signs
  simp (maxSteps := 2000000) (disch := first | decide | assumption) only [oD_r, oD_p, fm_ck, fm_ite, fm_bI, bI_fm, fm_s, fm_n]
theorem fr_F_X12_letters {D : mD} : F_X12_letters (oD D z) = fm z (F_X12_letters D) := by
  unfold F_X12_letters
  simp (maxSteps := 2000000) (disch := first | decide | assumption) only [oD_r, oD_p, fm_ck, fm_ite, fm_bI, bI_fm, fm_s, fm_n]
theorem fr_F_X12_gaps {D : mD} : F_X12_gaps (oD D z) = fm z (F_X12_gaps D) := by
  unfold F_X12_gaps
  simp (maxSteps := 2000000) (disch := first | decide | assumption) only [oD_r, oD_p, fm_ck, fm_ite, fm_bI, bI_fm, fm_s, fm_n, fr_F_X12_letters]
theorem fr_F_X12_writers {D : mD} : F_X12_writers (oD D z) = fm z (F_X12_writers D) := by
  unfold F_X12_writers
  simp (maxSteps := 2000000) (disch := first | decide | assumption) only [oD_r, oD_p, fm_ck, fm_ite, fm_bI, bI_fm, fm_s, fm_n]
theorem fr_F_X12_ofSign {x1 : Int} {x2 : Int} {D : mD} : F_X12_ofSign x1 x2 (oD D z) = fm z (F_X12_ofSign x1 x2 D) := by
  unfold F_X12_ofSign
  simp (maxSteps := 2000000) (disch := first | decide | assumption) only [oD_r, oD_p, fm_ck, fm_ite, fm_bI, bI_fm, fm_s, fm_n]
theorem fr_F_X12_of {x1 : Int} {x2 : Int} {D : mD} : F_X12_of x1 x2 (oD D z) = fm z (F_X12_of x1 x2 D) := by
  unfold F_X12_of
  simp (maxSteps := 2000000) (disch := first | decide | assumption) only [oD_r, oD_p, fm_ck, fm_ite, fm_bI, bI_fm, fm_s, fm_n]
theorem fr_F_X12_sets {x1 : Int} {x2 : Int} {x3 : Int} {D : mD} : F_X12_sets x1 x2 x3 (oD D z) = fm z (F_X12_sets x1 x2 x3 D) := by
  unfold F_X12_sets
  simp (maxSteps := 2000000) (disch := first | decide | assumption) only [oD_r, oD_p, fm_ck, fm_ite, fm_bI, bI_fm, fm_s, fm_n]
theorem fr_F_X12_its {x1 : Int} {x2 : Int} {D : mD} : F_X12_its x1 x2 (oD D z) = fm z (F_X12_its x1 x2 D) := by
  unfold F_X12_its
  simp (maxSteps := 2000000) (disch := first | decide | assumption) only [oD_r, oD_p, fm_ck, fm_ite, fm_bI, bI_fm, fm_s, fm_n, fr_F_X12_of, fr_F_X12_ofSign]
theorem fr_F_X12_widthOf {x1 : Int} {D : mD} : F_X12_widthOf x1 (oD D z) = fm z (F_X12_widthOf x1 D) := by
  unfold F_X12_widthOf
  simp (maxSteps := 2000000) (disch := first | decide | assumption) only [oD_r, oD_p, fm_ck, fm_ite, fm_bI, bI_fm, fm_s, fm_n, fr_F_X12_its, fr_F_X12_of]
theorem fr_F_X12_distance {x1 : Int} {D : mD} : F_X12_distance x1 (oD D z) = fm z (F_X12_distance x1 D) := by
  unfold F_X12_distance
  simp (maxSteps := 2000000) (disch := first | decide | assumption) only [oD_r, oD_p, fm_ck, fm_ite, fm_bI, bI_fm, fm_s, fm_n, fr_F_X12_of]
theorem fr_F_X12_isPainted {x1 : Int} {D : mD} : F_X12_isPainted x1 (oD D z) = fm z (F_X12_isPainted x1 D) := by
  unfold F_X12_isPainted
  simp (maxSteps := 2000000) (disch := first | decide | assumption) only [oD_r, oD_p, fm_ck, fm_ite, fm_bI, bI_fm, fm_s, fm_n, fr_F_X12_of]
theorem fr_F_X12_noSign {x1 : Int} {D : mD} : F_X12_noSign x1 (oD D z) = fm z (F_X12_noSign x1 D) := by
  unfold F_X12_noSign
  simp (maxSteps := 2000000) (disch := first | decide | assumption) only [oD_r, oD_p, fm_ck, fm_ite, fm_bI, bI_fm, fm_s, fm_n, fr_F_X12_in, fr_F_X12_signs]
theorem fr_F_X12_noLetter {x1 : Int} {D : mD} : F_X12_noLetter x1 (oD D z) = fm z (F_X12_noLetter x1 D) := by
  unfold F_X12_noLetter
  simp (maxSteps := 2000000) (disch := first | decide | assumption) only [oD_r, oD_p, fm_ck, fm_ite, fm_bI, bI_fm, fm_s, fm_n, fr_F_X12_in, fr_F_X12_letters]
theorem fr_F_X12_noGap {x1 : Int} {D : mD} : F_X12_noGap x1 (oD D z) = fm z (F_X12_noGap x1 D) := by
  unfold F_X12_noGap
  simp (maxSteps := 2000000) (disch := first | decide | assumption) only [oD_r, oD_p, fm_ck, fm_ite, fm_bI, bI_fm, fm_s, fm_n, fr_F_X12_gaps, fr_F_X12_in]
theorem fr_F_X12_noWriter {x1 : Int} {D : mD} : F_X12_noWriter x1 (oD D z) = fm z (F_X12_noWriter x1 D) := by
  unfold F_X12_noWriter
  simp (maxSteps := 2000000) (disch := first | decide | assumption) only [oD_r, oD_p, fm_ck, fm_ite, fm_bI, bI_fm, fm_s, fm_n, fr_F_X12_in, fr_F_X12_writers]
theorem fr_F_X12_noWhite {x0 : Int} {D : mD} : F_X12_noWhite x0 (oD D z) = fm z (F_X12_noWhite x0 D) := by
  unfold F_X12_noWhite
  simp (maxSteps := 2000000) (disch := first | decide | assumption) only [oD_r, oD_p, fm_ck, fm_ite, fm_bI, bI_fm, fm_s, fm_n, fr_F_X12_in]
theorem fr_F_X12_draw {x1 : Int} {D : mD} : F_X12_draw x1 (oD D z) = fm z (F_X12_draw x1 D) := by
  unfold F_X12_draw
  simp (maxSteps := 2000000) (disch := first | decide | assumption) only [oD_r, oD_p, fm_ck, fm_ite, fm_bI, bI_fm, fm_s, fm_n]
theorem fr_F_X12_feed_L60 : ∀ (n : Nat) (w0 : Int) (D : mD), F_X12_feed_L60 n w0 (oD D z) = fm z (F_X12_feed_L60 n w0 D) := by
  intro n
  induction n with
  | zero => intro w0 D; rfl
  | succ n ih => intro w0 D; simp (maxSteps := 2000000) (disch := first | decide | assumption) only [F_X12_feed_L60, ih, oD_r, oD_p, fm_ck, fm_ite, fm_bI, bI_fm, fm_s, fm_n]
theorem fr_F_X12_feed {x1 : Int} {x2 : Int} {x3 : Int} {x4 : Int} {x5 : Int} {D : mD} : F_X12_feed x1 x2 x3 x4 x5 (oD D z) = fm z (F_X12_feed x1 x2 x3 x4 x5 D) := by
  unfold F_X12_feed
  simp (maxSteps := 2000000) (disch := first | decide | assumption) only [oD_r, oD_p, fm_ck, fm_ite, fm_bI, bI_fm, fm_s, fm_n, fr_F_X12_feed_L60]
theorem fr_F_X12_end {x1 : Int} {D : mD} : F_X12_end x1 (oD D z) = fm z (F_X12_end x1 D) := by
  unfold F_X12_end
  simp (maxSteps := 2000000) (disch := first | decide | assumption) only [oD_r, oD_p, fm_ck, fm_ite, fm_bI, bI_fm, fm_s, fm_n]
theorem fr_F_X12_isAt {x1 : Int} {x2 : Int} {D : mD} : F_X12_isAt x1 x2 (oD D z) = fm z (F_X12_isAt x1 x2 D) := by
  unfold F_X12_isAt
  simp (maxSteps := 2000000) (disch := first | decide | assumption) only [oD_r, oD_p, fm_ck, fm_ite, fm_bI, bI_fm, fm_s, fm_n]
theorem fr_F_X12_blanks_L0 : ∀ (n : Nat) (D : mD), F_X12_blanks_L0 n (oD D z) = fm z (F_X12_blanks_L0 n D) := by
  intro n
  induction n with
  | zero => intro D; rfl
  | succ n ih => intro D; simp (maxSteps := 2000000) (disch := first | decide | assumption) only [F_X12_blanks_L0, ih, oD_r, oD_p, fm_ck, fm_ite, fm_bI, bI_fm, fm_s, fm_n, fr_F_X12_isAt]
theorem fr_F_X12_blanks {D : mD} : F_X12_blanks (oD D z) = fm z (F_X12_blanks D) := by
  unfold F_X12_blanks
  simp (maxSteps := 2000000) (disch := first | decide | assumption) only [oD_r, oD_p, fm_ck, fm_ite, fm_bI, bI_fm, fm_s, fm_n, fr_F_X12_blanks_L0]
theorem fr_F_X12_lettersPass_L4 : ∀ (n : Nat) (D : mD), F_X12_lettersPass_L4 n (oD D z) = fm z (F_X12_lettersPass_L4 n D) := by
  intro n
  induction n with
  | zero => intro D; rfl
  | succ n ih => intro D; simp (maxSteps := 2000000) (disch := first | decide | assumption) only [F_X12_lettersPass_L4, ih, oD_r, oD_p, fm_ck, fm_ite, fm_bI, bI_fm, fm_s, fm_n, fr_F_X12_isAt]
theorem fr_F_X12_lettersPass {D : mD} : F_X12_lettersPass (oD D z) = fm z (F_X12_lettersPass D) := by
  unfold F_X12_lettersPass
  simp (maxSteps := 2000000) (disch := first | decide | assumption) only [oD_r, oD_p, fm_ck, fm_ite, fm_bI, bI_fm, fm_s, fm_n, fr_F_X12_blanks, fr_F_X12_lettersPass_L4]
theorem fr_F_X12_isWord_L24 {s1_ : Nat} : ∀ (n : Nat) (w0 : Int) (w1 : Int) (D : mD), F_X12_isWord_L24 s1_ n w0 w1 (oD D z) = fm z (F_X12_isWord_L24 s1_ n w0 w1 D) := by
  intro n
  induction n with
  | zero => intro w0 w1 D; rfl
  | succ n ih => intro w0 w1 D; simp (maxSteps := 2000000) (disch := first | decide | assumption) only [F_X12_isWord_L24, ih, oD_r, oD_p, fm_ck, fm_ite, fm_bI, bI_fm, fm_s, fm_n]
theorem fr_F_X12_isWord {s1_ : Nat} {D : mD} : F_X12_isWord s1_ (oD D z) = fm z (F_X12_isWord s1_ D) := by
  unfold F_X12_isWord
  simp (maxSteps := 2000000) (disch := first | decide | assumption) only [oD_r, oD_p, fm_ck, fm_ite, fm_bI, bI_fm, fm_s, fm_n, fr_F_X12_isWord_L24]
theorem fr_F_X12_passes {s1_ : Nat} {D : mD} : F_X12_passes s1_ (oD D z) = fm z (F_X12_passes s1_ D) := by
  unfold F_X12_passes
  simp (maxSteps := 2000000) (disch := first | decide | assumption) only [oD_r, oD_p, fm_ck, fm_ite, fm_bI, bI_fm, fm_s, fm_n, fr_F_X12_isWord, fr_F_X12_lettersPass]
theorem fr_F_X12_isSign {x1 : Int} {D : mD} : F_X12_isSign x1 (oD D z) = fm z (F_X12_isSign x1 D) := by
  unfold F_X12_isSign
  simp (maxSteps := 2000000) (disch := first | decide | assumption) only [oD_r, oD_p, fm_ck, fm_ite, fm_bI, bI_fm, fm_s, fm_n, fr_F_X12_blanks, fr_F_X12_isAt]
theorem fr_F_X12_number_j51 {K6 : Int → mD → RI} {x1 : Int} {x2 : Int} {s0 : Int} (h_K6 : ∀ (u0 : Int) (D : mD), K6 u0 (oD D z) = fm z (K6 u0 D)) {D : mD} : F_X12_number_j51 K6 x1 x2 s0 (oD D z) = fm z (F_X12_number_j51 K6 x1 x2 s0 D) := by
  unfold F_X12_number_j51
  simp (maxSteps := 2000000) (disch := first | decide | assumption) only [oD_r, oD_p, fm_ck, fm_ite, fm_bI, bI_fm, fm_s, fm_n, h_K6]
theorem fr_F_X12_number_L6 {x1 : Int} {x2 : Int} : ∀ (n : Nat) (w0 : Int) (D : mD), F_X12_number_L6 x1 x2 n w0 (oD D z) = fm z (F_X12_number_L6 x1 x2 n w0 D) := by
  intro n
  induction n with
  | zero => intro w0 D; rfl
  | succ n ih => intro w0 D; simp (maxSteps := 2000000) (disch := first | decide | assumption) only [F_X12_number_L6, ih, oD_r, oD_p, fm_ck, fm_ite, fm_bI, bI_fm, fm_s, fm_n, fr_F_X12_isAt, fr_F_X12_number_j51]
theorem fr_F_X12_number {x1 : Int} {x2 : Int} {D : mD} : F_X12_number x1 x2 (oD D z) = fm z (F_X12_number x1 x2 D) := by
  unfold F_X12_number
  simp (maxSteps := 2000000) (disch := first | decide | assumption) only [oD_r, oD_p, fm_ck, fm_ite, fm_bI, bI_fm, fm_s, fm_n, fr_F_X12_blanks, fr_F_X12_number_L6]
theorem fr_F_X12_after {s1_ : Nat} {x2 : Int} {x3 : Int} {D : mD} : F_X12_after s1_ x2 x3 (oD D z) = fm z (F_X12_after s1_ x2 x3 D) := by
  unfold F_X12_after
  simp (maxSteps := 2000000) (disch := first | decide | assumption) only [oD_r, oD_p, fm_ck, fm_ite, fm_bI, bI_fm, fm_s, fm_n, fr_F_X12_isWord, fr_F_X12_lettersPass, fr_F_X12_number]
theorem fr_F_X12_isFigure {D : mD} : F_X12_isFigure (oD D z) = fm z (F_X12_isFigure D) := by
  unfold F_X12_isFigure
  simp (maxSteps := 2000000) (disch := first | decide | assumption) only [oD_r, oD_p, fm_ck, fm_ite, fm_bI, bI_fm, fm_s, fm_n, fr_F_X12_blanks, fr_F_X12_isAt]
theorem fr_F_X12_fault {D : mD} : F_X12_fault (oD D z) = fm z (F_X12_fault D) := by
  unfold F_X12_fault
  simp (maxSteps := 2000000) (disch := first | decide | assumption) only [oD_r, oD_p, fm_ck, fm_ite, fm_bI, bI_fm, fm_s, fm_n]
theorem fr_F_X12_uses {D : mD} : F_X12_uses (oD D z) = fm z (F_X12_uses D) := by
  unfold F_X12_uses
  simp (maxSteps := 2000000) (disch := first | decide | assumption) only [oD_r, oD_p, fm_ck, fm_ite, fm_bI, bI_fm, fm_s, fm_n]
theorem fr_F_X12_sortTold {D : mD} : F_X12_sortTold (oD D z) = fm z (F_X12_sortTold D) := by
  unfold F_X12_sortTold
  simp (maxSteps := 2000000) (disch := first | decide | assumption) only [oD_r, oD_p, fm_ck, fm_ite, fm_bI, bI_fm, fm_s, fm_n, fr_F_X12_isWord]
theorem fr_F_X12_readRows_j90 {s1_ : Nat} {D : mD} : F_X12_readRows_j90 s1_ (oD D z) = fm z (F_X12_readRows_j90 s1_ D) := by
  unfold F_X12_readRows_j90
  simp (maxSteps := 2000000) (disch := first | decide | assumption) only [oD_r, oD_p, fm_ck, fm_ite, fm_bI, bI_fm, fm_s, fm_n]
theorem fr_F_X12_readRows_L44 {s1_ : Nat} {x2 : Int} : ∀ (n : Nat) (w0 : Int) (D : mD), F_X12_readRows_L44 s1_ x2 n w0 (oD D z) = fm z (F_X12_readRows_L44 s1_ x2 n w0 D) := by
  intro n
  induction n with
  | zero => intro w0 D; rfl
  | succ n ih => intro w0 D; simp (maxSteps := 2000000) (disch := first | decide | assumption) only [F_X12_readRows_L44, ih, oD_r, oD_p, fm_ck, fm_ite, fm_bI, bI_fm, fm_s, fm_n, fr_F_X12_readRows_j90]
theorem fr_F_X12_readRows_L18 {s1_ : Nat} {x2 : Int} : ∀ (n : Nat) (D : mD), F_X12_readRows_L18 s1_ x2 n (oD D z) = fm z (F_X12_readRows_L18 s1_ x2 n D) := by
  intro n
  induction n with
  | zero => intro D; rfl
  | succ n ih => intro D; simp (maxSteps := 2000000) (disch := first | decide | assumption) only [F_X12_readRows_L18, ih, oD_r, oD_p, fm_ck, fm_ite, fm_bI, bI_fm, fm_s, fm_n, fr_F_X12_isAt, fr_F_X12_readRows_L44]
theorem fr_F_X12_readRows {s1_ : Nat} {x2 : Int} {D : mD} : F_X12_readRows s1_ x2 (oD D z) = fm z (F_X12_readRows s1_ x2 D) := by
  unfold F_X12_readRows
  simp (maxSteps := 2000000) (disch := first | decide | assumption) only [oD_r, oD_p, fm_ck, fm_ite, fm_bI, bI_fm, fm_s, fm_n, fr_F_X12_blanks, fr_F_X12_isWord, fr_F_X12_lettersPass, fr_F_X12_readRows_L18]
theorem fr_F_X12_readSign_L107 {x1 : Int} : ∀ (n : Nat) (w0 : Int) (D : mD), F_X12_readSign_L107 x1 n w0 (oD D z) = fm z (F_X12_readSign_L107 x1 n w0 D) := by
  intro n
  induction n with
  | zero => intro w0 D; rfl
  | succ n ih => intro w0 D; simp (maxSteps := 2000000) (disch := first | decide | assumption) only [F_X12_readSign_L107, ih, oD_r, oD_p, fm_ck, fm_ite, fm_bI, bI_fm, fm_s, fm_n, fr_F_X12_ofSign]
theorem fr_F_X12_readSign {D : mD} : F_X12_readSign (oD D z) = fm z (F_X12_readSign D) := by
  unfold F_X12_readSign
  simp (maxSteps := 2000000) (disch := first | decide | assumption) only [oD_r, oD_p, fm_ck, fm_ite, fm_bI, bI_fm, fm_s, fm_n, fr_F_X12_after, fr_F_X12_lettersPass, fr_F_X12_readRows, fr_F_X12_readSign_L107, fr_F_X12_signs, fr_F_X12_sortTold]
theorem fr_F_X12_readBoard_j26 {x1 : Int} {s0 : Int} {D : mD} : F_X12_readBoard_j26 x1 s0 (oD D z) = fm z (F_X12_readBoard_j26 x1 s0 D) := by
  unfold F_X12_readBoard_j26
  simp (maxSteps := 2000000) (disch := first | decide | assumption) only [oD_r, oD_p, fm_ck, fm_ite, fm_bI, bI_fm, fm_s, fm_n]
theorem fr_F_X12_readBoard {D : mD} : F_X12_readBoard (oD D z) = fm z (F_X12_readBoard D) := by
  unfold F_X12_readBoard
  simp (maxSteps := 2000000) (disch := first | decide | assumption) only [oD_r, oD_p, fm_ck, fm_ite, fm_bI, bI_fm, fm_s, fm_n, fr_F_X12_after, fr_F_X12_number, fr_F_X12_readBoard_j26]
theorem fr_F_X12_readWord_j34 {K2 : Int → mD → RI} {x1 : Int} {x2 : Int} (h_K2 : ∀ (u0 : Int) (D : mD), K2 u0 (oD D z) = fm z (K2 u0 D)) {D : mD} : F_X12_readWord_j34 K2 x1 x2 (oD D z) = fm z (F_X12_readWord_j34 K2 x1 x2 D) := by
  unfold F_X12_readWord_j34
  simp (maxSteps := 2000000) (disch := first | decide | assumption) only [oD_r, oD_p, fm_ck, fm_ite, fm_bI, bI_fm, fm_s, fm_n, fr_F_X12_isFigure, fr_F_X12_sets, h_K2]
theorem fr_F_X12_readWord_j23 {K2 : Int → mD → RI} {x1 : Int} {s0 : Int} (h_K2 : ∀ (u0 : Int) (D : mD), K2 u0 (oD D z) = fm z (K2 u0 D)) {D : mD} : F_X12_readWord_j23 K2 x1 s0 (oD D z) = fm z (F_X12_readWord_j23 K2 x1 s0 D) := by
  unfold F_X12_readWord_j23
  simp (maxSteps := 2000000) (disch := first | decide | assumption) only [oD_r, oD_p, fm_ck, fm_ite, fm_bI, bI_fm, fm_s, fm_n, fr_F_X12_blanks, fr_F_X12_readWord_j34, h_K2]
theorem fr_F_X12_readWord_L2 : ∀ (n : Nat) (w0 : Int) (D : mD), F_X12_readWord_L2 n w0 (oD D z) = fm z (F_X12_readWord_L2 n w0 D) := by
  intro n
  induction n with
  | zero => intro w0 D; rfl
  | succ n ih => intro w0 D; simp (maxSteps := 2000000) (disch := first | decide | assumption) only [F_X12_readWord_L2, ih, oD_r, oD_p, fm_ck, fm_ite, fm_bI, bI_fm, fm_s, fm_n, fr_F_X12_number, fr_F_X12_readWord_j23, fr_F_X12_signs]
theorem fr_F_X12_readWord {D : mD} : F_X12_readWord (oD D z) = fm z (F_X12_readWord D) := by
  unfold F_X12_readWord
  simp (maxSteps := 2000000) (disch := first | decide | assumption) only [oD_r, oD_p, fm_ck, fm_ite, fm_bI, bI_fm, fm_s, fm_n, fr_F_X12_readWord_L2]
theorem fr_F_X12_readWriter_j39 {x1 : Int} {s0 : Int} {D : mD} : F_X12_readWriter_j39 x1 s0 (oD D z) = fm z (F_X12_readWriter_j39 x1 s0 D) := by
  unfold F_X12_readWriter_j39
  simp (maxSteps := 2000000) (disch := first | decide | assumption) only [oD_r, oD_p, fm_ck, fm_ite, fm_bI, bI_fm, fm_s, fm_n, fr_F_X12_writers]
theorem fr_F_X12_readWriter {D : mD} : F_X12_readWriter (oD D z) = fm z (F_X12_readWriter D) := by
  unfold F_X12_readWriter
  simp (maxSteps := 2000000) (disch := first | decide | assumption) only [oD_r, oD_p, fm_ck, fm_ite, fm_bI, bI_fm, fm_s, fm_n, fr_F_X12_after, fr_F_X12_readWriter_j39, fr_F_X12_writers]
theorem fr_F_X12_readLooker {D : mD} : F_X12_readLooker (oD D z) = fm z (F_X12_readLooker D) := by
  unfold F_X12_readLooker
  simp (maxSteps := 2000000) (disch := first | decide | assumption) only [oD_r, oD_p, fm_ck, fm_ite, fm_bI, bI_fm, fm_s, fm_n, fr_F_X12_number]
theorem fr_F_X12_readNumber {x1 : Int} {D : mD} : F_X12_readNumber x1 (oD D z) = fm z (F_X12_readNumber x1 D) := by
  unfold F_X12_readNumber
  simp (maxSteps := 2000000) (disch := first | decide | assumption) only [oD_r, oD_p, fm_ck, fm_ite, fm_bI, bI_fm, fm_s, fm_n, fr_F_X12_number]
theorem fr_F_X12_readShopLine {D : mD} : F_X12_readShopLine (oD D z) = fm z (F_X12_readShopLine D) := by
  unfold F_X12_readShopLine
  simp (maxSteps := 2000000) (disch := first | decide | assumption) only [oD_r, oD_p, fm_ck, fm_ite, fm_bI, bI_fm, fm_s, fm_n, fr_F_X12_isWord, fr_F_X12_readBoard, fr_F_X12_readLooker, fr_F_X12_readNumber, fr_F_X12_readSign, fr_F_X12_readWord, fr_F_X12_readWriter]
theorem fr_F_X12_emits {x1 : Int} {x2 : Int} {D : mD} : F_X12_emits x1 x2 (oD D z) = fm z (F_X12_emits x1 x2 D) := by
  unfold F_X12_emits
  simp (maxSteps := 2000000) (disch := first | decide | assumption) only [oD_r, oD_p, fm_ck, fm_ite, fm_bI, bI_fm, fm_s, fm_n]
theorem fr_F_X12_readPart_j120 {x1 : Int} {D : mD} : F_X12_readPart_j120 x1 (oD D z) = fm z (F_X12_readPart_j120 x1 D) := by
  unfold F_X12_readPart_j120
  simp (maxSteps := 2000000) (disch := first | decide | assumption) only [oD_r, oD_p, fm_ck, fm_ite, fm_bI, bI_fm, fm_s, fm_n]
theorem fr_F_X12_readPart_j113 {s0 : Int} {D : mD} : F_X12_readPart_j113 s0 (oD D z) = fm z (F_X12_readPart_j113 s0 D) := by
  unfold F_X12_readPart_j113
  simp (maxSteps := 2000000) (disch := first | decide | assumption) only [oD_r, oD_p, fm_ck, fm_ite, fm_bI, bI_fm, fm_s, fm_n, fr_F_X12_emits, fr_F_X12_readPart_j120]
theorem fr_F_X12_readPart {D : mD} : F_X12_readPart (oD D z) = fm z (F_X12_readPart D) := by
  unfold F_X12_readPart
  simp (maxSteps := 2000000) (disch := first | decide | assumption) only [oD_r, oD_p, fm_ck, fm_ite, fm_bI, bI_fm, fm_s, fm_n, fr_F_X12_emits, fr_F_X12_isWord, fr_F_X12_lettersPass, fr_F_X12_number, fr_F_X12_readPart_j113, fr_F_X12_readPart_j120]
theorem fr_F_X12_readSum_L9 : ∀ (n : Nat) (D : mD), F_X12_readSum_L9 n (oD D z) = fm z (F_X12_readSum_L9 n D) := by
  intro n
  induction n with
  | zero => intro D; rfl
  | succ n ih => intro D; simp (maxSteps := 2000000) (disch := first | decide | assumption) only [F_X12_readSum_L9, ih, oD_r, oD_p, fm_ck, fm_ite, fm_bI, bI_fm, fm_s, fm_n, fr_F_X12_emits, fr_F_X12_isSign, fr_F_X12_readPart]
theorem fr_F_X12_readSum {D : mD} : F_X12_readSum (oD D z) = fm z (F_X12_readSum D) := by
  unfold F_X12_readSum
  simp (maxSteps := 2000000) (disch := first | decide | assumption) only [oD_r, oD_p, fm_ck, fm_ite, fm_bI, bI_fm, fm_s, fm_n, fr_F_X12_readPart, fr_F_X12_readSum_L9]
theorem fr_F_X12_readTag_j31 {x1 : Int} {D : mD} : F_X12_readTag_j31 x1 (oD D z) = fm z (F_X12_readTag_j31 x1 D) := by
  unfold F_X12_readTag_j31
  simp (maxSteps := 2000000) (disch := first | decide | assumption) only [oD_r, oD_p, fm_ck, fm_ite, fm_bI, bI_fm, fm_s, fm_n]
theorem fr_F_X12_readTag {D : mD} : F_X12_readTag (oD D z) = fm z (F_X12_readTag D) := by
  unfold F_X12_readTag
  simp (maxSteps := 2000000) (disch := first | decide | assumption) only [oD_r, oD_p, fm_ck, fm_ite, fm_bI, bI_fm, fm_s, fm_n, fr_F_X12_emits, fr_F_X12_lettersPass, fr_F_X12_readTag_j31, fr_F_X12_sortTold]
theorem fr_F_X12_readAtom_j173 {f_readAtom : mD → RI} {f_readCond : mD → RI} {s1 : Int} (h_f_readAtom : ∀ (D : mD), f_readAtom (oD D z) = fm z (f_readAtom D)) (h_f_readCond : ∀ (D : mD), f_readCond (oD D z) = fm z (f_readCond D)) {D : mD} : F_X12_readAtom_j173 f_readAtom f_readCond s1 (oD D z) = fm z (F_X12_readAtom_j173 f_readAtom f_readCond s1 D) := by
  unfold F_X12_readAtom_j173
  simp (maxSteps := 2000000) (disch := first | decide | assumption) only [oD_r, oD_p, fm_ck, fm_ite, fm_bI, bI_fm, fm_s, fm_n, fr_F_X12_emits, h_f_readAtom, h_f_readCond]
theorem fr_F_X12_readAtom_j152 {f_readAtom : mD → RI} {f_readCond : mD → RI} {x1 : Int} (h_f_readAtom : ∀ (D : mD), f_readAtom (oD D z) = fm z (f_readAtom D)) (h_f_readCond : ∀ (D : mD), f_readCond (oD D z) = fm z (f_readCond D)) {D : mD} : F_X12_readAtom_j152 f_readAtom f_readCond x1 (oD D z) = fm z (F_X12_readAtom_j152 f_readAtom f_readCond x1 D) := by
  unfold F_X12_readAtom_j152
  simp (maxSteps := 2000000) (disch := first | decide | assumption) only [oD_r, oD_p, fm_ck, fm_ite, fm_bI, bI_fm, fm_s, fm_n, fr_F_X12_readAtom_j173, fr_F_X12_readSum, h_f_readAtom, h_f_readCond]
theorem fr_F_X12_readAtom {f_readAtom : mD → RI} {f_readCond : mD → RI} (h_f_readAtom : ∀ (D : mD), f_readAtom (oD D z) = fm z (f_readAtom D)) (h_f_readCond : ∀ (D : mD), f_readCond (oD D z) = fm z (f_readCond D)) {D : mD} : F_X12_readAtom f_readAtom f_readCond (oD D z) = fm z (F_X12_readAtom f_readAtom f_readCond D) := by
  unfold F_X12_readAtom
  simp (maxSteps := 2000000) (disch := first | decide | assumption) only [oD_r, oD_p, fm_ck, fm_ite, fm_bI, bI_fm, fm_s, fm_n, fr_F_X12_emits, fr_F_X12_isSign, fr_F_X12_passes, fr_F_X12_readAtom_j152, fr_F_X12_readSum, fr_F_X12_readTag, h_f_readAtom, h_f_readCond]
theorem fr_F_X12_readAllOf_L9 {f_readAtom : mD → RI} (h_f_readAtom : ∀ (D : mD), f_readAtom (oD D z) = fm z (f_readAtom D)) : ∀ (n : Nat) (D : mD), F_X12_readAllOf_L9 f_readAtom n (oD D z) = fm z (F_X12_readAllOf_L9 f_readAtom n D) := by
  intro n
  induction n with
  | zero => intro D; rfl
  | succ n ih => intro D; simp (maxSteps := 2000000) (disch := first | decide | assumption) only [F_X12_readAllOf_L9, ih, oD_r, oD_p, fm_ck, fm_ite, fm_bI, bI_fm, fm_s, fm_n, fr_F_X12_emits, fr_F_X12_passes, h_f_readAtom]
theorem fr_F_X12_readAllOf {f_readAtom : mD → RI} (h_f_readAtom : ∀ (D : mD), f_readAtom (oD D z) = fm z (f_readAtom D)) {D : mD} : F_X12_readAllOf f_readAtom (oD D z) = fm z (F_X12_readAllOf f_readAtom D) := by
  unfold F_X12_readAllOf
  simp (maxSteps := 2000000) (disch := first | decide | assumption) only [oD_r, oD_p, fm_ck, fm_ite, fm_bI, bI_fm, fm_s, fm_n, fr_F_X12_readAllOf_L9, h_f_readAtom]
theorem fr_F_X12_readCond_L9 {f_readAllOf : mD → RI} (h_f_readAllOf : ∀ (D : mD), f_readAllOf (oD D z) = fm z (f_readAllOf D)) : ∀ (n : Nat) (D : mD), F_X12_readCond_L9 f_readAllOf n (oD D z) = fm z (F_X12_readCond_L9 f_readAllOf n D) := by
  intro n
  induction n with
  | zero => intro D; rfl
  | succ n ih => intro D; simp (maxSteps := 2000000) (disch := first | decide | assumption) only [F_X12_readCond_L9, ih, oD_r, oD_p, fm_ck, fm_ite, fm_bI, bI_fm, fm_s, fm_n, fr_F_X12_emits, fr_F_X12_passes, h_f_readAllOf]
theorem fr_F_X12_readCond {f_readAllOf : mD → RI} (h_f_readAllOf : ∀ (D : mD), f_readAllOf (oD D z) = fm z (f_readAllOf D)) {D : mD} : F_X12_readCond f_readAllOf (oD D z) = fm z (F_X12_readCond f_readAllOf D) := by
  unfold F_X12_readCond
  simp (maxSteps := 2000000) (disch := first | decide | assumption) only [oD_r, oD_p, fm_ck, fm_ite, fm_bI, bI_fm, fm_s, fm_n, fr_F_X12_readCond_L9, h_f_readAllOf]
theorem fr_GA12 : ∀ (n : Nat) (D : mD), GA12 n (oD D z) = fm z (GA12 n D) := by
  intro n
  induction n with
  | zero => intro D; rfl
  | succ n ih =>
    intro D
    rw [GA12]
    exact fr_F_X12_readAtom ih (fun D => fr_F_X12_readCond (fun D => fr_F_X12_readAllOf ih))
theorem fr_G_X12_readCond {D : mD} : G_X12_readCond (oD D z) = fm z (G_X12_readCond D) := fr_F_X12_readCond (fun D => fr_F_X12_readAllOf (fr_GA12 8))
theorem fr_F_X12_readLawLine_j120 {x2 : Int} {D : mD} : F_X12_readLawLine_j120 x2 (oD D z) = fm z (F_X12_readLawLine_j120 x2 D) := by
  unfold F_X12_readLawLine_j120
  simp (maxSteps := 2000000) (disch := first | decide | assumption) only [oD_r, oD_p, fm_ck, fm_ite, fm_bI, bI_fm, fm_s, fm_n]
theorem fr_F_X12_readLawLine_j67 {x2 : Int} {s1 : Int} {s3 : Int} {s4 : Int} {D : mD} : F_X12_readLawLine_j67 x2 s1 s3 s4 (oD D z) = fm z (F_X12_readLawLine_j67 x2 s1 s3 s4 D) := by
  unfold F_X12_readLawLine_j67
  simp (maxSteps := 2000000) (disch := first | decide | assumption) only [oD_r, oD_p, fm_ck, fm_ite, fm_bI, bI_fm, fm_s, fm_n, fr_F_X12_number, fr_F_X12_passes, fr_F_X12_readLawLine_j120, fr_G_X12_readCond]
theorem fr_F_X12_readLawLine_j46 {x2 : Int} {x3 : Int} {s1 : Int} {s2 : Int} {D : mD} : F_X12_readLawLine_j46 x2 x3 s1 s2 (oD D z) = fm z (F_X12_readLawLine_j46 x2 x3 s1 s2 D) := by
  unfold F_X12_readLawLine_j46
  simp (maxSteps := 2000000) (disch := first | decide | assumption) only [oD_r, oD_p, fm_ck, fm_ite, fm_bI, bI_fm, fm_s, fm_n, fr_F_X12_readLawLine_j67]
theorem fr_F_X12_readLawLine_j32 {x2 : Int} {x3 : Int} {D : mD} : F_X12_readLawLine_j32 x2 x3 (oD D z) = fm z (F_X12_readLawLine_j32 x2 x3 D) := by
  unfold F_X12_readLawLine_j32
  simp (maxSteps := 2000000) (disch := first | decide | assumption) only [oD_r, oD_p, fm_ck, fm_ite, fm_bI, bI_fm, fm_s, fm_n, fr_F_X12_readLawLine_j46]
theorem fr_F_X12_readLawLine {x1 : Int} {D : mD} : F_X12_readLawLine x1 (oD D z) = fm z (F_X12_readLawLine x1 D) := by
  unfold F_X12_readLawLine
  simp (maxSteps := 2000000) (disch := first | decide | assumption) only [oD_r, oD_p, fm_ck, fm_ite, fm_bI, bI_fm, fm_s, fm_n, fr_F_X12_isWord, fr_F_X12_readLawLine_j32]
theorem fr_F_X12_readLine_j16 {x1 : Int} {x2 : Int} {s0 : Int} {s1 : Int} {D : mD} : F_X12_readLine_j16 x1 x2 s0 s1 (oD D z) = fm z (F_X12_readLine_j16 x1 x2 s0 s1 D) := by
  unfold F_X12_readLine_j16
  simp (maxSteps := 2000000) (disch := first | decide | assumption) only [oD_r, oD_p, fm_ck, fm_ite, fm_bI, bI_fm, fm_s, fm_n, fr_F_X12_readLawLine, fr_F_X12_readShopLine]
theorem fr_F_X12_readLine {x1 : Int} {x2 : Int} {D : mD} : F_X12_readLine x1 x2 (oD D z) = fm z (F_X12_readLine x1 x2 D) := by
  unfold F_X12_readLine
  simp (maxSteps := 2000000) (disch := first | decide | assumption) only [oD_r, oD_p, fm_ck, fm_ite, fm_bI, bI_fm, fm_s, fm_n, fr_F_X12_lettersPass, fr_F_X12_readLine_j16]
theorem fr_F_X12_readAll_L28 {x1 : Int} : ∀ (n : Nat) (w0 : Int) (D : mD), F_X12_readAll_L28 x1 n w0 (oD D z) = fm z (F_X12_readAll_L28 x1 n w0 D) := by
  intro n
  induction n with
  | zero => intro w0 D; rfl
  | succ n ih => intro w0 D; simp (maxSteps := 2000000) (disch := first | decide | assumption) only [F_X12_readAll_L28, ih, oD_r, oD_p, fm_ck, fm_ite, fm_bI, bI_fm, fm_s, fm_n, fr_F_X12_blanks, fr_F_X12_isAt, fr_F_X12_readLine]
theorem fr_F_X12_readAll {x1 : Int} {D : mD} : F_X12_readAll x1 (oD D z) = fm z (F_X12_readAll x1 D) := by
  unfold F_X12_readAll
  simp (maxSteps := 2000000) (disch := first | decide | assumption) only [oD_r, oD_p, fm_ck, fm_ite, fm_bI, bI_fm, fm_s, fm_n, fr_F_X12_blanks, fr_F_X12_readAll_L28, fr_F_X12_uses]
theorem fr_F_X12_shop_L93 : ∀ (n : Nat) (w0 : Int) (D : mD), F_X12_shop_L93 n w0 (oD D z) = fm z (F_X12_shop_L93 n w0 D) := by
  intro n
  induction n with
  | zero => intro w0 D; rfl
  | succ n ih => intro w0 D; simp (maxSteps := 2000000) (disch := first | decide | assumption) only [F_X12_shop_L93, ih, oD_r, oD_p, fm_ck, fm_ite, fm_bI, bI_fm, fm_s, fm_n]
theorem fr_F_X12_shop_j84 {s1 : Int} {D : mD} : F_X12_shop_j84 s1 (oD D z) = fm z (F_X12_shop_j84 s1 D) := by
  unfold F_X12_shop_j84
  simp (maxSteps := 2000000) (disch := first | decide | assumption) only [oD_r, oD_p, fm_ck, fm_ite, fm_bI, bI_fm, fm_s, fm_n, fr_F_X12_shop_L93, fr_F_X12_throwsIf]
theorem fr_F_X12_shop_j59 {s1 : Int} {D : mD} : F_X12_shop_j59 s1 (oD D z) = fm z (F_X12_shop_j59 s1 D) := by
  unfold F_X12_shop_j59
  simp (maxSteps := 2000000) (disch := first | decide | assumption) only [oD_r, oD_p, fm_ck, fm_ite, fm_bI, bI_fm, fm_s, fm_n, fr_F_X12_shop_L93, fr_F_X12_shop_j84, fr_F_X12_throwsIf]
theorem fr_F_X12_shop_j46 {x1 : Int} {s1 : Int} {D : mD} : F_X12_shop_j46 x1 s1 (oD D z) = fm z (F_X12_shop_j46 x1 s1 D) := by
  unfold F_X12_shop_j46
  simp (maxSteps := 2000000) (disch := first | decide | assumption) only [oD_r, oD_p, fm_ck, fm_ite, fm_bI, bI_fm, fm_s, fm_n, fr_F_X12_shop_j59]
theorem fr_F_X12_shop_L2 : ∀ (n : Nat) (w0 : Int) (D : mD), F_X12_shop_L2 n w0 (oD D z) = fm z (F_X12_shop_L2 n w0 D) := by
  intro n
  induction n with
  | zero => intro w0 D; rfl
  | succ n ih => intro w0 D; simp (maxSteps := 2000000) (disch := first | decide | assumption) only [F_X12_shop_L2, ih, oD_r, oD_p, fm_ck, fm_ite, fm_bI, bI_fm, fm_s, fm_n, fr_F_X12_readAll, fr_F_X12_shop_j46]
theorem fr_F_X12_shop {D : mD} : F_X12_shop (oD D z) = fm z (F_X12_shop D) := by
  unfold F_X12_shop
  simp (maxSteps := 2000000) (disch := first | decide | assumption) only [oD_r, oD_p, fm_ck, fm_ite, fm_bI, bI_fm, fm_s, fm_n, fr_F_X12_shop_L2]
theorem fr_F_X12_law_L52 {x1 : Int} : ∀ (n : Nat) (w0 : Int) (D : mD), F_X12_law_L52 x1 n w0 (oD D z) = fm z (F_X12_law_L52 x1 n w0 D) := by
  intro n
  induction n with
  | zero => intro w0 D; rfl
  | succ n ih => intro w0 D; simp (maxSteps := 2000000) (disch := first | decide | assumption) only [F_X12_law_L52, ih, oD_r, oD_p, fm_ck, fm_ite, fm_bI, bI_fm, fm_s, fm_n]
theorem fr_F_X12_law_j32 {x1 : Int} {s1 : Int} {D : mD} : F_X12_law_j32 x1 s1 (oD D z) = fm z (F_X12_law_j32 x1 s1 D) := by
  unfold F_X12_law_j32
  simp (maxSteps := 2000000) (disch := first | decide | assumption) only [oD_r, oD_p, fm_ck, fm_ite, fm_bI, bI_fm, fm_s, fm_n, fr_F_X12_law_L52, fr_F_X12_throwsIf]
theorem fr_F_X12_law_j19 {x1 : Int} {s1 : Int} {D : mD} : F_X12_law_j19 x1 s1 (oD D z) = fm z (F_X12_law_j19 x1 s1 D) := by
  unfold F_X12_law_j19
  simp (maxSteps := 2000000) (disch := first | decide | assumption) only [oD_r, oD_p, fm_ck, fm_ite, fm_bI, bI_fm, fm_s, fm_n, fr_F_X12_law_j32]
theorem fr_F_X12_law {D : mD} : F_X12_law (oD D z) = fm z (F_X12_law D) := by
  unfold F_X12_law
  simp (maxSteps := 2000000) (disch := first | decide | assumption) only [oD_r, oD_p, fm_ck, fm_ite, fm_bI, bI_fm, fm_s, fm_n, fr_F_X12_law_j19, fr_F_X12_readAll]
theorem fr_F_X12_isSort {x1 : Int} {D : mD} : F_X12_isSort x1 (oD D z) = fm z (F_X12_isSort x1 D) := by
  unfold F_X12_isSort
  simp (maxSteps := 2000000) (disch := first | decide | assumption) only [oD_r, oD_p, fm_ck, fm_ite, fm_bI, bI_fm, fm_s, fm_n, fr_F_X12_its]
theorem fr_F_X12_factOf {x1 : Int} {x2 : Int} {x3 : Int} {D : mD} : F_X12_factOf x1 x2 x3 (oD D z) = fm z (F_X12_factOf x1 x2 x3 D) := by
  unfold F_X12_factOf
  simp (maxSteps := 2000000) (disch := first | decide | assumption) only [oD_r, oD_p, fm_ck, fm_ite, fm_bI, bI_fm, fm_s, fm_n, fr_F_X12_isSort, fr_F_X12_its]
theorem fr_F_X12_holdsLine_j222 {K22 : Int → Int → mD → RI} {x2 : Int} {x3 : Int} {x4 : Int} {x5 : Int} {x6 : Int} {x7 : Int} {x8 : Int} {s0 : Int} (h_K22 : ∀ (u0 : Int) (u1 : Int) (D : mD), K22 u0 u1 (oD D z) = fm z (K22 u0 u1 D)) {D : mD} : F_X12_holdsLine_j222 K22 x2 x3 x4 x5 x6 x7 x8 s0 (oD D z) = fm z (F_X12_holdsLine_j222 K22 x2 x3 x4 x5 x6 x7 x8 s0 D) := by
  unfold F_X12_holdsLine_j222
  simp (maxSteps := 2000000) (disch := first | decide | assumption) only [oD_r, oD_p, fm_ck, fm_ite, fm_bI, bI_fm, fm_s, fm_n, h_K22]
theorem fr_F_X12_holdsLine_L22 {x2 : Int} {x4 : Int} : ∀ (n : Nat) (w0 : Int) (w1 : Int) (D : mD), F_X12_holdsLine_L22 x2 x4 n w0 w1 (oD D z) = fm z (F_X12_holdsLine_L22 x2 x4 n w0 w1 D) := by
  intro n
  induction n with
  | zero => intro w0 w1 D; rfl
  | succ n ih => intro w0 w1 D; simp (maxSteps := 2000000) (disch := first | decide | assumption) only [F_X12_holdsLine_L22, ih, oD_r, oD_p, fm_ck, fm_ite, fm_bI, bI_fm, fm_s, fm_n, fr_F_X12_factOf, fr_F_X12_holdsLine_j222]
theorem fr_F_X12_holdsLine {x1 : Int} {x2 : Int} {D : mD} : F_X12_holdsLine x1 x2 (oD D z) = fm z (F_X12_holdsLine x1 x2 D) := by
  unfold F_X12_holdsLine
  simp (maxSteps := 2000000) (disch := first | decide | assumption) only [oD_r, oD_p, fm_ck, fm_ite, fm_bI, bI_fm, fm_s, fm_n, fr_F_X12_holdsLine_L22]
theorem fr_F_X12_sumOf_L5 {x1 : Int} {x2 : Int} : ∀ (n : Nat) (w0 : Int) (w1 : Int) (D : mD), F_X12_sumOf_L5 x1 x2 n w0 w1 (oD D z) = fm z (F_X12_sumOf_L5 x1 x2 n w0 w1 D) := by
  intro n
  induction n with
  | zero => intro w0 w1 D; rfl
  | succ n ih => intro w0 w1 D; simp (maxSteps := 2000000) (disch := first | decide | assumption) only [F_X12_sumOf_L5, ih, oD_r, oD_p, fm_ck, fm_ite, fm_bI, bI_fm, fm_s, fm_n, fr_F_X12_holdsLine]
theorem fr_F_X12_sumOf {x1 : Int} {x2 : Int} {D : mD} : F_X12_sumOf x1 x2 (oD D z) = fm z (F_X12_sumOf x1 x2 D) := by
  unfold F_X12_sumOf
  simp (maxSteps := 2000000) (disch := first | decide | assumption) only [oD_r, oD_p, fm_ck, fm_ite, fm_bI, bI_fm, fm_s, fm_n, fr_F_X12_sumOf_L5]
theorem fr_F_X12_weightOf {x1 : Int} {x2 : Int} {x3 : Int} {D : mD} : F_X12_weightOf x1 x2 x3 (oD D z) = fm z (F_X12_weightOf x1 x2 x3 D) := by
  unfold F_X12_weightOf
  simp (maxSteps := 2000000) (disch := first | decide | assumption) only [oD_r, oD_p, fm_ck, fm_ite, fm_bI, bI_fm, fm_s, fm_n, fr_F_X12_sumOf]
theorem fr_F_X12_fadesBy {x1 : Int} {x2 : Int} {D : mD} : F_X12_fadesBy x1 x2 (oD D z) = fm z (F_X12_fadesBy x1 x2 D) := by
  unfold F_X12_fadesBy
  simp (maxSteps := 2000000) (disch := first | decide | assumption) only [oD_r, oD_p, fm_ck, fm_ite, fm_bI, bI_fm, fm_s, fm_n, fr_F_X12_sumOf]
theorem fr_F_X12_spaceOf {x1 : Int} {x2 : Int} {x3 : Int} {D : mD} : F_X12_spaceOf x1 x2 x3 (oD D z) = fm z (F_X12_spaceOf x1 x2 x3 D) := by
  unfold F_X12_spaceOf
  simp (maxSteps := 2000000) (disch := first | decide | assumption) only [oD_r, oD_p, fm_ck, fm_ite, fm_bI, bI_fm, fm_s, fm_n, fr_F_X12_its]
theorem fr_F_X12_whiteBy_L5 {x1 : Int} {x2 : Int} : ∀ (n : Nat) (w0 : Int) (w1 : Int) (D : mD), F_X12_whiteBy_L5 x1 x2 n w0 w1 (oD D z) = fm z (F_X12_whiteBy_L5 x1 x2 n w0 w1 D) := by
  intro n
  induction n with
  | zero => intro w0 w1 D; rfl
  | succ n ih => intro w0 w1 D; simp (maxSteps := 2000000) (disch := first | decide | assumption) only [F_X12_whiteBy_L5, ih, oD_r, oD_p, fm_ck, fm_ite, fm_bI, bI_fm, fm_s, fm_n, fr_F_X12_spaceOf, fr_F_X12_weightOf]
theorem fr_F_X12_whiteBy {x1 : Int} {x2 : Int} {D : mD} : F_X12_whiteBy x1 x2 (oD D z) = fm z (F_X12_whiteBy x1 x2 D) := by
  unfold F_X12_whiteBy
  simp (maxSteps := 2000000) (disch := first | decide | assumption) only [oD_r, oD_p, fm_ck, fm_ite, fm_bI, bI_fm, fm_s, fm_n, fr_F_X12_whiteBy_L5]
theorem fr_F_X12_white {x1 : Int} {D : mD} : F_X12_white x1 (oD D z) = fm z (F_X12_white x1 D) := by
  unfold F_X12_white
  simp (maxSteps := 2000000) (disch := first | decide | assumption) only [oD_r, oD_p, fm_ck, fm_ite, fm_bI, bI_fm, fm_s, fm_n, fr_F_X12_distance, fr_F_X12_whiteBy]
theorem fr_F_X12_leastSpace_L6 {x1 : Int} : ∀ (n : Nat) (w0 : Int) (w1 : Int) (D : mD), F_X12_leastSpace_L6 x1 n w0 w1 (oD D z) = fm z (F_X12_leastSpace_L6 x1 n w0 w1 D) := by
  intro n
  induction n with
  | zero => intro w0 w1 D; rfl
  | succ n ih => intro w0 w1 D; simp (maxSteps := 2000000) (disch := first | decide | assumption) only [F_X12_leastSpace_L6, ih, oD_r, oD_p, fm_ck, fm_ite, fm_bI, bI_fm, fm_s, fm_n, fr_F_X12_distance, fr_F_X12_spaceOf]
theorem fr_F_X12_leastSpace {x1 : Int} {D : mD} : F_X12_leastSpace x1 (oD D z) = fm z (F_X12_leastSpace x1 D) := by
  unfold F_X12_leastSpace
  simp (maxSteps := 2000000) (disch := first | decide | assumption) only [oD_r, oD_p, fm_ck, fm_ite, fm_bI, bI_fm, fm_s, fm_n, fr_F_X12_leastSpace_L6]
theorem fr_F_X12_inkOf_L4 {x1 : Int} : ∀ (n : Nat) (w0 : Int) (w1 : Int) (D : mD), F_X12_inkOf_L4 x1 n w0 w1 (oD D z) = fm z (F_X12_inkOf_L4 x1 n w0 w1 D) := by
  intro n
  induction n with
  | zero => intro w0 w1 D; rfl
  | succ n ih => intro w0 w1 D; simp (maxSteps := 2000000) (disch := first | decide | assumption) only [F_X12_inkOf_L4, ih, oD_r, oD_p, fm_ck, fm_ite, fm_bI, bI_fm, fm_s, fm_n, fr_F_X12_ofSign]
theorem fr_F_X12_inkOf {x1 : Int} {D : mD} : F_X12_inkOf x1 (oD D z) = fm z (F_X12_inkOf x1 D) := by
  unfold F_X12_inkOf
  simp (maxSteps := 2000000) (disch := first | decide | assumption) only [oD_r, oD_p, fm_ck, fm_ite, fm_bI, bI_fm, fm_s, fm_n, fr_F_X12_inkOf_L4]
theorem fr_F_X12_sign_j33 {x1 : Int} {x2 : Int} {s1 : Int} {D : mD} : F_X12_sign_j33 x1 x2 s1 (oD D z) = fm z (F_X12_sign_j33 x1 x2 s1 D) := by
  unfold F_X12_sign_j33
  simp (maxSteps := 2000000) (disch := first | decide | assumption) only [oD_r, oD_p, fm_ck, fm_ite, fm_bI, bI_fm, fm_s, fm_n, fr_F_X12_inkOf, fr_F_X12_ofSign, fr_F_X12_throwsIf]
theorem fr_F_X12_sign {x1 : Int} {x2 : Int} {D : mD} : F_X12_sign x1 x2 (oD D z) = fm z (F_X12_sign x1 x2 D) := by
  unfold F_X12_sign
  simp (maxSteps := 2000000) (disch := first | decide | assumption) only [oD_r, oD_p, fm_ck, fm_ite, fm_bI, bI_fm, fm_s, fm_n, fr_F_X12_in, fr_F_X12_noSign, fr_F_X12_sign_j33, fr_F_X12_throwsIf]
theorem fr_F_X12_side_j51 {x2 : Int} {s1 : Int} {s2 : Int} {D : mD} : F_X12_side_j51 x2 s1 s2 (oD D z) = fm z (F_X12_side_j51 x2 s1 s2 D) := by
  unfold F_X12_side_j51
  simp (maxSteps := 2000000) (disch := first | decide | assumption) only [oD_r, oD_p, fm_ck, fm_ite, fm_bI, bI_fm, fm_s, fm_n, fr_F_X12_ofSign]
theorem fr_F_X12_side_j28 {x1 : Int} {x2 : Int} {x3 : Int} {s1 : Int} {D : mD} : F_X12_side_j28 x1 x2 x3 s1 (oD D z) = fm z (F_X12_side_j28 x1 x2 x3 s1 D) := by
  unfold F_X12_side_j28
  simp (maxSteps := 2000000) (disch := first | decide | assumption) only [oD_r, oD_p, fm_ck, fm_ite, fm_bI, bI_fm, fm_s, fm_n, fr_F_X12_side_j51, fr_F_X12_throwsIf]
theorem fr_F_X12_side_j23 {x1 : Int} {x2 : Int} {x3 : Int} {D : mD} : F_X12_side_j23 x1 x2 x3 (oD D z) = fm z (F_X12_side_j23 x1 x2 x3 D) := by
  unfold F_X12_side_j23
  simp (maxSteps := 2000000) (disch := first | decide | assumption) only [oD_r, oD_p, fm_ck, fm_ite, fm_bI, bI_fm, fm_s, fm_n, fr_F_X12_side_j28]
theorem fr_F_X12_side {x1 : Int} {x2 : Int} {x3 : Int} {D : mD} : F_X12_side x1 x2 x3 (oD D z) = fm z (F_X12_side x1 x2 x3 D) := by
  unfold F_X12_side
  simp (maxSteps := 2000000) (disch := first | decide | assumption) only [oD_r, oD_p, fm_ck, fm_ite, fm_bI, bI_fm, fm_s, fm_n, fr_F_X12_in, fr_F_X12_noSign, fr_F_X12_side_j23, fr_F_X12_side_j28]
theorem fr_F_X12_beginOf_L9 {x1 : Int} : ∀ (n : Nat) (w0 : Int) (w1 : Int) (D : mD), F_X12_beginOf_L9 x1 n w0 w1 (oD D z) = fm z (F_X12_beginOf_L9 x1 n w0 w1 D) := by
  intro n
  induction n with
  | zero => intro w0 w1 D; rfl
  | succ n ih => intro w0 w1 D; simp (maxSteps := 2000000) (disch := first | decide | assumption) only [F_X12_beginOf_L9, ih, oD_r, oD_p, fm_ck, fm_ite, fm_bI, bI_fm, fm_s, fm_n, fr_F_X12_distance, fr_F_X12_widthOf]
theorem fr_F_X12_beginOf {x1 : Int} {D : mD} : F_X12_beginOf x1 (oD D z) = fm z (F_X12_beginOf x1 D) := by
  unfold F_X12_beginOf
  simp (maxSteps := 2000000) (disch := first | decide | assumption) only [oD_r, oD_p, fm_ck, fm_ite, fm_bI, bI_fm, fm_s, fm_n, fr_F_X12_beginOf_L9]
theorem fr_F_X12_endOfLast {D : mD} : F_X12_endOfLast (oD D z) = fm z (F_X12_endOfLast D) := by
  unfold F_X12_endOfLast
  simp (maxSteps := 2000000) (disch := first | decide | assumption) only [oD_r, oD_p, fm_ck, fm_ite, fm_bI, bI_fm, fm_s, fm_n, fr_F_X12_beginOf, fr_F_X12_letters, fr_F_X12_widthOf]
theorem fr_F_X12_letter_j33 {x1 : Int} {x2 : Int} {s1 : Int} {D : mD} : F_X12_letter_j33 x1 x2 s1 (oD D z) = fm z (F_X12_letter_j33 x1 x2 s1 D) := by
  unfold F_X12_letter_j33
  simp (maxSteps := 2000000) (disch := first | decide | assumption) only [oD_r, oD_p, fm_ck, fm_ite, fm_bI, bI_fm, fm_s, fm_n, fr_F_X12_beginOf, fr_F_X12_of, fr_F_X12_throwsIf, fr_F_X12_widthOf]
theorem fr_F_X12_letter {x1 : Int} {x2 : Int} {D : mD} : F_X12_letter x1 x2 (oD D z) = fm z (F_X12_letter x1 x2 D) := by
  unfold F_X12_letter
  simp (maxSteps := 2000000) (disch := first | decide | assumption) only [oD_r, oD_p, fm_ck, fm_ite, fm_bI, bI_fm, fm_s, fm_n, fr_F_X12_in, fr_F_X12_letter_j33, fr_F_X12_noLetter, fr_F_X12_throwsIf]
theorem fr_F_X12_gap_j33 {x1 : Int} {x2 : Int} {s1 : Int} {D : mD} : F_X12_gap_j33 x1 x2 s1 (oD D z) = fm z (F_X12_gap_j33 x1 x2 s1 D) := by
  unfold F_X12_gap_j33
  simp (maxSteps := 2000000) (disch := first | decide | assumption) only [oD_r, oD_p, fm_ck, fm_ite, fm_bI, bI_fm, fm_s, fm_n, fr_F_X12_distance, fr_F_X12_leastSpace, fr_F_X12_throwsIf, fr_F_X12_white]
theorem fr_F_X12_gap {x1 : Int} {x2 : Int} {D : mD} : F_X12_gap x1 x2 (oD D z) = fm z (F_X12_gap x1 x2 D) := by
  unfold F_X12_gap
  simp (maxSteps := 2000000) (disch := first | decide | assumption) only [oD_r, oD_p, fm_ck, fm_ite, fm_bI, bI_fm, fm_s, fm_n, fr_F_X12_gap_j33, fr_F_X12_in, fr_F_X12_noGap, fr_F_X12_throwsIf]
theorem fr_F_X12_row_j28 {x1 : Int} {x2 : Int} {x3 : Int} {s1 : Int} {D : mD} : F_X12_row_j28 x1 x2 x3 s1 (oD D z) = fm z (F_X12_row_j28 x1 x2 x3 s1 D) := by
  unfold F_X12_row_j28
  simp (maxSteps := 2000000) (disch := first | decide | assumption) only [oD_r, oD_p, fm_ck, fm_ite, fm_bI, bI_fm, fm_s, fm_n, fr_F_X12_distance, fr_F_X12_spaceOf, fr_F_X12_throwsIf, fr_F_X12_weightOf]
theorem fr_F_X12_row_j23 {x1 : Int} {x2 : Int} {x3 : Int} {D : mD} : F_X12_row_j23 x1 x2 x3 (oD D z) = fm z (F_X12_row_j23 x1 x2 x3 D) := by
  unfold F_X12_row_j23
  simp (maxSteps := 2000000) (disch := first | decide | assumption) only [oD_r, oD_p, fm_ck, fm_ite, fm_bI, bI_fm, fm_s, fm_n, fr_F_X12_row_j28]
theorem fr_F_X12_row {x1 : Int} {x2 : Int} {x3 : Int} {D : mD} : F_X12_row x1 x2 x3 (oD D z) = fm z (F_X12_row x1 x2 x3 D) := by
  unfold F_X12_row
  simp (maxSteps := 2000000) (disch := first | decide | assumption) only [oD_r, oD_p, fm_ck, fm_ite, fm_bI, bI_fm, fm_s, fm_n, fr_F_X12_in, fr_F_X12_noGap, fr_F_X12_row_j23, fr_F_X12_row_j28]
theorem fr_F_X12_noLight {x0 : Int} {x1 : Int} {D : mD} : F_X12_noLight x0 x1 (oD D z) = fm z (F_X12_noLight x0 x1 D) := by
  unfold F_X12_noLight
  simp (maxSteps := 2000000) (disch := first | decide | assumption) only [oD_r, oD_p, fm_ck, fm_ite, fm_bI, bI_fm, fm_s, fm_n, fr_F_X12_in]
theorem fr_F_X12_fades {x1 : Int} {x2 : Int} {D : mD} : F_X12_fades x1 x2 (oD D z) = fm z (F_X12_fades x1 x2 D) := by
  unfold F_X12_fades
  simp (maxSteps := 2000000) (disch := first | decide | assumption) only [oD_r, oD_p, fm_ck, fm_ite, fm_bI, bI_fm, fm_s, fm_n, fr_F_X12_fadesBy, fr_F_X12_noLight, fr_F_X12_throwsIf]
theorem fr_F_X12_shift_j34 {x1 : Int} {x2 : Int} {s1 : Int} {D : mD} : F_X12_shift_j34 x1 x2 s1 (oD D z) = fm z (F_X12_shift_j34 x1 x2 s1 D) := by
  unfold F_X12_shift_j34
  simp (maxSteps := 2000000) (disch := first | decide | assumption) only [oD_r, oD_p, fm_ck, fm_ite, fm_bI, bI_fm, fm_s, fm_n, fr_F_X12_distance, fr_F_X12_remembers, fr_F_X12_sets, fr_F_X12_throwsIf]
theorem fr_F_X12_shift {x1 : Int} {x2 : Int} {D : mD} : F_X12_shift x1 x2 (oD D z) = fm z (F_X12_shift x1 x2 D) := by
  unfold F_X12_shift
  simp (maxSteps := 2000000) (disch := first | decide | assumption) only [oD_r, oD_p, fm_ck, fm_ite, fm_bI, bI_fm, fm_s, fm_n, fr_F_X12_in, fr_F_X12_noGap, fr_F_X12_shift_j34, fr_F_X12_throwsIf]
theorem fr_F_X12_squeezed_j45 {x1 : Int} {x2 : Int} {s1 : Int} {D : mD} : F_X12_squeezed_j45 x1 x2 s1 (oD D z) = fm z (F_X12_squeezed_j45 x1 x2 s1 D) := by
  unfold F_X12_squeezed_j45
  simp (maxSteps := 2000000) (disch := first | decide | assumption) only [oD_r, oD_p, fm_ck, fm_ite, fm_bI, bI_fm, fm_s, fm_n, fr_F_X12_of, fr_F_X12_remembers, fr_F_X12_sets, fr_F_X12_throwsIf]
theorem fr_F_X12_squeezed_j40 {x1 : Int} {x2 : Int} {D : mD} : F_X12_squeezed_j40 x1 x2 (oD D z) = fm z (F_X12_squeezed_j40 x1 x2 D) := by
  unfold F_X12_squeezed_j40
  simp (maxSteps := 2000000) (disch := first | decide | assumption) only [oD_r, oD_p, fm_ck, fm_ite, fm_bI, bI_fm, fm_s, fm_n, fr_F_X12_squeezed_j45]
theorem fr_F_X12_squeezed {x1 : Int} {x2 : Int} {D : mD} : F_X12_squeezed x1 x2 (oD D z) = fm z (F_X12_squeezed x1 x2 D) := by
  unfold F_X12_squeezed
  simp (maxSteps := 2000000) (disch := first | decide | assumption) only [oD_r, oD_p, fm_ck, fm_ite, fm_bI, bI_fm, fm_s, fm_n, fr_F_X12_in, fr_F_X12_its, fr_F_X12_noLetter, fr_F_X12_squeezed_j40, fr_F_X12_squeezed_j45, fr_F_X12_throwsIf]
theorem fr_F_X12_shadow_j21 {x1 : Int} {s1 : Int} {D : mD} : F_X12_shadow_j21 x1 s1 (oD D z) = fm z (F_X12_shadow_j21 x1 s1 D) := by
  unfold F_X12_shadow_j21
  simp (maxSteps := 2000000) (disch := first | decide | assumption) only [oD_r, oD_p, fm_ck, fm_ite, fm_bI, bI_fm, fm_s, fm_n, fr_F_X12_remembers, fr_F_X12_throwsIf]
theorem fr_F_X12_shadow {x1 : Int} {D : mD} : F_X12_shadow x1 (oD D z) = fm z (F_X12_shadow x1 D) := by
  unfold F_X12_shadow
  simp (maxSteps := 2000000) (disch := first | decide | assumption) only [oD_r, oD_p, fm_ck, fm_ite, fm_bI, bI_fm, fm_s, fm_n, fr_F_X12_in, fr_F_X12_shadow_j21]
theorem fr_F_X12_laysWhites_L12 {K2 : Int → mD → RI} {x1 : Int} (h_K2 : ∀ (u0 : Int) (D : mD), K2 u0 (oD D z) = fm z (K2 u0 D)) : ∀ (n : Nat) (w0 : Int) (D : mD), F_X12_laysWhites_L12 K2 x1 n w0 (oD D z) = fm z (F_X12_laysWhites_L12 K2 x1 n w0 D) := by
  intro n
  induction n with
  | zero => intro w0 D; rfl
  | succ n ih => intro w0 D; simp (maxSteps := 2000000) (disch := first | decide | assumption) only [F_X12_laysWhites_L12, ih, oD_r, oD_p, fm_ck, fm_ite, fm_bI, bI_fm, fm_s, fm_n, fr_F_X12_whiteBy, h_K2]
theorem fr_F_X12_laysWhites_L2 : ∀ (n : Nat) (w0 : Int) (D : mD), F_X12_laysWhites_L2 n w0 (oD D z) = fm z (F_X12_laysWhites_L2 n w0 D) := by
  intro n
  induction n with
  | zero => intro w0 D; rfl
  | succ n ih => intro w0 D; simp (maxSteps := 2000000) (disch := first | decide | assumption) only [F_X12_laysWhites_L2, ih, oD_r, oD_p, fm_ck, fm_ite, fm_bI, bI_fm, fm_s, fm_n, fr_F_X12_gaps, fr_F_X12_laysWhites_L12]
theorem fr_F_X12_laysWhites {D : mD} : F_X12_laysWhites (oD D z) = fm z (F_X12_laysWhites D) := by
  unfold F_X12_laysWhites
  simp (maxSteps := 2000000) (disch := first | decide | assumption) only [oD_r, oD_p, fm_ck, fm_ite, fm_bI, bI_fm, fm_s, fm_n, fr_F_X12_laysWhites_L2]
theorem fr_F_X12_leastAt {x0 : Int} {x1 : Int} {D : mD} : F_X12_leastAt x0 x1 (oD D z) = fm z (F_X12_leastAt x0 x1 D) := by
  unfold F_X12_leastAt
  simp (maxSteps := 2000000) (disch := first | decide | assumption) only [oD_r, oD_p, fm_ck, fm_ite, fm_bI, bI_fm, fm_s, fm_n]
theorem fr_F_X12_offBy {x1 : Int} {x2 : Int} {x3 : Int} {D : mD} : F_X12_offBy x1 x2 x3 (oD D z) = fm z (F_X12_offBy x1 x2 x3 D) := by
  unfold F_X12_offBy
  simp (maxSteps := 2000000) (disch := first | decide | assumption) only [oD_r, oD_p, fm_ck, fm_ite, fm_bI, bI_fm, fm_s, fm_n]
theorem fr_F_X12_rest {x1 : Int} {x2 : Int} {D : mD} : F_X12_rest x1 x2 (oD D z) = fm z (F_X12_rest x1 x2 D) := by
  unfold F_X12_rest
  simp (maxSteps := 2000000) (disch := first | decide | assumption) only [oD_r, oD_p, fm_ck, fm_ite, fm_bI, bI_fm, fm_s, fm_n, fr_F_X12_leastAt]
theorem fr_F_X12_widths_L4 : ∀ (n : Nat) (w0 : Int) (w1 : Int) (D : mD), F_X12_widths_L4 n w0 w1 (oD D z) = fm z (F_X12_widths_L4 n w0 w1 D) := by
  intro n
  induction n with
  | zero => intro w0 w1 D; rfl
  | succ n ih => intro w0 w1 D; simp (maxSteps := 2000000) (disch := first | decide | assumption) only [F_X12_widths_L4, ih, oD_r, oD_p, fm_ck, fm_ite, fm_bI, bI_fm, fm_s, fm_n, fr_F_X12_letters, fr_F_X12_widthOf]
theorem fr_F_X12_widths {D : mD} : F_X12_widths (oD D z) = fm z (F_X12_widths D) := by
  unfold F_X12_widths
  simp (maxSteps := 2000000) (disch := first | decide | assumption) only [oD_r, oD_p, fm_ck, fm_ite, fm_bI, bI_fm, fm_s, fm_n, fr_F_X12_widths_L4]
theorem fr_F_X12_room {x1 : Int} {D : mD} : F_X12_room x1 (oD D z) = fm z (F_X12_room x1 D) := by
  unfold F_X12_room
  simp (maxSteps := 2000000) (disch := first | decide | assumption) only [oD_r, oD_p, fm_ck, fm_ite, fm_bI, bI_fm, fm_s, fm_n, fr_F_X12_widths]
theorem fr_F_X12_laysBy_j142 {K70 : Int → mD → RI} {K78 : Int → mD → RI} {x1 : Int} {x3 : Int} {x4 : Int} {x5 : Int} {x6 : Int} (h_K70 : ∀ (u0 : Int) (D : mD), K70 u0 (oD D z) = fm z (K70 u0 D)) (h_K78 : ∀ (u0 : Int) (D : mD), K78 u0 (oD D z) = fm z (K78 u0 D)) {D : mD} : F_X12_laysBy_j142 K70 K78 x1 x3 x4 x5 x6 (oD D z) = fm z (F_X12_laysBy_j142 K70 K78 x1 x3 x4 x5 x6 D) := by
  unfold F_X12_laysBy_j142
  simp (maxSteps := 2000000) (disch := first | decide | assumption) only [oD_r, oD_p, fm_ck, fm_ite, fm_bI, bI_fm, fm_s, fm_n, fr_F_X12_leastAt, h_K70, h_K78]
theorem fr_F_X12_laysBy_L92 {K70 : Int → mD → RI} {K78 : Int → mD → RI} {x1 : Int} {x3 : Int} {x4 : Int} {x5 : Int} (h_K70 : ∀ (u0 : Int) (D : mD), K70 u0 (oD D z) = fm z (K70 u0 D)) (h_K78 : ∀ (u0 : Int) (D : mD), K78 u0 (oD D z) = fm z (K78 u0 D)) : ∀ (n : Nat) (w0 : Int) (w1 : Int) (D : mD), F_X12_laysBy_L92 K70 K78 x1 x3 x4 x5 n w0 w1 (oD D z) = fm z (F_X12_laysBy_L92 K70 K78 x1 x3 x4 x5 n w0 w1 D) := by
  intro n
  induction n with
  | zero => intro w0 w1 D; rfl
  | succ n ih => intro w0 w1 D; simp (maxSteps := 2000000) (disch := first | decide | assumption) only [F_X12_laysBy_L92, ih, oD_r, oD_p, fm_ck, fm_ite, fm_bI, bI_fm, fm_s, fm_n, fr_F_X12_laysBy_j142, fr_F_X12_offBy, fr_F_X12_rest, h_K70, h_K78]
theorem fr_F_X12_laysBy_L78 {K70 : Int → mD → RI} {x1 : Int} {x3 : Int} {x4 : Int} (h_K70 : ∀ (u0 : Int) (D : mD), K70 u0 (oD D z) = fm z (K70 u0 D)) : ∀ (n : Nat) (w0 : Int) (D : mD), F_X12_laysBy_L78 K70 x1 x3 x4 n w0 (oD D z) = fm z (F_X12_laysBy_L78 K70 x1 x3 x4 n w0 D) := by
  intro n
  induction n with
  | zero => intro w0 D; rfl
  | succ n ih => intro w0 D; simp (maxSteps := 2000000) (disch := first | decide | assumption) only [F_X12_laysBy_L78, ih, oD_r, oD_p, fm_ck, fm_ite, fm_bI, bI_fm, fm_s, fm_n, fr_F_X12_laysBy_L92, h_K70]
theorem fr_F_X12_laysBy_L70 {x1 : Int} {x3 : Int} : ∀ (n : Nat) (w0 : Int) (D : mD), F_X12_laysBy_L70 x1 x3 n w0 (oD D z) = fm z (F_X12_laysBy_L70 x1 x3 n w0 D) := by
  intro n
  induction n with
  | zero => intro w0 D; rfl
  | succ n ih => intro w0 D; simp (maxSteps := 2000000) (disch := first | decide | assumption) only [F_X12_laysBy_L70, ih, oD_r, oD_p, fm_ck, fm_ite, fm_bI, bI_fm, fm_s, fm_n, fr_F_X12_laysBy_L78, fr_F_X12_leastAt]
theorem fr_F_X12_laysBy_L24 {x1 : Int} {x3 : Int} : ∀ (n : Nat) (w0 : Int) (D : mD), F_X12_laysBy_L24 x1 x3 n w0 (oD D z) = fm z (F_X12_laysBy_L24 x1 x3 n w0 D) := by
  intro n
  induction n with
  | zero => intro w0 D; rfl
  | succ n ih => intro w0 D; simp (maxSteps := 2000000) (disch := first | decide | assumption) only [F_X12_laysBy_L24, ih, oD_r, oD_p, fm_ck, fm_ite, fm_bI, bI_fm, fm_s, fm_n, fr_F_X12_gaps, fr_F_X12_laysBy_L70, fr_F_X12_leastAt]
theorem fr_F_X12_laysBy {x1 : Int} {x2 : Int} {D : mD} : F_X12_laysBy x1 x2 (oD D z) = fm z (F_X12_laysBy x1 x2 D) := by
  unfold F_X12_laysBy
  simp (maxSteps := 2000000) (disch := first | decide | assumption) only [oD_r, oD_p, fm_ck, fm_ite, fm_bI, bI_fm, fm_s, fm_n, fr_F_X12_laysBy_L24, fr_F_X12_letters, fr_F_X12_room]
theorem fr_F_X12_firstWay_L19 {K8 : Int → Int → mD → RI} {x1 : Int} {x2 : Int} {x3 : Int} (h_K8 : ∀ (u0 : Int) (u1 : Int) (D : mD), K8 u0 u1 (oD D z) = fm z (K8 u0 u1 D)) : ∀ (n : Nat) (w0 : Int) (D : mD), F_X12_firstWay_L19 K8 x1 x2 x3 n w0 (oD D z) = fm z (F_X12_firstWay_L19 K8 x1 x2 x3 n w0 D) := by
  intro n
  induction n with
  | zero => intro w0 D; rfl
  | succ n ih => intro w0 D; simp (maxSteps := 2000000) (disch := first | decide | assumption) only [F_X12_firstWay_L19, ih, oD_r, oD_p, fm_ck, fm_ite, fm_bI, bI_fm, fm_s, fm_n, fr_F_X12_offBy, fr_F_X12_rest, h_K8]
theorem fr_F_X12_firstWay_L8 {x1 : Int} : ∀ (n : Nat) (w0 : Int) (w1 : Int) (D : mD), F_X12_firstWay_L8 x1 n w0 w1 (oD D z) = fm z (F_X12_firstWay_L8 x1 n w0 w1 D) := by
  intro n
  induction n with
  | zero => intro w0 w1 D; rfl
  | succ n ih => intro w0 w1 D; simp (maxSteps := 2000000) (disch := first | decide | assumption) only [F_X12_firstWay_L8, ih, oD_r, oD_p, fm_ck, fm_ite, fm_bI, bI_fm, fm_s, fm_n, fr_F_X12_firstWay_L19, fr_F_X12_gaps]
theorem fr_F_X12_firstWay {x1 : Int} {D : mD} : F_X12_firstWay x1 (oD D z) = fm z (F_X12_firstWay x1 D) := by
  unfold F_X12_firstWay
  simp (maxSteps := 2000000) (disch := first | decide | assumption) only [oD_r, oD_p, fm_ck, fm_ite, fm_bI, bI_fm, fm_s, fm_n, fr_F_X12_firstWay_L8, fr_F_X12_room]
theorem fr_F_X12_lays_L63 {x2 : Int} : ∀ (n : Nat) (w0 : Int) (D : mD), F_X12_lays_L63 x2 n w0 (oD D z) = fm z (F_X12_lays_L63 x2 n w0 D) := by
  intro n
  induction n with
  | zero => intro w0 D; rfl
  | succ n ih => intro w0 D; simp (maxSteps := 2000000) (disch := first | decide | assumption) only [F_X12_lays_L63, ih, oD_r, oD_p, fm_ck, fm_ite, fm_bI, bI_fm, fm_s, fm_n, fr_F_X12_gaps, fr_F_X12_sets]
theorem fr_F_X12_lays_j43 {x1 : Int} {x2 : Int} {s1 : Int} {D : mD} : F_X12_lays_j43 x1 x2 s1 (oD D z) = fm z (F_X12_lays_j43 x1 x2 s1 D) := by
  unfold F_X12_lays_j43
  simp (maxSteps := 2000000) (disch := first | decide | assumption) only [oD_r, oD_p, fm_ck, fm_ite, fm_bI, bI_fm, fm_s, fm_n, fr_F_X12_firstWay, fr_F_X12_lays_L63, fr_F_X12_remembers, fr_F_X12_throwsIf]
theorem fr_F_X12_lays {x1 : Int} {D : mD} : F_X12_lays x1 (oD D z) = fm z (F_X12_lays x1 D) := by
  unfold F_X12_lays
  simp (maxSteps := 2000000) (disch := first | decide | assumption) only [oD_r, oD_p, fm_ck, fm_ite, fm_bI, bI_fm, fm_s, fm_n, fr_F_X12_laysBy, fr_F_X12_laysWhites, fr_F_X12_lays_j43, fr_F_X12_noWhite, fr_F_X12_throwsIf]
theorem fr_F_X12_laid_j42 {x3 : Int} {D : mD} : F_X12_laid_j42 x3 (oD D z) = fm z (F_X12_laid_j42 x3 D) := by
  unfold F_X12_laid_j42
  simp (maxSteps := 2000000) (disch := first | decide | assumption) only [oD_r, oD_p, fm_ck, fm_ite, fm_bI, bI_fm, fm_s, fm_n]
theorem fr_F_X12_laid {x1 : Int} {x2 : Int} {D : mD} : F_X12_laid x1 x2 (oD D z) = fm z (F_X12_laid x1 x2 D) := by
  unfold F_X12_laid
  simp (maxSteps := 2000000) (disch := first | decide | assumption) only [oD_r, oD_p, fm_ck, fm_ite, fm_bI, bI_fm, fm_s, fm_n, fr_F_X12_firstWay, fr_F_X12_gaps, fr_F_X12_in, fr_F_X12_laid_j42, fr_F_X12_laysBy, fr_F_X12_laysWhites, fr_F_X12_noWhite, fr_F_X12_throwsIf]
theorem fr_F_X12_best_L18 {x1 : Int} : ∀ (n : Nat) (w0 : Int) (w1 : Int) (w2 : Int) (D : mD), F_X12_best_L18 x1 n w0 w1 w2 (oD D z) = fm z (F_X12_best_L18 x1 n w0 w1 w2 D) := by
  intro n
  induction n with
  | zero => intro w0 w1 w2 D; rfl
  | succ n ih => intro w0 w1 w2 D; simp (maxSteps := 2000000) (disch := first | decide | assumption) only [F_X12_best_L18, ih, oD_r, oD_p, fm_ck, fm_ite, fm_bI, bI_fm, fm_s, fm_n, fr_F_X12_laysBy]
theorem fr_F_X12_best {x1 : Int} {D : mD} : F_X12_best x1 (oD D z) = fm z (F_X12_best x1 D) := by
  unfold F_X12_best
  simp (maxSteps := 2000000) (disch := first | decide | assumption) only [oD_r, oD_p, fm_ck, fm_ite, fm_bI, bI_fm, fm_s, fm_n, fr_F_X12_best_L18, fr_F_X12_laysWhites]
theorem fr_F_X12_inch {x1 : Int} {D : mD} : F_X12_inch x1 (oD D z) = fm z (F_X12_inch x1 D) := by
  unfold F_X12_inch
  simp (maxSteps := 2000000) (disch := first | decide | assumption) only [oD_r, oD_p, fm_ck, fm_ite, fm_bI, bI_fm, fm_s, fm_n, fr_F_X12_laysBy, fr_F_X12_laysWhites, fr_F_X12_noWhite, fr_F_X12_throwsIf]
theorem fr_F_X12_nextLetter_L10 {x1 : Int} : ∀ (n : Nat) (w0 : Int) (D : mD), F_X12_nextLetter_L10 x1 n w0 (oD D z) = fm z (F_X12_nextLetter_L10 x1 n w0 D) := by
  intro n
  induction n with
  | zero => intro w0 D; rfl
  | succ n ih => intro w0 D; simp (maxSteps := 2000000) (disch := first | decide | assumption) only [F_X12_nextLetter_L10, ih, oD_r, oD_p, fm_ck, fm_ite, fm_bI, bI_fm, fm_s, fm_n, fr_F_X12_isPainted, fr_F_X12_letters]
theorem fr_F_X12_nextLetter {D : mD} : F_X12_nextLetter (oD D z) = fm z (F_X12_nextLetter D) := by
  unfold F_X12_nextLetter
  simp (maxSteps := 2000000) (disch := first | decide | assumption) only [oD_r, oD_p, fm_ck, fm_ite, fm_bI, bI_fm, fm_s, fm_n, fr_F_X12_nextLetter_L10]
theorem fr_F_X12_gapOf {x1 : Int} {D : mD} : F_X12_gapOf x1 (oD D z) = fm z (F_X12_gapOf x1 D) := by
  unfold F_X12_gapOf
  simp (maxSteps := 2000000) (disch := first | decide | assumption) only [oD_r, oD_p, fm_ck, fm_ite, fm_bI, bI_fm, fm_s, fm_n, fr_F_X12_gaps]
theorem fr_F_X12_slipsBy {x1 : Int} {x2 : Int} {D : mD} : F_X12_slipsBy x1 x2 (oD D z) = fm z (F_X12_slipsBy x1 x2 D) := by
  unfold F_X12_slipsBy
  simp (maxSteps := 2000000) (disch := first | decide | assumption) only [oD_r, oD_p, fm_ck, fm_ite, fm_bI, bI_fm, fm_s, fm_n, fr_F_X12_distance, fr_F_X12_draw, fr_F_X12_gapOf, fr_F_X12_gaps, fr_F_X12_sets]
theorem fr_F_X12_isLogged_L5 {x1 : Int} {x2 : Int} {x3 : Int} : ∀ (n : Nat) (w0 : Int) (D : mD), F_X12_isLogged_L5 x1 x2 x3 n w0 (oD D z) = fm z (F_X12_isLogged_L5 x1 x2 x3 n w0 D) := by
  intro n
  induction n with
  | zero => intro w0 D; rfl
  | succ n ih => intro w0 D; simp (maxSteps := 2000000) (disch := first | decide | assumption) only [F_X12_isLogged_L5, ih, oD_r, oD_p, fm_ck, fm_ite, fm_bI, bI_fm, fm_s, fm_n]
theorem fr_F_X12_isLogged {x1 : Int} {x2 : Int} {x3 : Int} {D : mD} : F_X12_isLogged x1 x2 x3 (oD D z) = fm z (F_X12_isLogged x1 x2 x3 D) := by
  unfold F_X12_isLogged
  simp (maxSteps := 2000000) (disch := first | decide | assumption) only [oD_r, oD_p, fm_ck, fm_ite, fm_bI, bI_fm, fm_s, fm_n, fr_F_X12_isLogged_L5]
theorem fr_F_X12_paints_j34 {x2 : Int} {D : mD} : F_X12_paints_j34 x2 (oD D z) = fm z (F_X12_paints_j34 x2 D) := by
  unfold F_X12_paints_j34
  simp (maxSteps := 2000000) (disch := first | decide | assumption) only [oD_r, oD_p, fm_ck, fm_ite, fm_bI, bI_fm, fm_s, fm_n]
theorem fr_F_X12_paints {x1 : Int} {D : mD} : F_X12_paints x1 (oD D z) = fm z (F_X12_paints x1 D) := by
  unfold F_X12_paints
  simp (maxSteps := 2000000) (disch := first | decide | assumption) only [oD_r, oD_p, fm_ck, fm_ite, fm_bI, bI_fm, fm_s, fm_n, fr_F_X12_isLogged, fr_F_X12_nextLetter, fr_F_X12_paints_j34, fr_F_X12_sets, fr_F_X12_slipsBy]
theorem fr_F_X12_paint {x1 : Int} {D : mD} : F_X12_paint x1 (oD D z) = fm z (F_X12_paint x1 D) := by
  unfold F_X12_paint
  simp (maxSteps := 2000000) (disch := first | decide | assumption) only [oD_r, oD_p, fm_ck, fm_ite, fm_bI, bI_fm, fm_s, fm_n, fr_F_X12_noWriter, fr_F_X12_paints, fr_F_X12_remembers, fr_F_X12_throwsIf]
theorem fr_F_X12_painted_L4 : ∀ (n : Nat) (w0 : Int) (w1 : Int) (D : mD), F_X12_painted_L4 n w0 w1 (oD D z) = fm z (F_X12_painted_L4 n w0 w1 D) := by
  intro n
  induction n with
  | zero => intro w0 w1 D; rfl
  | succ n ih => intro w0 w1 D; simp (maxSteps := 2000000) (disch := first | decide | assumption) only [F_X12_painted_L4, ih, oD_r, oD_p, fm_ck, fm_ite, fm_bI, bI_fm, fm_s, fm_n, fr_F_X12_isPainted, fr_F_X12_letters]
theorem fr_F_X12_painted {D : mD} : F_X12_painted (oD D z) = fm z (F_X12_painted D) := by
  unfold F_X12_painted
  simp (maxSteps := 2000000) (disch := first | decide | assumption) only [oD_r, oD_p, fm_ck, fm_ite, fm_bI, bI_fm, fm_s, fm_n, fr_F_X12_painted_L4]
theorem fr_F_X12_allLetters {D : mD} : F_X12_allLetters (oD D z) = fm z (F_X12_allLetters D) := by
  unfold F_X12_allLetters
  simp (maxSteps := 2000000) (disch := first | decide | assumption) only [oD_r, oD_p, fm_ck, fm_ite, fm_bI, bI_fm, fm_s, fm_n, fr_F_X12_letters]
theorem fr_F_X12_keepsAll_L2 : ∀ (n : Nat) (w0 : Int) (D : mD), F_X12_keepsAll_L2 n w0 (oD D z) = fm z (F_X12_keepsAll_L2 n w0 D) := by
  intro n
  induction n with
  | zero => intro w0 D; rfl
  | succ n ih => intro w0 D; simp (maxSteps := 2000000) (disch := first | decide | assumption) only [F_X12_keepsAll_L2, ih, oD_r, oD_p, fm_ck, fm_ite, fm_bI, bI_fm, fm_s, fm_n]
theorem fr_F_X12_keepsAll {D : mD} : F_X12_keepsAll (oD D z) = fm z (F_X12_keepsAll D) := by
  unfold F_X12_keepsAll
  simp (maxSteps := 2000000) (disch := first | decide | assumption) only [oD_r, oD_p, fm_ck, fm_ite, fm_bI, bI_fm, fm_s, fm_n, fr_F_X12_keepsAll_L2]
theorem fr_F_X12_bringsBack_L2 : ∀ (n : Nat) (w0 : Int) (D : mD), F_X12_bringsBack_L2 n w0 (oD D z) = fm z (F_X12_bringsBack_L2 n w0 D) := by
  intro n
  induction n with
  | zero => intro w0 D; rfl
  | succ n ih => intro w0 D; simp (maxSteps := 2000000) (disch := first | decide | assumption) only [F_X12_bringsBack_L2, ih, oD_r, oD_p, fm_ck, fm_ite, fm_bI, bI_fm, fm_s, fm_n]
theorem fr_F_X12_bringsBack {D : mD} : F_X12_bringsBack (oD D z) = fm z (F_X12_bringsBack D) := by
  unfold F_X12_bringsBack
  simp (maxSteps := 2000000) (disch := first | decide | assumption) only [oD_r, oD_p, fm_ck, fm_ite, fm_bI, bI_fm, fm_s, fm_n, fr_F_X12_bringsBack_L2]
theorem fr_F_X12_order_j43 {K13 : Int → Int → mD → RI} {x1 : Int} {x2 : Int} {x3 : Int} {x4 : Int} (h_K13 : ∀ (u0 : Int) (u1 : Int) (D : mD), K13 u0 u1 (oD D z) = fm z (K13 u0 u1 D)) {D : mD} : F_X12_order_j43 K13 x1 x2 x3 x4 (oD D z) = fm z (F_X12_order_j43 K13 x1 x2 x3 x4 D) := by
  unfold F_X12_order_j43
  simp (maxSteps := 2000000) (disch := first | decide | assumption) only [oD_r, oD_p, fm_ck, fm_ite, fm_bI, bI_fm, fm_s, fm_n, h_K13]
theorem fr_F_X12_order_L13 {x1 : Int} : ∀ (n : Nat) (w0 : Int) (w1 : Int) (D : mD), F_X12_order_L13 x1 n w0 w1 (oD D z) = fm z (F_X12_order_L13 x1 n w0 w1 D) := by
  intro n
  induction n with
  | zero => intro w0 w1 D; rfl
  | succ n ih => intro w0 w1 D; simp (maxSteps := 2000000) (disch := first | decide | assumption) only [F_X12_order_L13, ih, oD_r, oD_p, fm_ck, fm_ite, fm_bI, bI_fm, fm_s, fm_n, fr_F_X12_allLetters, fr_F_X12_bringsBack, fr_F_X12_nextLetter, fr_F_X12_order_j43, fr_F_X12_painted, fr_F_X12_sets]
theorem fr_F_X12_order {x1 : Int} {D : mD} : F_X12_order x1 (oD D z) = fm z (F_X12_order x1 D) := by
  unfold F_X12_order
  simp (maxSteps := 2000000) (disch := first | decide | assumption) only [oD_r, oD_p, fm_ck, fm_ite, fm_bI, bI_fm, fm_s, fm_n, fr_F_X12_keepsAll, fr_F_X12_order_L13]
theorem fr_F_X12_brushAt {x1 : Int} {x2 : Int} {D : mD} : F_X12_brushAt x1 x2 (oD D z) = fm z (F_X12_brushAt x1 x2 D) := by
  unfold F_X12_brushAt
  simp (maxSteps := 2000000) (disch := first | decide | assumption) only [oD_r, oD_p, fm_ck, fm_ite, fm_bI, bI_fm, fm_s, fm_n]
theorem fr_F_X12_brushes_j63 {K28 : Int → Int → mD → RI} {x1 : Int} {x2 : Int} {x3 : Int} {x4 : Int} {x5 : Int} (h_K28 : ∀ (u0 : Int) (u1 : Int) (D : mD), K28 u0 u1 (oD D z) = fm z (K28 u0 u1 D)) {D : mD} : F_X12_brushes_j63 K28 x1 x2 x3 x4 x5 (oD D z) = fm z (F_X12_brushes_j63 K28 x1 x2 x3 x4 x5 D) := by
  unfold F_X12_brushes_j63
  simp (maxSteps := 2000000) (disch := first | decide | assumption) only [oD_r, oD_p, fm_ck, fm_ite, fm_bI, bI_fm, fm_s, fm_n, fr_F_X12_brushAt, h_K28]
theorem fr_F_X12_brushes_L28 {x1 : Int} {x2 : Int} {x3 : Int} : ∀ (n : Nat) (w0 : Int) (w1 : Int) (D : mD), F_X12_brushes_L28 x1 x2 x3 n w0 w1 (oD D z) = fm z (F_X12_brushes_L28 x1 x2 x3 n w0 w1 D) := by
  intro n
  induction n with
  | zero => intro w0 w1 D; rfl
  | succ n ih => intro w0 w1 D; simp (maxSteps := 2000000) (disch := first | decide | assumption) only [F_X12_brushes_L28, ih, oD_r, oD_p, fm_ck, fm_ite, fm_bI, bI_fm, fm_s, fm_n, fr_F_X12_brushes_j63, fr_F_X12_has]
theorem fr_F_X12_brushes {x1 : Int} {x2 : Int} {x3 : Int} {D : mD} : F_X12_brushes x1 x2 x3 (oD D z) = fm z (F_X12_brushes x1 x2 x3 D) := by
  unfold F_X12_brushes
  simp (maxSteps := 2000000) (disch := first | decide | assumption) only [oD_r, oD_p, fm_ck, fm_ite, fm_bI, bI_fm, fm_s, fm_n, fr_F_X12_brushAt, fr_F_X12_brushes_L28]
theorem fr_F_X12_brush_L68 {K61 : Int → mD → RI} {x1 : Int} {x2 : Int} {x3 : Int} (h_K61 : ∀ (u0 : Int) (D : mD), K61 u0 (oD D z) = fm z (K61 u0 D)) : ∀ (n : Nat) (w0 : Int) (D : mD), F_X12_brush_L68 K61 x1 x2 x3 n w0 (oD D z) = fm z (F_X12_brush_L68 K61 x1 x2 x3 n w0 D) := by
  intro n
  induction n with
  | zero => intro w0 D; rfl
  | succ n ih => intro w0 D; simp (maxSteps := 2000000) (disch := first | decide | assumption) only [F_X12_brush_L68, ih, oD_r, oD_p, fm_ck, fm_ite, fm_bI, bI_fm, fm_s, fm_n, fr_F_X12_brushAt, fr_F_X12_brushes, fr_F_X12_letters, h_K61]
theorem fr_F_X12_brush_L61 {x1 : Int} {x2 : Int} : ∀ (n : Nat) (w0 : Int) (D : mD), F_X12_brush_L61 x1 x2 n w0 (oD D z) = fm z (F_X12_brush_L61 x1 x2 n w0 D) := by
  intro n
  induction n with
  | zero => intro w0 D; rfl
  | succ n ih => intro w0 D; simp (maxSteps := 2000000) (disch := first | decide | assumption) only [F_X12_brush_L61, ih, oD_r, oD_p, fm_ck, fm_ite, fm_bI, bI_fm, fm_s, fm_n, fr_F_X12_brushAt, fr_F_X12_brush_L68]
theorem fr_F_X12_brush_L9 : ∀ (n : Nat) (w0 : Int) (w1 : Int) (D : mD), F_X12_brush_L9 n w0 w1 (oD D z) = fm z (F_X12_brush_L9 n w0 w1 D) := by
  intro n
  induction n with
  | zero => intro w0 w1 D; rfl
  | succ n ih => intro w0 w1 D; simp (maxSteps := 2000000) (disch := first | decide | assumption) only [F_X12_brush_L9, ih, oD_r, oD_p, fm_ck, fm_ite, fm_bI, bI_fm, fm_s, fm_n, fr_F_X12_brush_L61, fr_F_X12_isPainted, fr_F_X12_letters]
theorem fr_F_X12_brush {D : mD} : F_X12_brush (oD D z) = fm z (F_X12_brush D) := by
  unfold F_X12_brush
  simp (maxSteps := 2000000) (disch := first | decide | assumption) only [oD_r, oD_p, fm_ck, fm_ite, fm_bI, bI_fm, fm_s, fm_n, fr_F_X12_brush_L9]
theorem fr_F_X12_unevenNow_L8 : ∀ (n : Nat) (w0 : Int) (w1 : Int) (w2 : Int) (D : mD), F_X12_unevenNow_L8 n w0 w1 w2 (oD D z) = fm z (F_X12_unevenNow_L8 n w0 w1 w2 D) := by
  intro n
  induction n with
  | zero => intro w0 w1 w2 D; rfl
  | succ n ih => intro w0 w1 w2 D; simp (maxSteps := 2000000) (disch := first | decide | assumption) only [F_X12_unevenNow_L8, ih, oD_r, oD_p, fm_ck, fm_ite, fm_bI, bI_fm, fm_s, fm_n, fr_F_X12_gaps, fr_F_X12_white]
theorem fr_F_X12_unevenNow {D : mD} : F_X12_unevenNow (oD D z) = fm z (F_X12_unevenNow D) := by
  unfold F_X12_unevenNow
  simp (maxSteps := 2000000) (disch := first | decide | assumption) only [oD_r, oD_p, fm_ck, fm_ite, fm_bI, bI_fm, fm_s, fm_n, fr_F_X12_unevenNow_L8]
theorem fr_F_X12_uneven {D : mD} : F_X12_uneven (oD D z) = fm z (F_X12_uneven D) := by
  unfold F_X12_uneven
  simp (maxSteps := 2000000) (disch := first | decide | assumption) only [oD_r, oD_p, fm_ck, fm_ite, fm_bI, bI_fm, fm_s, fm_n, fr_F_X12_unevenNow]
theorem fr_F_X12_off_L23 {x1 : Int} : ∀ (n : Nat) (w0 : Int) (w1 : Int) (D : mD), F_X12_off_L23 x1 n w0 w1 (oD D z) = fm z (F_X12_off_L23 x1 n w0 w1 D) := by
  intro n
  induction n with
  | zero => intro w0 w1 D; rfl
  | succ n ih => intro w0 w1 D; simp (maxSteps := 2000000) (disch := first | decide | assumption) only [F_X12_off_L23, ih, oD_r, oD_p, fm_ck, fm_ite, fm_bI, bI_fm, fm_s, fm_n, fr_F_X12_gaps, fr_F_X12_white]
theorem fr_F_X12_off {x1 : Int} {D : mD} : F_X12_off x1 (oD D z) = fm z (F_X12_off x1 D) := by
  unfold F_X12_off
  simp (maxSteps := 2000000) (disch := first | decide | assumption) only [oD_r, oD_p, fm_ck, fm_ite, fm_bI, bI_fm, fm_s, fm_n, fr_F_X12_noWhite, fr_F_X12_off_L23, fr_F_X12_throwsIf]
theorem fr_F_X12_isFit {D : mD} : F_X12_isFit (oD D z) = fm z (F_X12_isFit D) := by
  unfold F_X12_isFit
  simp (maxSteps := 2000000) (disch := first | decide | assumption) only [oD_r, oD_p, fm_ck, fm_ite, fm_bI, bI_fm, fm_s, fm_n, fr_F_X12_endOfLast]
theorem fr_F_X12_fits {D : mD} : F_X12_fits (oD D z) = fm z (F_X12_fits D) := by
  unfold F_X12_fits
  simp (maxSteps := 2000000) (disch := first | decide | assumption) only [oD_r, oD_p, fm_ck, fm_ite, fm_bI, bI_fm, fm_s, fm_n, fr_F_X12_isFit]
theorem fr_F_X12_nearest_L41 {x1 : Int} {x2 : Int} : ∀ (n : Nat) (w0 : Int) (w1 : Int) (D : mD), F_X12_nearest_L41 x1 x2 n w0 w1 (oD D z) = fm z (F_X12_nearest_L41 x1 x2 n w0 w1 D) := by
  intro n
  induction n with
  | zero => intro w0 w1 D; rfl
  | succ n ih => intro w0 w1 D; simp (maxSteps := 2000000) (disch := first | decide | assumption) only [F_X12_nearest_L41, ih, oD_r, oD_p, fm_ck, fm_ite, fm_bI, bI_fm, fm_s, fm_n, fr_F_X12_offBy]
theorem fr_F_X12_nearest {x1 : Int} {x2 : Int} {D : mD} : F_X12_nearest x1 x2 (oD D z) = fm z (F_X12_nearest x1 x2 D) := by
  unfold F_X12_nearest
  simp (maxSteps := 2000000) (disch := first | decide | assumption) only [oD_r, oD_p, fm_ck, fm_ite, fm_bI, bI_fm, fm_s, fm_n, fr_F_X12_laysWhites, fr_F_X12_nearest_L41, fr_F_X12_noGap, fr_F_X12_noWhite, fr_F_X12_throwsIf]
theorem fr_F_X12_cannot_L23 {x1 : Int} : ∀ (n : Nat) (w0 : Int) (w1 : Int) (D : mD), F_X12_cannot_L23 x1 n w0 w1 (oD D z) = fm z (F_X12_cannot_L23 x1 n w0 w1 D) := by
  intro n
  induction n with
  | zero => intro w0 w1 D; rfl
  | succ n ih => intro w0 w1 D; simp (maxSteps := 2000000) (disch := first | decide | assumption) only [F_X12_cannot_L23, ih, oD_r, oD_p, fm_ck, fm_ite, fm_bI, bI_fm, fm_s, fm_n, fr_F_X12_gaps, fr_F_X12_whiteBy]
theorem fr_F_X12_cannot {x1 : Int} {D : mD} : F_X12_cannot x1 (oD D z) = fm z (F_X12_cannot x1 D) := by
  unfold F_X12_cannot
  simp (maxSteps := 2000000) (disch := first | decide | assumption) only [oD_r, oD_p, fm_ck, fm_ite, fm_bI, bI_fm, fm_s, fm_n, fr_F_X12_cannot_L23, fr_F_X12_noWhite, fr_F_X12_throwsIf]
theorem fr_F_X12_leastFor_L2 {x1 : Int} {x2 : Int} : ∀ (n : Nat) (w0 : Int) (D : mD), F_X12_leastFor_L2 x1 x2 n w0 (oD D z) = fm z (F_X12_leastFor_L2 x1 x2 n w0 D) := by
  intro n
  induction n with
  | zero => intro w0 D; rfl
  | succ n ih => intro w0 D; simp (maxSteps := 2000000) (disch := first | decide | assumption) only [F_X12_leastFor_L2, ih, oD_r, oD_p, fm_ck, fm_ite, fm_bI, bI_fm, fm_s, fm_n]
theorem fr_F_X12_leastFor {x1 : Int} {x2 : Int} {D : mD} : F_X12_leastFor x1 x2 (oD D z) = fm z (F_X12_leastFor x1 x2 D) := by
  unfold F_X12_leastFor
  simp (maxSteps := 2000000) (disch := first | decide | assumption) only [oD_r, oD_p, fm_ck, fm_ite, fm_bI, bI_fm, fm_s, fm_n, fr_F_X12_leastFor_L2]
theorem fr_F_X12_shortBy_L26 {x1 : Int} {x2 : Int} : ∀ (n : Nat) (w0 : Int) (w1 : Int) (D : mD), F_X12_shortBy_L26 x1 x2 n w0 w1 (oD D z) = fm z (F_X12_shortBy_L26 x1 x2 n w0 w1 D) := by
  intro n
  induction n with
  | zero => intro w0 w1 D; rfl
  | succ n ih => intro w0 w1 D; simp (maxSteps := 2000000) (disch := first | decide | assumption) only [F_X12_shortBy_L26, ih, oD_r, oD_p, fm_ck, fm_ite, fm_bI, bI_fm, fm_s, fm_n, fr_F_X12_leastFor, fr_F_X12_widthOf]
theorem fr_F_X12_shortBy {x1 : Int} {x2 : Int} {D : mD} : F_X12_shortBy x1 x2 (oD D z) = fm z (F_X12_shortBy x1 x2 D) := by
  unfold F_X12_shortBy
  simp (maxSteps := 2000000) (disch := first | decide | assumption) only [oD_r, oD_p, fm_ck, fm_ite, fm_bI, bI_fm, fm_s, fm_n, fr_F_X12_shortBy_L26]
theorem fr_F_X12_lacks {x1 : Int} {D : mD} : F_X12_lacks x1 (oD D z) = fm z (F_X12_lacks x1 D) := by
  unfold F_X12_lacks
  simp (maxSteps := 2000000) (disch := first | decide | assumption) only [oD_r, oD_p, fm_ck, fm_ite, fm_bI, bI_fm, fm_s, fm_n, fr_F_X12_laysWhites, fr_F_X12_letters, fr_F_X12_noWhite, fr_F_X12_shortBy, fr_F_X12_throwsIf]
theorem fr_F_X12_harmBy {x1 : Int} {x2 : Int} {D : mD} : F_X12_harmBy x1 x2 (oD D z) = fm z (F_X12_harmBy x1 x2 D) := by
  unfold F_X12_harmBy
  simp (maxSteps := 2000000) (disch := first | decide | assumption) only [oD_r, oD_p, fm_ck, fm_ite, fm_bI, bI_fm, fm_s, fm_n, fr_F_X12_inkOf, fr_F_X12_of]
theorem fr_F_X12_canBe {x1 : Int} {x2 : Int} {D : mD} : F_X12_canBe x1 x2 (oD D z) = fm z (F_X12_canBe x1 x2 D) := by
  unfold F_X12_canBe
  simp (maxSteps := 2000000) (disch := first | decide | assumption) only [oD_r, oD_p, fm_ck, fm_ite, fm_bI, bI_fm, fm_s, fm_n, fr_F_X12_its, fr_F_X12_of]
theorem fr_F_X12_harmFrom {x1 : Int} {x2 : Int} {D : mD} : F_X12_harmFrom x1 x2 (oD D z) = fm z (F_X12_harmFrom x1 x2 D) := by
  unfold F_X12_harmFrom
  simp (maxSteps := 2000000) (disch := first | decide | assumption) only [oD_r, oD_p, fm_ck, fm_ite, fm_bI, bI_fm, fm_s, fm_n]
theorem fr_F_X12_laysHarms_L76 {K56 : Int → mD → RI} {K62 : Int → mD → RI} {x1 : Int} {x2 : Int} {x3 : Int} (h_K56 : ∀ (u0 : Int) (D : mD), K56 u0 (oD D z) = fm z (K56 u0 D)) (h_K62 : ∀ (u0 : Int) (D : mD), K62 u0 (oD D z) = fm z (K62 u0 D)) : ∀ (n : Nat) (w0 : Int) (w1 : Int) (D : mD), F_X12_laysHarms_L76 K56 K62 x1 x2 x3 n w0 w1 (oD D z) = fm z (F_X12_laysHarms_L76 K56 K62 x1 x2 x3 n w0 w1 D) := by
  intro n
  induction n with
  | zero => intro w0 w1 D; rfl
  | succ n ih => intro w0 w1 D; simp (maxSteps := 2000000) (disch := first | decide | assumption) only [F_X12_laysHarms_L76, ih, oD_r, oD_p, fm_ck, fm_ite, fm_bI, bI_fm, fm_s, fm_n, fr_F_X12_canBe, fr_F_X12_harmBy, fr_F_X12_harmFrom, h_K56, h_K62]
theorem fr_F_X12_laysHarms_L62 {K56 : Int → mD → RI} {x1 : Int} {x2 : Int} (h_K56 : ∀ (u0 : Int) (D : mD), K56 u0 (oD D z) = fm z (K56 u0 D)) : ∀ (n : Nat) (w0 : Int) (D : mD), F_X12_laysHarms_L62 K56 x1 x2 n w0 (oD D z) = fm z (F_X12_laysHarms_L62 K56 x1 x2 n w0 D) := by
  intro n
  induction n with
  | zero => intro w0 D; rfl
  | succ n ih => intro w0 D; simp (maxSteps := 2000000) (disch := first | decide | assumption) only [F_X12_laysHarms_L62, ih, oD_r, oD_p, fm_ck, fm_ite, fm_bI, bI_fm, fm_s, fm_n, fr_F_X12_laysHarms_L76, h_K56]
theorem fr_F_X12_laysHarms_L56 {x1 : Int} : ∀ (n : Nat) (w0 : Int) (D : mD), F_X12_laysHarms_L56 x1 n w0 (oD D z) = fm z (F_X12_laysHarms_L56 x1 n w0 D) := by
  intro n
  induction n with
  | zero => intro w0 D; rfl
  | succ n ih => intro w0 D; simp (maxSteps := 2000000) (disch := first | decide | assumption) only [F_X12_laysHarms_L56, ih, oD_r, oD_p, fm_ck, fm_ite, fm_bI, bI_fm, fm_s, fm_n, fr_F_X12_harmFrom, fr_F_X12_laysHarms_L62]
theorem fr_F_X12_laysHarms_L12 {x1 : Int} : ∀ (n : Nat) (w0 : Int) (D : mD), F_X12_laysHarms_L12 x1 n w0 (oD D z) = fm z (F_X12_laysHarms_L12 x1 n w0 D) := by
  intro n
  induction n with
  | zero => intro w0 D; rfl
  | succ n ih => intro w0 D; simp (maxSteps := 2000000) (disch := first | decide | assumption) only [F_X12_laysHarms_L12, ih, oD_r, oD_p, fm_ck, fm_ite, fm_bI, bI_fm, fm_s, fm_n, fr_F_X12_laysHarms_L56, fr_F_X12_letters]
theorem fr_F_X12_laysHarms {x1 : Int} {D : mD} : F_X12_laysHarms x1 (oD D z) = fm z (F_X12_laysHarms x1 D) := by
  unfold F_X12_laysHarms
  simp (maxSteps := 2000000) (disch := first | decide | assumption) only [oD_r, oD_p, fm_ck, fm_ite, fm_bI, bI_fm, fm_s, fm_n, fr_F_X12_laysHarms_L12]
theorem fr_F_X12_squeezes_j81 {K7 : Int → Int → Int → mD → RI} {x2 : Int} {x4 : Int} {x5 : Int} {s0 : Int} {s1 : Int} (h_K7 : ∀ (u0 : Int) (u1 : Int) (u2 : Int) (D : mD), K7 u0 u1 u2 (oD D z) = fm z (K7 u0 u1 u2 D)) {D : mD} : F_X12_squeezes_j81 K7 x2 x4 x5 s0 s1 (oD D z) = fm z (F_X12_squeezes_j81 K7 x2 x4 x5 s0 s1 D) := by
  unfold F_X12_squeezes_j81
  simp (maxSteps := 2000000) (disch := first | decide | assumption) only [oD_r, oD_p, fm_ck, fm_ite, fm_bI, bI_fm, fm_s, fm_n, h_K7]
theorem fr_F_X12_squeezes_L19 {K7 : Int → Int → Int → mD → RI} {x2 : Int} {x3 : Int} {x4 : Int} (h_K7 : ∀ (u0 : Int) (u1 : Int) (u2 : Int) (D : mD), K7 u0 u1 u2 (oD D z) = fm z (K7 u0 u1 u2 D)) : ∀ (n : Nat) (w0 : Int) (D : mD), F_X12_squeezes_L19 K7 x2 x3 x4 n w0 (oD D z) = fm z (F_X12_squeezes_L19 K7 x2 x3 x4 n w0 D) := by
  intro n
  induction n with
  | zero => intro w0 D; rfl
  | succ n ih => intro w0 D; simp (maxSteps := 2000000) (disch := first | decide | assumption) only [F_X12_squeezes_L19, ih, oD_r, oD_p, fm_ck, fm_ite, fm_bI, bI_fm, fm_s, fm_n, fr_F_X12_canBe, fr_F_X12_harmBy, fr_F_X12_harmFrom, fr_F_X12_squeezes_j81, h_K7]
theorem fr_F_X12_squeezes_L7 : ∀ (n : Nat) (w0 : Int) (w1 : Int) (w2 : Int) (D : mD), F_X12_squeezes_L7 n w0 w1 w2 (oD D z) = fm z (F_X12_squeezes_L7 n w0 w1 w2 D) := by
  intro n
  induction n with
  | zero => intro w0 w1 w2 D; rfl
  | succ n ih => intro w0 w1 w2 D; simp (maxSteps := 2000000) (disch := first | decide | assumption) only [F_X12_squeezes_L7, ih, oD_r, oD_p, fm_ck, fm_ite, fm_bI, bI_fm, fm_s, fm_n, fr_F_X12_letters, fr_F_X12_squeezes_L19]
theorem fr_F_X12_squeezes {x1 : Int} {D : mD} : F_X12_squeezes x1 (oD D z) = fm z (F_X12_squeezes x1 D) := by
  unfold F_X12_squeezes
  simp (maxSteps := 2000000) (disch := first | decide | assumption) only [oD_r, oD_p, fm_ck, fm_ite, fm_bI, bI_fm, fm_s, fm_n, fr_F_X12_squeezes_L7]
theorem fr_F_X12_squeeze {x1 : Int} {x2 : Int} {D : mD} : F_X12_squeeze x1 x2 (oD D z) = fm z (F_X12_squeeze x1 x2 D) := by
  unfold F_X12_squeeze
  simp (maxSteps := 2000000) (disch := first | decide | assumption) only [oD_r, oD_p, fm_ck, fm_ite, fm_bI, bI_fm, fm_s, fm_n, fr_F_X12_laysHarms, fr_F_X12_laysWhites, fr_F_X12_letters, fr_F_X12_noWhite, fr_F_X12_shortBy, fr_F_X12_squeezes, fr_F_X12_throwsIf]
theorem fr_F_X12_dropped_L25 {x1 : Int} : ∀ (n : Nat) (w0 : Int) (D : mD), F_X12_dropped_L25 x1 n w0 (oD D z) = fm z (F_X12_dropped_L25 x1 n w0 D) := by
  intro n
  induction n with
  | zero => intro w0 D; rfl
  | succ n ih => intro w0 D; simp (maxSteps := 2000000) (disch := first | decide | assumption) only [F_X12_dropped_L25, ih, oD_r, oD_p, fm_ck, fm_ite, fm_bI, bI_fm, fm_s, fm_n, fr_F_X12_letters, fr_F_X12_shortBy]
theorem fr_F_X12_dropped {x1 : Int} {D : mD} : F_X12_dropped x1 (oD D z) = fm z (F_X12_dropped x1 D) := by
  unfold F_X12_dropped
  simp (maxSteps := 2000000) (disch := first | decide | assumption) only [oD_r, oD_p, fm_ck, fm_ite, fm_bI, bI_fm, fm_s, fm_n, fr_F_X12_dropped_L25, fr_F_X12_laysWhites, fr_F_X12_noWhite, fr_F_X12_throwsIf]
theorem fr_F_X12_inkAhead_L22 {K4 : Int → Int → mD → RI} {x1 : Int} {x3 : Int} {x4 : Int} (h_K4 : ∀ (u0 : Int) (u1 : Int) (D : mD), K4 u0 u1 (oD D z) = fm z (K4 u0 u1 D)) : ∀ (n : Nat) (w0 : Int) (w1 : Int) (D : mD), F_X12_inkAhead_L22 K4 x1 x3 x4 n w0 w1 (oD D z) = fm z (F_X12_inkAhead_L22 K4 x1 x3 x4 n w0 w1 D) := by
  intro n
  induction n with
  | zero => intro w0 w1 D; rfl
  | succ n ih => intro w0 w1 D; simp (maxSteps := 2000000) (disch := first | decide | assumption) only [F_X12_inkAhead_L22, ih, oD_r, oD_p, fm_ck, fm_ite, fm_bI, bI_fm, fm_s, fm_n, fr_F_X12_its, fr_F_X12_widthOf, h_K4]
theorem fr_F_X12_inkAhead_L4 {x1 : Int} : ∀ (n : Nat) (w0 : Int) (w1 : Int) (D : mD), F_X12_inkAhead_L4 x1 n w0 w1 (oD D z) = fm z (F_X12_inkAhead_L4 x1 n w0 w1 D) := by
  intro n
  induction n with
  | zero => intro w0 w1 D; rfl
  | succ n ih => intro w0 w1 D; simp (maxSteps := 2000000) (disch := first | decide | assumption) only [F_X12_inkAhead_L4, ih, oD_r, oD_p, fm_ck, fm_ite, fm_bI, bI_fm, fm_s, fm_n, fr_F_X12_beginOf, fr_F_X12_inkAhead_L22, fr_F_X12_letters]
theorem fr_F_X12_inkAhead {x1 : Int} {D : mD} : F_X12_inkAhead x1 (oD D z) = fm z (F_X12_inkAhead x1 D) := by
  unfold F_X12_inkAhead
  simp (maxSteps := 2000000) (disch := first | decide | assumption) only [oD_r, oD_p, fm_ck, fm_ite, fm_bI, bI_fm, fm_s, fm_n, fr_F_X12_inkAhead_L4]
theorem fr_F_X12_middleOf_L10 {x1 : Int} : ∀ (n : Nat) (w0 : Int) (D : mD), F_X12_middleOf_L10 x1 n w0 (oD D z) = fm z (F_X12_middleOf_L10 x1 n w0 D) := by
  intro n
  induction n with
  | zero => intro w0 D; rfl
  | succ n ih => intro w0 D; simp (maxSteps := 2000000) (disch := first | decide | assumption) only [F_X12_middleOf_L10, ih, oD_r, oD_p, fm_ck, fm_ite, fm_bI, bI_fm, fm_s, fm_n, fr_F_X12_inkAhead]
theorem fr_F_X12_middleOf {D : mD} : F_X12_middleOf (oD D z) = fm z (F_X12_middleOf D) := by
  unfold F_X12_middleOf
  simp (maxSteps := 2000000) (disch := first | decide | assumption) only [oD_r, oD_p, fm_ck, fm_ite, fm_bI, bI_fm, fm_s, fm_n, fr_F_X12_inkAhead, fr_F_X12_middleOf_L10]
theorem fr_F_X12_middle {x1 : Int} {D : mD} : F_X12_middle x1 (oD D z) = fm z (F_X12_middle x1 D) := by
  unfold F_X12_middle
  simp (maxSteps := 2000000) (disch := first | decide | assumption) only [oD_r, oD_p, fm_ck, fm_ite, fm_bI, bI_fm, fm_s, fm_n, fr_F_X12_middleOf]
theorem fr_F_X12_strength {x1 : Int} {x2 : Int} {D : mD} : F_X12_strength x1 x2 (oD D z) = fm z (F_X12_strength x1 x2 D) := by
  unfold F_X12_strength
  simp (maxSteps := 2000000) (disch := first | decide | assumption) only [oD_r, oD_p, fm_ck, fm_ite, fm_bI, bI_fm, fm_s, fm_n, fr_F_X12_fadesBy]
theorem fr_F_X12_runsBy_L13 {x1 : Int} {x3 : Int} : ∀ (n : Nat) (w0 : Int) (w1 : Int) (D : mD), F_X12_runsBy_L13 x1 x3 n w0 w1 (oD D z) = fm z (F_X12_runsBy_L13 x1 x3 n w0 w1 D) := by
  intro n
  induction n with
  | zero => intro w0 w1 D; rfl
  | succ n ih => intro w0 w1 D; simp (maxSteps := 2000000) (disch := first | decide | assumption) only [F_X12_runsBy_L13, ih, oD_r, oD_p, fm_ck, fm_ite, fm_bI, bI_fm, fm_s, fm_n, fr_F_X12_gaps, fr_F_X12_leastSpace]
theorem fr_F_X12_runsBy {x1 : Int} {x2 : Int} {D : mD} : F_X12_runsBy x1 x2 (oD D z) = fm z (F_X12_runsBy x1 x2 D) := by
  unfold F_X12_runsBy
  simp (maxSteps := 2000000) (disch := first | decide | assumption) only [oD_r, oD_p, fm_ck, fm_ite, fm_bI, bI_fm, fm_s, fm_n, fr_F_X12_runsBy_L13, fr_F_X12_strength]
theorem fr_F_X12_isRead {x1 : Int} {x2 : Int} {D : mD} : F_X12_isRead x1 x2 (oD D z) = fm z (F_X12_isRead x1 x2 D) := by
  unfold F_X12_isRead
  simp (maxSteps := 2000000) (disch := first | decide | assumption) only [oD_r, oD_p, fm_ck, fm_ite, fm_bI, bI_fm, fm_s, fm_n, fr_F_X12_gaps, fr_F_X12_runsBy, fr_F_X12_strength]
theorem fr_F_X12_read {x1 : Int} {x2 : Int} {D : mD} : F_X12_read x1 x2 (oD D z) = fm z (F_X12_read x1 x2 D) := by
  unfold F_X12_read
  simp (maxSteps := 2000000) (disch := first | decide | assumption) only [oD_r, oD_p, fm_ck, fm_ite, fm_bI, bI_fm, fm_s, fm_n, fr_F_X12_isRead, fr_F_X12_noLight, fr_F_X12_throwsIf]
theorem fr_F_X12_farBy_L2 {x1 : Int} : ∀ (n : Nat) (w0 : Int) (D : mD), F_X12_farBy_L2 x1 n w0 (oD D z) = fm z (F_X12_farBy_L2 x1 n w0 D) := by
  intro n
  induction n with
  | zero => intro w0 D; rfl
  | succ n ih => intro w0 D; simp (maxSteps := 2000000) (disch := first | decide | assumption) only [F_X12_farBy_L2, ih, oD_r, oD_p, fm_ck, fm_ite, fm_bI, bI_fm, fm_s, fm_n, fr_F_X12_isRead]
theorem fr_F_X12_farBy {x1 : Int} {D : mD} : F_X12_farBy x1 (oD D z) = fm z (F_X12_farBy x1 D) := by
  unfold F_X12_farBy
  simp (maxSteps := 2000000) (disch := first | decide | assumption) only [oD_r, oD_p, fm_ck, fm_ite, fm_bI, bI_fm, fm_s, fm_n, fr_F_X12_farBy_L2]
theorem fr_F_X12_far_j21 {x1 : Int} {s1 : Int} {D : mD} : F_X12_far_j21 x1 s1 (oD D z) = fm z (F_X12_far_j21 x1 s1 D) := by
  unfold F_X12_far_j21
  simp (maxSteps := 2000000) (disch := first | decide | assumption) only [oD_r, oD_p, fm_ck, fm_ite, fm_bI, bI_fm, fm_s, fm_n, fr_F_X12_farBy, fr_F_X12_throwsIf]
theorem fr_F_X12_far {x1 : Int} {D : mD} : F_X12_far x1 (oD D z) = fm z (F_X12_far x1 D) := by
  unfold F_X12_far
  simp (maxSteps := 2000000) (disch := first | decide | assumption) only [oD_r, oD_p, fm_ck, fm_ite, fm_bI, bI_fm, fm_s, fm_n, fr_F_X12_far_j21, fr_F_X12_in]
theorem fr_F_X12_runs {x1 : Int} {x2 : Int} {D : mD} : F_X12_runs x1 x2 (oD D z) = fm z (F_X12_runs x1 x2 D) := by
  unfold F_X12_runs
  simp (maxSteps := 2000000) (disch := first | decide | assumption) only [oD_r, oD_p, fm_ck, fm_ite, fm_bI, bI_fm, fm_s, fm_n, fr_F_X12_noLight, fr_F_X12_runsBy, fr_F_X12_throwsIf]
theorem fr_F_X12_bears_L33 {x1 : Int} {x2 : Int} {x3 : Int} : ∀ (n : Nat) (w0 : Int) (w1 : Int) (D : mD), F_X12_bears_L33 x1 x2 x3 n w0 w1 (oD D z) = fm z (F_X12_bears_L33 x1 x2 x3 n w0 w1 D) := by
  intro n
  induction n with
  | zero => intro w0 w1 D; rfl
  | succ n ih => intro w0 w1 D; simp (maxSteps := 2000000) (disch := first | decide | assumption) only [F_X12_bears_L33, ih, oD_r, oD_p, fm_ck, fm_ite, fm_bI, bI_fm, fm_s, fm_n, fr_F_X12_isFit, fr_F_X12_isRead]
theorem fr_F_X12_bears {x1 : Int} {x2 : Int} {D : mD} : F_X12_bears x1 x2 (oD D z) = fm z (F_X12_bears x1 x2 D) := by
  unfold F_X12_bears
  simp (maxSteps := 2000000) (disch := first | decide | assumption) only [oD_r, oD_p, fm_ck, fm_ite, fm_bI, bI_fm, fm_s, fm_n, fr_F_X12_bears_L33, fr_F_X12_noLight, fr_F_X12_throwsIf]
theorem fr_F_X12_lamp_L9 : ∀ (n : Nat) (w0 : Int) (w1 : Int) (D : mD), F_X12_lamp_L9 n w0 w1 (oD D z) = fm z (F_X12_lamp_L9 n w0 w1 D) := by
  intro n
  induction n with
  | zero => intro w0 w1 D; rfl
  | succ n ih => intro w0 w1 D; simp (maxSteps := 2000000) (disch := first | decide | assumption) only [F_X12_lamp_L9, ih, oD_r, oD_p, fm_ck, fm_ite, fm_bI, bI_fm, fm_s, fm_n, fr_F_X12_farBy]
theorem fr_F_X12_lamp {D : mD} : F_X12_lamp (oD D z) = fm z (F_X12_lamp D) := by
  unfold F_X12_lamp
  simp (maxSteps := 2000000) (disch := first | decide | assumption) only [oD_r, oD_p, fm_ck, fm_ite, fm_bI, bI_fm, fm_s, fm_n, fr_F_X12_lamp_L9]
theorem fr_F_X12_seenFrom_L9 {x1 : Int} : ∀ (n : Nat) (w0 : Int) (w1 : Int) (w2 : Int) (D : mD), F_X12_seenFrom_L9 x1 n w0 w1 w2 (oD D z) = fm z (F_X12_seenFrom_L9 x1 n w0 w1 w2 D) := by
  intro n
  induction n with
  | zero => intro w0 w1 w2 D; rfl
  | succ n ih => intro w0 w1 w2 D; simp (maxSteps := 2000000) (disch := first | decide | assumption) only [F_X12_seenFrom_L9, ih, oD_r, oD_p, fm_ck, fm_ite, fm_bI, bI_fm, fm_s, fm_n, fr_F_X12_distance, fr_F_X12_gaps, fr_F_X12_whiteBy]
theorem fr_F_X12_seenFrom {x1 : Int} {D : mD} : F_X12_seenFrom x1 (oD D z) = fm z (F_X12_seenFrom x1 D) := by
  unfold F_X12_seenFrom
  simp (maxSteps := 2000000) (disch := first | decide | assumption) only [oD_r, oD_p, fm_ck, fm_ite, fm_bI, bI_fm, fm_s, fm_n, fr_F_X12_seenFrom_L9]
theorem fr_F_X12_aslant_j21 {x1 : Int} {s1 : Int} {D : mD} : F_X12_aslant_j21 x1 s1 (oD D z) = fm z (F_X12_aslant_j21 x1 s1 D) := by
  unfold F_X12_aslant_j21
  simp (maxSteps := 2000000) (disch := first | decide | assumption) only [oD_r, oD_p, fm_ck, fm_ite, fm_bI, bI_fm, fm_s, fm_n, fr_F_X12_seenFrom, fr_F_X12_throwsIf]
theorem fr_F_X12_aslant {x1 : Int} {D : mD} : F_X12_aslant x1 (oD D z) = fm z (F_X12_aslant x1 D) := by
  unfold F_X12_aslant
  simp (maxSteps := 2000000) (disch := first | decide | assumption) only [oD_r, oD_p, fm_ck, fm_ite, fm_bI, bI_fm, fm_s, fm_n, fr_F_X12_aslant_j21, fr_F_X12_in]
theorem fr_F_X12_from_L9 : ∀ (n : Nat) (w0 : Int) (w1 : Int) (D : mD), F_X12_from_L9 n w0 w1 (oD D z) = fm z (F_X12_from_L9 n w0 w1 D) := by
  intro n
  induction n with
  | zero => intro w0 w1 D; rfl
  | succ n ih => intro w0 w1 D; simp (maxSteps := 2000000) (disch := first | decide | assumption) only [F_X12_from_L9, ih, oD_r, oD_p, fm_ck, fm_ite, fm_bI, bI_fm, fm_s, fm_n, fr_F_X12_seenFrom]
theorem fr_F_X12_from {D : mD} : F_X12_from (oD D z) = fm z (F_X12_from D) := by
  unfold F_X12_from
  simp (maxSteps := 2000000) (disch := first | decide | assumption) only [oD_r, oD_p, fm_ck, fm_ite, fm_bI, bI_fm, fm_s, fm_n, fr_F_X12_from_L9]
theorem fr_F_X12_ends_j21 {x1 : Int} {s1 : Int} {D : mD} : F_X12_ends_j21 x1 s1 (oD D z) = fm z (F_X12_ends_j21 x1 s1 D) := by
  unfold F_X12_ends_j21
  simp (maxSteps := 2000000) (disch := first | decide | assumption) only [oD_r, oD_p, fm_ck, fm_ite, fm_bI, bI_fm, fm_s, fm_n, fr_F_X12_letters, fr_F_X12_room, fr_F_X12_throwsIf]
theorem fr_F_X12_ends {x1 : Int} {D : mD} : F_X12_ends x1 (oD D z) = fm z (F_X12_ends x1 D) := by
  unfold F_X12_ends
  simp (maxSteps := 2000000) (disch := first | decide | assumption) only [oD_r, oD_p, fm_ck, fm_ite, fm_bI, bI_fm, fm_s, fm_n, fr_F_X12_ends_j21, fr_F_X12_in]
theorem fr_F_X12_isWhites {D : mD} : F_X12_isWhites (oD D z) = fm z (F_X12_isWhites D) := by
  unfold F_X12_isWhites
  simp (maxSteps := 2000000) (disch := first | decide | assumption) only [oD_r, oD_p, fm_ck, fm_ite, fm_bI, bI_fm, fm_s, fm_n, fr_F_X12_uses]
theorem fr_F_X12_toldWhite {x1 : Int} {D : mD} : F_X12_toldWhite x1 (oD D z) = fm z (F_X12_toldWhite x1 D) := by
  unfold F_X12_toldWhite
  simp (maxSteps := 2000000) (disch := first | decide | assumption) only [oD_r, oD_p, fm_ck, fm_ite, fm_bI, bI_fm, fm_s, fm_n]
theorem fr_F_X12_writersWhite {x1 : Int} {D : mD} : F_X12_writersWhite x1 (oD D z) = fm z (F_X12_writersWhite x1 D) := by
  unfold F_X12_writersWhite
  simp (maxSteps := 2000000) (disch := first | decide | assumption) only [oD_r, oD_p, fm_ck, fm_ite, fm_bI, bI_fm, fm_s, fm_n]
theorem fr_F_X12_offOf_L4 {x1 : Int} : ∀ (n : Nat) (w0 : Int) (w1 : Int) (D : mD), F_X12_offOf_L4 x1 n w0 w1 (oD D z) = fm z (F_X12_offOf_L4 x1 n w0 w1 D) := by
  intro n
  induction n with
  | zero => intro w0 w1 D; rfl
  | succ n ih => intro w0 w1 D; simp (maxSteps := 2000000) (disch := first | decide | assumption) only [F_X12_offOf_L4, ih, oD_r, oD_p, fm_ck, fm_ite, fm_bI, bI_fm, fm_s, fm_n, fr_F_X12_toldWhite, fr_F_X12_writersWhite]
theorem fr_F_X12_offOf {x1 : Int} {D : mD} : F_X12_offOf x1 (oD D z) = fm z (F_X12_offOf x1 D) := by
  unfold F_X12_offOf
  simp (maxSteps := 2000000) (disch := first | decide | assumption) only [oD_r, oD_p, fm_ck, fm_ite, fm_bI, bI_fm, fm_s, fm_n, fr_F_X12_offOf_L4]
theorem fr_F_X12_wrote_L28 : ∀ (n : Nat) (w0 : Int) (w1 : Int) (D : mD), F_X12_wrote_L28 n w0 w1 (oD D z) = fm z (F_X12_wrote_L28 n w0 w1 D) := by
  intro n
  induction n with
  | zero => intro w0 w1 D; rfl
  | succ n ih => intro w0 w1 D; simp (maxSteps := 2000000) (disch := first | decide | assumption) only [F_X12_wrote_L28, ih, oD_r, oD_p, fm_ck, fm_ite, fm_bI, bI_fm, fm_s, fm_n, fr_F_X12_offOf, fr_F_X12_writers]
theorem fr_F_X12_wrote_j15 {s1 : Int} {D : mD} : F_X12_wrote_j15 s1 (oD D z) = fm z (F_X12_wrote_j15 s1 D) := by
  unfold F_X12_wrote_j15
  simp (maxSteps := 2000000) (disch := first | decide | assumption) only [oD_r, oD_p, fm_ck, fm_ite, fm_bI, bI_fm, fm_s, fm_n, fr_F_X12_throwsIf, fr_F_X12_wrote_L28]
theorem fr_F_X12_wrote {D : mD} : F_X12_wrote (oD D z) = fm z (F_X12_wrote D) := by
  unfold F_X12_wrote
  simp (maxSteps := 2000000) (disch := first | decide | assumption) only [oD_r, oD_p, fm_ck, fm_ite, fm_bI, bI_fm, fm_s, fm_n, fr_F_X12_isWhites, fr_F_X12_wrote_j15]
theorem fr_F_X12_likely_L42 {x1 : Int} : ∀ (n : Nat) (w0 : Int) (w1 : Int) (D : mD), F_X12_likely_L42 x1 n w0 w1 (oD D z) = fm z (F_X12_likely_L42 x1 n w0 w1 D) := by
  intro n
  induction n with
  | zero => intro w0 w1 D; rfl
  | succ n ih => intro w0 w1 D; simp (maxSteps := 2000000) (disch := first | decide | assumption) only [F_X12_likely_L42, ih, oD_r, oD_p, fm_ck, fm_ite, fm_bI, bI_fm, fm_s, fm_n, fr_F_X12_toldWhite, fr_F_X12_writersWhite]
theorem fr_F_X12_likely_j28 {x1 : Int} {s1 : Int} {D : mD} : F_X12_likely_j28 x1 s1 (oD D z) = fm z (F_X12_likely_j28 x1 s1 D) := by
  unfold F_X12_likely_j28
  simp (maxSteps := 2000000) (disch := first | decide | assumption) only [oD_r, oD_p, fm_ck, fm_ite, fm_bI, bI_fm, fm_s, fm_n, fr_F_X12_likely_L42, fr_F_X12_throwsIf]
theorem fr_F_X12_likely {x1 : Int} {D : mD} : F_X12_likely x1 (oD D z) = fm z (F_X12_likely x1 D) := by
  unfold F_X12_likely
  simp (maxSteps := 2000000) (disch := first | decide | assumption) only [oD_r, oD_p, fm_ck, fm_ite, fm_bI, bI_fm, fm_s, fm_n, fr_F_X12_isWhites, fr_F_X12_likely_j28, fr_F_X12_noWriter, fr_F_X12_throwsIf]
theorem fr_F_X12_lookers_L15 {x1 : Int} {x2 : Int} : ∀ (n : Nat) (w0 : Int) (w1 : Int) (D : mD), F_X12_lookers_L15 x1 x2 n w0 w1 (oD D z) = fm z (F_X12_lookers_L15 x1 x2 n w0 w1 D) := by
  intro n
  induction n with
  | zero => intro w0 w1 D; rfl
  | succ n ih => intro w0 w1 D; simp (maxSteps := 2000000) (disch := first | decide | assumption) only [F_X12_lookers_L15, ih, oD_r, oD_p, fm_ck, fm_ite, fm_bI, bI_fm, fm_s, fm_n]
theorem fr_F_X12_lookers {x1 : Int} {D : mD} : F_X12_lookers x1 (oD D z) = fm z (F_X12_lookers x1 D) := by
  unfold F_X12_lookers
  simp (maxSteps := 2000000) (disch := first | decide | assumption) only [oD_r, oD_p, fm_ck, fm_ite, fm_bI, bI_fm, fm_s, fm_n, fr_F_X12_lookers_L15, fr_F_X12_unevenNow]
theorem fr_F_X12_tries_L2 {x1 : Int} {x2 : Int} : ∀ (n : Nat) (w0 : Int) (D : mD), F_X12_tries_L2 x1 x2 n w0 (oD D z) = fm z (F_X12_tries_L2 x1 x2 n w0 D) := by
  intro n
  induction n with
  | zero => intro w0 D; rfl
  | succ n ih => intro w0 D; simp (maxSteps := 2000000) (disch := first | decide | assumption) only [F_X12_tries_L2, ih, oD_r, oD_p, fm_ck, fm_ite, fm_bI, bI_fm, fm_s, fm_n, fr_F_X12_paints]
theorem fr_F_X12_tries {x1 : Int} {x2 : Int} {D : mD} : F_X12_tries x1 x2 (oD D z) = fm z (F_X12_tries x1 x2 D) := by
  unfold F_X12_tries
  simp (maxSteps := 2000000) (disch := first | decide | assumption) only [oD_r, oD_p, fm_ck, fm_ite, fm_bI, bI_fm, fm_s, fm_n, fr_F_X12_tries_L2]
theorem fr_F_X12_trial_j71 {s0 : Int} {D : mD} : F_X12_trial_j71 s0 (oD D z) = fm z (F_X12_trial_j71 s0 D) := by
  unfold F_X12_trial_j71
  simp (maxSteps := 2000000) (disch := first | decide | assumption) only [oD_r, oD_p, fm_ck, fm_ite, fm_bI, bI_fm, fm_s, fm_n, fr_F_X12_bringsBack]
theorem fr_F_X12_trial_j34 {x1 : Int} {x2 : Int} {x3 : Int} {s1 : Int} {D : mD} : F_X12_trial_j34 x1 x2 x3 s1 (oD D z) = fm z (F_X12_trial_j34 x1 x2 x3 s1 D) := by
  unfold F_X12_trial_j34
  simp (maxSteps := 2000000) (disch := first | decide | assumption) only [oD_r, oD_p, fm_ck, fm_ite, fm_bI, bI_fm, fm_s, fm_n, fr_F_X12_keepsAll, fr_F_X12_painted, fr_F_X12_throwsIf, fr_F_X12_trial_j71, fr_F_X12_tries, fr_F_X12_unevenNow]
theorem fr_F_X12_trial {x1 : Int} {x2 : Int} {x3 : Int} {D : mD} : F_X12_trial x1 x2 x3 (oD D z) = fm z (F_X12_trial x1 x2 x3 D) := by
  unfold F_X12_trial
  simp (maxSteps := 2000000) (disch := first | decide | assumption) only [oD_r, oD_p, fm_ck, fm_ite, fm_bI, bI_fm, fm_s, fm_n, fr_F_X12_in, fr_F_X12_noWriter, fr_F_X12_throwsIf, fr_F_X12_trial_j34]
theorem fr_F_X12_span_L53 {x1 : Int} {x2 : Int} {x3 : Int} : ∀ (n : Nat) (w0 : Int) (w1 : Int) (D : mD), F_X12_span_L53 x1 x2 x3 n w0 w1 (oD D z) = fm z (F_X12_span_L53 x1 x2 x3 n w0 w1 D) := by
  intro n
  induction n with
  | zero => intro w0 w1 D; rfl
  | succ n ih => intro w0 w1 D; simp (maxSteps := 2000000) (disch := first | decide | assumption) only [F_X12_span_L53, ih, oD_r, oD_p, fm_ck, fm_ite, fm_bI, bI_fm, fm_s, fm_n, fr_F_X12_bringsBack, fr_F_X12_tries, fr_F_X12_unevenNow]
theorem fr_F_X12_span_j34 {x1 : Int} {x2 : Int} {x3 : Int} {s1 : Int} {D : mD} : F_X12_span_j34 x1 x2 x3 s1 (oD D z) = fm z (F_X12_span_j34 x1 x2 x3 s1 D) := by
  unfold F_X12_span_j34
  simp (maxSteps := 2000000) (disch := first | decide | assumption) only [oD_r, oD_p, fm_ck, fm_ite, fm_bI, bI_fm, fm_s, fm_n, fr_F_X12_keepsAll, fr_F_X12_span_L53, fr_F_X12_throwsIf]
theorem fr_F_X12_span {x1 : Int} {x2 : Int} {x3 : Int} {D : mD} : F_X12_span x1 x2 x3 (oD D z) = fm z (F_X12_span x1 x2 x3 D) := by
  unfold F_X12_span
  simp (maxSteps := 2000000) (disch := first | decide | assumption) only [oD_r, oD_p, fm_ck, fm_ite, fm_bI, bI_fm, fm_s, fm_n, fr_F_X12_in, fr_F_X12_noWriter, fr_F_X12_span_j34, fr_F_X12_throwsIf]
theorem fr_F_X12_ofLog {x1 : Int} {x2 : Int} {D : mD} : F_X12_ofLog x1 x2 (oD D z) = fm z (F_X12_ofLog x1 x2 D) := by
  unfold F_X12_ofLog
  simp (maxSteps := 2000000) (disch := first | decide | assumption) only [oD_r, oD_p, fm_ck, fm_ite, fm_bI, bI_fm, fm_s, fm_n]
theorem fr_F_X12_slips_L37 {x1 : Int} : ∀ (n : Nat) (w0 : Int) (w1 : Int) (D : mD), F_X12_slips_L37 x1 n w0 w1 (oD D z) = fm z (F_X12_slips_L37 x1 n w0 w1 D) := by
  intro n
  induction n with
  | zero => intro w0 w1 D; rfl
  | succ n ih => intro w0 w1 D; simp (maxSteps := 2000000) (disch := first | decide | assumption) only [F_X12_slips_L37, ih, oD_r, oD_p, fm_ck, fm_ite, fm_bI, bI_fm, fm_s, fm_n, fr_F_X12_ofLog]
theorem fr_F_X12_slips_j24 {x1 : Int} {s1 : Int} {D : mD} : F_X12_slips_j24 x1 s1 (oD D z) = fm z (F_X12_slips_j24 x1 s1 D) := by
  unfold F_X12_slips_j24
  simp (maxSteps := 2000000) (disch := first | decide | assumption) only [oD_r, oD_p, fm_ck, fm_ite, fm_bI, bI_fm, fm_s, fm_n, fr_F_X12_slips_L37, fr_F_X12_throwsIf]
theorem fr_F_X12_slips_j23 {x1 : Int} {D : mD} : F_X12_slips_j23 x1 (oD D z) = fm z (F_X12_slips_j23 x1 D) := by
  unfold F_X12_slips_j23
  simp (maxSteps := 2000000) (disch := first | decide | assumption) only [oD_r, oD_p, fm_ck, fm_ite, fm_bI, bI_fm, fm_s, fm_n, fr_F_X12_slips_j24]
theorem fr_F_X12_slips {x1 : Int} {D : mD} : F_X12_slips x1 (oD D z) = fm z (F_X12_slips x1 D) := by
  unfold F_X12_slips
  simp (maxSteps := 2000000) (disch := first | decide | assumption) only [oD_r, oD_p, fm_ck, fm_ite, fm_bI, bI_fm, fm_s, fm_n, fr_F_X12_noWriter, fr_F_X12_slips_j23, fr_F_X12_slips_j24]
theorem fr_F_X12_log_j20 {x1 : Int} {x2 : Int} {s1 : Int} {D : mD} : F_X12_log_j20 x1 x2 s1 (oD D z) = fm z (F_X12_log_j20 x1 x2 s1 D) := by
  unfold F_X12_log_j20
  simp (maxSteps := 2000000) (disch := first | decide | assumption) only [oD_r, oD_p, fm_ck, fm_ite, fm_bI, bI_fm, fm_s, fm_n, fr_F_X12_in, fr_F_X12_ofLog, fr_F_X12_throwsIf]
theorem fr_F_X12_log {x1 : Int} {x2 : Int} {D : mD} : F_X12_log x1 x2 (oD D z) = fm z (F_X12_log x1 x2 D) := by
  unfold F_X12_log
  simp (maxSteps := 2000000) (disch := first | decide | assumption) only [oD_r, oD_p, fm_ck, fm_ite, fm_bI, bI_fm, fm_s, fm_n, fr_F_X12_in, fr_F_X12_log_j20]
theorem fr_F_X12_seed {x1 : Int} {D : mD} : F_X12_seed x1 (oD D z) = fm z (F_X12_seed x1 D) := by
  unfold F_X12_seed
  simp (maxSteps := 2000000) (disch := first | decide | assumption) only [oD_r, oD_p, fm_ck, fm_ite, fm_bI, bI_fm, fm_s, fm_n]
theorem fr_F_X12_count {x1 : Int} {D : mD} : F_X12_count x1 (oD D z) = fm z (F_X12_count x1 D) := by
  unfold F_X12_count
  simp (maxSteps := 2000000) (disch := first | decide | assumption) only [oD_r, oD_p, fm_ck, fm_ite, fm_bI, bI_fm, fm_s, fm_n, fr_F_X12_endOfLast, fr_F_X12_in, fr_F_X12_painted]
end PFm
