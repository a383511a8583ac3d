/-! PAINTING: the next letter, what is painted, both ends; the log; counts -/
section PP0
variable {n : Int} {D E : mD} {w : Int → Int}
def pntP (w : Int → Int) : Nat → Bool := fun l => decide (0 ≤ wL w (l : Int) 2)
theorem e_painted_L (H : Wi n (D 134)) (hn : n ≤ 100000) : ∀ (m fuel k : Nat), m < fuel → (k : Int) + m = D 134 1 →
    F_X12_painted_L4 fuel (bitN (pntP (D 134)) k : Int) (k : Int) D = some ((bitN (pntP (D 134)) (k + m) : Int), D) := by
  have hr := H.ra
  intro m
  induction m with
  | zero =>
    intro fuel k hf hm
    obtain ⟨j, rfl⟩ : ∃ j, fuel = j + 1 := ⟨fuel - 1, by omega⟩
    simp (disch := omega) only [F_X12_painted_L4, F_X12_letters, Nat.add_zero, bI_q, bX_q, bX_r, t_0, t_1, in_t, in_f, ck_p, if_pos, if_neg, if_true]
  | succ m ih =>
    intro fuel k hf hm
    obtain ⟨j, rfl⟩ : ∃ j, fuel = j + 1 := ⟨fuel - 1, by omega⟩
    have e := bitN_step (p := pntP (D 134)) (k := k) (by omega)
    have h1 := e_isPainted H (by omega) (l := (k : Int)) (by omega) (by omega)
    rw [F_X12_painted_L4, F_X12_letters, bI_q, ck_p (by omega), ck_p (by omega), if_neg (by omega), h1, bI_q, ck_p (b01_nR _)]
    have e2 : (if b01 (0 ≤ wL (D 134) (k : Int) 2) = 0 then (0 : Int) else bShl 1 (k : Int)) = (if pntP (D 134) k = true then bShl 1 (k : Int) else 0) := by
      unfold pntP
      by_cases z : 0 ≤ wL (D 134) (k : Int) 2
      · rw [b01_t z, if_neg (by decide), if_pos (decide_eq_true z)]
      · rw [b01_f z, if_pos rfl, if_neg (by simp [z])]
    rw [e2, e, show (k : Int) + 1 = ((k + 1 : Nat) : Int) by omega, ih j (k + 1) (by omega) (by omega), show k + 1 + m = k + (m + 1) by omega]
theorem e_painted (H : Wi n (D 134)) (hn : n ≤ 100000) : F_X12_painted D = some (wPainted (D 134), D) := by
  have hr := H.ra
  have hN := fN
  have := e_painted_L H hn (D 134 1).toNat fuelN 0 (by omega) (by omega)
  rw [Nat.zero_add] at this
  exact this
/-- may letter l be painted next -/
def mayP (w : Int → Int) (l : Int) : Bool := decide (wL w l 2 < 0 ∧ (w 12 < 0 ∨ (Int.natAbs (l - w 12) : Int) ≠ 1))
def nxF (w : Int → Int) : Int → Nat → Int
  | _, 0 => -1
  | l, m + 1 => if mayP w l = true then l else nxF w (l + 1) m
def wNext (w : Int → Int) : Int := nxF w 0 (w 1).toNat
theorem nxF_r (w : Int → Int) : ∀ (m : Nat) (l : Int), 0 ≤ l → nxF w l m = -1 ∨ (l ≤ nxF w l m ∧ nxF w l m < l + m ∧ mayP w (nxF w l m) = true) := by
  intro m
  induction m with
  | zero => intro l _; exact Or.inl rfl
  | succ m ih =>
    intro l hl
    rw [nxF]
    by_cases q : mayP w l = true
    · rw [if_pos q]; exact Or.inr ⟨by omega, by omega, q⟩
    · rw [if_neg q]
      rcases ih (l + 1) (by omega) with h | ⟨a, b, c⟩
      · exact Or.inl h
      · exact Or.inr ⟨by omega, by omega, c⟩
theorem nxF_no (w : Int → Int) : ∀ (m : Nat) (l : Int), 0 ≤ l → nxF w l m = -1 → ∀ j, l ≤ j → j < l + m → mayP w j = false := by
  intro m
  induction m with
  | zero => intro l _ _ j a b; omega
  | succ m ih =>
    intro l hl h j a b
    rw [nxF] at h
    by_cases q : mayP w l = true
    · rw [if_pos q] at h; omega
    · rw [if_neg q] at h
      by_cases z : j = l
      · rw [z]; simpa using q
      · exact ih (l + 1) (by omega) h j (by omega) (by omega)
theorem wNext_r (H : Wi n w) : wNext w = -1 ∨ (0 ≤ wNext w ∧ wNext w < w 1 ∧ wL w (wNext w) 2 < 0 ∧ (w 12 < 0 ∨ (Int.natAbs (wNext w - w 12) : Int) ≠ 1)) := by
  have hr := H.ra
  rcases nxF_r w (w 1).toNat 0 (by omega) with h | ⟨a, b, c⟩
  · exact Or.inl h
  · unfold mayP at c
    have c := of_decide_eq_true c
    unfold wNext
    exact Or.inr ⟨a, by omega, c⟩
theorem e_nextLetter_L (H : Wi n (D 134)) (hn : n ≤ 100000) : ∀ (m fuel : Nat) (l : Int), m < fuel → 0 ≤ l → l + m = D 134 1 →
    F_X12_nextLetter_L10 (D 134 12) fuel l D = some (nxF (D 134) l m, D) := by
  have hr := H.ra
  intro m
  induction m with
  | zero =>
    intro fuel l hf hl hm
    obtain ⟨j, rfl⟩ : ∃ j, fuel = j + 1 := ⟨fuel - 1, by omega⟩
    simp (disch := omega) only [F_X12_nextLetter_L10, F_X12_letters, nxF, bI_q, bX_q, bX_r, t_0, t_1, in_t, in_f, ck_p, if_pos, if_neg, if_true]
  | succ m ih =>
    intro fuel l hf hl hm
    obtain ⟨j, rfl⟩ : ∃ j, fuel = j + 1 := ⟨fuel - 1, by omega⟩
    have h1 := e_isPainted H (by omega) (l := l) (by omega) (by omega)
    rw [F_X12_nextLetter_L10, F_X12_letters, bI_q, ck_p (by omega), ck_p (by omega), if_neg (by omega), h1, bI_q, ck_p (b01_nR _), nxF]
    have hi := ih j (l + 1) (by omega) (by omega) (by omega)
    unfold mayP
    by_cases z : 0 ≤ wL (D 134) l 2
    · rw [b01_t z, if_neg (by decide), hi, if_neg (by simp; omega)]
    · rw [b01_f z, if_pos rfl, ck_p (by omega)]
      by_cases y : D 134 12 < 0
      · rw [if_pos y, if_pos (by simp; omega)]
      · rw [if_neg y, ck_p (by omega), ck_p (by omega)]
        by_cases x : (Int.natAbs (l - D 134 12) : Int) = 1
        · rw [if_pos x, hi, if_neg (by simp; omega)]
        · rw [if_neg x, if_pos (by simp; omega)]
theorem e_nextLetter (H : Wi n (D 134)) (hn : n ≤ 100000) : F_X12_nextLetter D = some (wNext (D 134), D) := by
  have hr := H.ra
  have hN := fN
  exact e_nextLetter_L H hn (D 134 1).toNat fuelN 0 (by omega) (by omega) (by omega)
/-! bits of the class -/
theorem bit_at {a k : Nat} (ha : a < 2147483648) (hk : k < 31) : bAnd (bShr (a : Int) (k : Int)) 1 = if a.testBit k then 1 else 0 := by
  rw [bShr_n (by omega) ha]
  have h : a / 2 ^ k < 2147483648 := Nat.lt_of_le_of_lt (Nat.div_le_self _ _) ha
  have := bAnd_n (a := a / 2 ^ k) (b := 1) h (by decide)
  rw [show ((1 : Nat) : Int) = 1 from rfl] at this
  rw [this, Nat.and_one_is_mod, Nat.testBit_eq_decide_div_mod_eq]
  by_cases q : a / 2 ^ k % 2 = 1
  · rw [if_pos (decide_eq_true q), q]; rfl
  · rw [if_neg (by simp [q]), show a / 2 ^ k % 2 = 0 by omega]; rfl
def bsN (wet : Int) : Nat := if wet < 0 then 0 else 2 ^ (wet.toNat + 1) ||| 2 ^ wet.toNat / 2
theorem bsN_all : ∀ k : Nat, k < 14 → bsN (k : Int) < 32768 ∧ bOr (bShl (bShl 1 (k : Int)) 1) (bShr (bShl 1 (k : Int)) 1) = (bsN (k : Int) : Int) ∧ ∀ j : Nat, j < 14 → (bsN (k : Int)).testBit j = decide ((Int.natAbs ((j : Int) - (k : Int)) : Int) = 1) := by decide +kernel
theorem bsN_t {wet : Int} (h : -1 ≤ wet ∧ wet < 14) : bsN wet < 32768 ∧ ∀ j : Nat, j < 14 → (bsN wet).testBit j = decide (0 ≤ wet ∧ (Int.natAbs ((j : Int) - wet) : Int) = 1) := by
  by_cases q : wet < 0
  · have e : bsN wet = 0 := if_pos q
    rw [e]
    refine ⟨by decide, fun j _ => ?_⟩
    rw [Nat.zero_testBit, decide_eq_false (by omega)]
  · obtain ⟨k, rfl⟩ : ∃ k : Nat, wet = k := ⟨wet.toNat, by omega⟩
    obtain ⟨a, -, c⟩ := bsN_all k (by omega)
    refine ⟨a, fun j hj => ?_⟩
    rw [c j hj]
    exact decide_eq_decide.mpr (by omega)
theorem c_beside {wet : Int} (h : -1 ≤ wet ∧ wet < 14) : F_X10_beside wet D = some ((bsN wet : Int), D) := by
  rw [F_X10_beside, ck_p (by omega)]
  by_cases q : wet = -1
  · rw [if_pos q, q]; rfl
  · obtain ⟨k, rfl⟩ : ∃ k : Nat, wet = k := ⟨wet.toNat, by omega⟩
    rw [if_neg q, (bsN_all k (by omega)).2.1]
theorem c_nextLetter_L {w : Int → Int} {x : Nat} (hw : 0 ≤ w 1 ∧ w 1 ≤ 14) (hx : x < 2147483648) (hb : ∀ j : Nat, (j : Int) < w 1 → x.testBit j = !(mayP w (j : Int))) : ∀ (m fuel l : Nat), m < fuel → (l : Int) + m = w 1 →
    F_X10_nextLetter_L10 (w 1) (x : Int) fuel (l : Int) D = some (nxF w (l : Int) m, D) := by
  intro m
  induction m with
  | zero =>
    intro fuel l hf hm
    obtain ⟨j, rfl⟩ : ∃ j, fuel = j + 1 := ⟨fuel - 1, by omega⟩
    simp (disch := omega) only [F_X10_nextLetter_L10, nxF, bI_q, bX_q, bX_r, t_0, t_1, in_t, in_f, ck_p, if_pos, if_neg, if_true]
  | succ m ih =>
    intro fuel l hf hm
    obtain ⟨j, rfl⟩ : ∃ j, fuel = j + 1 := ⟨fuel - 1, by omega⟩
    have hi := ih j (l + 1) (by omega) (by omega)
    rw [F_X10_nextLetter_L10, ck_p (by omega), ck_p (by omega), if_neg (by omega), bit_at hx (by omega), hb l (by omega), nxF]
    by_cases z : mayP w (l : Int) = true
    · rw [z, ck_p (by decide), if_pos (by decide), if_pos rfl]
    · rw [Bool.not_eq_true _ |>.mp z, ck_p (by decide), if_neg (by decide), if_neg (by decide), show (l : Int) + 1 = ((l + 1 : Nat) : Int) by omega, hi]
theorem c_nextLetter (H : Wi n w) : F_X10_nextLetter (wPainted w) (w 12) (w 1) D = some (wNext w, D) := by
  have hr := H.ra
  have hN := fN
  obtain ⟨b1, b2⟩ := bsN_t (wet := w 12) (by omega)
  have hp := bitN_lt (pntP w) (w 1).toNat
  have h2 : 2 ^ (w 1).toNat ≤ 2 ^ 14 := Nat.pow_le_pow_right (by decide) (by omega)
  have e : wPainted w = (bitN (pntP w) (w 1).toNat : Int) := rfl
  rw [F_X10_nextLetter, c_beside (by omega), bI_q, e, bOr_n (by omega) (by omega)]
  refine c_nextLetter_L (w := w) (by omega) (Nat.or_lt_two_pow (n := 31) (by omega) (by omega)) (fun j hj => ?_) (w 1).toNat fuelN 0 (by omega) (by omega)
  rw [Nat.testBit_or, bitN_test, b2 j (by omega), decide_eq_true (show j < (w 1).toNat by omega), Bool.true_and]
  unfold pntP mayP
  by_cases z : 0 ≤ wL w (j : Int) 2
  · rw [decide_eq_true z, decide_eq_false (p := wL w (j : Int) 2 < 0 ∧ _) (by omega)]; rfl
  · rw [decide_eq_false z, Bool.false_or]
    by_cases y : 0 ≤ w 12 ∧ (Int.natAbs ((j : Int) - w 12) : Int) = 1
    · rw [decide_eq_true y, decide_eq_false (p := wL w (j : Int) 2 < 0 ∧ _) (by omega)]; rfl
    · rw [decide_eq_false y, decide_eq_true (p := wL w (j : Int) 2 < 0 ∧ _) (by omega)]; rfl
theorem bit_in {p p' : Nat → Bool} {m l : Nat} (hm : m < 30) (hl : l < m) (h : ∀ j, j < m → p' j = (p j || decide (j = l))) : bOr (bitN p m : Int) (bShl 1 (l : Int)) = (bitN p' m : Int) := by
  have h2 : 2 ^ m ≤ 2 ^ 29 := Nat.pow_le_pow_right (by decide) (by omega)
  have h3 : 2 ^ l ≤ 2 ^ 29 := Nat.pow_le_pow_right (by decide) (by omega)
  have h4 := bitN_lt p m
  have e := bShl_n (a := 1) (k := l) (by omega) (by omega)
  rw [show ((1 : Nat) : Int) = 1 from rfl, Nat.one_mul] at e
  rw [e, bOr_n (by omega) (by omega)]
  congr 1
  apply Nat.eq_of_testBit_eq
  intro j
  rw [Nat.testBit_or, bitN_test, bitN_test, Nat.testBit_two_pow]
  by_cases q : j < m
  · rw [h j q, decide_eq_true q, Bool.true_and, Bool.true_and]
    congr 1
    exact decide_eq_decide.mpr (by omega)
  · rw [decide_eq_false q, Bool.false_and, Bool.false_and, Bool.false_or, decide_eq_false (by omega)]
end PP0
section PP1
variable {n : Int} {D : mD}
theorem q_count (R : CR n D) (hn : n ≤ 100000) (hh : D 31 1 = D 133 7) {x : Int} (hx : nR x) : AnsI n D (F_X11_count x) (F_X12_count x) := by
  have hr := R.wi.ra
  have hc := R.ca
  have hz : ∀ E, F_X12_count x E = F_X12_count x (pD E 133 0 0) := (fun E => by simp only [F_X12_count, pD_pD])
  by_cases a15 : x = 15
  · subst a15
    refine ⟨D, D 133 7, pD D 133 0 0, by simp (disch := omega) only [F_X11_count, hh, bI_q, bX_q, bX_r, t_0, t_1, in_t, in_f, ck_p, if_pos, if_neg, if_true], Ke.rf R, ?_, (Qw.qt Qw.rf).1⟩
    simp (disch := omega) only [F_X12_count, pD_nj, bI_q, bX_q, bX_r, t_0, t_1, in_t, in_f, ck_p, if_pos, if_neg, if_true]
  · by_cases a : 0 ≤ x ∧ x ≤ 14
    · refine AnsI.ok (v := if x = 10 then (if D 134 10 = 1 then D 134 475 else -1) else if x = 11 then D 134 11 else if x = 12 then wEnd (D 134) else if x = 13 then wPainted (D 134) else if x = 14 then D 134 13 else D 134 x) ?_ (Ke.rf R) hz ?_
      · obtain b | b | b | b | b | b | b | b | b | b | b | b | b | b | b : x = 0 ∨ x = 1 ∨ x = 2 ∨ x = 3 ∨ x = 4 ∨ x = 5 ∨ x = 6 ∨ x = 7 ∨ x = 8 ∨ x = 9 ∨ x = 10 ∨ x = 11 ∨ x = 12 ∨ x = 13 ∨ x = 14 := by omega
        all_goals subst b
        · simp (disch := omega) only [F_X11_count, hc.1, bI_q, bX_q, bX_r, t_0, t_1, in_t, in_f, ck_p, if_pos, if_neg, if_true]
        · simp (disch := omega) only [F_X11_count, hc.2.1, bI_q, bX_q, bX_r, t_0, t_1, in_t, in_f, ck_p, if_pos, if_neg, if_true]
        · simp (disch := omega) only [F_X11_count, hc.2.2.1, bI_q, bX_q, bX_r, t_0, t_1, in_t, in_f, ck_p, if_pos, if_neg, if_true]
        · simp (disch := omega) only [F_X11_count, hc.2.2.2.1, bI_q, bX_q, bX_r, t_0, t_1, in_t, in_f, ck_p, if_pos, if_neg, if_true]
        · simp (disch := omega) only [F_X11_count, hc.2.2.2.2.1, bI_q, bX_q, bX_r, t_0, t_1, in_t, in_f, ck_p, if_pos, if_neg, if_true]
        · simp (disch := omega) only [F_X11_count, hc.2.2.2.2.2.2.2.2.2.2.2.1, bI_q, bX_q, bX_r, t_0, t_1, in_t, in_f, ck_p, if_pos, if_neg, if_true]
        · simp (disch := omega) only [F_X11_count, hc.2.2.2.2.2.1, bI_q, bX_q, bX_r, t_0, t_1, in_t, in_f, ck_p, if_pos, if_neg, if_true]
        · simp (disch := omega) only [F_X11_count, hc.2.2.2.2.2.2.1, bI_q, bX_q, bX_r, t_0, t_1, in_t, in_f, ck_p, if_pos, if_neg, if_true]
        · simp (disch := omega) only [F_X11_count, hc.2.2.2.2.2.2.2.1, bI_q, bX_q, bX_r, t_0, t_1, in_t, in_f, ck_p, if_pos, if_neg, if_true]
        · simp (disch := omega) only [F_X11_count, hc.2.2.2.2.2.2.2.2.1, bI_q, bX_q, bX_r, t_0, t_1, in_t, in_f, ck_p, if_pos, if_neg, if_true]
        · simp (disch := omega) only [F_X11_count, c_lines R.cw, bI_q, bX_q, bX_r, t_0, t_1, in_t, in_f, ck_p, if_pos, if_neg, if_true]
        · simp (disch := omega) only [F_X11_count, R.work.2.2.2.2.1, bI_q, bX_q, bX_r, t_0, t_1, in_t, in_f, ck_p, if_pos, if_neg, if_true]
        · simp (disch := omega) only [F_X11_count, c_endOfWord R, bI_q, bX_q, bX_r, t_0, t_1, in_t, in_f, ck_p, if_pos, if_neg, if_true]
        · simp (disch := omega) only [F_X11_count, R.work.1, bI_q, bX_q, bX_r, t_0, t_1, in_t, in_f, ck_p, if_pos, if_neg, if_true]
        · simp (disch := omega) only [F_X11_count, R.work.2.2.2.2.2.1, bI_q, bX_q, bX_r, t_0, t_1, in_t, in_f, ck_p, if_pos, if_neg, if_true]
      · intro G e z
        have H : Wi n (G 134) := by rw [e]; exact R.wi
        rw [← e] at hr ⊢
        refine ⟨G, ?_, Qw.rf⟩
        by_cases b : x ≤ 9
        · simp (disch := omega) only [F_X12_count, z, bI_q, bX_q, bX_r, t_0, t_1, in_t, in_f, ck_p, if_pos, if_neg, if_true]
        · obtain b | b | b | b | b : x = 10 ∨ x = 11 ∨ x = 12 ∨ x = 13 ∨ x = 14 := by omega
          all_goals subst b
          · simp (disch := omega) only [F_X12_count, z, bI_q, bX_q, bX_r, t_0, t_1, in_t, in_f, ck_p, if_pos, if_neg, if_true]
          · simp (disch := omega) only [F_X12_count, z, bI_q, bX_q, bX_r, t_0, t_1, in_t, in_f, ck_p, if_pos, if_neg, if_true]
          · simp (disch := omega) only [F_X12_count, z, r_endOfLast H, bI_q, bX_q, bX_r, t_0, t_1, in_t, in_f, ck_p, if_pos, if_neg, if_true]
          · simp (disch := omega) only [F_X12_count, z, e_painted H hn, bI_q, bX_q, bX_r, t_0, t_1, in_t, in_f, ck_p, if_pos, if_neg, if_true]
          · simp (disch := omega) only [F_X12_count, z, bI_q, bX_q, bX_r, t_0, t_1, in_t, in_f, ck_p, if_pos, if_neg, if_true]
    · refine AnsI.ok (v := -1) (by simp (disch := omega) only [F_X11_count, bI_q, bX_q, bX_r, t_0, t_1, in_t, in_f, ck_p, if_pos, if_neg, if_true]) (Ke.rf R) hz ?_
      intro G e z
      exact ⟨G, by simp (disch := omega) only [F_X12_count, z, bI_q, bX_q, bX_r, t_0, t_1, in_t, in_f, ck_p, if_pos, if_neg, if_true]; exact ck_p (fun y => absurd trivial y), Qw.rf⟩
theorem c_logged (R : CR n D) {a k : Int} (a0 : 0 ≤ a) (a1 : a < D 134 13) (k0 : 0 ≤ k) (k1 : k < 4) : F_X10_logged 17 a k D = some (D 134 (235 + 4 * a + k), D) := by
  have hr := R.wi.ra
  have hk := R.work
  have h := R.lg a0 a1 k0 k1
  rw [F_X10_logged, ck_p (by omega), ck_p (by omega)]
  exact congrArg (fun v => some (v, D)) h
theorem q_log (R : CR n D) {a k : Int} (ha : nR a) (hk : nR k) : Ans n D [4] (F_X11_log a k) (F_X12_log a k) := by
  have hr := R.wi.ra
  have hc := R.work
  have hz : ∀ E, F_X12_log a k E = F_X12_log a k (pD E 133 0 0) := (fun E => by simp only [F_X12_log, pD_pD])
  by_cases b : 0 ≤ k ∧ k ≤ 3
  · by_cases c : 0 ≤ a ∧ a ≤ D 134 13 - 1
    · refine Ans.ok (v := D 134 (235 + 4 * a + k)) (by simp (disch := omega) only [F_X11_log, hc.2.2.2.2.2.1, c_logged R, bI_q, bX_q, bX_r, t_0, t_1, in_t, in_f, ck_p, if_pos, if_neg, if_true]) (Ke.rf R) hz ?_
      intro G e z
      rw [← e] at c hr ⊢
      exact ⟨G, by simp (disch := omega) only [F_X12_log, F_X12_log_j20, F_X12_ofLog, z, bI_q, bX_q, bX_r, t_0, t_1, in_t, in_f, ck_p, if_pos, if_neg, if_true], Qw.rf⟩
    · refine Ans.ok (v := -99) (E := D) ?_ (Ke.rf R) hz ?_
      · by_cases s : a < 0
        · simp (disch := omega) only [F_X11_log, bI_q, bX_q, bX_r, t_0, t_1, in_t, in_f, ck_p, if_pos, if_neg, if_true]
        · simp (disch := omega) only [F_X11_log, hc.2.2.2.2.2.1, bI_q, bX_q, bX_r, t_0, t_1, in_t, in_f, ck_p, if_pos, if_neg, if_true]
      intro G e z
      rw [← e] at c hr
      exact ⟨G, by simp (disch := omega) only [F_X12_log, F_X12_log_j20, z, bI_q, bX_q, bX_r, t_0, t_1, in_t, in_f, ck_p, if_pos, if_neg, if_true], Qw.rf⟩
  · refine Ans.no 0 rfl (i := 4) (E := D) ?_ (Ke.rf R) hz ?_
    · by_cases s : k < 0
      · simp (disch := omega) only [F_X11_log, F_X11_log_j9, bI_q, bX_q, bX_r, t_0, t_1, in_t, in_f, ck_p, if_pos, if_neg, if_true]
      · simp (disch := omega) only [F_X11_log, F_X11_log_j9, bI_q, bX_q, bX_r, t_0, t_1, in_t, in_f, ck_p, if_pos, if_neg, if_true]
    intro G e z
    exact ⟨0, G, by simp (disch := omega) only [F_X12_log, F_X12_log_j20, z, bI_q, bX_q, bX_r, t_0, t_1, in_t, in_f, ck_p, if_pos, if_neg, if_true]; rfl, Qw.rf⟩
def wSl1 (w : Int → Int) (x a : Int) : Int := if w (235 + 4 * a + 3) = 0 then 0 else if x = -1 then 1 else if w (235 + 4 * a + 2) = x then 1 else 0
theorem sl_z {w : Int → Int} {x a : Int} (z : w (235 + 4 * a + 3) = 0) : wSl1 w x a = 0 := if_pos z
theorem sl_y {w : Int → Int} {x a : Int} (z : ¬ w (235 + 4 * a + 3) = 0) (y : x = -1) : wSl1 w x a = 1 := by unfold wSl1; rw [if_neg z, if_pos y]
theorem sl_u {w : Int → Int} {x a : Int} (z : ¬ w (235 + 4 * a + 3) = 0) (y : ¬ x = -1) (u : w (235 + 4 * a + 2) = x) : wSl1 w x a = 1 := by unfold wSl1; rw [if_neg z, if_neg y, if_pos u]
theorem sl_n {w : Int → Int} {x a : Int} (y : ¬ x = -1) (u : ¬ w (235 + 4 * a + 2) = x) : wSl1 w x a = 0 := by
  unfold wSl1
  by_cases z : w (235 + 4 * a + 3) = 0
  · rw [if_pos z]
  · rw [if_neg z, if_neg y, if_neg u]
theorem c_slips_L (R : CR n D) (hn : n ≤ 100000) {x : Int} (hx : nR x) : ∀ (m fuel : Nat) (s a : Int), m < fuel → 0 ≤ a → a + m = D 134 13 →
    F_X11_slips_L14 x fuel s a D = some (.inl (s + sumF (wSl1 (D 134) x) a m), D) := by
  have hr := R.wi.ra
  have hc := R.work
  intro m
  induction m with
  | zero =>
    intro fuel s a hf h0 hm
    obtain ⟨j, rfl⟩ : ∃ j, fuel = j + 1 := ⟨fuel - 1, by omega⟩
    simp (disch := omega) only [F_X11_slips_L14, hc.2.2.2.2.2.1, sumF, Int.add_zero, bI_q, bX_q, bX_r, t_0, t_1, in_t, in_f, ck_p, if_pos, if_neg, if_true]
  | succ m ih =>
    intro fuel s a hf h0 hm
    obtain ⟨j, rfl⟩ : ∃ j, fuel = j + 1 := ⟨fuel - 1, by omega⟩
    have hl := R.wi.lg h0 (by omega)
    have i0 := ih j s (a + 1) (by omega) (by omega) (by omega)
    have i1 := ih j (s + 1) (a + 1) (by omega) (by omega) (by omega)
    have l3 := c_logged R (a := a) (k := 3) h0 (by omega) (by omega) (by omega)
    have l2 := c_logged R (a := a) (k := 2) h0 (by omega) (by omega) (by omega)
    rw [sumF, F_X11_slips_L14, hc.2.2.2.2.2.1, ck_p (by omega), ck_p (by omega), if_neg (by omega), ck_p hx]
    by_cases y : x = -1
    · rw [if_pos y, F_X11_slips_j43, F_X11_slips_j48, ck_p (by decide), if_neg (by decide), l3, bI_q, ck_p (by omega)]
      by_cases z : D 134 (235 + 4 * a + 3) = 0
      · rw [if_pos z, i0, sl_z z, Int.zero_add]
      · rw [if_neg z, i1, sl_y z y, Int.add_assoc]
    · rw [if_neg y, l2, bI_q, ck_p (by omega)]
      by_cases u : D 134 (235 + 4 * a + 2) = x
      · rw [if_pos u, F_X11_slips_j48, ck_p (by decide), if_neg (by decide), l3, bI_q, ck_p (by omega)]
        by_cases z : D 134 (235 + 4 * a + 3) = 0
        · rw [if_pos z, i0, sl_z z, Int.zero_add]
        · rw [if_neg z, i1, sl_u z y u, Int.add_assoc]
      · rw [if_neg u, F_X11_slips_j48, ck_p (by decide), if_pos rfl, i0, sl_n y u, Int.zero_add]
theorem r_slips_L (H : Wi n (D 134)) (hn : n ≤ 100000) {x : Int} (hx : nR x) : ∀ (m fuel : Nat) (s a : Int), m < fuel → 0 ≤ a → a + m = D 134 13 →
    F_X12_slips_L37 x fuel s a D = some (s + sumF (wSl1 (D 134) x) a m, D) := by
  have hr := H.ra
  intro m
  induction m with
  | zero =>
    intro fuel s a hf h0 hm
    obtain ⟨j, rfl⟩ : ∃ j, fuel = j + 1 := ⟨fuel - 1, by omega⟩
    simp (disch := omega) only [F_X12_slips_L37, sumF, Int.add_zero, bI_q, bX_q, bX_r, t_0, t_1, in_t, in_f, ck_p, if_pos, if_neg, if_true]
  | succ m ih =>
    intro fuel s a hf h0 hm
    obtain ⟨j, rfl⟩ : ∃ j, fuel = j + 1 := ⟨fuel - 1, by omega⟩
    have hl := H.lg h0 (by omega)
    have i0 := ih j (s + 0) (a + 1) (by omega) (by omega) (by omega)
    have i1 := ih j (s + 1) (a + 1) (by omega) (by omega) (by omega)
    rw [sumF, F_X12_slips_L37, ck_p (by omega), ck_p (by omega), if_neg (by omega), F_X12_ofLog, ck_p (by omega), bI_q, ck_p (by omega)]
    by_cases z : D 134 (235 + 4 * a + 3) = 0
    · rw [if_pos z, i0, sl_z z, Int.zero_add, Int.add_zero]
    · rw [if_neg z, ck_p hx]
      by_cases y : x = -1
      · rw [if_pos y, i1, sl_y z y, Int.add_assoc]
      · rw [if_neg y, F_X12_ofLog, ck_p (by omega), bI_q, ck_p (by omega)]
        by_cases u : D 134 (235 + 4 * a + 2) = x
        · rw [if_pos u, i1, sl_u z y u, Int.add_assoc]
        · rw [if_neg u, i0, sl_n y u, Int.zero_add, Int.add_zero]
theorem q_slips (R : CR n D) (hn : n ≤ 100000) {x : Int} (hx : nR x) : Ans n D [2] (F_X11_slips x) (F_X12_slips x) := by
  have hr := R.wi.ra
  have hN := fN
  have hz : ∀ E, F_X12_slips x E = F_X12_slips x (pD E 133 0 0) := (fun E => by simp only [F_X12_slips, pD_pD])
  have h1 := c_slips_L R hn hx (D 134 13).toNat fuelN 0 0 (by omega) (by omega) (by omega)
  by_cases y : x = -1
  · refine Ans.ok (by rw [F_X11_slips, ck_p hx, if_pos y, h1]) (Ke.rf R) hz ?_
    intro G e z
    have H : Wi n (G 134) := by rw [e]; exact R.wi
    rw [← e] at hr ⊢
    have h2 := r_slips_L H hn hx (G 134 13).toNat fuelN 0 0 (by omega) (by omega) (by omega)
    exact ⟨G, by rw [F_X12_slips, z, ck_p hx, if_pos y, F_X12_slips_j23, F_X12_slips_j24, t_0, bI_q, ck_p (by decide), if_pos rfl, h2], Qw.rf⟩
  · by_cases a : 0 ≤ x ∧ x ≤ D 134 7 - 1
    · refine Ans.ok (by rw [F_X11_slips, ck_p hx, if_neg y, n_writer_t R hx a, bX_q, h1]) (Ke.rf R) hz ?_
      intro G e z
      have H : Wi n (G 134) := by rw [e]; exact R.wi
      rw [← e] at hr a ⊢
      have h2 := r_slips_L H hn hx (G 134 13).toNat fuelN 0 0 (by omega) (by omega) (by omega)
      exact ⟨G, by rw [F_X12_slips, z, ck_p hx, if_neg y, noWriter_t H hx a, bI_q, ck_p (by decide), if_pos rfl, F_X12_slips_j24, t_0, bI_q, ck_p (by decide), if_pos rfl, h2], Qw.rf⟩
    · refine Ans.no 0 rfl (i := 2) (by rw [F_X11_slips, ck_p hx, if_neg y, n_writer_f R hx a, bX_r]) (Ke.rf R) hz ?_
      intro G e z
      have H : Wi n (G 134) := by rw [e]; exact R.wi
      rw [← e] at a
      exact ⟨0, G, by rw [F_X12_slips, z, ck_p hx, if_neg y, noWriter_f H hx a, bI_q, ck_p (by decide), if_neg (by decide), F_X12_slips_j24, t_1, bI_q, ck_p (by decide), if_neg (by decide)]; rfl, Qw.rf⟩
end PP1
