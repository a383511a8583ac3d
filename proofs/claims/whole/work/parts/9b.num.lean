/-! NUMBERS, marks, what is behind a word: both ends -/
section PW1
variable {B : Int → Int} {L p : Int} {D E R : mD}
def dg (B : Int → Int) (s : Int) : Nat → Int
  | 0 => 0
  | m + 1 => dg B s m * 10 + B (s + m) - 48
theorem dg_r (hB : CB B L) {s : Int} (s0 : 0 ≤ s) : ∀ m : Nat, m ≤ 3 → s + m ≤ 400 → -10000 ≤ dg B s m ∧ dg B s m ≤ 30000 := by
  intro m h1 h2
  have b0 := fun h => hB.2.2 s s0 h
  have b1 := fun h => hB.2.2 (s + 1) (by omega) h
  have b2 := fun h => hB.2.2 (s + 2) (by omega) h
  obtain y | y | y | y : m = 0 ∨ m = 1 ∨ m = 2 ∨ m = 3 := by omega
  all_goals subst y
  · simp only [dg]; omega
  · have := b0 (by omega)
    simp only [dg, show s + ((0 : Nat) : Int) = s by omega]; omega
  · have := b0 (by omega)
    have := b1 (by omega)
    simp only [dg, show s + ((0 : Nat) : Int) = s by omega, show s + ((1 : Nat) : Int) = s + 1 by omega]; omega
  · have := b0 (by omega)
    have := b1 (by omega)
    have := b2 (by omega)
    simp only [dg, show s + ((0 : Nat) : Int) = s by omega, show s + ((1 : Nat) : Int) = s + 1 by omega, show s + ((2 : Nat) : Int) = s + 2 by omega]; omega
def numV (B : Int → Int) (L lo hi p : Int) : Int :=
  if tk B L (sk B L p) = 2 ∧ te B L (sk B L p) - sk B L p ≤ 3 then (if lo ≤ dg B (sk B L p) (te B L (sk B L p) - sk B L p).toNat ∧ dg B (sk B L p) (te B L (sk B L p) - sk B L p).toNat ≤ hi then dg B (sk B L p) (te B L (sk B L p) - sk B L p).toNat else -1) else -1
theorem numV_r (B : Int → Int) (L lo hi p : Int) : numV B L lo hi p = -1 ∨ (lo ≤ numV B L lo hi p ∧ numV B L lo hi p ≤ hi ∧ tk B L (sk B L p) = 2) := by
  unfold numV
  by_cases h : tk B L (sk B L p) = 2 ∧ te B L (sk B L p) - sk B L p ≤ 3
  · rw [if_pos h]
    by_cases h2 : lo ≤ dg B (sk B L p) (te B L (sk B L p) - sk B L p).toNat ∧ dg B (sk B L p) (te B L (sk B L p) - sk B L p).toNat ≤ hi
    · rw [if_pos h2]; exact Or.inr ⟨h2.1, h2.2, h.1⟩
    · rw [if_neg h2]; exact Or.inl rfl
  · rw [if_neg h]; exact Or.inl rfl
theorem c_numberWithin (hB : CB B L) (h : CT B L p D) (p0 : 0 ≤ p) (p1 : p ≤ L) {lo hi : Int} (hlo : nR lo) (hhi : nR hi) : F_X8_numberWithin lo hi D = some (numV B L lo hi p, D) := by
  have hN := fN
  have q := h.pos p0 p1
  have l4 := hB.2.1
  obtain ⟨h1, h2, h3, h4, h5⟩ := h
  have tr := tk_r B L (sk B L p)
  have tt := te_r (B := B) (p := sk B L p) (sk_r p1).2
  have Lp : ∀ (m fuel k : Nat), m < fuel → (k : Int) + m = te B L (sk B L p) - sk B L p → te B L (sk B L p) - sk B L p ≤ 3 →
      F_X8_numberWithin_L31 lo hi fuel (dg B (sk B L p) k) (sk B L p + k) D = some (if lo ≤ dg B (sk B L p) (te B L (sk B L p) - sk B L p).toNat ∧ dg B (sk B L p) (te B L (sk B L p) - sk B L p).toNat ≤ hi then dg B (sk B L p) (te B L (sk B L p) - sk B L p).toNat else -1, D) := by
    intro m
    induction m with
    | zero =>
      intro fuel k hf hk h3'
      obtain ⟨j, rfl⟩ : ∃ j, fuel = j + 1 := ⟨fuel - 1, by omega⟩
      have ek : (te B L (sk B L p) - sk B L p).toNat = k := by omega
      have dr := dg_r hB (s := sk B L p) q.2.2.1 k (by omega) (by omega)
      rw [F_X8_numberWithin_L31, ck_p (by omega), h5, ck_p (by omega), if_pos (by omega), ck_p (by omega), ck_p hlo, ck_p (fun _ => hhi), ek]
      by_cases y : lo ≤ dg B (sk B L p) k ∧ dg B (sk B L p) k ≤ hi
      · rw [if_pos y, if_neg (by omega), if_pos y.2]
      · rw [if_neg y]
        by_cases z : dg B (sk B L p) k < lo
        · rw [if_pos z]
        · rw [if_neg z, if_neg (by omega)]
    | succ m ih =>
      intro fuel k hf hk h3'
      obtain ⟨j, rfl⟩ : ∃ j, fuel = j + 1 := ⟨fuel - 1, by omega⟩
      have i := ih j (k + 1) (by omega) (by omega) h3'
      rw [F_X8_numberWithin_L31, ck_p (by omega), h5, ck_p (by omega), if_neg (by omega), ck_p (by omega), h1, show sk B L p + (k : Int) + 1 = sk B L p + ((k + 1 : Nat) : Int) by omega]
      exact i
  rw [F_X8_numberWithin, h4, ck_p (by omega)]
  unfold numV
  by_cases y : tk B L (sk B L p) = 2
  · rw [if_pos y, h5, h3, ck_p (by omega)]
    by_cases z : te B L (sk B L p) - sk B L p ≤ 3
    · rw [if_pos z, if_pos ⟨y, z⟩]
      have := Lp (te B L (sk B L p) - sk B L p).toNat fuelN 0 (by omega) (by omega) z
      rw [show ((0 : Nat) : Int) = 0 from rfl, Int.add_zero] at this
      exact this
    · rw [if_neg z, if_neg (fun w => z w.2)]
  · rw [if_neg y, if_neg (fun w => y w.1)]
def nx (B : Int → Int) (L p : Int) : Int := te B L (sk B L p)
theorem nx_r (p1 : p ≤ L) : p ≤ nx B L p ∧ nx B L p ≤ L ∧ sk B L p ≤ nx B L p ∧ (sk B L p < L → p < nx B L p) := by
  have a := sk_r (B := B) p1
  have b := te_r (B := B) (p := sk B L p) a.2
  unfold nx
  omega
theorem c_readNumber (hB : CB B L) (h : CT B L p D) (p0 : 0 ≤ p) (p1 : p ≤ L) {lo hi : Int} (hlo : nR lo ∧ 0 ≤ lo) (hhi : nR hi) : ∃ E, F_X9_readNumber_S lo hi D = some (numV B L lo hi p, E) ∧ Fr1 D E ∧ (numV B L lo hi p = -1 → E = D) ∧ (numV B L lo hi p ≠ -1 → CT B L (nx B L p) E) := by
  have c := c_numberWithin hB h p0 p1 hlo.1 hhi
  have r := numV_r B L lo hi p
  rw [F_X9_readNumber_S, c, bI_q, ck_p (by omega)]
  by_cases y : numV B L lo hi p = -1
  · rw [if_pos y]
    exact ⟨D, rfl, Fr1.rf, fun _ => rfl, fun z => absurd y z⟩
  · obtain ⟨E, e1, e2, e3⟩ := c_stepT hB h p0 p1
    rw [if_neg y, e1, bI_q]
    exact ⟨E, rfl, e3, fun z => absurd z y, fun _ => e2⟩
theorem c_readNumber2 (hB : CB B L) (h : CT B L p D) (p0 : 0 ≤ p) (p1 : p ≤ L) {lo hi : Int} (hlo : nR lo ∧ 0 ≤ lo) (hhi : nR hi) : ∃ E, F_X9_readNumber_L lo hi D = some (numV B L lo hi p, E) ∧ Fr1 D E ∧ (numV B L lo hi p = -1 → E = D) ∧ (numV B L lo hi p ≠ -1 → CT B L (nx B L p) E) := by
  have c := c_numberWithin hB h p0 p1 hlo.1 hhi
  have r := numV_r B L lo hi p
  rw [F_X9_readNumber_L, c, bI_q, ck_p (by omega)]
  by_cases y : numV B L lo hi p = -1
  · rw [if_pos y]
    exact ⟨D, rfl, Fr1.rf, fun _ => rfl, fun z => absurd y z⟩
  · obtain ⟨E, e1, e2, e3⟩ := c_stepT hB h p0 p1
    rw [if_neg y, e1, bI_q]
    exact ⟨E, rfl, e3, fun z => absurd z y, fun _ => e2⟩
def nd (B : Int → Int) (L p : Int) : Int := rn B L 2 (sk B L p)
theorem nd_yes (h : tk B L (sk B L p) = 2) : nx B L p = nd B L p := by
  unfold nx nd te
  rw [h, if_neg (by decide), if_neg (by decide)]
theorem nd_no (h1 : tk B L (sk B L p) ≠ 2) : nd B L p = sk B L p := by
  unfold nd
  refine rn_stop ?_
  unfold tk at h1
  by_cases y : sk B L p < L
  · rw [if_pos y] at h1; exact Or.inr h1
  · exact Or.inl (by omega)
theorem r_number (hB : CB B L) (h : RT B L R) (e : R 133 10 = p) (p0 : 0 ≤ p) (p1 : p ≤ L) {lo hi : Int} (hlo : nR lo) (hhi : nR hi) : F_X12_number lo hi R = some (numV B L lo hi p, posD R (nd B L p) (sk B L p)) := by
  have hN := fN
  have l4 := hB.2.1
  have s := sk_r (B := B) p1
  have nd2 : nd B L p - sk B L p = if tk B L (sk B L p) = 2 then te B L (sk B L p) - sk B L p else 0 := by
    by_cases y : tk B L (sk B L p) = 2
    · rw [if_pos y, ← nd_yes y]; rfl
    · rw [if_neg y, nd_no y]; omega
  have ndp : tk B L (sk B L p) = 2 → sk B L p < nd B L p := fun y => by
    have t := te_r (B := B) (p := sk B L p) s.2
    have : sk B L p < L := by
      unfold tk at y
      by_cases z : sk B L p < L
      · exact z
      · rw [if_neg z] at y; omega
    rw [← nd_yes y]
    exact t.2.2 this
  have Lp : ∀ (m fuel k : Nat), m < fuel → sk B L p + k + m = L → rn B L 2 (sk B L p + k) = nd B L p → 
      F_X12_number_L6 lo hi fuel (dg B (sk B L p) (min k 3)) (posD R (sk B L p + k) (sk B L p)) = some (numV B L lo hi p, posD R (nd B L p) (sk B L p)) := by
    have stop : ∀ (j k : Nat), sk B L p + k ≤ L → (sk B L p + (k : Int) = nd B L p) → decide (sk B L p + (k : Int) < L ∧ kd (B (sk B L p + k)) = 2) = false → F_X12_number_L6 lo hi (j + 1) (dg B (sk B L p) (min k 3)) (posD R (sk B L p + k) (sk B L p)) = some (numV B L lo hi p, posD R (nd B L p) (sk B L p)) := by
      intro j k hk hkn hdec
      have f := pos_f R (sk B L p + k) (sk B L p)
      have dr := dg_r hB (s := sk B L p) (by omega) (min k 3) (by omega) (by omega)
      rw [F_X12_number_L6, r_run hB h (Or.inr ⟨rfl, rfl, rfl⟩) (by omega) (by omega), bI_q, hdec, bi_f, ck_p (by decide), if_pos rfl, f.1, f.2.1, ck_p (by omega), ck_p (by omega), ck_p (fun _ => by omega), ck_p (fun _ _ => by omega), ck_p (fun _ _ => hlo), ck_p (fun _ _ _ => hhi), ← hkn]
      congr 2
      unfold numV
      by_cases y : tk B L (sk B L p) = 2
      · rw [if_pos y] at nd2
        have pos := ndp y
        have ek : te B L (sk B L p) - sk B L p = k := by omega
        rw [if_neg (by omega), ek]
        by_cases z : 3 < sk B L p + (k : Int) - sk B L p
        · rw [if_pos z, if_neg (by omega)]
        · rw [if_neg z, if_pos (show tk B L (sk B L p) = 2 ∧ (k : Int) ≤ 3 from ⟨y, by omega⟩), show ((k : Nat) : Int).toNat = k by omega, show min k 3 = k by omega]
          by_cases u : lo ≤ dg B (sk B L p) k ∧ dg B (sk B L p) k ≤ hi
          · rw [if_pos u, if_neg (by omega), if_pos u.2]
          · rw [if_neg u]
            by_cases v : dg B (sk B L p) k < lo
            · rw [if_pos v]
            · rw [if_neg v, if_neg (by omega)]
      · rw [if_neg y] at nd2
        rw [if_pos (by omega), if_neg (fun w => y w.1)]
    intro m
    induction m with
    | zero =>
      intro fuel k hf hk hr
      obtain ⟨j, rfl⟩ : ∃ j, fuel = j + 1 := ⟨fuel - 1, by omega⟩
      rw [rn_stop (Or.inl (by omega))] at hr
      exact stop j k (by omega) hr (decide_eq_false (by omega))
    | succ m ih =>
      intro fuel k hf hk hr
      obtain ⟨j, rfl⟩ : ∃ j, fuel = j + 1 := ⟨fuel - 1, by omega⟩
      by_cases y : kd (B (sk B L p + k)) = 2
      · have f := pos_f R (sk B L p + k) (sk B L p)
        have g := h.2 (sk B L p + k) (by omega) (by omega)
        have bd : 48 ≤ B (sk B L p + k) ∧ B (sk B L p + k) ≤ 57 := by
          unfold kd at y
          by_cases x : 97 ≤ B (sk B L p + k) ∧ B (sk B L p + k) ≤ 122
          · rw [if_pos x] at y; omega
          · rw [if_neg x] at y
            by_cases x2 : 48 ≤ B (sk B L p + k) ∧ B (sk B L p + k) ≤ 57
            · exact x2
            · rw [if_neg x2] at y; omega
        have i := ih j (k + 1) (by omega) (by omega) (by rw [← hr, rn_step (by omega) y, show sk B L p + (k : Int) + 1 = sk B L p + ((k + 1 : Nat) : Int) by omega])
        rw [F_X12_number_L6, r_run hB h (Or.inr ⟨rfl, rfl, rfl⟩) (by omega) (by omega), bI_q, decide_eq_true ⟨by omega, y⟩, bi_t, ck_p (by decide), if_neg (by decide), f.1, f.2.1, ck_p (by omega), ck_p (fun _ => by omega), F_X12_number_j51, f.1, pos_10, show sk B L p + (k : Int) + 1 = sk B L p + ((k + 1 : Nat) : Int) by omega, f.2.2.1 139 (by decide), ← i]
        congr 1
        by_cases z : 3 ≤ sk B L p + (k : Int) - sk B L p
        · rw [if_pos z, show min k 3 = 3 by omega, show min (k + 1) 3 = 3 by omega]
        · rw [if_neg z, show min k 3 = k by omega, show min (k + 1) 3 = k + 1 by omega, dg]
          omega
      · rw [rn_stop (Or.inr y)] at hr
        exact stop j k (by omega) hr (decide_eq_false (fun w => y w.2))
  rw [F_X12_number, r_blanks hB h e p0 p1, bI_q]
  have := Lp (L - sk B L p).toNat fuelN 0 (by omega) (by omega) (by rw [show sk B L p + ((0 : Nat) : Int) = sk B L p by omega]; rfl)
  rw [show sk B L p + ((0 : Nat) : Int) = sk B L p by omega] at this
  exact this
/-! words, taken -/
theorem isW_yes {tx : List Int} (ht : tx ≠ []) (h : isW B L tx p = true) : tk B L (sk B L p) = 1 ∧ nx B L p = wd B L p ∧ sk B L p < L := by
  unfold isW at h
  rw [Bool.and_eq_true, decide_eq_true_eq] at h
  have tl : 0 < tx.length := List.length_pos_iff.mpr ht
  have t1 : tk B L (sk B L p) = 1 := by
    refine Classical.byContradiction fun y => ?_
    rw [wd_no y] at h
    omega
  refine ⟨t1, te_wd t1, ?_⟩
  unfold tk at t1
  by_cases z : sk B L p < L
  · exact z
  · rw [if_neg z] at t1; omega
theorem match_u : ∀ (tx ty : List Int) (s : Int), tx.length = ty.length → matchF B s tx = true → matchF B s ty = true → tx = ty := by
  intro tx
  induction tx with
  | nil => intro ty s h _ _; cases ty with | nil => rfl | cons c r => simp at h
  | cons a r ih =>
    intro ty s h h1 h2
    cases ty with
    | nil => simp at h
    | cons c r' =>
      rw [matchF, Bool.and_eq_true, decide_eq_true_eq] at h1 h2
      rw [ih r' (s + 1) (by simpa using h) h1.2 h2.2, ← h1.1, h2.1]
theorem isW_one {tx ty : List Int} (h : isW B L tx p = true) (hne : tx ≠ ty) : isW B L ty p = false := by
  cases h2 : isW B L ty p with
  | false => rfl
  | true =>
    unfold isW at h h2
    rw [Bool.and_eq_true, decide_eq_true_eq] at h h2
    exact absurd (match_u tx ty _ (by omega) h.2 h2.2) hne
theorem c_takesWord (hB : CB B L) (h : CT B L p D) (p0 : 0 ≤ p) (p1 : p ≤ L) {i : Nat} (hi : i < 32) : ∃ E, F_X8_takesWord i D = some (bi (isW B L (sTx i) p), E) ∧ Fr1 D E ∧ (isW B L (sTx i) p = false → E = D) ∧ (isW B L (sTx i) p = true → CT B L (nx B L p) E) := by
  have c := c_isWord hB h p0 p1 hi
  rw [F_X8_takesWord, c, bI_q]
  cases hw : isW B L (sTx i) p with
  | false =>
    rw [bi_f, ck_p (by decide), if_pos rfl]
    exact ⟨D, rfl, Fr1.rf, fun _ => rfl, fun z => Bool.noConfusion z⟩
  | true =>
    obtain ⟨E, e1, e2, e3⟩ := c_stepT hB h p0 p1
    rw [bi_t, ck_p (by decide), if_neg (by decide), e1, bI_q]
    exact ⟨E, rfl, e3, fun z => Bool.noConfusion z, fun _ => e2⟩
theorem wd_r (p1 : p ≤ L) : p ≤ sk B L p ∧ sk B L p ≤ wd B L p ∧ wd B L p ≤ L := by
  have s := sk_r (B := B) p1
  have w := rn_r (B := B) (k := 1) (p := sk B L p) s.2
  unfold wd
  omega
theorem nd_r (p1 : p ≤ L) : p ≤ sk B L p ∧ sk B L p ≤ nd B L p ∧ nd B L p ≤ L := by
  have s := sk_r (B := B) p1
  have w := rn_r (B := B) (k := 2) (p := sk B L p) s.2
  unfold nd
  omega
theorem r_after (hB : CB B L) (h : RT B L R) (e : R 133 10 = p) (p0 : 0 ≤ p) (p1 : p ≤ L) {i : Nat} (hi : 54 ≤ i ∧ i < 81) {lo hi' : Int} (hlo : nR lo) (hhi : nR hi') :
    F_X12_after i lo hi' R = if isW B L (sTx i) p = true then some (numV B L lo hi' (wd B L p), posD R (nd B L (wd B L p)) (sk B L (wd B L p))) else some (-1, posD R (wd B L p) (sk B L p)) := by
  have w := wd_r (B := B) p1
  rw [F_X12_after, r_lettersPass hB h e p0 p1, bI_q, r_isWord hB h p0 p1 hi, bI_q]
  cases hw : isW B L (sTx i) p with
  | false => rw [bi_f, ck_p (by decide), if_pos rfl, if_neg (by decide)]
  | true =>
    rw [bi_t, ck_p (by decide), if_neg (by decide), if_pos rfl, r_number (R := posD R (wd B L p) (sk B L p)) hB (h.pos _ _) (pos_f _ _ _).1 (by omega) (by omega) hlo hhi, bI_q, pos_pos]
theorem r_passes (hB : CB B L) (h : RT B L R) (e : R 133 10 = p) (p0 : 0 ≤ p) (p1 : p ≤ L) {i : Nat} (hi : 54 ≤ i ∧ i < 81) :
    F_X12_passes i R = if isW B L (sTx i) p = true then some (1, posD R (wd B L p) (sk B L p)) else some (0, posD R (sk B L p) (sk B L p)) := by
  rw [F_X12_passes, r_lettersPass hB h e p0 p1, bI_q, r_isWord hB h p0 p1 hi, bI_q]
  cases hw : isW B L (sTx i) p with
  | false => rw [bi_f, ck_p (by decide), if_pos rfl, if_neg (by decide), (pos_f R _ _).2.1, pos_10]
  | true => rw [bi_t, ck_p (by decide), if_neg (by decide), if_pos rfl]
/-! marks -/
def isM (B : Int → Int) (L c p : Int) : Bool := decide (sk B L p < L ∧ B (sk B L p) = c)
theorem isM_yes {c : Int} (hc : kd c = 3) (h : isM B L c p = true) : tk B L (sk B L p) = 3 ∧ nx B L p = sk B L p + 1 ∧ sk B L p < L := by
  unfold isM at h
  rw [decide_eq_true_eq] at h
  have t : tk B L (sk B L p) = 3 := by unfold tk; rw [if_pos h.1, h.2, hc]
  refine ⟨t, ?_, h.1⟩
  unfold nx te
  rw [if_pos t]
theorem c_isMark (hB : CB B L) (h : CT B L p D) (p0 : 0 ≤ p) (p1 : p ≤ L) {c : Int} (hc : kd c = 3) (cr : nR c) : F_X8_isMark c D = some (bi (isM B L c p), D) := by
  have q := h.pos p0 p1
  have l4 := hB.2.1
  obtain ⟨h1, h2, h3, h4, h5⟩ := h
  have tr := tk_r B L (sk B L p)
  have b := fun x y => hB.2.2 (sk B L p) x y
  unfold isM
  by_cases y : tk B L (sk B L p) = 3
  · have lt : sk B L p < L := by
      unfold tk at y
      by_cases z : sk B L p < L
      · exact z
      · rw [if_neg z] at y; omega
    have bb := b (by omega) (by omega)
    rw [F_X8_isMark, h4, ck_p (by omega), h3, h1, ck_p (fun _ => by omega), ck_p (fun _ => by omega), ck_p (fun _ => cr), if_pos y]
    by_cases z : B (sk B L p) = c
    · rw [if_pos z, ck_p (Or.inr rfl), decide_eq_true ⟨lt, z⟩]; rfl
    · rw [if_neg z, ck_p (Or.inl rfl), decide_eq_false (fun w => z w.2)]; rfl
  · rw [F_X8_isMark, h4, ck_p (by omega), ck_p (fun z => absurd z y), ck_p (fun z => absurd z y), ck_p (fun z => absurd z y), if_neg y, ck_p (Or.inl rfl), decide_eq_false (fun w => y (by unfold tk; rw [if_pos w.1, w.2, hc]))]; rfl
theorem r_isSign (hB : CB B L) (h : RT B L R) (e : R 133 10 = p) (p0 : 0 ≤ p) (p1 : p ≤ L) {c : Int} (hc : 0 ≤ c ∧ c ≤ 127) : F_X12_isSign c R = if isM B L c p = true then some (1, posD R (sk B L p + 1) (sk B L p)) else some (0, posD R (sk B L p) (sk B L p)) := by
  have s := sk_r (B := B) p1
  rw [F_X12_isSign, r_blanks hB h e p0 p1, bI_q, r_isAt (R := posD R (sk B L p) (sk B L p)) hB (h.pos _ _) (pos_f _ _ _).1 (by omega) s.2 hc hc, bI_q]
  have ed : decide (sk B L p < L ∧ c ≤ B (sk B L p) ∧ B (sk B L p) ≤ c) = isM B L c p := by unfold isM; exact decide_eq_decide.mpr (by omega)
  rw [ed]
  cases hw : isM B L c p with
  | false => rw [bi_f, ck_p (by decide), if_pos rfl, if_neg (by decide)]
  | true => rw [bi_t, ck_p (by decide), if_neg (by decide), if_pos rfl, (pos_f R _ _).1, pos_10]
theorem r_isFigure (hB : CB B L) (h : RT B L R) (e : R 133 10 = p) (p0 : 0 ≤ p) (p1 : p ≤ L) : F_X12_isFigure R = some (bi (decide (tk B L (sk B L p) = 2)), posD R (sk B L p) (sk B L p)) := by
  have s := sk_r (B := B) p1
  rw [F_X12_isFigure, r_blanks hB h e p0 p1, bI_q, r_run hB h (Or.inr ⟨rfl, rfl, rfl⟩) (by omega) s.2, bI_q, ck_p (bi_r _)]
  congr 3
  apply decide_eq_decide.mpr
  unfold tk
  by_cases z : sk B L p < L
  · rw [if_pos z]; exact ⟨fun w => w.2, fun w => ⟨z, w⟩⟩
  · rw [if_neg z]; exact ⟨fun w => absurd w.1 z, fun w => by omega⟩
end PW1
