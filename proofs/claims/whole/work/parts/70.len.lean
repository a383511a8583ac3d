/-! LENGTHS, ends, spaces: both -/
section PQ0
variable {n : Int} {D : mD}
theorem fN : fuelN = 1000000 := rfl
/-- ranges that a proof by numbers reads -/
abbrev WrA (n : Int) (w : Int → Int) : Prop := 0 ≤ w 0 ∧ w 0 ≤ 12 ∧ 0 ≤ w 1 ∧ w 1 ≤ 14 ∧ 10 ≤ w 2 ∧ w 2 ≤ 120 ∧ 0 ≤ w 3 ∧ w 3 ≤ 9 ∧ 1 ≤ w 4 ∧ w 4 ≤ 99 ∧ 0 ≤ w 5 ∧ w 5 ≤ 9 ∧ 1 ≤ w 6 ∧ w 6 ≤ 99 ∧ 0 ≤ w 7 ∧ w 7 ≤ 6 ∧ 0 ≤ w 8 ∧ w 8 ≤ 8 ∧ 0 ≤ w 9 ∧ w 9 ≤ 12 ∧ 0 ≤ w 10 ∧ w 10 ≤ 1 ∧ 0 ≤ w 11 ∧ w 11 ≤ n ∧ -1 ≤ w 12 ∧ w 12 < 14 ∧ 0 ≤ w 13 ∧ w 13 ≤ 60 ∧ nR (w 14)
theorem Wi.ra {w : Int → Int} (H : Wi n w) : WrA n w := H.r
abbrev LtA (n : Int) (w : Int → Int) (l : Int) : Prop := 0 ≤ wL w l 0 ∧ wL w l 0 < w 0 ∧ 0 ≤ wL w l 1 ∧ wL w l 1 ≤ 3 ∧ wL w l 1 < wS w (wL w l 0) 1 ∧ -1 ≤ wL w l 2 ∧ wL w l 2 ≤ n ∧ 0 ≤ wL w l 3 ∧ wL w l 3 ≤ 30
theorem Wi.lta {w : Int → Int} (H : Wi n w) {l : Int} (h0 : 0 ≤ l) (h1 : l < w 1) : LtA n w l := H.lt h0 h1
/-- where a letter begins -/
def wBeg (w : Int → Int) (l : Int) : Int := w 3 + sumF (fun k => wWid w k + wL w k 3) 0 l.toNat
def wEnd (w : Int → Int) : Int := if w 1 = 0 then w 3 else wBeg w (w 1 - 1) + wWid w (w 1 - 1)
theorem wBeg_r {w : Int → Int} (H : Wi n w) {l : Int} (h0 : 0 ≤ l) (h1 : l < w 1) : 0 ≤ wBeg w l ∧ wBeg w l ≤ 9 + 42 * l := by
  have hr := H.ra
  have h := sumF_bounds (f := fun k => wWid w k + wL w k 3) (lo := 0) (hi := 42) l.toNat 0 (fun k a b => by
    have h1 := wWid_r H (l := k) a (by omega)
    have h2 := H.lta (l := k) a (by omega)
    omega)
  unfold wBeg
  omega
theorem wEnd_r {w : Int → Int} (H : Wi n w) : 0 ≤ wEnd w ∧ wEnd w ≤ 567 := by
  have hr := H.ra
  unfold wEnd
  by_cases q : w 1 = 0
  · rw [if_pos q]; omega
  · rw [if_neg q]
    have h1 := wBeg_r H (l := w 1 - 1) (by omega) (by omega)
    have h2 := wWid_r H (l := w 1 - 1) (by omega) (by omega)
    omega
theorem r_beginOf_L (H : Wi n (D 134)) {l : Int} (h0 : 0 ≤ l) (h1 : l < D 134 1) : ∀ (m fuel : Nat) (k s : Int), m < fuel → 0 ≤ k → k + m = l →
    F_X12_beginOf_L9 l fuel s k D = some (s + sumF (fun k => wWid (D 134) k + wL (D 134) k 3) k m, D) := by
  have hr := H.ra
  intro m
  induction m with
  | zero =>
    intro fuel k s hf hk hm
    obtain ⟨j, rfl⟩ : ∃ j, fuel = j + 1 := ⟨fuel - 1, by omega⟩
    simp (disch := omega) only [F_X12_beginOf_L9, ck_p, if_pos, sumF, Int.add_zero]
  | succ m ih =>
    intro fuel k s hf hk hm
    obtain ⟨j, rfl⟩ : ∃ j, fuel = j + 1 := ⟨fuel - 1, by omega⟩
    simp (disch := omega) only [F_X12_beginOf_L9, ck_p, if_neg, e_widthOf H, e_distance, bI_s, ih, sumF, Int.add_assoc]
theorem r_beginOf (H : Wi n (D 134)) {l : Int} (h0 : 0 ≤ l) (h1 : l < D 134 1) : F_X12_beginOf l D = some (wBeg (D 134) l, D) := by
  have hr := H.ra
  have hN := fN
  simp (disch := omega) only [F_X12_beginOf, r_beginOf_L H h0 h1 l.toNat]
  rfl
theorem r_endOfLast (H : Wi n (D 134)) : F_X12_endOfLast D = some (wEnd (D 134), D) := by
  have hr := H.ra
  unfold wEnd
  by_cases q : D 134 1 = 0
  · simp (disch := omega) only [F_X12_endOfLast, F_X12_letters, bI_s, ck_p, if_pos]
  · simp (disch := omega) only [F_X12_endOfLast, F_X12_letters, bI_s, ck_p, if_neg, r_beginOf H, e_widthOf H]
/-- does the word fit, with that shadow -/
def wFit (w : Int → Int) (sh : Int) : Int := b01 (wEnd w + sh ≤ w 2 - w 3)
theorem le_tree (a b : Int) : (if a < b then (0 : Int) else 1) = b01 (b ≤ a) := by
  unfold b01
  by_cases q : a < b
  · rw [if_pos q, if_neg (by omega)]
  · rw [if_neg q, if_pos (by omega)]
theorem r_isFit (H : Wi n (D 134)) : F_X12_isFit D = some (wFit (D 134) (D 134 5), D) := by
  have hr := H.ra
  have he := wEnd_r H
  simp (disch := omega) only [F_X12_isFit, r_endOfLast H, bI_s, ck_p, le_tree]
  rw [ck_p (b01_01 _)]
  rfl
def wWids (w : Int → Int) : Int := sumF (wWid w) 0 (w 1).toNat
theorem wWids_r {w : Int → Int} (H : Wi n w) : 0 ≤ wWids w ∧ wWids w ≤ 168 := by
  have hr := H.ra
  have h := sumF_bounds (f := wWid w) (lo := 0) (hi := 12) (w 1).toNat 0 (fun k a b => by
    have h1 := wWid_r H (l := k) a (by omega)
    omega)
  unfold wWids
  omega
theorem r_widths_L (H : Wi n (D 134)) : ∀ (m fuel : Nat) (k s : Int), m < fuel → 0 ≤ k → k + m = D 134 1 →
    F_X12_widths_L4 fuel s k D = some (s + sumF (wWid (D 134)) k m, D) := by
  have hr := H.ra
  intro m
  induction m with
  | zero =>
    intro fuel k s hf hk hm
    obtain ⟨j, rfl⟩ : ∃ j, fuel = j + 1 := ⟨fuel - 1, by omega⟩
    simp (disch := omega) only [F_X12_widths_L4, F_X12_letters, bI_s, ck_p, if_pos, sumF, Int.add_zero]
  | succ m ih =>
    intro fuel k s hf hk hm
    obtain ⟨j, rfl⟩ : ∃ j, fuel = j + 1 := ⟨fuel - 1, by omega⟩
    simp (disch := omega) only [F_X12_widths_L4, F_X12_letters, ck_p, if_neg, e_widthOf H, bI_s, ih, sumF, Int.add_assoc]
/-- what is left for the distances -/
def wRoom (w : Int → Int) (more : Int) : Int := w 2 + more - 2 * w 3 - w 5 - wWids w
theorem r_room (H : Wi n (D 134)) (more : Int) : F_X12_room more D = some (wRoom (D 134) more, D) := by
  have hr := H.ra
  have hN := fN
  simp (disch := omega) only [F_X12_room, F_X12_widths, r_widths_L H (D 134 1).toNat, bI_s]
  unfold wRoom wWids
  rw [Int.zero_add]
/-- the least of a and f j, .., m of them -/
def minF (f : Int → Int) : Int → Int → Nat → Int
  | a, _, 0 => a
  | a, j, m + 1 => minF f (min a (f j)) (j + 1) m
def maxF (f : Int → Int) : Int → Int → Nat → Int
  | a, _, 0 => a
  | a, j, m + 1 => maxF f (max a (f j)) (j + 1) m
theorem minF_congr {f g : Int → Int} : ∀ (m : Nat) (a j : Int), (∀ k, j ≤ k → k < j + m → f k = g k) → minF f a j m = minF g a j m := by
  intro m
  induction m with
  | zero => intro a j _; rfl
  | succ m ih => intro a j h; rw [minF, minF, h j (by omega) (by omega), ih _ _ (fun k h1 h2 => h k (by omega) (by omega))]
theorem minF_r {f : Int → Int} {lo : Int} : ∀ (m : Nat) (a j : Int), lo ≤ a → (∀ k, j ≤ k → k < j + m → lo ≤ f k) → lo ≤ minF f a j m ∧ minF f a j m ≤ a := by
  intro m
  induction m with
  | zero => intro a j h _; exact ⟨h, Int.le_refl _⟩
  | succ m ih =>
    intro a j h h2
    have h3 := h2 j (by omega) (by omega)
    have := ih (min a (f j)) (j + 1) (by omega) (fun k k1 k2 => h2 k (by omega) (by omega))
    rw [minF]
    omega
theorem maxF_r {f : Int → Int} {hi : Int} : ∀ (m : Nat) (a j : Int), a ≤ hi → (∀ k, j ≤ k → k < j + m → f k ≤ hi) → maxF f a j m ≤ hi ∧ a ≤ maxF f a j m := by
  intro m
  induction m with
  | zero => intro a j h _; exact ⟨h, Int.le_refl _⟩
  | succ m ih =>
    intro a j h h2
    have h3 := h2 j (by omega) (by omega)
    have := ih (max a (f j)) (j + 1) (by omega) (fun k k1 k2 => h2 k (by omega) (by omega))
    rw [maxF]
    omega
/-- the least space of a gap -/
def wLeast (w : Int → Int) (sh g d : Int) : Int := minF (fun r => wSpace w sh g d r) (w 4) 0 5
theorem wLeast_r {w : Int → Int} (H : Wi n w) {sh g d : Int} (hg : 0 ≤ g ∧ g + 1 < w 1) (hd : 0 ≤ d ∧ d ≤ 30) (hs : 0 ≤ sh) : 0 ≤ wLeast w sh g d ∧ wLeast w sh g d ≤ 48 := by
  have hr := H.ra
  unfold wLeast
  have h := minF_r (f := fun r => wSpace w sh g d r) (lo := 0) 5 (w 4) 0 (by omega) (fun k a b => (wSpace_r H hg hd hs (r := k) (by omega)).1)
  refine ⟨h.1, ?_⟩
  rw [minF]
  have h2 := wSpace_r H hg hd hs (r := 0) (by omega)
  have h3 := minF_r (f := fun r => wSpace w sh g d r) (lo := 0) 4 (min (w 4) (wSpace w sh g d 0)) (0 + 1) (by omega) (fun k a b => (wSpace_r H hg hd hs (r := k) (by omega)).1)
  omega
theorem r_leastSpace_L (H : Wi n (D 134)) {g : Int} (hg : 0 ≤ g ∧ g + 1 < D 134 1) : ∀ (m fuel : Nat) (k s : Int), m < fuel → 0 ≤ k → k + m = 5 → 0 ≤ s → s ≤ 1000000 →
    F_X12_leastSpace_L6 g fuel s k D = some (minF (fun r => wSpace (D 134) (D 134 5) g (wL (D 134) g 3) r) s k m, D) := by
  have hr := H.ra
  have hl := H.lta (l := g) (by omega) (by omega)
  intro m
  induction m with
  | zero =>
    intro fuel k s hf hk hm s0 s1
    obtain ⟨j, rfl⟩ : ∃ j, fuel = j + 1 := ⟨fuel - 1, by omega⟩
    simp (disch := omega) only [F_X12_leastSpace_L6, ck_p, if_pos, minF]
  | succ m ih =>
    intro fuel k s hf hk hm s0 s1
    obtain ⟨j, rfl⟩ : ∃ j, fuel = j + 1 := ⟨fuel - 1, by omega⟩
    have hsp := wSpace_r H (sh := D 134 5) hg (d := wL (D 134) g 3) (by omega) (by omega) (r := k) (by omega)
    simp (disch := omega) only [F_X12_leastSpace_L6, ck_p, if_neg, e_distance, r_spaceOf H, bI_s, ih, minF]
theorem r_leastSpace (H : Wi n (D 134)) {g : Int} (hg : 0 ≤ g ∧ g + 1 < D 134 1) : F_X12_leastSpace g D = some (wLeast (D 134) (D 134 5) g (wL (D 134) g 3), D) := by
  have hr := H.ra
  have hl := H.lta (l := g) (by omega) (by omega)
  have hsp := wSpace_r H (sh := D 134 5) hg (d := wL (D 134) g 3) (by omega) (by omega) (r := 0) (by omega)
  have hsc : wSpace (D 134) (D 134 5) g (wL (D 134) g 3) 0 ≤ D 134 4 := by unfold wSpace; omega
  have hN := fN
  simp (disch := omega) only [F_X12_leastSpace, r_leastSpace_L H hg 5]
  unfold wLeast
  show some (minF _ (min 1000000 (wSpace (D 134) (D 134 5) g (wL (D 134) g 3) 0)) (0 + 1) 4, D) = some (minF _ (min (D 134 4) (wSpace (D 134) (D 134 5) g (wL (D 134) g 3) 0)) (0 + 1) 4, D)
  rw [Int.min_eq_right (by omega), Int.min_eq_right (by omega)]
/-- ink of a sign -/
def wInk (w : Int → Int) (s : Int) : Int := sumF (fun r => wS w s 1 - wS w s (2 + r) - wS w s (7 + r)) 0 5
theorem wInk_r {w : Int → Int} (H : Wi n w) {s : Int} (h0 : 0 ≤ s) (h1 : s < w 0) : 5 ≤ wInk w s ∧ wInk w s ≤ 60 := by
  have hs := H.sg h0 h1
  unfold SgOk at hs
  have h := sumF_bounds (f := fun r => wS w s 1 - wS w s (2 + r) - wS w s (7 + r)) (lo := 1) (hi := 12) 5 0 (fun r a b => by
    have := hs.2.2.2.2 r (by omega) (by omega)
    omega)
  unfold wInk
  omega
theorem r_inkOf_L (H : Wi n (D 134)) {s : Int} (h0 : 0 ≤ s) (h1 : s < D 134 0) : ∀ (m fuel : Nat) (k a : Int), m < fuel → 0 ≤ k → k + m = 5 →
    F_X12_inkOf_L4 s fuel a k D = some (a + sumF (fun r => wS (D 134) s 1 - wS (D 134) s (2 + r) - wS (D 134) s (7 + r)) k m, D) := by
  have hr := H.ra
  intro m
  induction m with
  | zero =>
    intro fuel k s hf hk hm
    obtain ⟨j, rfl⟩ : ∃ j, fuel = j + 1 := ⟨fuel - 1, by omega⟩
    simp (disch := omega) only [F_X12_inkOf_L4, ck_p, if_pos, sumF, Int.add_zero]
  | succ m ih =>
    intro fuel k s hf hk hm
    obtain ⟨j, rfl⟩ : ∃ j, fuel = j + 1 := ⟨fuel - 1, by omega⟩
    simp (disch := omega) only [F_X12_inkOf_L4, ck_p, if_neg, e_ofSign, bI_s, ih, sumF, Int.add_assoc]
theorem r_inkOf (H : Wi n (D 134)) {s : Int} (h0 : 0 ≤ s) (h1 : s < D 134 0) : F_X12_inkOf s D = some (wInk (D 134) s, D) := by
  have hN := fN
  simp (disch := omega) only [F_X12_inkOf, r_inkOf_L H h0 h1 5]
  unfold wInk
  rw [Int.zero_add]
/-! the class -/
abbrev CA (w : Int → Int) (D : mD) : Prop := D 3 0 = w 0 ∧ D 3 5 = w 1 ∧ D 3 7 = w 2 ∧ D 3 8 = w 3 ∧ D 3 9 = w 4 ∧ D 3 10 = w 6 ∧ D 3 11 = w 7 ∧ D 3 14 = w 8 ∧ D 3 16 = w 9 ∧ D 17 3 = wPainted w ∧ D 17 4 = w 12 ∧ D 17 5 = w 5 ∧ D 17 6 = w 14 ∧ D 17 7 = w 11 ∧ D 17 9 = w 13 ∧ 0 ≤ D 17 10 ∧ D 17 10 < 60
theorem CR.ca (R : CR n D) : CA (D 134) D := by
  obtain ⟨a1, a2, a3, a4, a5, a6, a7, a8, a9⟩ := R.shop
  exact ⟨a1, a2, a3, a4, a5, a6, a7, a8, a9, R.work⟩
theorem c_gapCount (R : CR n D) : F_X6_gapCount 3 D = some (max 0 (D 134 1 - 1), D) := by
  have hc := R.ca
  have hr := R.wi.ra
  simp (disch := omega) only [F_X6_gapCount, ck_p, hc.2.1]
  congr 2
  by_cases q : D 134 1 ≤ 1
  · rw [if_pos q]; omega
  · rw [if_neg q]; omega
theorem c_widthOf (R : CR n D) {l : Int} (h0 : 0 ≤ l) (h1 : l < D 134 1) : F_X0_widthOf l D = some (wWid (D 134) l, D) := by
  have hr := R.wi.ra
  have hl := R.wi.lta h0 h1
  have e1 := R.wd h0 h1
  have e2 := (R.sg hl.1 hl.2.1).2
  have e3 := (R.sq h0 h1).1
  simp (disch := omega) only [F_X0_widthOf, ck_p, e1, e2, e3]
  rfl
theorem c_beginOf_L (R : CR n D) {l : Int} (h0 : 0 ≤ l) (h1 : l < D 134 1) : ∀ (m fuel : Nat) (k s : Int), m < fuel → 0 ≤ k → k + m = l →
    F_X0_beginOf_L10 l fuel s k D = some (s + sumF (fun k => wWid (D 134) k + wL (D 134) k 3) k m, D) := by
  have hr := R.wi.ra
  intro m
  induction m with
  | zero =>
    intro fuel k s hf hk hm
    obtain ⟨j, rfl⟩ : ∃ j, fuel = j + 1 := ⟨fuel - 1, by omega⟩
    simp (disch := omega) only [F_X0_beginOf_L10, ck_p, if_pos, sumF, Int.add_zero]
  | succ m ih =>
    intro fuel k s hf hk hm
    obtain ⟨j, rfl⟩ : ∃ j, fuel = j + 1 := ⟨fuel - 1, by omega⟩
    have e := R.ds (g := k) hk (by omega)
    simp (disch := omega) only [F_X0_beginOf_L10, ck_p, if_neg, c_widthOf R, e, bI_s, ih, sumF, Int.add_assoc]
theorem c_beginOf (R : CR n D) {l : Int} (h0 : 0 ≤ l) (h1 : l < D 134 1) : F_X0_beginOf l D = some (wBeg (D 134) l, D) := by
  have hr := R.wi.ra
  have hc := R.ca
  have hN := fN
  simp (disch := omega) only [F_X0_beginOf, c_beginOf_L R h0 h1 l.toNat, hc.2.2.2.1]
  rfl
theorem c_endOfWord (R : CR n D) : F_X0_endOfWord D = some (wEnd (D 134), D) := by
  have hr := R.wi.ra
  have hc := R.ca
  unfold wEnd
  by_cases q : D 134 1 = 0
  · simp (disch := omega) only [F_X0_endOfWord, hc.2.1, hc.2.2.2.1, bI_s, ck_p, if_neg, if_pos]
  · simp (disch := omega) only [F_X0_endOfWord, hc.2.1, bI_s, ck_p, if_neg, if_pos, c_beginOf R, c_widthOf R]
theorem c_fitsWith (R : CR n D) {sh : Int} (hs : 0 ≤ sh ∧ sh ≤ 9) : F_X0_fitsWith sh D = some (wFit (D 134) sh, D) := by
  have hr := R.wi.ra
  have hc := R.ca
  have he := wEnd_r R.wi
  simp (disch := omega) only [F_X0_fitsWith, c_endOfWord R, bI_s, ck_p, hc.2.2.1, hc.2.2.2.1, le_tree]
  rw [ck_p (b01_01 _)]
  rfl
theorem c_freeHairs_L (R : CR n D) : ∀ (m fuel : Nat) (k s : Int), m < fuel → 0 ≤ k → k + m = D 134 1 →
    F_X0_freeHairs_L30 fuel s k D = some (s - sumF (wWid (D 134)) k m, D) := by
  have hr := R.wi.ra
  have hc := R.ca
  intro m
  induction m with
  | zero =>
    intro fuel k s hf hk hm
    obtain ⟨j, rfl⟩ : ∃ j, fuel = j + 1 := ⟨fuel - 1, by omega⟩
    simp (disch := omega) only [F_X0_freeHairs_L30, bI_s, ck_p, if_pos, sumF, Int.sub_zero]
  | succ m ih =>
    intro fuel k s hf hk hm
    obtain ⟨j, rfl⟩ : ∃ j, fuel = j + 1 := ⟨fuel - 1, by omega⟩
    simp (disch := omega) only [F_X0_freeHairs_L30, ck_p, if_neg, c_widthOf R, bI_s, ih, sumF, Int.sub_sub]
theorem c_freeHairs (R : CR n D) (more : Int) : F_X0_freeHairs more D = some (wRoom (D 134) more, D) := by
  have hr := R.wi.ra
  have hc := R.ca
  have hN := fN
  simp (disch := omega) only [F_X0_freeHairs, c_freeHairs_L R (D 134 1).toNat, bI_s]
  unfold wRoom wWids
  rw [hc.2.2.1, hc.2.2.2.1, hc.2.2.2.2.2.2.2.2.2.2.2.1]
theorem c_leastSpace_L (R : CR n D) {g d sh : Int} (hg : 0 ≤ g ∧ g + 1 < D 134 1) (hd : 0 ≤ d ∧ d ≤ 30) (hs : 0 ≤ sh ∧ sh ≤ 9) : ∀ (m fuel : Nat) (k s : Int), m < fuel → 0 ≤ k → k + m = 5 → 0 ≤ s → s ≤ 1000000 →
    F_X0_leastSpace_L12 g d sh fuel s k D = some (minF (fun r => wSpace (D 134) sh g d r) s k m, D) := by
  have hr := R.wi.ra
  intro m
  induction m with
  | zero =>
    intro fuel k s hf hk hm s0 s1
    obtain ⟨j, rfl⟩ : ∃ j, fuel = j + 1 := ⟨fuel - 1, by omega⟩
    simp (disch := omega) only [F_X0_leastSpace_L12, ck_p, if_pos, minF]
  | succ m ih =>
    intro fuel k s hf hk hm s0 s1
    obtain ⟨j, rfl⟩ : ∃ j, fuel = j + 1 := ⟨fuel - 1, by omega⟩
    have hsp := wSpace_r R.wi (sh := sh) hg hd (by omega) (r := k) (by omega)
    simp (disch := omega) only [F_X0_leastSpace_L12, ck_p, if_neg, c_spaceOf R.cw Qc.rf, bI_s, ih, minF]
theorem c_leastSpace (R : CR n D) {g d sh : Int} (hg : 0 ≤ g ∧ g + 1 < D 134 1) (hd : 0 ≤ d ∧ d ≤ 30) (hs : 0 ≤ sh ∧ sh ≤ 9) : F_X0_leastSpace g d sh D = some (wLeast (D 134) sh g d, D) := by
  have hr := R.wi.ra
  have hc := R.ca
  have hN := fN
  simp (disch := omega) only [F_X0_leastSpace, c_leastSpace_L R hg hd hs 5, hc.2.2.2.2.1]
  rfl
theorem c_inkOf_L (R : CR n D) {s : Int} (h0 : 0 ≤ s) (h1 : s < D 134 0) : ∀ (m fuel : Nat) (k a : Int), m < fuel → 0 ≤ k → k + m = 5 →
    F_X6_inkOf_L4 3 s fuel a k D = some (a + sumF (fun r => wS (D 134) s 1 - wS (D 134) s (2 + r) - wS (D 134) s (7 + r)) k m, D) := by
  have hr := R.wi.ra
  have e := (R.sg h0 h1).2
  intro m
  induction m with
  | zero =>
    intro fuel k s hf hk hm
    obtain ⟨j, rfl⟩ : ∃ j, fuel = j + 1 := ⟨fuel - 1, by omega⟩
    simp (disch := omega) only [F_X6_inkOf_L4, ck_p, if_pos, sumF, Int.add_zero]
  | succ m ih =>
    intro fuel k s hf hk hm
    obtain ⟨j, rfl⟩ : ∃ j, fuel = j + 1 := ⟨fuel - 1, by omega⟩
    simp (disch := omega) only [F_X6_inkOf_L4, ck_p, if_neg, c_leftOf R.cw Qc.rf, c_rightOf R.cw Qc.rf, bI_s, ih, sumF, Int.add_assoc, e, show (3 + 2 : Nat) = 5 from rfl]
theorem c_inkOf (R : CR n D) {s : Int} (h0 : 0 ≤ s) (h1 : s < D 134 0) : F_X6_inkOf 3 s D = some (wInk (D 134) s, D) := by
  have hN := fN
  simp (disch := omega) only [F_X6_inkOf, c_inkOf_L R h0 h1 5]
  unfold wInk
  rw [Int.zero_add]
end PQ0
