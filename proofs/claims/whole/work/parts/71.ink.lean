/-! INK ahead of a hair, the middle: both -/
section PQ1
variable {n : Int} {D : mD}
theorem wBeg_succ (w : Int → Int) {l : Int} (h : 0 ≤ l) : wBeg w (l + 1) = wBeg w l + (wWid w l + wL w l 3) := by
  unfold wBeg
  rw [show (l + 1).toNat = l.toNat + 1 by omega, sumF_last, show (0 : Int) + (l.toNat : Int) = l by omega]
  omega
def inkT (w : Int → Int) (hair l r : Int) : Int := max 0 (min hair (wBeg w l + wWid w l - wI w l (7 + r)) - (wBeg w l + wI w l (2 + r)))
def wInkL (w : Int → Int) (hair l : Int) : Int := sumF (inkT w hair l) 0 5
def wInkA (w : Int → Int) (hair : Int) : Int := sumF (wInkL w hair) 0 (w 1).toNat
theorem inkT_r {w : Int → Int} (H : Wi n w) {hair l r : Int} (h0 : 0 ≤ l) (h1 : l < w 1) (hr : 0 ≤ r ∧ r < 5) : 0 ≤ inkT w hair l r ∧ inkT w hair l r ≤ 12 := by
  have a := wBeg_r H h0 h1
  have b := wWid_r H h0 h1
  have c := wIr H h0 h1 hr
  unfold inkT
  omega
theorem wInkL_r {w : Int → Int} (H : Wi n w) {hair l : Int} (h0 : 0 ≤ l) (h1 : l < w 1) : 0 ≤ wInkL w hair l ∧ wInkL w hair l ≤ 60 := by
  have h := sumF_bounds (f := inkT w hair l) (lo := 0) (hi := 12) 5 0 (fun r a b => inkT_r H h0 h1 (by omega))
  unfold wInkL
  omega
theorem wInkA_r {w : Int → Int} (H : Wi n w) {hair : Int} : 0 ≤ wInkA w hair ∧ wInkA w hair ≤ 840 := by
  have hr := H.ra
  have h := sumF_bounds (f := wInkL w hair) (lo := 0) (hi := 60) (w 1).toNat 0 (fun l a b => wInkL_r H a (by omega))
  unfold wInkA
  omega
theorem sumF_mono {f g : Int → Int} : ∀ (m : Nat) (j : Int), (∀ k, j ≤ k → k < j + m → f k ≤ g k) → sumF f j m ≤ sumF g j m := by
  intro m
  induction m with
  | zero => intro j _; exact Int.le_refl _
  | succ m ih =>
    intro j h
    have h1 := h j (by omega) (by omega)
    have h2 := ih (j + 1) (fun k a b => h k (by omega) (by omega))
    rw [sumF, sumF]
    omega
theorem wInkA_mono (w : Int → Int) {a b : Int} (h : a ≤ b) : wInkA w a ≤ wInkA w b := by
  refine sumF_mono _ _ (fun l _ _ => sumF_mono _ _ (fun r _ _ => ?_))
  unfold inkT
  omega
theorem wBeg_mono {w : Int → Int} (H : Wi n w) : ∀ (m : Nat) (l : Int), 0 ≤ l → l + m < w 1 → wBeg w l + wWid w l ≤ wBeg w (l + m) + wWid w (l + m) := by
  intro m
  induction m with
  | zero => intro l _ _; simp
  | succ m ih =>
    intro l h0 h1
    have h2 := ih l h0 (by omega)
    have h3 := wBeg_succ w (l := l + m) (by omega)
    have h4 := wWid_r H (l := l + m + 1) (by omega) (by omega)
    have h5 := H.lta (l := l + m) (by omega) (by omega)
    rw [show l + ((m + 1 : Nat) : Int) = l + m + 1 by omega]
    omega
theorem wInkA_end {w : Int → Int} (H : Wi n w) {h : Int} (hh : wEnd w ≤ h) : wInkA w h = wInkA w (wEnd w) := by
  refine sumF_congr _ _ (fun l l0 l1 => sumF_congr _ _ (fun r r0 r1 => ?_))
  have hr := H.ra
  have a := wBeg_mono H (w 1 - 1 - l).toNat l l0 (by omega)
  have c := wIr H (l := l) l0 (by omega) (r := r) (by omega)
  rw [show l + ((w 1 - 1 - l).toNat : Int) = w 1 - 1 by omega] at a
  have e : wEnd w = wBeg w (w 1 - 1) + wWid w (w 1 - 1) := by unfold wEnd; rw [if_neg (by omega)]
  unfold inkT
  omega
theorem r_inkAhead_K (H : Wi n (D 134)) {hair l : Int} (h0 : 0 ≤ l) (h1 : l < D 134 1) (hh : 0 ≤ hair ∧ hair ≤ 1000000) (K : Int → Int → mD → RI) : ∀ (m fuel : Nat) (k s : Int), m < fuel → 0 ≤ k → k + m = 5 →
    F_X12_inkAhead_L22 K hair l (wBeg (D 134) l) fuel s k D = K (s + sumF (inkT (D 134) hair l) k m) (l + 1) D := by
  have hr := H.ra
  have a := wBeg_r H h0 h1
  have b := wWid_r H h0 h1
  intro m
  induction m with
  | zero =>
    intro fuel k s hf hk hm
    obtain ⟨j, rfl⟩ : ∃ j, fuel = j + 1 := ⟨fuel - 1, by omega⟩
    simp (disch := omega) only [F_X12_inkAhead_L22, ck_p, if_pos, sumF, Int.add_zero]
  | succ m ih =>
    intro fuel k s hf hk hm
    obtain ⟨j, rfl⟩ : ∃ j, fuel = j + 1 := ⟨fuel - 1, by omega⟩
    have c := wIr H h0 h1 (r := k) (by omega)
    simp (disch := omega) only [F_X12_inkAhead_L22, ck_p, if_neg, e_its H, e_widthOf H, bI_s, ih, sumF, Int.add_assoc]
    rw [inkT]
theorem r_inkAhead_5 (H : Wi n (D 134)) {hair l : Int} (h0 : 0 ≤ l) (h1 : l < D 134 1) (hh : 0 ≤ hair ∧ hair ≤ 1000000) (K : Int → Int → mD → RI) (s : Int) :
    F_X12_inkAhead_L22 K hair l (wBeg (D 134) l) fuelN s 0 D = K (s + wInkL (D 134) hair l) (l + 1) D := by
  have hN := fN
  exact r_inkAhead_K H h0 h1 hh K 5 fuelN 0 s (by omega) (by omega) (by omega)
theorem r_inkAhead_L (H : Wi n (D 134)) {hair : Int} (hh : 0 ≤ hair ∧ hair ≤ 1000000) : ∀ (m fuel : Nat) (l s : Int), m < fuel → 0 ≤ l → l + m = D 134 1 →
    F_X12_inkAhead_L4 hair fuel s l D = some (s + sumF (wInkL (D 134) hair) l m, D) := by
  have hr := H.ra
  have hN := fN
  intro m
  induction m with
  | zero =>
    intro fuel l s hf hk hm
    obtain ⟨j, rfl⟩ : ∃ j, fuel = j + 1 := ⟨fuel - 1, by omega⟩
    simp (disch := omega) only [F_X12_inkAhead_L4, F_X12_letters, bI_s, ck_p, if_pos, sumF, Int.add_zero]
  | succ m ih =>
    intro fuel l s hf hk hm
    obtain ⟨j, rfl⟩ : ∃ j, fuel = j + 1 := ⟨fuel - 1, by omega⟩
    simp (disch := omega) only [F_X12_inkAhead_L4, F_X12_letters, ck_p, if_neg, r_beginOf H, bI_s, r_inkAhead_5 H hk (by omega) hh, ih, sumF, Int.add_assoc]
theorem r_inkAhead (H : Wi n (D 134)) {hair : Int} (hh : 0 ≤ hair ∧ hair ≤ 1000000) : F_X12_inkAhead hair D = some (wInkA (D 134) hair, D) := by
  have hr := H.ra
  have hN := fN
  simp (disch := omega) only [F_X12_inkAhead, r_inkAhead_L H hh (D 134 1).toNat]
  rw [Int.zero_add]
  rfl
theorem c_inkAhead_K (R : CR n D) {hair l : Int} (h0 : 0 ≤ l) (h1 : l < D 134 1) (hh : 0 ≤ hair ∧ hair ≤ 1000000) (K : Int → Int → Int → mD → RI) : ∀ (m fuel : Nat) (k s : Int), m < fuel → 0 ≤ k → k + m = 5 →
    F_X0_inkAhead_L48 K hair (wBeg (D 134) l) l (wL (D 134) l 0) (wWid (D 134) l) fuel s k D = K (s + sumF (inkT (D 134) hair l) k m) (wBeg (D 134) l + (wWid (D 134) l + (if 13 ≤ l then 0 else D 18 l))) (l + 1) D := by
  have hr := R.wi.ra
  have a := wBeg_r R.wi h0 h1
  have b := wWid_r R.wi h0 h1
  have hl := R.wi.lta h0 h1
  intro m
  induction m with
  | zero =>
    intro fuel k s hf hk hm
    obtain ⟨j, rfl⟩ : ∃ j, fuel = j + 1 := ⟨fuel - 1, by omega⟩
    simp (disch := omega) only [F_X0_inkAhead_L48, ck_p, if_pos, sumF, Int.add_zero]
  | succ m ih =>
    intro fuel k s hf hk hm
    obtain ⟨j, rfl⟩ : ∃ j, fuel = j + 1 := ⟨fuel - 1, by omega⟩
    have c := wIr R.wi h0 h1 (r := k) (by omega)
    unfold wI at c
    simp (disch := omega) only [F_X0_inkAhead_L48, ck_p, if_neg, c_leftOf R.cw Qc.rf, c_rightOf R.cw Qc.rf, bI_s, ih, sumF, Int.add_assoc]
    rw [inkT, wI, wI]
theorem c_inkAhead_5 (R : CR n D) {hair l : Int} (h0 : 0 ≤ l) (h1 : l < D 134 1) (hh : 0 ≤ hair ∧ hair ≤ 1000000) (K : Int → Int → Int → mD → RI) (s : Int) :
    F_X0_inkAhead_L48 K hair (wBeg (D 134) l) l (wL (D 134) l 0) (wWid (D 134) l) fuelN s 0 D = K (s + wInkL (D 134) hair l) (wBeg (D 134) l + (wWid (D 134) l + (if 13 ≤ l then 0 else D 18 l))) (l + 1) D := by
  have hN := fN
  exact c_inkAhead_K R h0 h1 hh K 5 fuelN 0 s (by omega) (by omega) (by omega)
theorem c_inkAhead_L (R : CR n D) {hair : Int} (hh : 0 ≤ hair ∧ hair ≤ 1000000) : ∀ (m fuel : Nat) (l s b : Int), m < fuel → 0 ≤ l → l + m = D 134 1 → (l < D 134 1 → b = wBeg (D 134) l) →
    F_X0_inkAhead_L13 hair fuel s b l D = some (s + sumF (wInkL (D 134) hair) l m, D) := by
  have hr := R.wi.ra
  have hc := R.ca
  have hN := fN
  intro m
  induction m with
  | zero =>
    intro fuel l s b hf hk hm hb
    obtain ⟨j, rfl⟩ : ∃ j, fuel = j + 1 := ⟨fuel - 1, by omega⟩
    simp (disch := omega) only [F_X0_inkAhead_L13, bI_s, ck_p, if_pos, sumF, Int.add_zero]
  | succ m ih =>
    intro fuel l s b hf hk hm hb
    obtain ⟨j, rfl⟩ : ∃ j, fuel = j + 1 := ⟨fuel - 1, by omega⟩
    have hb := hb (by omega)
    subst hb
    have e := R.wd (l := l) hk (by omega)
    simp (disch := omega) only [F_X0_inkAhead_L13, ck_p, if_neg, c_widthOf R, e, bI_s, c_inkAhead_5 R hk (by omega) hh]
    rw [ih j (l + 1) _ _ (by omega) (by omega) (by omega) (fun h => by
      rw [wBeg_succ _ hk, if_neg (by omega), R.ds hk h])]
    rw [sumF, Int.add_assoc]
theorem c_inkAhead (R : CR n D) {hair : Int} (hh : 0 ≤ hair ∧ hair ≤ 1000000) : F_X0_inkAhead hair D = some (wInkA (D 134) hair, D) := by
  have hr := R.wi.ra
  have hc := R.ca
  have hN := fN
  rw [F_X0_inkAhead, c_inkAhead_L R hh (D 134 1).toNat fuelN 0 0 _ (by omega) (by omega) (by omega) (fun _ => by rw [hc.2.2.2.1]; unfold wBeg; simp [sumF]), Int.zero_add]
  rfl
/-- the first of h, h + 1, .. of which p holds, m of them looked at -/
def leastF (p : Int → Bool) : Int → Nat → Int
  | h, 0 => h
  | h, m + 1 => if p h then h else leastF p (h + 1) m
theorem leastF_p {p : Int → Bool} : ∀ (m : Nat) (h : Int), p (h + m) = true → p (leastF p h m) = true ∧ h ≤ leastF p h m ∧ leastF p h m ≤ h + m ∧ ∀ j, h ≤ j → j < leastF p h m → p j = false := by
  intro m
  induction m with
  | zero => intro h hp; simp only [leastF]; refine ⟨by simpa using hp, by omega, by omega, fun j a b => by omega⟩
  | succ m ih =>
    intro h hp
    rw [leastF]
    by_cases q : p h = true
    · rw [if_pos q]
      exact ⟨q, by omega, by omega, fun j a b => by omega⟩
    · rw [if_neg q]
      have := ih (h + 1) (by rw [show h + 1 + (m : Int) = h + ((m + 1 : Nat) : Int) by omega]; exact hp)
      refine ⟨this.1, by omega, by omega, fun j a b => ?_⟩
      by_cases e : j = h
      · subst e; simpa using q
      · exact this.2.2.2 j (by omega) b
theorem leastF_u {p : Int → Bool} {m : Nat} {h r : Int} (hp : p (h + m) = true) (h1 : p r = true) (h2 : h ≤ r) (h3 : ∀ j, h ≤ j → j < r → p j = false) : r = leastF p h m := by
  obtain ⟨a, b, c, d⟩ := leastF_p m h hp
  by_cases e : r < leastF p h m
  · have := d r h2 e; rw [h1] at this; cases this
  · by_cases e2 : leastF p h m < r
    · have := h3 _ b e2; rw [a] at this; cases this
    · omega
def midP (w : Int → Int) (h : Int) : Bool := decide (wInkA w 1000000 ≤ 2 * wInkA w h)
def wMid (w : Int → Int) : Int := leastF (midP w) 0 567
theorem mid_end {w : Int → Int} (H : Wi n w) {h : Int} (hh : wEnd w ≤ h) : midP w h = true := by
  have a := wInkA_end H hh
  have b := wInkA_end H (h := 1000000) (by have := wEnd_r H; omega)
  have c := wInkA_r H (hair := wEnd w)
  unfold midP
  rw [a, b]
  simp
  omega
theorem r_middleOf_L (H : Wi n (D 134)) : ∀ (m fuel : Nat) (h : Int), m < fuel → 0 ≤ h → h + m = 567 →
    F_X12_middleOf_L10 (wInkA (D 134) 1000000) fuel h D = some (leastF (midP (D 134)) h m, D) := by
  have hr := H.ra
  have ha := wInkA_r H (hair := 1000000)
  intro m
  induction m with
  | zero =>
    intro fuel h hf hk hm
    obtain ⟨j, rfl⟩ : ∃ j, fuel = j + 1 := ⟨fuel - 1, by omega⟩
    have hb := wInkA_r H (hair := h)
    have he := mid_end H (h := h) (by have := wEnd_r H; omega)
    have he2 : wInkA (D 134) 1000000 ≤ 2 * wInkA (D 134) h := of_decide_eq_true he
    simp (disch := omega) only [F_X12_middleOf_L10, r_inkAhead H, bI_s, ck_p, if_pos, leastF]
  | succ m ih =>
    intro fuel h hf hk hm
    obtain ⟨j, rfl⟩ : ∃ j, fuel = j + 1 := ⟨fuel - 1, by omega⟩
    have hb := wInkA_r H (hair := h)
    by_cases q : wInkA (D 134) 1000000 ≤ 2 * wInkA (D 134) h
    · simp (disch := omega) only [F_X12_middleOf_L10, r_inkAhead H, bI_s, ck_p, if_pos, leastF]
      rw [if_pos (show midP (D 134) h = true from decide_eq_true q)]
    · simp (disch := omega) only [F_X12_middleOf_L10, r_inkAhead H, bI_s, ck_p, if_neg, leastF]
      rw [if_neg (show ¬ midP (D 134) h = true by unfold midP; simpa using q), ih j (h + 1) (by omega) (by omega) (by omega)]
theorem r_middleOf (H : Wi n (D 134)) : F_X12_middleOf D = some (wMid (D 134), D) := by
  have hN := fN
  simp (disch := omega) only [F_X12_middleOf, r_inkAhead H, bI_s, r_middleOf_L H 567]
  rfl
theorem c_middleHair_L (R : CR n D) : ∀ (m fuel : Nat) (lo hi : Int), m < fuel → m ≤ 10 → -1 ≤ lo → lo < hi → hi ≤ 567 → hi - lo ≤ 2 ^ m → midP (D 134) hi = true → (∀ j, 0 ≤ j → j ≤ lo → midP (D 134) j = false) →
    F_X0_middleHair_L19 (wInkA (D 134) 1000000) fuel lo hi (10 - m) D = some (wMid (D 134), D) := by
  have hr := R.wi.ra
  have ha := wInkA_r R.wi (hair := 1000000)
  have fin : ∀ (lo hi : Int), -1 ≤ lo → lo < hi → hi ≤ 567 → hi - lo ≤ 1 → midP (D 134) hi = true → (∀ j, 0 ≤ j → j ≤ lo → midP (D 134) j = false) → hi = wMid (D 134) := by
    intro lo hi h1 h2 h3 h4 h5 h6
    exact leastF_u (mid_end R.wi (by have := wEnd_r R.wi; omega)) h5 (by omega) (fun j a b => h6 j a (by omega))
  intro m
  induction m with
  | zero =>
    intro fuel lo hi hf hm h1 h2 h3 h4 h5 h6
    obtain ⟨j, rfl⟩ : ∃ j, fuel = j + 1 := ⟨fuel - 1, by omega⟩
    have h4 : hi - lo ≤ 1 := h4
    simp (disch := omega) only [F_X0_middleHair_L19, ck_p, if_neg, if_pos]
    rw [fin lo hi h1 h2 h3 h4 h5 h6]
  | succ m ih =>
    intro fuel lo hi hf hm h1 h2 h3 h4 h5 h6
    obtain ⟨j, rfl⟩ : ∃ j, fuel = j + 1 := ⟨fuel - 1, by omega⟩
    by_cases q : hi - lo ≤ 1
    · simp (disch := omega) only [F_X0_middleHair_L19, ck_p, if_neg, if_pos]
      rw [fin lo hi h1 h2 h3 q h5 h6]
    · have hb := wInkA_r R.wi (hair := (lo + hi) / 2)
      have hp : (2 : Int) ^ (m + 1) = 2 * 2 ^ m := by rw [Int.pow_succ]; omega
      simp (disch := omega) only [F_X0_middleHair_L19, ck_p, if_neg, c_inkAhead R, bI_s]
      rw [show (10 : Int) - ((m + 1 : Nat) : Int) + 1 = 10 - m by omega]
      by_cases z : 2 * wInkA (D 134) ((lo + hi) / 2) < wInkA (D 134) 1000000
      · rw [if_pos z, if_pos z]
        refine ih j _ _ (by omega) (by omega) (by omega) (by omega) h3 (by omega) h5 (fun k a b => ?_)
        have := wInkA_mono (D 134) b
        unfold midP
        simp
        omega
      · rw [if_neg z, if_neg z]
        exact ih j _ _ (by omega) (by omega) (by omega) (by omega) (by omega) (by omega) (by unfold midP; simp; omega) h6
theorem c_middleHair (R : CR n D) : F_X0_middleHair D = some (wMid (D 134), D) := by
  have hN := fN
  have he := wEnd_r R.wi
  have e : wInkA (D 134) (wEnd (D 134)) = wInkA (D 134) 1000000 := (wInkA_end R.wi (by omega)).symm
  simp (disch := omega) only [F_X0_middleHair, c_endOfWord R, c_inkAhead R, bI_s, e]
  exact c_middleHair_L R 10 fuelN (-1) _ (by omega) (by omega) (by omega) (by omega) (by omega) (by omega) (mid_end R.wi (Int.le_refl _)) (fun j a b => by omega)
end PQ1
