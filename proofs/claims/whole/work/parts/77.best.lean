/-! THE BEST WHITE: both; squeezing: both -/
section PQ7
variable {n : Int} {D E : mD}
def bF (V : Int → Int) : Int → Int → Int → Nat → Int × Int
  | b, l, _, 0 => (b, l)
  | b, l, j, m + 1 => if V j < l then bF V j (V j) (j + 1) m else bF V b l (j + 1) m
theorem bF_skip {V : Int → Int} : ∀ (p m : Nat) (b l j : Int), (∀ k, j ≤ k → k < j + p → l ≤ V k) → bF V b l j (p + m) = bF V b l (j + p) m := by
  intro p
  induction p with
  | zero => intro m b l j _; simp
  | succ p ih =>
    intro m b l j h
    rw [show p + 1 + m = (p + m) + 1 by omega, bF, if_neg (by have := h j (by omega) (by omega); omega), ih m b l (j + 1) (fun k a c => h k (by omega) (by omega)), show j + 1 + (p : Int) = j + ((p + 1 : Nat) : Int) by omega]
theorem bF_stop {V : Int → Int} {b l j : Int} {m : Nat} (h : ∀ k, j ≤ k → k < j + m → l ≤ V k) : bF V b l j m = (b, l) := by
  have := bF_skip m 0 b l j h
  rw [Nat.add_zero, bF] at this
  exact this
/-- the best white, and how far off it is -/
def wBest (w : Int → Int) : Int × Int := bF (fun x => wOff w x 0) 0 1000000 0 121
theorem wOff_r {w : Int → Int} (H : Wi n w) {x : Int} (hx : 0 ≤ x ∧ x ≤ 2000) (more : Int) : 0 ≤ wOff w x more ∧ wOff w x more ≤ 1000000 := by
  by_cases z : wCan w more
  · have := wOff_can H hx z; omega
  · rw [wOff_cannot z]; omega
theorem r_best_L (H : Wi n (D 134)) {o : Int} (ho : nR o) : ∀ (m fuel : Nat) (j b l : Int) (E : mD), m < fuel → 0 ≤ j → j + m = 121 → Qw D E → WhR (D 134) E → 0 ≤ l → l ≤ 1000000 →
    ∃ E', F_X12_best_L18 o fuel b l j E = some (if (bF (fun x => wOff (D 134) x 0) b l j m).2 = 1000000 then -1 else if o = 0 then (bF (fun x => wOff (D 134) x 0) b l j m).1 else (bF (fun x => wOff (D 134) x 0) b l j m).2, E') ∧ Qw D E' := by
  intro m
  induction m with
  | zero =>
    intro fuel j b l E hf hj hm q U l0 l1
    obtain ⟨i, rfl⟩ : ∃ i, fuel = i + 1 := ⟨fuel - 1, by omega⟩
    refine ⟨E, ?_, q⟩
    simp (disch := omega) only [F_X12_best_L18, ck_p, if_pos, bF]
    rfl
  | succ m ih =>
    intro fuel j b l E hf hj hm q U l0 l1
    obtain ⟨i, rfl⟩ : ∃ i, fuel = i + 1 := ⟨fuel - 1, by omega⟩
    obtain ⟨E1, h1, q1, U1, -⟩ := r_laysBy H q U (x := j) (more := 0) (by omega) (by omega)
    have hv := wOff_r H (x := j) (by omega) 0
    by_cases z : wOff (D 134) j 0 < l
    · obtain ⟨E', h', q'⟩ := ih i (j + 1) j (wOff (D 134) j 0) E1 (by omega) (by omega) (by omega) q1 U1 (by omega) (by omega)
      refine ⟨E', ?_, q'⟩
      simp (disch := omega) only [F_X12_best_L18, ck_p, if_neg, if_pos, h1, bI_s, bF]
      exact h'
    · obtain ⟨E', h', q'⟩ := ih i (j + 1) b l E1 (by omega) (by omega) (by omega) q1 U1 (by omega) (by omega)
      refine ⟨E', ?_, q'⟩
      simp (disch := omega) only [F_X12_best_L18, ck_p, if_neg, h1, bI_s, bF]
      exact h'
theorem wOff_lip {w : Int → Int} (H : Wi n w) (hc : wCan w 0) {x y : Int} (hx : 0 ≤ x) (hxy : x ≤ y) (hy : y ≤ 2000) : wOff w x 0 ≤ wOff w y 0 + (y - x) * max 1 (max 0 (w 1 - 1)) := by
  have hr := H.ra
  have a := wOff_can H (x := x) (by omega) hc
  have b := wOff_can H (x := y) (by omega) hc
  unfold wCan at hc
  have h := VF_lip (c := wCost w x) (c' := wCost w y) (G := max 0 (w 1 - 1)) (δ := y - x) (wCost_0 w y) (fun g d a b c d => wCost_r H (by omega) a b c d) (by omega) (fun g d _ _ _ _ => by unfold wCost; omega) (max 0 (w 1 - 1)).toNat 0 (wRoom w 0) (by omega) (by omega) (by omega) (by omega)
  rw [a.1, b.1]
  have h2 : (y - x) * (((max 0 (w 1 - 1)).toNat : Nat) : Int) ≤ (y - x) * max 1 (max 0 (w 1 - 1)) := Int.mul_le_mul_of_nonneg_left (by omega) (by omega)
  omega
theorem c_best_L (H : Wi n (D 134)) (hc : wCan (D 134) 0) {o : Int} (ho : nR o) : ∀ (m fuel : Nat) (j b l : Int) (E : mD), m < fuel → 1 ≤ j → 121 - j ≤ m → Ke n D E → 0 ≤ l → l < 1000000 → j < 2000000 →
    ∃ E', F_X11_best_L22 o fuel b l j E = some (if o = 0 then (bF (fun x => wOff (D 134) x 0) b l j (121 - j).toNat).1 else (bF (fun x => wOff (D 134) x 0) b l j (121 - j).toNat).2, E') ∧ Ke n D E' := by
  have hr := H.ra
  intro m
  induction m with
  | zero =>
    intro fuel j b l E hf hj hm K l0 l1 j2
    obtain ⟨i, rfl⟩ : ∃ i, fuel = i + 1 := ⟨fuel - 1, by omega⟩
    refine ⟨E, ?_, K⟩
    simp (disch := omega) only [F_X11_best_L22, F_X11_best_j83, ck_p, if_pos]
    rw [show (121 - j).toNat = 0 by omega]
    simp only [bF]
  | succ m ih =>
    intro fuel j b l E hf hj hm K l0 l1 j2
    obtain ⟨i, rfl⟩ : ∃ i, fuel = i + 1 := ⟨fuel - 1, by omega⟩
    by_cases z : 120 < j
    · refine ⟨E, ?_, K⟩
      simp (disch := omega) only [F_X11_best_L22, F_X11_best_j83, ck_p, if_pos]
      rw [show (121 - j).toNat = 0 by omega]
      simp only [bF]
    · by_cases zl : l ≤ 0
      · refine ⟨E, ?_, K⟩
        simp (disch := omega) only [F_X11_best_L22, F_X11_best_j83, ck_p, if_pos, if_neg]
        rw [bF_stop (fun k a c => by have := wOff_r H (x := k) (by omega) 0; omega)]
      · obtain ⟨E1, h1, K1, -⟩ := c_leastOff K (x := j) (more := 0) (by omega) (by omega)
        have hv := wOff_can H (x := j) (by omega) hc
        rw [if_neg (by omega)] at h1
        obtain ⟨V, eV⟩ : ∃ V, V = wOff (D 134) j 0 := ⟨_, rfl⟩
        obtain ⟨b', eb⟩ : ∃ b', b' = if l ≤ V then b else j := ⟨_, rfl⟩
        obtain ⟨l', el⟩ : ∃ l', l' = if l ≤ V then l else V := ⟨_, rfl⟩
        obtain ⟨M, eM⟩ : ∃ M, M = max 1 (max 0 (D 134 1 - 1)) := ⟨_, rfl⟩
        obtain ⟨s, es⟩ : ∃ s, s = (V - l') / M := ⟨_, rfl⟩
        have s0 : 0 ≤ s := by rw [es]; exact Int.ediv_nonneg (by omega) (by omega)
        have sV : s ≤ V - l' := by rw [es]; exact Int.ediv_le_self _ (by omega)
        have sM : s * M ≤ V - l' := by rw [es]; exact Int.ediv_mul_le _ (by omega)
        have hb : bF (fun x => wOff (D 134) x 0) b l j (121 - j).toNat = bF (fun x => wOff (D 134) x 0) b' l' (j + 1) (121 - (j + 1)).toNat := by
          rw [show (121 - j).toNat = (121 - (j + 1)).toNat + 1 by omega, bF]
          simp only [← eV]
          by_cases y : V < l
          · rw [if_pos y, eb, el, if_neg (by omega), if_neg (by omega)]
          · rw [if_neg y, eb, el, if_pos (by omega), if_pos (by omega)]
        have hsk : ∀ k, j + 1 ≤ k → k ≤ j + s → k ≤ 2000 → l' ≤ wOff (D 134) k 0 := by
          intro k k0 k1 k2
          have a := wOff_lip H hc (x := j) (y := k) (by omega) (by omega) k2
          have c : (k - j) * M ≤ s * M := Int.mul_le_mul_of_nonneg_right (by omega) (by omega)
          rw [← eM, ← eV] at a
          omega
        have hb2 : bF (fun x => wOff (D 134) x 0) b' l' (j + 1) (121 - (j + 1)).toNat = bF (fun x => wOff (D 134) x 0) b' l' (j + (1 + s)) (121 - (j + (1 + s))).toNat := by
          by_cases y : j + (1 + s) ≤ 121
          · have := bF_skip (V := fun x => wOff (D 134) x 0) s.toNat (121 - (j + (1 + s))).toNat b' l' (j + 1) (fun k a c => hsk k a (by omega) (by omega))
            rw [show s.toNat + (121 - (j + (1 + s))).toNat = (121 - (j + 1)).toNat by omega, show j + 1 + ((s.toNat : Nat) : Int) = j + (1 + s) by omega] at this
            exact this
          · rw [show (121 - (j + (1 + s))).toNat = 0 by omega, bF]
            exact bF_stop (fun k a c => hsk k a (by omega) (by omega))
        obtain ⟨E', h', K'⟩ := ih i (j + (1 + s)) b' l' E1 (by omega) (by omega) (by omega) K1 (by omega) (by omega) (by omega)
        refine ⟨E', ?_, K'⟩
        rw [hb, hb2, ← h']
        simp (disch := omega) only [F_X11_best_L22, F_X11_best_j57, ck_p, if_neg, h1, bI_s, d_gapCount K1, ← eV, ← eb, ← el, ← eM]
        rw [← es]
/-! squeezing -/
def hH (w : Int → Int) (l b : Int) : Int := b * b * wInk w (wL w l 0)
def mX (w : Int → Int) (l : Int) : Int := if 0 < wL w l 1 then 0 else min 3 (wWid w l - 1)
theorem hH_r {w : Int → Int} (H : Wi n w) {l b : Int} (l0 : 0 ≤ l) (l1 : l < w 1) (b0 : 0 ≤ b) (b1 : b ≤ 3) : 0 ≤ hH w l b ∧ hH w l b ≤ 540 := by
  have h1 := mul_r b0 b1 b0 b1
  have hl := H.lta l0 l1
  have h2 := wInk_r H (s := wL w l 0) (by omega) (by omega)
  have h3 := mul_r h1.1 h1.2 (show 0 ≤ wInk w (wL w l 0) by omega) h2.2
  unfold hH
  omega
theorem mX_r {w : Int → Int} (H : Wi n w) {l : Int} (l0 : 0 ≤ l) (l1 : l < w 1) : 0 ≤ mX w l ∧ mX w l ≤ 3 := by
  have h := wWid_r H l0 l1
  unfold mX
  by_cases q : 0 < wL w l 1
  · rw [if_pos q]; omega
  · rw [if_neg q]; omega
/-- the least harm of m letters from l on -/
def HF (w : Int → Int) : Nat → Int → Int → Int
  | 0, _, gain => if gain = 0 then 0 else 1000000
  | m + 1, l, gain => minF (fun b => hH w l b + HF w m (l + 1) (max 0 (gain - b))) 1000000 0 (mX w l + 1).toNat
theorem HF_r {w : Int → Int} (H : Wi n w) : ∀ (m : Nat) (l gain : Int), 0 ≤ l → l + m = w 1 → 0 ≤ HF w m l gain ∧ HF w m l gain ≤ 1000000 := by
  intro m
  induction m with
  | zero => intro l gain _ _; rw [HF]; by_cases q : gain = 0; rw [if_pos q]; omega; rw [if_neg q]; omega
  | succ m ih =>
    intro l gain l0 l1
    have hm := mX_r H (l := l) l0 (by omega)
    rw [HF]
    exact minF_r (lo := 0) _ _ _ (by omega) (fun b b0 b1 => by have := ih (l + 1) (max 0 (gain - b)) (by omega) (by omega); have := hH_r H (l := l) (b := b) l0 (by omega) b0 (by omega); omega)
def isS (w : Int → Int) (m : Nat) (l gain b : Int) : Bool := decide (hH w l b + HF w m (l + 1) (max 0 (gain - b)) = HF w (m + 1) l gain)
def fstS (w : Int → Int) (m : Nat) (l gain : Int) : Int := leastF (isS w m l gain) 0 3
theorem fstS_p {w : Int → Int} (H : Wi n w) {m : Nat} {l gain : Int} (l0 : 0 ≤ l) (l1 : l + (m + 1 : Nat) = w 1) (hf : HF w (m + 1) l gain < 1000000) :
    hH w l (fstS w m l gain) + HF w m (l + 1) (max 0 (gain - fstS w m l gain)) = HF w (m + 1) l gain ∧ 0 ≤ fstS w m l gain ∧ fstS w m l gain ≤ mX w l ∧ HF w m (l + 1) (max 0 (gain - fstS w m l gain)) < 1000000 ∧
    ∀ b, 0 ≤ b → b < fstS w m l gain → hH w l b + HF w m (l + 1) (max 0 (gain - b)) ≠ HF w (m + 1) l gain := by
  have hm := mX_r H (l := l) l0 (by omega)
  have hf' := hf
  rw [HF] at hf'
  rcases minF_att (f := fun b => hH w l b + HF w m (l + 1) (max 0 (gain - b))) (mX w l + 1).toNat 1000000 0 with e | ⟨k, k0, k1, e⟩
  · omega
  · have e2 : isS w m l gain k = true := decide_eq_true (by rw [HF]; exact e.symm)
    obtain ⟨a1, a2, a3, a4⟩ := leastF_ex e2 3 0 k0 (by omega)
    have a1 : hH w l (fstS w m l gain) + HF w m (l + 1) (max 0 (gain - fstS w m l gain)) = HF w (m + 1) l gain := of_decide_eq_true a1
    have a2 : 0 ≤ fstS w m l gain := a2
    have a3 : fstS w m l gain ≤ k := a3
    have h := hH_r H (l := l) (b := fstS w m l gain) l0 (by omega) a2 (by omega)
    exact ⟨a1, a2, by omega, by omega, fun j j0 j1 => of_decide_eq_false (a4 j j0 j1)⟩
/-- what is still to gain at letter k -/
def gainW (w : Int → Int) (L : Nat) (wanted : Int) : Nat → Int
  | 0 => wanted
  | k + 1 => max 0 (gainW w L wanted k - fstS w (L - 1 - k) (k : Int) (gainW w L wanted k))
theorem gainW_r {w : Int → Int} (H : Wi n w) {L : Nat} (hL : (L : Int) = w 1) {wanted : Int} (h0 : 0 ≤ wanted ∧ wanted ≤ 42) (hf : HF w L 0 wanted < 1000000) : ∀ k : Nat, k ≤ L → 0 ≤ gainW w L wanted k ∧ gainW w L wanted k ≤ wanted ∧ HF w (L - k) (k : Int) (gainW w L wanted k) < 1000000 := by
  intro k
  induction k with
  | zero => intro _; rw [gainW]; exact ⟨h0.1, by omega, hf⟩
  | succ k ih =>
    intro hk
    obtain ⟨i1, i2, i3⟩ := ih (by omega)
    rw [show L - k = (L - 1 - k) + 1 by omega] at i3
    obtain ⟨p1, p2, p3, p4, p5⟩ := fstS_p H (m := L - 1 - k) (l := (k : Int)) (by omega) (by omega) i3
    rw [gainW, show L - (k + 1) = L - 1 - k by omega, show ((k + 1 : Nat) : Int) = (k : Int) + 1 by omega]
    exact ⟨by omega, by omega, p4⟩
/-- the letters squeezed -/
def wSqB (w : Int → Int) (wanted : Int) : Int := (bitN (fun k => decide (0 < fstS w ((w 1).toNat - 1 - k) (k : Int) (gainW w (w 1).toNat wanted k))) (w 1).toNat : Int)
end PQ7
