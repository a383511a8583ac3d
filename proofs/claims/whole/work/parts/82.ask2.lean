/-! QUESTIONS of whites: unevenness, off, fits, laid, best, nearest, cannot, lacks, squeeze, dropped, inch, middle -/
section PA2
variable {n : Int} {D : mD}
theorem q_uneven (R : CR n D) : AnsI n D F_X11_uneven F_X12_uneven := by
  have hz : ∀ E, F_X12_uneven E = F_X12_uneven (pD E 133 0 0) := (fun E => by simp only [F_X12_uneven, pD_pD])
  obtain ⟨E1, h1, K1⟩ := c_slant (Kq.rf R) (a := 0) (by omega)
  refine AnsI.ok (v := wSl (D 134) 0) (by simp (disch := omega) only [F_X11_uneven, h1, bI_s, bX_s, bX_t, t_0, t_1, in_t, in_f, ck_p, if_pos, if_neg, if_true]) K1.ke hz ?_
  intro G e z
  have H : Wi n (G 134) := by rw [e]; exact R.wi
  rw [← e, wSl_0 H]
  obtain ⟨F, h2, q2⟩ := r_unevenNow H Qw.rf
  exact ⟨F, by simp (disch := omega) only [F_X12_uneven, z, h2, bI_s, bX_s, bX_t, t_0, t_1, in_t, in_f, ck_p, if_pos, if_neg, if_true], q2⟩
/-- how far off the whites are -/
def wOffNow (w : Int → Int) (x : Int) : Int := sumF (fun g => (Int.natAbs (wWhite w g (wL w g 3) - x) : Int)) 0 (max 0 (w 1 - 1)).toNat
theorem c_off_L {x : Int} (hx : 0 ≤ x ∧ x ≤ 2000) : ∀ (m fuel : Nat) (g s : Int) (E : mD), m < fuel → 0 ≤ g → g + m = max 0 (D 134 1 - 1) → Kq n D E →
    ∃ E', F_X11_off_L9 x fuel s g E = some (.inl (s + sumF (fun g => (Int.natAbs (wWhite (D 134) g (wL (D 134) g 3) - x) : Int)) g m), E') ∧ Kq n D E' := by
  intro m
  induction m with
  | zero =>
    intro fuel g s E hf hg hm K
    have hr := K.wi.ra
    obtain ⟨j, rfl⟩ : ∃ j, fuel = j + 1 := ⟨fuel - 1, by omega⟩
    exact ⟨E, by simp (disch := omega) only [F_X11_off_L9, b_gapCount K, sumF, Int.add_zero, bI_s, bX_s, bX_t, t_0, t_1, in_t, in_f, ck_p, if_pos, if_neg, if_true], K⟩
  | succ m ih =>
    intro fuel g s E hf hg hm K
    have hr := K.wi.ra
    obtain ⟨j, rfl⟩ : ∃ j, fuel = j + 1 := ⟨fuel - 1, by omega⟩
    have hl := K.wi.lta (l := g) (by omega) (by omega)
    have hw := wWhite_r K.wi (g := g) (d := wL (D 134) g 3) (by omega) (by omega)
    obtain ⟨E1, h1, K1⟩ := b_whiteOf K (g := g) (d := wL (D 134) g 3) (by omega) (by omega)
    obtain ⟨E', h', K'⟩ := ih j (g + 1) (s + (Int.natAbs (wWhite (D 134) g (wL (D 134) g 3) - x) : Int)) E1 (by omega) (by omega) (by omega) K1
    refine ⟨E', ?_, K'⟩
    simp (disch := omega) only [F_X11_off_L9, b_gapCount K, b_ds K, h1, h', sumF, Int.add_assoc, bI_s, bX_s, bX_t, t_0, t_1, in_t, in_f, ck_p, if_pos, if_neg, if_true]
theorem r_off_L (H : Wi n (D 134)) {x : Int} (hx : 0 ≤ x ∧ x ≤ 2000) : ∀ (m fuel : Nat) (g s : Int) (E : mD), m < fuel → 0 ≤ g → g + m = max 0 (D 134 1 - 1) → Qw D E →
    ∃ E', F_X12_off_L23 x fuel s g E = some (s + sumF (fun g => (Int.natAbs (wWhite (D 134) g (wL (D 134) g 3) - x) : Int)) g m, E') ∧ Qw D E' := by
  have hr := H.ra
  intro m
  induction m with
  | zero =>
    intro fuel g s E hf hg hm K
    obtain ⟨j, rfl⟩ : ∃ j, fuel = j + 1 := ⟨fuel - 1, by omega⟩
    exact ⟨E, by simp (disch := omega) only [F_X12_off_L23, s_gaps H K, sumF, Int.add_zero, bI_s, bX_s, bX_t, t_0, t_1, in_t, in_f, ck_p, if_pos, if_neg, if_true], K⟩
  | succ m ih =>
    intro fuel g s E hf hg hm K
    obtain ⟨j, rfl⟩ : ∃ j, fuel = j + 1 := ⟨fuel - 1, by omega⟩
    have hl := H.lta (l := g) (by omega) (by omega)
    have hw := wWhite_r H (g := g) (d := wL (D 134) g 3) (by omega) (by omega)
    obtain ⟨E1, h1, K1⟩ := s_white H K (g := g) (by omega)
    obtain ⟨E', h', K'⟩ := ih j (g + 1) (s + (Int.natAbs (wWhite (D 134) g (wL (D 134) g 3) - x) : Int)) E1 (by omega) (by omega) (by omega) K1
    refine ⟨E', ?_, K'⟩
    simp (disch := omega) only [F_X12_off_L23, s_gaps H K, h1, h', sumF, Int.add_assoc, bI_s, bX_s, bX_t, t_0, t_1, in_t, in_f, ck_p, if_pos, if_neg, if_true]
theorem no_white {ex : List Nat} {fc : mD → RX} {fr : mD → RI} (R : CR n D) (hc : fc D = some (.inr 0, D)) (hz : ∀ E, fr E = fr (pD E 133 0 0)) (k : Nat) (hk : ex[k]? = some 0)
    (hr : ∀ G : mD, G 134 = D 134 → pD G 133 0 0 = G → fr G = some (0, pD G 133 0 ((k : Int) + 1))) : Ans n D ex fc fr :=
  Ans.no k hk hc (Ke.rf R) hz (fun G e z => ⟨0, G, hr G e z, Qw.rf⟩)
theorem q_off (R : CR n D) {x : Int} (hx : nR x) : Ans n D [0] (F_X11_off x) (F_X12_off x) := by
  have hr := R.wi.ra
  have hN := fN
  have hz : ∀ E, F_X12_off x E = F_X12_off x (pD E 133 0 0) := (fun E => by simp only [F_X12_off, pD_pD])
  by_cases a : 0 ≤ x ∧ x ≤ 2000
  · obtain ⟨E1, h1, K1⟩ := c_off_L a (max 0 (D 134 1 - 1)).toNat fuelN 0 0 D (by omega) (by omega) (by omega) (Kq.rf R)
    refine Ans.ok (v := 0 + wOffNow (D 134) x) (by simp (disch := omega) only [F_X11_off, n_white_t hx a, h1, bI_s, bX_s, bX_t, t_0, t_1, in_t, in_f, ck_p, if_pos, if_neg, if_true]; rfl) K1.ke hz ?_
    intro G e z
    have H : Wi n (G 134) := by rw [e]; exact R.wi
    rw [← e] at hr ⊢
    obtain ⟨F, h2, q2⟩ := r_off_L H a (max 0 (G 134 1 - 1)).toNat fuelN 0 0 G (by omega) (by omega) (by omega) Qw.rf
    exact ⟨F, by simp (disch := omega) only [F_X12_off, z, noWhite_t hx a, h2, bI_s, bX_s, bX_t, t_0, t_1, in_t, in_f, ck_p, if_pos, if_neg, if_true]; rfl, q2⟩
  · exact no_white R (by simp (disch := omega) only [F_X11_off, n_white_f hx a, bI_s, bX_s, bX_t, t_0, t_1, in_t, in_f, ck_p, if_pos, if_neg, if_true]) hz 0 rfl (fun G e z => by simp (disch := omega) only [F_X12_off, z, noWhite_f hx a, bI_s, bX_s, bX_t, t_0, t_1, in_t, in_f, ck_p, if_pos, if_neg, if_true]; rfl)
theorem q_fits (R : CR n D) : AnsI n D F_X11_fits F_X12_fits := by
  have hr := R.wi.ra
  have hc := R.ca
  have hz : ∀ E, F_X12_fits E = F_X12_fits (pD E 133 0 0) := (fun E => by simp only [F_X12_fits, pD_pD])
  have h01 : wFit (D 134) (D 134 5) = 0 ∨ wFit (D 134) (D 134 5) = 1 := b01_01 _
  refine AnsI.ok (v := wFit (D 134) (D 134 5)) (by simp (disch := omega) only [F_X11_fits, hc.2.2.2.2.2.2.2.2.2.2.2.1, c_fitsWith R, bI_s, bX_s, bX_t, t_0, t_1, in_t, in_f, ck_p, if_pos, if_neg, if_true]) (Ke.rf R) hz ?_
  intro G e z
  have H : Wi n (G 134) := by rw [e]; exact R.wi
  rw [← e] at h01 ⊢
  exact ⟨G, by simp (disch := omega) only [F_X12_fits, z, r_isFit H, bI_s, bX_s, bX_t, t_0, t_1, in_t, in_f, ck_p, if_pos, if_neg, if_true], Qw.rf⟩
theorem q_laid (R : CR n D) {x k : Int} (hx : nR x) (hk : nR k) : Ans n D [0] (F_X11_laid x k) (F_X12_laid x k) := by
  have hr := R.wi.ra
  have hN := fN
  have hz : ∀ E, F_X12_laid x k E = F_X12_laid x k (pD E 133 0 0) := (fun E => by simp only [F_X12_laid, pD_pD])
  by_cases a : 0 ≤ x ∧ x ≤ 2000
  · obtain ⟨E1, h1, K1, T1⟩ := c_leastOff (Ke.rf R) (x := x) (more := 0) a (by omega)
    have ho := wOff_r R.wi a 0
    by_cases b : wOff (D 134) x 0 = 1000000
    · rw [if_pos b] at h1
      refine Ans.ok (v := -1) (by simp (disch := omega) only [F_X11_laid, n_white_t hx a, h1, bI_s, bX_s, bX_t, t_0, t_1, in_t, in_f, ck_p, if_pos, if_neg, if_true]) K1 hz ?_
      intro G e z
      have H : Wi n (G 134) := by rw [e]; exact R.wi
      rw [← e] at b
      obtain ⟨F1, f1, q1, u1⟩ := r_laysWhites H Qw.rf
      obtain ⟨F2, f2, q2, u2, -⟩ := r_laysBy H q1 u1 (x := x) (more := 0) a (by omega)
      exact ⟨F2, by simp (disch := omega) only [F_X12_laid, F_X12_laid_j42, z, noWhite_t hx a, f1, f2, b, bI_s, bX_s, bX_t, t_0, t_1, in_t, in_f, ck_p, if_pos, if_neg, if_true], q2⟩
    · rw [if_neg b] at h1
      have hc : wCan (D 134) 0 := Classical.byContradiction fun y => b (wOff_cannot y)
      obtain ⟨t4, t5, T⟩ := T1 hc
      have hc2 := hc
      unfold wCan at hc2
      have hrm := wRoom_r R.wi (more := 0) (by omega)
      by_cases c : k = -1
      · refine Ans.ok (v := wOff (D 134) x 0) (by simp (disch := omega) only [F_X11_laid, n_white_t hx a, h1, bI_s, bX_s, bX_t, t_0, t_1, in_t, in_f, ck_p, if_pos, if_neg, if_true]) K1 hz ?_
        intro G e z
        have H : Wi n (G 134) := by rw [e]; exact R.wi
        rw [← e] at b ho ⊢
        obtain ⟨F1, f1, q1, u1⟩ := r_laysWhites H Qw.rf
        obtain ⟨F2, f2, q2, u2, -⟩ := r_laysBy H q1 u1 (x := x) (more := 0) a (by omega)
        exact ⟨F2, by simp (disch := omega) only [F_X12_laid, F_X12_laid_j42, z, noWhite_t hx a, f1, f2, bI_s, bX_s, bX_t, t_0, t_1, in_t, in_f, ck_p, if_pos, if_neg, if_true], q2⟩
      · by_cases d : 0 ≤ k ∧ k ≤ max 0 (D 134 1 - 1) - 1
        · obtain ⟨t, et⟩ : ∃ t : Nat, k = t := ⟨k.toNat, by omega⟩
          subst et
          obtain ⟨E2, h2, q2, R2⟩ := c_distanceOf_L R.wi (x := x) (hairs := wRoom (D 134) 0) (G := (max 0 (D 134 1 - 1)).toNat) (by omega) a (by omega) (by omega) (t := t) (by omega) (t + 1) fuelN 0 0 E1 (by omega) (by omega) (by omega) K1.2.cw K1.w t4 T
          have h2' : F_X4_distanceOf (t : Int) E1 = some (layW (wCost (D 134) x) (max 0 (D 134 1 - 1)).toNat (wRoom (D 134) 0) t, E2) := by rw [F_X4_distanceOf, t5]; exact h2
          have K2 : Ke n D E2 := ⟨K1.1.tr q2.qd, K1.2.go q2 R2.2.2.2.2⟩
          refine Ans.ok (v := layW (wCost (D 134) x) (max 0 (D 134 1 - 1)).toNat (wRoom (D 134) 0) t) (by simp (disch := omega) only [F_X11_laid, n_white_t hx a, h1, d_gapCount K1, h2', bI_s, bX_s, bX_t, t_0, t_1, in_t, in_f, ck_p, if_pos, if_neg, if_true]) K2 hz ?_
          intro G e z
          have H : Wi n (G 134) := by rw [e]; exact R.wi
          rw [← e] at b ho hc hr d ⊢
          obtain ⟨F1, f1, q1, u1⟩ := r_laysWhites H Qw.rf
          obtain ⟨F2, f2, q2, u2, T2⟩ := r_laysBy H q1 u1 (x := x) (more := 0) a (by omega)
          obtain ⟨F3, f3, q3, v3⟩ := r_firstWay H q2 a hc u2 (T2 hc)
          have v := v3 t (by omega)
          exact ⟨F3, by simp (disch := omega) only [F_X12_laid, F_X12_laid_j42, z, noWhite_t hx a, f1, f2, f3, s_gaps H q3, v, bI_s, bX_s, bX_t, t_0, t_1, in_t, in_f, ck_p, if_pos, if_neg, if_true], q3⟩
        · refine Ans.ok (v := -1) (E := E1) ?_ K1 hz ?_
          · by_cases s : k < 0
            · simp (disch := omega) only [F_X11_laid, n_white_t hx a, h1, bI_s, bX_s, bX_t, t_0, t_1, in_t, in_f, ck_p, if_pos, if_neg, if_true]
            · simp (disch := omega) only [F_X11_laid, n_white_t hx a, h1, d_gapCount K1, bI_s, bX_s, bX_t, t_0, t_1, in_t, in_f, ck_p, if_pos, if_neg, if_true]
          intro G e z
          have H : Wi n (G 134) := by rw [e]; exact R.wi
          rw [← e] at b ho hc hr d
          obtain ⟨F1, f1, q1, u1⟩ := r_laysWhites H Qw.rf
          obtain ⟨F2, f2, q2, u2, T2⟩ := r_laysBy H q1 u1 (x := x) (more := 0) a (by omega)
          obtain ⟨F3, f3, q3, v3⟩ := r_firstWay H q2 a hc u2 (T2 hc)
          exact ⟨F3, by simp (disch := omega) only [F_X12_laid, F_X12_laid_j42, z, noWhite_t hx a, f1, f2, f3, s_gaps H q3, bI_s, bX_s, bX_t, t_0, t_1, in_t, in_f, ck_p, if_pos, if_neg, if_true]; exact ck_p (fun y => absurd trivial y), q3⟩
  · exact no_white R (by simp (disch := omega) only [F_X11_laid, n_white_f hx a, bI_s, bX_s, bX_t, t_0, t_1, in_t, in_f, ck_p, if_pos, if_neg, if_true]) hz 0 rfl (fun G e z => by simp (disch := omega) only [F_X12_laid, z, noWhite_f hx a, bI_s, bX_s, bX_t, t_0, t_1, in_t, in_f, ck_p, if_pos, if_neg, if_true]; rfl)
theorem q_inch (R : CR n D) {x : Int} (hx : nR x) : Ans n D [0] (F_X11_inch x) (F_X12_inch x) := by
  have hr := R.wi.ra
  have hz : ∀ E, F_X12_inch x E = F_X12_inch x (pD E 133 0 0) := (fun E => by simp only [F_X12_inch, pD_pD])
  by_cases a : 0 ≤ x ∧ x ≤ 2000
  · obtain ⟨E1, h1, K1, -⟩ := c_leastOff (Ke.rf R) (x := x) (more := 0) a (by omega)
    obtain ⟨E2, h2, K2, -⟩ := c_leastOff K1 (x := x) (more := 12) a (by omega)
    have ho := wOff_r R.wi a 0
    have ho2 := wOff_r R.wi a 12
    refine Ans.ok (v := if wOff (D 134) x 0 = 1000000 then -9999 else if wOff (D 134) x 12 = 1000000 then -9999 else wOff (D 134) x 0 - wOff (D 134) x 12) (E := E2) ?_ K2 hz ?_
    · by_cases b : wOff (D 134) x 0 = 1000000
      · rw [if_pos b] at h1
        simp (disch := omega) only [F_X11_inch, n_white_t hx a, h1, h2, bI_s, bX_s, bX_t, t_0, t_1, in_t, in_f, ck_p, if_pos, if_neg, if_true]
      · rw [if_neg b] at h1
        by_cases c : wOff (D 134) x 12 = 1000000
        · rw [if_pos c] at h2
          simp (disch := omega) only [F_X11_inch, n_white_t hx a, h1, h2, bI_s, bX_s, bX_t, t_0, t_1, in_t, in_f, ck_p, if_pos, if_neg, if_true]
        · rw [if_neg c] at h2
          simp (disch := omega) only [F_X11_inch, n_white_t hx a, h1, h2, bI_s, bX_s, bX_t, t_0, t_1, in_t, in_f, ck_p, if_pos, if_neg, if_true]
    intro G e z
    have H : Wi n (G 134) := by rw [e]; exact R.wi
    rw [← e] at ho ho2 ⊢
    obtain ⟨F1, f1, q1, u1⟩ := r_laysWhites H Qw.rf
    obtain ⟨F2, f2, q2, u2, -⟩ := r_laysBy H q1 u1 (x := x) (more := 0) a (by omega)
    obtain ⟨F3, f3, q3, -, -⟩ := r_laysBy H q2 u2 (x := x) (more := 12) a (by omega)
    exact ⟨F3, by simp (disch := omega) only [F_X12_inch, z, noWhite_t hx a, f1, f2, f3, bI_s, bX_s, bX_t, t_0, t_1, in_t, in_f, ck_p, if_pos, if_neg, if_true], q3⟩
  · exact no_white R (by simp (disch := omega) only [F_X11_inch, n_white_f hx a, bI_s, bX_s, bX_t, t_0, t_1, in_t, in_f, ck_p, if_pos, if_neg, if_true]) hz 0 rfl (fun G e z => by simp (disch := omega) only [F_X12_inch, z, noWhite_f hx a, bI_s, bX_s, bX_t, t_0, t_1, in_t, in_f, ck_p, if_pos, if_neg, if_true]; rfl)
theorem best_fin (w : Int → Int) : ∀ (m : Nat) (b l j : Int), l < 1000000 → (bF (fun x => wOff w x 0) b l j m).2 < 1000000 := by
  intro m
  induction m with
  | zero => intro b l j h; exact h
  | succ m ih =>
    intro b l j h
    rw [bF]
    by_cases y : wOff w j 0 < l
    · simp only [if_pos y]; exact ih _ _ _ (by omega)
    · simp only [if_neg y]; exact ih _ _ _ h
theorem best_121 (w : Int → Int) (h : wOff w 0 0 < 1000000) : bF (fun x => wOff w x 0) 0 1000000 0 121 = bF (fun x => wOff w x 0) 0 (wOff w 0 0) 1 120 := by
  rw [show (121 : Nat) = 120 + 1 from rfl, bF]
  simp only [if_pos h]
  rw [show (0 : Int) + 1 = 1 from rfl]
theorem q_best0 (R : CR n D) {o : Int} (ho : nR o) (b : wOff (D 134) 0 0 = 1000000) : AnsI n D (F_X11_best o) (F_X12_best o) := by
  have hN := fN
  have hz : ∀ E, F_X12_best o E = F_X12_best o (pD E 133 0 0) := (fun E => by simp only [F_X12_best, pD_pD])
  obtain ⟨E1, h1, K1, -⟩ := c_leastOff (Ke.rf R) (x := 0) (more := 0) (by omega) (by omega)
  rw [if_pos b] at h1
  have hc : ¬ wCan (D 134) 0 := fun y => by have := wOff_can R.wi (x := 0) (by omega) y; omega
  refine AnsI.ok (v := -1) (by simp (disch := omega) only [F_X11_best, h1, bI_s, bX_s, bX_t, t_0, t_1, in_t, in_f, ck_p, if_pos, if_neg, if_true]) K1 hz ?_
  intro G e z
  have H : Wi n (G 134) := by rw [e]; exact R.wi
  rw [← e] at hc
  obtain ⟨F1, f1, q1, u1⟩ := r_laysWhites H Qw.rf
  obtain ⟨F2, f2, q2⟩ := r_best_L H ho 121 fuelN 0 0 1000000 F1 (by omega) (by omega) (by omega) q1 u1 (by omega) (by omega)
  have es : bF (fun x => wOff (G 134) x 0) 0 1000000 0 121 = (0, 1000000) := bF_stop (fun k _ _ => Int.le_of_eq (wOff_cannot hc).symm)
  refine ⟨F2, ?_, q2⟩
  rw [F_X12_best, z, f1, bI_s, f2, es, if_pos rfl]
theorem q_best1c (R : CR n D) {o : Int} (ho : nR o) (b : ¬ wOff (D 134) 0 0 = 1000000) : ∃ E2, F_X11_best o D = some (if o = 0 then (bF (fun x => wOff (D 134) x 0) 0 (wOff (D 134) 0 0) 1 120).1 else (bF (fun x => wOff (D 134) x 0) 0 (wOff (D 134) 0 0) 1 120).2, E2) ∧ Ke n D E2 := by
  have hN := fN
  obtain ⟨E1, h1, K1, -⟩ := c_leastOff (Ke.rf R) (x := 0) (more := 0) (by omega) (by omega)
  have hw := wOff_r R.wi (x := 0) (by omega) 0
  rw [if_neg b] at h1
  have hc : wCan (D 134) 0 := Classical.byContradiction fun y => b (wOff_cannot y)
  obtain ⟨E2, h2, K2⟩ := c_best_L R.wi hc ho 120 fuelN 1 0 (wOff (D 134) 0 0) E1 (by omega) (by omega) (by omega) K1 (by omega) (by omega) (by omega)
  refine ⟨E2, ?_, K2⟩
  rw [F_X11_best, h1, bI_s, ck_p (by omega), if_neg (by omega)]
  exact h2
theorem q_best1r {G : mD} (H : Wi n (G 134)) (z : pD G 133 0 0 = G) {o : Int} (ho : nR o) (b : wOff (G 134) 0 0 < 1000000) : RefOk G (F_X12_best o) (if o = 0 then (bF (fun x => wOff (G 134) x 0) 0 (wOff (G 134) 0 0) 1 120).1 else (bF (fun x => wOff (G 134) x 0) 0 (wOff (G 134) 0 0) 1 120).2) := by
  have hN := fN
  have e121 := best_121 (G 134) b
  have hfin := best_fin (G 134) 120 0 (wOff (G 134) 0 0) 1 b
  obtain ⟨F1, f1, q1, u1⟩ := r_laysWhites H Qw.rf
  obtain ⟨F2, f2, q2⟩ := r_best_L H ho 121 fuelN 0 0 1000000 F1 (by omega) (by omega) (by omega) q1 u1 (by omega) (by omega)
  rw [e121, if_neg (Int.ne_of_lt hfin)] at f2
  exact ⟨F2, by rw [F_X12_best, z, f1, bI_s, f2], q2⟩
theorem q_best1 (R : CR n D) {o : Int} (ho : nR o) (b : ¬ wOff (D 134) 0 0 = 1000000) : AnsI n D (F_X11_best o) (F_X12_best o) := by
  have hw := wOff_r R.wi (x := 0) (by omega) 0
  obtain ⟨E2, h2, K2⟩ := q_best1c R ho b
  refine AnsI.ok h2 K2 (fun E => by simp only [F_X12_best, pD_pD]) ?_
  intro G e z
  rw [← e]
  exact q_best1r (by rw [e]; exact R.wi) z ho (by rw [e]; omega)
theorem q_best (R : CR n D) {o : Int} (ho : nR o) : AnsI n D (F_X11_best o) (F_X12_best o) := by
  by_cases b : wOff (D 134) 0 0 = 1000000
  · exact q_best0 R ho b
  · exact q_best1 R ho b
end PA2
