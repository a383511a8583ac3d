/-! QUESTIONS: nearest, cannot, lacks, squeeze, dropped, middle, read, far, runs, lamp, aslant, from, ends, lookers -/
section PA3
variable {n : Int} {D : mD}
/-- the first of the least -/
def nrF (f : Int → Int) : Int → Int → Nat → Int
  | b, _, 0 => b
  | b, d, m + 1 => nrF f (if f b ≤ f d then b else d) (d + 1) m
theorem b_whiteX {E : mD} (K : Kq n D E) {g d x : Int} (hg : 0 ≤ g ∧ g + 1 < D 134 1) (hd : 0 ≤ d ∧ d ≤ 30) : ∃ E', F_X0_whiteOf g d E = some (wWhite (D 134) g d, E') ∧ Kq n D E' ∧ 0 ≤ wWhite (D 134) g d ∧ wWhite (D 134) g d ≤ 25920 := by
  obtain ⟨E', h, K'⟩ := b_whiteOf K hg hd
  exact ⟨E', h, K', wWhite_r K.wi hg hd⟩
theorem c_nearest_L {g x : Int} (hg : 0 ≤ g ∧ g + 1 < D 134 1) (hx : 0 ≤ x ∧ x ≤ 2000) : ∀ (m fuel : Nat) (b d : Int) (E : mD), m < fuel → 0 ≤ d → d + m = 31 → 0 ≤ b → b ≤ 30 → Kq n D E →
    ∃ E', F_X11_nearest_L15 g x fuel b d E = some (.inl (nrF (wCost (D 134) x g) b d m), E') ∧ Kq n D E' := by
  intro m
  induction m with
  | zero =>
    intro fuel b d E hf hd hm b0 b1 K
    obtain ⟨j, rfl⟩ : ∃ j, fuel = j + 1 := ⟨fuel - 1, by omega⟩
    exact ⟨E, by simp (disch := omega) only [F_X11_nearest_L15, nrF, bI_q, bX_q, bX_r, t_0, t_1, in_t, in_f, ck_p, if_pos, if_neg, if_true], K⟩
  | succ m ih =>
    intro fuel b d E hf hd hm b0 b1 K
    obtain ⟨j, rfl⟩ : ∃ j, fuel = j + 1 := ⟨fuel - 1, by omega⟩
    obtain ⟨E1, h1, K1, r1⟩ := b_whiteX (x := x) K hg (d := d) (by omega)
    obtain ⟨E2, h2, K2, r2⟩ := b_whiteX (x := x) K1 hg (d := b) (by omega)
    obtain ⟨E', h', K'⟩ := ih j (if wCost (D 134) x g b ≤ wCost (D 134) x g d then b else d) (d + 1) E2 (by omega) (by omega) (by omega) (by split <;> omega) (by split <;> omega) K2
    refine ⟨E', ?_, K'⟩
    rw [nrF, ← h']
    simp (disch := omega) only [F_X11_nearest_L15, h1, h2, bI_q, bX_q, bX_r, t_0, t_1, in_t, in_f, ck_p, if_pos, if_neg, if_true]
    rfl
theorem r_nearest_L (H : Wi n (D 134)) {E : mD} (U : WhR (D 134) E) {g x : Int} (hg : 0 ≤ g ∧ g < max 0 (D 134 1 - 1)) (hx : 0 ≤ x ∧ x ≤ 2000) : ∀ (m fuel : Nat) (b d : Int), m < fuel → 0 ≤ d → d + m = 31 → 0 ≤ b → b ≤ 30 →
    F_X12_nearest_L41 g x fuel b d E = some (nrF (wCost (D 134) x g) b d m, E) := by
  intro m
  induction m with
  | zero =>
    intro fuel b d hf hd hm b0 b1
    obtain ⟨j, rfl⟩ : ∃ j, fuel = j + 1 := ⟨fuel - 1, by omega⟩
    simp (disch := omega) only [F_X12_nearest_L41, nrF, bI_q, bX_q, bX_r, t_0, t_1, in_t, in_f, ck_p, if_pos, if_neg, if_true]
  | succ m ih =>
    intro fuel b d hf hd hm b0 b1
    obtain ⟨j, rfl⟩ : ∃ j, fuel = j + 1 := ⟨fuel - 1, by omega⟩
    have r1 := wCost_r H hx hg.1 hg.2 (d := d) (by omega) (by omega)
    have r2 := wCost_r H hx hg.1 hg.2 (d := b) (by omega) (by omega)
    have s1 := wCost_0 (D 134) x g d
    have s2 := wCost_0 (D 134) x g b
    have h' := ih j (if wCost (D 134) x g b ≤ wCost (D 134) x g d then b else d) (d + 1) (by omega) (by omega) (by omega) (by split <;> omega) (by split <;> omega)
    rw [nrF, ← h']
    simp (disch := omega) only [F_X12_nearest_L41, s_offBy H U hx hg.1 hg.2, bI_q, bX_q, bX_r, t_0, t_1, in_t, in_f, ck_p, if_pos, if_neg, if_true]
theorem q_nearest (R : CR n D) {g x : Int} (hg : nR g) (hx : nR x) : Ans n D [2, 0] (F_X11_nearest g x) (F_X12_nearest g x) := by
  have hr := R.wi.ra
  have hN := fN
  have hz : ∀ E, F_X12_nearest g x E = F_X12_nearest g x (pD E 133 0 0) := (fun E => by simp only [F_X12_nearest, pD_pD])
  by_cases a : 0 ≤ g ∧ g ≤ max 0 (D 134 1 - 1) - 1
  · by_cases b : 0 ≤ x ∧ x ≤ 2000
    · obtain ⟨E1, h1, K1⟩ := c_nearest_L (n := n) (D := D) (g := g) (by omega) b 30 fuelN 0 1 D (by omega) (by omega) (by omega) (by omega) (by omega) (Kq.rf R)
      refine Ans.ok (v := nrF (wCost (D 134) x g) 0 1 30) (by simp (disch := omega) only [F_X11_nearest, n_gap_t R hg a, n_white_t hx b, h1, bI_q, bX_q, bX_r, t_0, t_1, in_t, in_f, ck_p, if_pos, if_neg, if_true]) K1.ke hz ?_
      intro G e z
      have H : Wi n (G 134) := by rw [e]; exact R.wi
      rw [← e] at a ⊢
      obtain ⟨F1, f1, q1, u1⟩ := r_laysWhites H Qw.rf
      have f2 := r_nearest_L H u1 (g := g) (by omega) b 30 fuelN 0 1 (by omega) (by omega) (by omega) (by omega) (by omega)
      exact ⟨F1, by simp (disch := omega) only [F_X12_nearest, z, noGap_t H hg a, noWhite_t hx b, f1, f2, bI_q, bX_q, bX_r, t_0, t_1, in_t, in_f, ck_p, if_pos, if_neg, if_true], q1⟩
    · refine Ans.no 1 rfl (i := 0) (by simp (disch := omega) only [F_X11_nearest, n_gap_t R hg a, n_white_f hx b, bI_q, bX_q, bX_r, t_0, t_1, in_t, in_f, ck_p, if_pos, if_neg, if_true]) (Ke.rf R) hz ?_
      intro G e z
      have H : Wi n (G 134) := by rw [e]; exact R.wi
      rw [← e] at a
      exact ⟨0, G, by simp (disch := omega) only [F_X12_nearest, z, noGap_t H hg a, noWhite_f hx b, bI_q, bX_q, bX_r, t_0, t_1, in_t, in_f, ck_p, if_pos, if_neg, if_true]; rfl, Qw.rf⟩
  · refine Ans.no 0 rfl (i := 2) (by simp (disch := omega) only [F_X11_nearest, n_gap_f R hg a, bI_q, bX_q, bX_r, t_0, t_1, in_t, in_f, ck_p, if_pos, if_neg, if_true]) (Ke.rf R) hz ?_
    intro G e z
    have H : Wi n (G 134) := by rw [e]; exact R.wi
    rw [← e] at a
    exact ⟨0, G, by simp (disch := omega) only [F_X12_nearest, z, noGap_f H hg a, bI_q, bX_q, bX_r, t_0, t_1, in_t, in_f, ck_p, if_pos, if_neg, if_true]; rfl, Qw.rf⟩
theorem bit_le (a b : Int) (s : Int) : (if a ≤ b then (0 : Int) else s) = (if decide (b < a) = true then s else 0) := by
  by_cases z : a ≤ b
  · rw [if_pos z, if_neg (by simp; omega)]
  · rw [if_neg z, if_pos (by simp; omega)]
theorem bit_or {p : Nat → Bool} {k : Nat} (a b : Int) (hp : p k = decide (b < a)) (hk : k < 30) : (if a ≤ b then (bitN p k : Int) else bOr (bitN p k : Int) (bShl 1 (k : Int))) = (bitN p (k + 1) : Int) := by
  have h := bitN_step (p := p) hk
  rw [hp] at h
  by_cases z : a ≤ b
  · rw [if_pos z, bitN, hp, if_neg (by simp; omega), Nat.add_zero]
  · rw [if_neg z, ← h, if_pos (by simp; omega)]
def wCannot (w : Int → Int) (x : Int) : Nat → Bool := fun g => decide (x < wWhite w (g : Int) 0)
theorem c_cannot_L {x : Int} (hx : 0 ≤ x ∧ x ≤ 2000) : ∀ (m fuel g : Nat) (E : mD), m < fuel → (g : Int) + m = max 0 (D 134 1 - 1) → Kq n D E →
    ∃ E', F_X11_cannot_L9 x fuel (bitN (wCannot (D 134) x) g : Int) (g : Int) E = some (.inl (bitN (wCannot (D 134) x) (g + m) : Int), E') ∧ Kq n D E' := by
  intro m
  induction m with
  | zero =>
    intro fuel g E hf hm K
    have hr := K.wi.ra
    obtain ⟨j, rfl⟩ : ∃ j, fuel = j + 1 := ⟨fuel - 1, by omega⟩
    exact ⟨E, by simp (disch := omega) only [F_X11_cannot_L9, b_gapCount K, Nat.add_zero, bI_q, bX_q, bX_r, t_0, t_1, in_t, in_f, ck_p, if_pos, if_neg, if_true], K⟩
  | succ m ih =>
    intro fuel g E hf hm K
    have hr := K.wi.ra
    obtain ⟨j, rfl⟩ : ∃ j, fuel = j + 1 := ⟨fuel - 1, by omega⟩
    obtain ⟨E1, h1, K1, r1⟩ := b_whiteX (x := x) K (g := (g : Int)) (d := 0) (by omega) (by omega)
    obtain ⟨E', h', K'⟩ := ih j (g + 1) E1 (by omega) (by omega) K1
    refine ⟨E', ?_, K'⟩
    simp (disch := omega) only [F_X11_cannot_L9, b_gapCount K, h1, bI_q, bX_q, bX_r, t_0, t_1, in_t, in_f, ck_p, if_pos, if_neg, if_true]
    rw [bit_or (p := wCannot (D 134) x) (wWhite (D 134) (g : Int) 0) x rfl (by omega), show (g : Int) + 1 = ((g + 1 : Nat) : Int) by omega, h', show g + 1 + m = g + (m + 1) by omega]
theorem r_cannot_L (H : Wi n (D 134)) {x : Int} (hx : 0 ≤ x ∧ x ≤ 2000) : ∀ (m fuel g : Nat) (E : mD), m < fuel → (g : Int) + m = max 0 (D 134 1 - 1) → Qw D E →
    ∃ E', F_X12_cannot_L23 x fuel (bitN (wCannot (D 134) x) g : Int) (g : Int) E = some ((bitN (wCannot (D 134) x) (g + m) : Int), E') ∧ Qw D E' := by
  have hr := H.ra
  intro m
  induction m with
  | zero =>
    intro fuel g E hf hm K
    obtain ⟨j, rfl⟩ : ∃ j, fuel = j + 1 := ⟨fuel - 1, by omega⟩
    exact ⟨E, by simp (disch := omega) only [F_X12_cannot_L23, s_gaps H K, Nat.add_zero, bI_q, bX_q, bX_r, t_0, t_1, in_t, in_f, ck_p, if_pos, if_neg, if_true], K⟩
  | succ m ih =>
    intro fuel g E hf hm K
    obtain ⟨j, rfl⟩ : ∃ j, fuel = j + 1 := ⟨fuel - 1, by omega⟩
    have hw := wWhite_r H (g := (g : Int)) (d := 0) (by omega) (by omega)
    obtain ⟨E1, h1, K1, -⟩ := s_whiteBy H K (g := (g : Int)) (d := 0) (by omega) (by omega)
    obtain ⟨E', h', K'⟩ := ih j (g + 1) E1 (by omega) (by omega) K1
    refine ⟨E', ?_, K'⟩
    simp (disch := omega) only [F_X12_cannot_L23, s_gaps H K, h1, bI_q, bX_q, bX_r, t_0, t_1, in_t, in_f, ck_p, if_pos, if_neg, if_true]
    have e := bitN_step (p := wCannot (D 134) x) (k := g) (by omega)
    rw [bit_le, show decide (x < wWhite (D 134) (g : Int) 0) = wCannot (D 134) x g from rfl, e, show (g : Int) + 1 = ((g + 1 : Nat) : Int) by omega, h', show g + 1 + m = g + (m + 1) by omega]
theorem q_cannot (R : CR n D) {x : Int} (hx : nR x) : Ans n D [0] (F_X11_cannot x) (F_X12_cannot x) := by
  have hr := R.wi.ra
  have hN := fN
  have hz : ∀ E, F_X12_cannot x E = F_X12_cannot x (pD E 133 0 0) := (fun E => by simp only [F_X12_cannot, pD_pD])
  by_cases a : 0 ≤ x ∧ x ≤ 2000
  · obtain ⟨E1, h1, K1⟩ := c_cannot_L a (max 0 (D 134 1 - 1)).toNat fuelN 0 D (by omega) (by omega) (Kq.rf R)
    refine Ans.ok (v := (bitN (wCannot (D 134) x) (0 + (max 0 (D 134 1 - 1)).toNat) : Int)) (by rw [F_X11_cannot, n_white_t hx a, bX_s]; exact h1) K1.ke hz ?_
    intro G e z
    have H : Wi n (G 134) := by rw [e]; exact R.wi
    rw [← e] at hr ⊢
    obtain ⟨F, h2, q2⟩ := r_cannot_L H a (max 0 (G 134 1 - 1)).toNat fuelN 0 G (by omega) (by omega) Qw.rf
    exact ⟨F, by simp (disch := omega) only [F_X12_cannot, z, noWhite_t hx a, bI_q, bX_q, bX_r, t_0, t_1, in_t, in_f, ck_p, if_pos, if_neg, if_true]; exact h2, q2⟩
  · exact no_white R (by simp (disch := omega) only [F_X11_cannot, n_white_f hx a, bI_q, bX_q, bX_r, t_0, t_1, in_t, in_f, ck_p, if_pos, if_neg, if_true]) hz 0 rfl (fun G e z => by simp (disch := omega) only [F_X12_cannot, z, noWhite_f hx a, bI_q, bX_q, bX_r, t_0, t_1, in_t, in_f, ck_p, if_pos, if_neg, if_true]; rfl)
theorem q_lacks1 (R : CR n D) {x : Int} (hx : nR x) (a : 0 ≤ x ∧ x ≤ 2000) : ∃ E, F_X11_lacks x D = some (.inl (wLack (D 134) x (D 134 1)), E) ∧ Ke n D E := by
  have hr := R.wi.ra
  have hc := R.ca
  obtain ⟨E1, h1, K1⟩ := c_lackingBy (Kq.rf R) (x := x) (k := D 134 1) (by omega) hx
  exact ⟨E1, by simp (disch := omega) only [F_X11_lacks, n_white_t hx a, hc.2.1, h1, bI_q, bX_q, bX_r, t_0, t_1, in_t, in_f, ck_p, if_pos, if_neg, if_true], K1.ke⟩
theorem q_lacks2 {G : mD} (H : Wi n (G 134)) (z : pD G 133 0 0 = G) {x : Int} (hx : nR x) (a : 0 ≤ x ∧ x ≤ 2000) : RefOk G (F_X12_lacks x) (wLack (G 134) x (G 134 1)) := by
  have hr := H.ra
  obtain ⟨F1, f1, q1, u1⟩ := r_laysWhites H Qw.rf
  exact ⟨F1, by simp (disch := omega) only [F_X12_lacks, z, noWhite_t hx a, f1, s_letters q1, r_shortBy H u1 q1, bI_q, bX_q, bX_r, t_0, t_1, in_t, in_f, ck_p, if_pos, if_neg, if_true], q1⟩
theorem q_lacks (R : CR n D) {x : Int} (hx : nR x) : Ans n D [0] (F_X11_lacks x) (F_X12_lacks x) := by
  have hz : ∀ E, F_X12_lacks x E = F_X12_lacks x (pD E 133 0 0) := (fun E => by simp only [F_X12_lacks, pD_pD])
  by_cases a : 0 ≤ x ∧ x ≤ 2000
  · obtain ⟨E1, h1, K1⟩ := q_lacks1 R hx a
    refine Ans.ok h1 K1 hz ?_
    intro G e z
    rw [← e]
    exact q_lacks2 (by rw [e]; exact R.wi) z hx a
  · exact no_white R (by simp (disch := omega) only [F_X11_lacks, n_white_f hx a, bI_q, bX_q, bX_r, t_0, t_1, in_t, in_f, ck_p, if_pos, if_neg, if_true]) hz 0 rfl (fun G e z => by simp (disch := omega) only [F_X12_lacks, z, noWhite_f hx a, bI_q, bX_q, bX_r, t_0, t_1, in_t, in_f, ck_p, if_pos, if_neg, if_true]; rfl)
theorem q_squeeze (R : CR n D) {x o : Int} (hx : nR x) (ho : nR o) : Ans n D [0] (F_X11_squeeze x o) (F_X12_squeeze x o) := by
  have hr := R.wi.ra
  have hc := R.ca
  have hz : ∀ E, F_X12_squeeze x o E = F_X12_squeeze x o (pD E 133 0 0) := (fun E => by simp only [F_X12_squeeze, pD_pD])
  by_cases a : 0 ≤ x ∧ x ≤ 2000
  · obtain ⟨E1, h1, K1⟩ := c_lackingBy (Kq.rf R) (x := x) (k := D 134 1) (by omega) hx
    have hl := wLack_r R.wi (x := x) (k := D 134 1) (by omega) (by omega)
    have hh := wHarm_r R.wi (wLack (D 134) x (D 134 1))
    obtain ⟨E2, h2, K2, T2⟩ := c_leastHarm K1.ke (a := wLack (D 134) x (D 134 1)) (by omega)
    by_cases b : wHarm (D 134) (wLack (D 134) x (D 134 1)) = 1000000
    · rw [if_pos b] at h2
      refine Ans.ok (v := -1) (by simp (disch := omega) only [F_X11_squeeze, n_white_t hx a, hc.2.1, h1, h2, bI_q, bX_q, bX_r, t_0, t_1, in_t, in_f, ck_p, if_pos, if_neg, if_true]) K2 hz ?_
      intro G e z
      have H : Wi n (G 134) := by rw [e]; exact R.wi
      rw [← e] at hr hl b
      obtain ⟨F1, f1, q1, u1⟩ := r_laysWhites H Qw.rf
      obtain ⟨F2, f2, q2, -⟩ := r_laysHarms H q1 (a := wLack (G 134) x (G 134 1)) (by omega)
      exact ⟨F2, by simp (disch := omega) only [F_X12_squeeze, z, noWhite_t hx a, f1, s_letters q1, r_shortBy H u1 q1, f2, b, bI_q, bX_q, bX_r, t_0, t_1, in_t, in_f, ck_p, if_pos, if_neg, if_true], q2⟩
    · rw [if_neg b] at h2
      by_cases c : o = 0
      · refine Ans.ok (v := wHarm (D 134) (wLack (D 134) x (D 134 1))) (by simp (disch := omega) only [F_X11_squeeze, n_white_t hx a, hc.2.1, h1, h2, bI_q, bX_q, bX_r, t_0, t_1, in_t, in_f, ck_p, if_pos, if_neg, if_true]) K2 hz ?_
        intro G e z
        have H : Wi n (G 134) := by rw [e]; exact R.wi
        rw [← e] at hr hl b hh ⊢
        obtain ⟨F1, f1, q1, u1⟩ := r_laysWhites H Qw.rf
        obtain ⟨F2, f2, q2, -⟩ := r_laysHarms H q1 (a := wLack (G 134) x (G 134 1)) (by omega)
        exact ⟨F2, by simp (disch := omega) only [F_X12_squeeze, z, noWhite_t hx a, f1, s_letters q1, r_shortBy H u1 q1, f2, bI_q, bX_q, bX_r, t_0, t_1, in_t, in_f, ck_p, if_pos, if_neg, if_true], q2⟩
      · have ha : wLack (D 134) x (D 134 1) < 43 := Classical.byContradiction fun y => b (by unfold wHarm; rw [if_neg y])
        obtain ⟨t1, t2⟩ := T2 ha
        have h3 := c_sqBits K2 t1 t2 ha (by omega)
        refine Ans.ok (v := wSqB (D 134) (max 0 (wLack (D 134) x (D 134 1)))) (by simp (disch := omega) only [F_X11_squeeze, n_white_t hx a, hc.2.1, h1, h2, h3, bI_q, bX_q, bX_r, t_0, t_1, in_t, in_f, ck_p, if_pos, if_neg, if_true]) K2 hz ?_
        intro G e z
        have H : Wi n (G 134) := by rw [e]; exact R.wi
        rw [← e] at hr hl b hh ha ⊢
        obtain ⟨F1, f1, q1, u1⟩ := r_laysWhites H Qw.rf
        obtain ⟨F2, f2, q2, T⟩ := r_laysHarms H q1 (a := wLack (G 134) x (G 134 1)) (by omega)
        have f3 := r_squeezes H q2 (T ha) (a := wLack (G 134) x (G 134 1)) (by omega) (by omega)
        exact ⟨F2, by simp (disch := omega) only [F_X12_squeeze, z, noWhite_t hx a, f1, s_letters q1, r_shortBy H u1 q1, f2, f3, bI_q, bX_q, bX_r, t_0, t_1, in_t, in_f, ck_p, if_pos, if_neg, if_true], q2⟩
  · exact no_white R (by simp (disch := omega) only [F_X11_squeeze, n_white_f hx a, bI_q, bX_q, bX_r, t_0, t_1, in_t, in_f, ck_p, if_pos, if_neg, if_true]) hz 0 rfl (fun G e z => by simp (disch := omega) only [F_X12_squeeze, z, noWhite_f hx a, bI_q, bX_q, bX_r, t_0, t_1, in_t, in_f, ck_p, if_pos, if_neg, if_true]; rfl)
/-- the first k from which on enough is dropped -/
def drF (f : Int → Int) : Int → Nat → Int
  | _, 0 => -1
  | k, m + 1 => if 0 < f k then drF f (k + 1) m else k
theorem c_dropped_L {x : Int} (hx : nR x) : ∀ (m fuel : Nat) (k : Int) (E : mD), m < fuel → 0 ≤ k → k + m = D 134 1 → Kq n D E →
    ∃ E', F_X11_dropped_L7 x fuel k E = some (.inl (drF (fun k => wLack (D 134) x (D 134 1 - k)) k m), E') ∧ Kq n D E' := by
  intro m
  induction m with
  | zero =>
    intro fuel k E hf hk hm K
    have hr := K.wi.ra
    have hc := K.ca
    obtain ⟨j, rfl⟩ : ∃ j, fuel = j + 1 := ⟨fuel - 1, by omega⟩
    exact ⟨E, by simp (disch := omega) only [F_X11_dropped_L7, drF, bI_q, bX_q, bX_r, t_0, t_1, in_t, in_f, ck_p, if_pos, if_neg, if_true], K⟩
  | succ m ih =>
    intro fuel k E hf hk hm K
    have hr := K.wi.ra
    have hc := K.ca
    obtain ⟨j, rfl⟩ : ∃ j, fuel = j + 1 := ⟨fuel - 1, by omega⟩
    have hl := wLack_r K.wi (x := x) (k := D 134 1 - k) (by omega) (by omega)
    obtain ⟨E1, h1, K1⟩ := c_lackingBy K (x := x) (k := D 134 1 - k) (by omega) hx
    by_cases z : 0 < wLack (D 134) x (D 134 1 - k)
    · obtain ⟨E', h', K'⟩ := ih j (k + 1) E1 (by omega) (by omega) (by omega) K1
      exact ⟨E', by simp (disch := omega) only [F_X11_dropped_L7, hc.2.1, h1, h', drF, bI_q, bX_q, bX_r, t_0, t_1, in_t, in_f, ck_p, if_pos, if_neg, if_true], K'⟩
    · exact ⟨E1, by simp (disch := omega) only [F_X11_dropped_L7, hc.2.1, h1, drF, bI_q, bX_q, bX_r, t_0, t_1, in_t, in_f, ck_p, if_pos, if_neg, if_true], K1⟩
theorem r_dropped_L (H : Wi n (D 134)) {E : mD} (U : WhR (D 134) E) (q : Qw D E) {x : Int} (hx : nR x) : ∀ (m fuel : Nat) (k : Int), m < fuel → 0 ≤ k → k + m = D 134 1 →
    F_X12_dropped_L25 x fuel k E = some (drF (fun k => wLack (D 134) x (D 134 1 - k)) k m, E) := by
  have hr := H.ra
  intro m
  induction m with
  | zero =>
    intro fuel k hf hk hm
    obtain ⟨j, rfl⟩ : ∃ j, fuel = j + 1 := ⟨fuel - 1, by omega⟩
    simp (disch := omega) only [F_X12_dropped_L25, s_letters q, drF, bI_q, bX_q, bX_r, t_0, t_1, in_t, in_f, ck_p, if_pos, if_neg, if_true]
  | succ m ih =>
    intro fuel k hf hk hm
    obtain ⟨j, rfl⟩ : ∃ j, fuel = j + 1 := ⟨fuel - 1, by omega⟩
    have hl := wLack_r H (x := x) (k := D 134 1 - k) (by omega) (by omega)
    by_cases z : 0 < wLack (D 134) x (D 134 1 - k)
    · simp (disch := omega) only [F_X12_dropped_L25, s_letters q, r_shortBy H U q, ih, drF, bI_q, bX_q, bX_r, t_0, t_1, in_t, in_f, ck_p, if_pos, if_neg, if_true]
    · simp (disch := omega) only [F_X12_dropped_L25, s_letters q, r_shortBy H U q, drF, bI_q, bX_q, bX_r, t_0, t_1, in_t, in_f, ck_p, if_pos, if_neg, if_true]
theorem q_dropped (R : CR n D) {x : Int} (hx : nR x) : Ans n D [0] (F_X11_dropped x) (F_X12_dropped x) := by
  have hr := R.wi.ra
  have hN := fN
  have hz : ∀ E, F_X12_dropped x E = F_X12_dropped x (pD E 133 0 0) := (fun E => by simp only [F_X12_dropped, pD_pD])
  by_cases a : 0 ≤ x ∧ x ≤ 2000
  · obtain ⟨E1, h1, K1⟩ := c_dropped_L hx (D 134 1).toNat fuelN 0 D (by omega) (by omega) (by omega) (Kq.rf R)
    refine Ans.ok (v := drF (fun k => wLack (D 134) x (D 134 1 - k)) 0 (D 134 1).toNat) (by simp (disch := omega) only [F_X11_dropped, n_white_t hx a, h1, bI_q, bX_q, bX_r, t_0, t_1, in_t, in_f, ck_p, if_pos, if_neg, if_true]) K1.ke hz ?_
    intro G e z
    have H : Wi n (G 134) := by rw [e]; exact R.wi
    rw [← e] at hr ⊢
    obtain ⟨F1, f1, q1, u1⟩ := r_laysWhites H Qw.rf
    exact ⟨F1, by simp (disch := omega) only [F_X12_dropped, z, noWhite_t hx a, f1, r_dropped_L H u1 q1 hx (G 134 1).toNat, bI_q, bX_q, bX_r, t_0, t_1, in_t, in_f, ck_p, if_pos, if_neg, if_true], q1⟩
  · exact no_white R (by simp (disch := omega) only [F_X11_dropped, n_white_f hx a, bI_q, bX_q, bX_r, t_0, t_1, in_t, in_f, ck_p, if_pos, if_neg, if_true]) hz 0 rfl (fun G e z => by simp (disch := omega) only [F_X12_dropped, z, noWhite_f hx a, bI_q, bX_q, bX_r, t_0, t_1, in_t, in_f, ck_p, if_pos, if_neg, if_true]; rfl)
theorem q_middle (R : CR n D) {o : Int} (ho : nR o) : AnsI n D (F_X11_middle o) (F_X12_middle o) := by
  have hr := R.wi.ra
  have hc := R.ca
  have hz : ∀ E, F_X12_middle o E = F_X12_middle o (pD E 133 0 0) := (fun E => by simp only [F_X12_middle, pD_pD])
  refine AnsI.ok (v := if o = 0 then wMid (D 134) else wMid (D 134) - D 134 2 / 2) (by simp (disch := omega) only [F_X11_middle, c_middleHair R, bI_q, bX_q, bX_r, t_0, t_1, in_t, in_f, ck_p, if_pos, if_neg, if_true]; rw [hc.2.2.1]) (Ke.rf R) hz ?_
  intro G e z
  have H : Wi n (G 134) := by rw [e]; exact R.wi
  rw [← e] at hr ⊢
  refine ⟨G, ?_, Qw.rf⟩
  simp (disch := omega) only [F_X12_middle, z, r_middleOf H, bI_q, bX_q, bX_r, t_0, t_1, in_t, in_f, ck_p, if_pos, if_neg, if_true]
  by_cases c : o = 0
  · rw [if_pos c, if_pos c, Int.sub_zero]
  · rw [if_neg c, if_neg c]
end PA3
