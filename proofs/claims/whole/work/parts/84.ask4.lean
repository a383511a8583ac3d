/-! QUESTIONS of reading, slants, ends, lookers -/
section PA4
variable {n : Int} {D : mD}
theorem q_read (R : CR n D) {x y : Int} (hx : nR x) (hy : nR y) : Ans n D [0] (F_X11_read x y) (F_X12_read x y) := by
  have hr := R.wi.ra
  have hc := R.ca
  have hz : ∀ E, F_X12_read x y E = F_X12_read x y (pD E 133 0 0) := (fun E => by simp only [F_X12_read, pD_pD])
  have h01 := wRead_01 (D 134) (D 134 5) x y
  by_cases a : 1 ≤ x ∧ x ≤ 60
  · by_cases b : 0 ≤ y ∧ y ≤ 9
    · obtain ⟨E1, h1, K1⟩ := c_isRead (Kq.rf R) (sh := D 134 5) (Y := x) (L := y) (by omega) (by omega) (by omega)
      have h2 := c_tightestSpace (Kq.rf R) (sh := D 134 5) (by omega)
      refine Ans.ok (v := wRead (D 134) (D 134 5) x y) (by simp (disch := omega) only [F_X11_read, n_yards_t hx a, n_light_t hy b, hc.2.2.2.2.2.2.2.2.2.2.2.1, h2, h1, bI_q, bX_q, bX_r, t_0, t_1, in_t, in_f, ck_p, if_pos, if_neg, if_true]) K1.ke hz ?_
      intro G e z
      have H : Wi n (G 134) := by rw [e]; exact R.wi
      rw [← e] at h01 ⊢
      obtain ⟨F, f2, q2⟩ := r_isRead H Qw.rf (Y := x) (L := y) (by omega) (by omega)
      refine ⟨F, ?_, q2⟩
      obtain h01 | h01 := h01
      · rw [h01] at f2 ⊢
        simp (disch := omega) only [F_X12_read, z, noLight_t hx hy a b, f2, bI_q, bX_q, bX_r, t_0, t_1, in_t, in_f, ck_p, if_pos, if_neg, if_true]
      · rw [h01] at f2 ⊢
        simp (disch := omega) only [F_X12_read, z, noLight_t hx hy a b, f2, bI_q, bX_q, bX_r, t_0, t_1, in_t, in_f, ck_p, if_pos, if_neg, if_true]
    · refine Ans.no 0 rfl (i := 0) (by simp (disch := omega) only [F_X11_read, n_yards_t hx a, n_light_f hy b, bI_q, bX_q, bX_r, t_0, t_1, in_t, in_f, ck_p, if_pos, if_neg, if_true]) (Ke.rf R) hz ?_
      intro G e z
      exact ⟨0, G, by simp (disch := omega) only [F_X12_read, z, noLight_f hx hy (Or.inr b), bI_q, bX_q, bX_r, t_0, t_1, in_t, in_f, ck_p, if_pos, if_neg, if_true]; rfl, Qw.rf⟩
  · refine Ans.no 0 rfl (i := 0) (by simp (disch := omega) only [F_X11_read, n_yards_f hx a, bI_q, bX_q, bX_r, t_0, t_1, in_t, in_f, ck_p, if_pos, if_neg, if_true]) (Ke.rf R) hz ?_
    intro G e z
    exact ⟨0, G, by simp (disch := omega) only [F_X12_read, z, noLight_f hx hy (Or.inl a), bI_q, bX_q, bX_r, t_0, t_1, in_t, in_f, ck_p, if_pos, if_neg, if_true]; rfl, Qw.rf⟩
theorem q_far (R : CR n D) {y : Int} (hy : nR y) : Ans n D [0] (F_X11_far y) (F_X12_far y) := by
  have hz : ∀ E, F_X12_far y E = F_X12_far y (pD E 133 0 0) := (fun E => by simp only [F_X12_far, pD_pD])
  by_cases b : 0 ≤ y ∧ y ≤ 9
  · obtain ⟨E1, h1, K1⟩ := c_farthestBy (Kq.rf R) (L := y) (by omega)
    refine Ans.ok (v := wFar (D 134) y) (by simp (disch := omega) only [F_X11_far, n_light_t hy b, h1, bI_q, bX_q, bX_r, t_0, t_1, in_t, in_f, ck_p, if_pos, if_neg, if_true]) K1.ke hz ?_
    intro G e z
    have H : Wi n (G 134) := by rw [e]; exact R.wi
    rw [← e]
    obtain ⟨F, f2, q2⟩ := r_farBy H Qw.rf (L := y) (by omega)
    exact ⟨F, by simp (disch := omega) only [F_X12_far, F_X12_far_j21, z, f2, bI_q, bX_q, bX_r, t_0, t_1, in_t, in_f, ck_p, if_pos, if_neg, if_true], q2⟩
  · exact no_white R (by simp (disch := omega) only [F_X11_far, n_light_f hy b, bI_q, bX_q, bX_r, t_0, t_1, in_t, in_f, ck_p, if_pos, if_neg, if_true]) hz 0 rfl (fun G e z => by simp (disch := omega) only [F_X12_far, F_X12_far_j21, z, bI_q, bX_q, bX_r, t_0, t_1, in_t, in_f, ck_p, if_pos, if_neg, if_true]; rfl)
def wRunP (w : Int → Int) (Y c : Int) : Nat → Bool := fun g => decide (c * wLeast w (w 5) (g : Int) (wL w (g : Int) 3) < Y)
theorem c_runs_L {Y c : Int} (hY : 0 ≤ Y ∧ Y ≤ 60) (hc : 0 ≤ c ∧ c ≤ 99) {E : mD} (K : Kq n D E) : ∀ (m fuel g : Nat), m < fuel → (g : Int) + m = max 0 (D 134 1 - 1) →
    F_X11_runs_L26 Y c fuel (bitN (wRunP (D 134) Y c) g : Int) (g : Int) E = some (.inl (bitN (wRunP (D 134) Y c) (g + m) : Int), E) := by
  have hr := K.wi.ra
  have hca := K.ca
  intro m
  induction m with
  | zero =>
    intro fuel g hf hm
    obtain ⟨j, rfl⟩ : ∃ j, fuel = j + 1 := ⟨fuel - 1, by omega⟩
    simp (disch := omega) only [F_X11_runs_L26, b_gapCount K, Nat.add_zero, bI_q, bX_q, bX_r, t_0, t_1, in_t, in_f, ck_p, if_pos, if_neg, if_true]
  | succ m ih =>
    intro fuel g hf hm
    obtain ⟨j, rfl⟩ : ∃ j, fuel = j + 1 := ⟨fuel - 1, by omega⟩
    have hl := K.wi.lta (l := g) (by omega) (by omega)
    have hw := wLeast_r K.wi (sh := D 134 5) (g := g) (d := wL (D 134) g 3) (by omega) (by omega) (by omega)
    have hm2 := mul_r hc.1 hc.2 hw.1 hw.2
    simp (disch := omega) only [F_X11_runs_L26, b_gapCount K, b_ds K, hca.2.2.2.2.2.2.2.2.2.2.2.1, b_leastSpace K, bI_q, bX_q, bX_r, t_0, t_1, in_t, in_f, ck_p, if_pos, if_neg, if_true]
    rw [bit_or (p := wRunP (D 134) Y c) Y _ rfl (by omega), show (g : Int) + 1 = ((g + 1 : Nat) : Int) by omega, ih j (g + 1) (by omega) (by omega), show g + 1 + m = g + (m + 1) by omega]
theorem q_runs (R : CR n D) {x y : Int} (hx : nR x) (hy : nR y) : Ans n D [0] (F_X11_runs x y) (F_X12_runs x y) := by
  have hr := R.wi.ra
  have hN := fN
  have hz : ∀ E, F_X12_runs x y E = F_X12_runs x y (pD E 133 0 0) := (fun E => by simp only [F_X12_runs, pD_pD])
  by_cases a : 1 ≤ x ∧ x ≤ 60
  · by_cases b : 0 ≤ y ∧ y ≤ 9
    · obtain ⟨E1, h1, K1⟩ := c_clearness (Kq.rf R) (Y := x) (L := y) (by omega) (by omega)
      have h2 := c_runs_L (Y := x) (c := wClear (D 134) x y) (by omega) (wClear_r R.wi x y) K1 (max 0 (D 134 1 - 1)).toNat fuelN 0 (by omega) (by omega)
      refine Ans.ok (v := (bitN (wRunP (D 134) x (wClear (D 134) x y)) (0 + (max 0 (D 134 1 - 1)).toNat) : Int)) (by simp (disch := omega) only [F_X11_runs, n_yards_t hx a, n_light_t hy b, h1, bI_q, bX_q, bX_r, t_0, t_1, in_t, in_f, ck_p, if_pos, if_neg, if_true]; exact h2) K1.ke hz ?_
      intro G e z
      have H : Wi n (G 134) := by rw [e]; exact R.wi
      rw [← e]
      obtain ⟨F, f2, q2⟩ := r_runsBy H Qw.rf (Y := x) (L := y) (by omega) (by omega)
      refine ⟨F, ?_, q2⟩
      simp (disch := omega) only [F_X12_runs, z, noLight_t hx hy a b, f2, bI_q, bX_q, bX_r, t_0, t_1, in_t, in_f, ck_p, if_pos, if_neg, if_true]
      rw [Nat.zero_add]
      rfl
    · refine Ans.no 0 rfl (i := 0) (by simp (disch := omega) only [F_X11_runs, n_yards_t hx a, n_light_f hy b, bI_q, bX_q, bX_r, t_0, t_1, in_t, in_f, ck_p, if_pos, if_neg, if_true]) (Ke.rf R) hz ?_
      intro G e z
      exact ⟨0, G, by simp (disch := omega) only [F_X12_runs, z, noLight_f hx hy (Or.inr b), bI_q, bX_q, bX_r, t_0, t_1, in_t, in_f, ck_p, if_pos, if_neg, if_true]; rfl, Qw.rf⟩
  · refine Ans.no 0 rfl (i := 0) (by simp (disch := omega) only [F_X11_runs, n_yards_f hx a, bI_q, bX_q, bX_r, t_0, t_1, in_t, in_f, ck_p, if_pos, if_neg, if_true]) (Ke.rf R) hz ?_
    intro G e z
    exact ⟨0, G, by simp (disch := omega) only [F_X12_runs, z, noLight_f hx hy (Or.inl a), bI_q, bX_q, bX_r, t_0, t_1, in_t, in_f, ck_p, if_pos, if_neg, if_true]; rfl, Qw.rf⟩
theorem c_lamp_L : ∀ (m fuel : Nat) (b d v : Int) (E : mD), m < fuel → 0 ≤ d → d + m = 10 → 0 ≤ b → b ≤ 9 → v = wFar (D 134) b → Kq n D E →
    ∃ E', F_X11_lamp_L6 fuel b v d E = some (nrF (fun L => - wFar (D 134) L) b d m, E') ∧ Kq n D E' := by
  intro m
  induction m with
  | zero =>
    intro fuel b d v E hf hd hm b0 b1 hv K
    obtain ⟨j, rfl⟩ : ∃ j, fuel = j + 1 := ⟨fuel - 1, by omega⟩
    exact ⟨E, by simp (disch := omega) only [F_X11_lamp_L6, nrF, bI_q, bX_q, bX_r, t_0, t_1, in_t, in_f, ck_p, if_pos, if_neg, if_true], K⟩
  | succ m ih =>
    intro fuel b d v E hf hd hm b0 b1 hv K
    obtain ⟨j, rfl⟩ : ∃ j, fuel = j + 1 := ⟨fuel - 1, by omega⟩
    have r1 := wFar_r (D 134) b
    have r2 := wFar_r (D 134) d
    obtain ⟨E1, h1, K1⟩ := c_farthestBy K (L := d) (by omega)
    by_cases q : wFar (D 134) d ≤ wFar (D 134) b
    · obtain ⟨E', h', K'⟩ := ih j b (d + 1) v E1 (by omega) (by omega) (by omega) (by omega) (by omega) hv K1
      refine ⟨E', ?_, K'⟩
      rw [nrF]
      simp (disch := omega) only [F_X11_lamp_L6, h1, h', bI_q, bX_q, bX_r, t_0, t_1, in_t, in_f, ck_p, if_pos, if_neg, if_true]
    · obtain ⟨E', h', K'⟩ := ih j d (d + 1) (wFar (D 134) d) E1 (by omega) (by omega) (by omega) (by omega) (by omega) rfl K1
      refine ⟨E', ?_, K'⟩
      rw [nrF]
      simp (disch := omega) only [F_X11_lamp_L6, h1, h', bI_q, bX_q, bX_r, t_0, t_1, in_t, in_f, ck_p, if_pos, if_neg, if_true]
theorem r_lamp_L (H : Wi n (D 134)) : ∀ (m fuel : Nat) (b d : Int) (E : mD), m < fuel → 0 ≤ d → d + m = 10 → 0 ≤ b → b ≤ 9 → Qw D E →
    ∃ E', F_X12_lamp_L9 fuel b d E = some (nrF (fun L => - wFar (D 134) L) b d m, E') ∧ Qw D E' := by
  intro m
  induction m with
  | zero =>
    intro fuel b d E hf hd hm b0 b1 K
    obtain ⟨j, rfl⟩ : ∃ j, fuel = j + 1 := ⟨fuel - 1, by omega⟩
    exact ⟨E, by simp (disch := omega) only [F_X12_lamp_L9, nrF, bI_q, bX_q, bX_r, t_0, t_1, in_t, in_f, ck_p, if_pos, if_neg, if_true], K⟩
  | succ m ih =>
    intro fuel b d E hf hd hm b0 b1 K
    obtain ⟨j, rfl⟩ : ∃ j, fuel = j + 1 := ⟨fuel - 1, by omega⟩
    have r1 := wFar_r (D 134) b
    have r2 := wFar_r (D 134) d
    obtain ⟨E1, h1, K1⟩ := r_farBy H K (L := d) (by omega)
    obtain ⟨E2, h2, K2⟩ := r_farBy H K1 (L := b) (by omega)
    by_cases q : wFar (D 134) d ≤ wFar (D 134) b
    · obtain ⟨E', h', K'⟩ := ih j b (d + 1) E2 (by omega) (by omega) (by omega) (by omega) (by omega) K2
      refine ⟨E', ?_, K'⟩
      rw [nrF]
      simp (disch := omega) only [F_X12_lamp_L9, h1, h2, h', bI_q, bX_q, bX_r, t_0, t_1, in_t, in_f, ck_p, if_pos, if_neg, if_true]
    · obtain ⟨E', h', K'⟩ := ih j d (d + 1) E2 (by omega) (by omega) (by omega) (by omega) (by omega) K2
      refine ⟨E', ?_, K'⟩
      rw [nrF]
      simp (disch := omega) only [F_X12_lamp_L9, h1, h2, h', bI_q, bX_q, bX_r, t_0, t_1, in_t, in_f, ck_p, if_pos, if_neg, if_true]
theorem q_lamp (R : CR n D) : AnsI n D F_X11_lamp F_X12_lamp := by
  have hN := fN
  have hz : ∀ E, F_X12_lamp E = F_X12_lamp (pD E 133 0 0) := (fun E => by simp only [F_X12_lamp, pD_pD])
  obtain ⟨J, hJ⟩ : ∃ J, fuelN = J + 1 := ⟨999999, rfl⟩
  have r0 := wFar_r (D 134) 0
  obtain ⟨E0, h0, K0⟩ := c_farthestBy (Kq.rf R) (L := 0) (by omega)
  obtain ⟨E1, h1, K1⟩ := c_lamp_L (n := n) (D := D) 9 J 0 1 (wFar (D 134) 0) E0 (by omega) (by omega) (by omega) (by omega) (by omega) rfl K0
  refine AnsI.ok (v := nrF (fun L => - wFar (D 134) L) 0 1 9) ?_ K1.ke hz ?_
  · rw [F_X11_lamp, hJ, F_X11_lamp_L6, ck_p (by decide), if_neg (by decide), h0, bI_q, ck_p (by omega), ck_p (by decide), if_neg (by omega), if_neg (by omega)]
    exact h1
  intro G e z
  have H : Wi n (G 134) := by rw [e]; exact R.wi
  rw [← e]
  obtain ⟨F, f2, q2⟩ := r_lamp_L H 9 fuelN 0 1 G (by omega) (by omega) (by omega) (by omega) (by omega) Qw.rf
  exact ⟨F, by rw [F_X12_lamp, z, f2], q2⟩
theorem q_aslant (R : CR n D) {y : Int} (hy : nR y) : Ans n D [0] (F_X11_aslant y) (F_X12_aslant y) := by
  have hz : ∀ E, F_X12_aslant y E = F_X12_aslant y (pD E 133 0 0) := (fun E => by simp only [F_X12_aslant, pD_pD])
  by_cases b : 0 ≤ y ∧ y ≤ 9
  · obtain ⟨E1, h1, K1⟩ := c_slant (Kq.rf R) (a := y) (by omega)
    refine Ans.ok (v := wSl (D 134) y) (by simp (disch := omega) only [F_X11_aslant, h1, bI_q, bX_q, bX_r, t_0, t_1, in_t, in_f, ck_p, if_pos, if_neg, if_true]) K1.ke hz ?_
    intro G e z
    have H : Wi n (G 134) := by rw [e]; exact R.wi
    rw [← e]
    obtain ⟨F, f2, q2⟩ := r_seenFrom H Qw.rf (a := y) (by omega)
    exact ⟨F, by simp (disch := omega) only [F_X12_aslant, F_X12_aslant_j21, z, f2, bI_q, bX_q, bX_r, t_0, t_1, in_t, in_f, ck_p, if_pos, if_neg, if_true]; rfl, q2⟩
  · refine no_white R ?_ hz 0 rfl (fun G e z => by simp (disch := omega) only [F_X12_aslant, F_X12_aslant_j21, z, bI_q, bX_q, bX_r, t_0, t_1, in_t, in_f, ck_p, if_pos, if_neg, if_true]; rfl)
    by_cases s : y < 0
    · simp (disch := omega) only [F_X11_aslant, F_X11_aslant_j10, bI_q, bX_q, bX_r, t_0, t_1, in_t, in_f, ck_p, if_pos, if_neg, if_true]
    · simp (disch := omega) only [F_X11_aslant, F_X11_aslant_j10, bI_q, bX_q, bX_r, t_0, t_1, in_t, in_f, ck_p, if_pos, if_neg, if_true]
theorem c_from_L : ∀ (m fuel : Nat) (b d v : Int) (E : mD), m < fuel → 0 ≤ d → d + m = 10 → 0 ≤ b → b ≤ 9 → v = wSl (D 134) b → Kq n D E →
    ∃ E', F_X11_from_L20 fuel b v d E = some (nrF (fun a => wSl (D 134) a) b d m, E') ∧ Kq n D E' := by
  intro m
  induction m with
  | zero =>
    intro fuel b d v E hf hd hm b0 b1 hv K
    obtain ⟨j, rfl⟩ : ∃ j, fuel = j + 1 := ⟨fuel - 1, by omega⟩
    exact ⟨E, by simp (disch := omega) only [F_X11_from_L20, nrF, bI_q, bX_q, bX_r, t_0, t_1, in_t, in_f, ck_p, if_pos, if_neg, if_true], K⟩
  | succ m ih =>
    intro fuel b d v E hf hd hm b0 b1 hv K
    obtain ⟨j, rfl⟩ : ∃ j, fuel = j + 1 := ⟨fuel - 1, by omega⟩
    have r1 := wSl_r K.wi (a := b) (by omega)
    have r2 := wSl_r K.wi (a := d) (by omega)
    obtain ⟨E1, h1, K1⟩ := c_slant K (a := d) (by omega)
    by_cases q : wSl (D 134) b ≤ wSl (D 134) d
    · obtain ⟨E', h', K'⟩ := ih j b (d + 1) v E1 (by omega) (by omega) (by omega) (by omega) (by omega) hv K1
      refine ⟨E', ?_, K'⟩
      rw [nrF]
      simp (disch := omega) only [F_X11_from_L20, h1, h', bI_q, bX_q, bX_r, t_0, t_1, in_t, in_f, ck_p, if_pos, if_neg, if_true]
    · obtain ⟨E', h', K'⟩ := ih j d (d + 1) (wSl (D 134) d) E1 (by omega) (by omega) (by omega) (by omega) (by omega) rfl K1
      refine ⟨E', ?_, K'⟩
      rw [nrF]
      simp (disch := omega) only [F_X11_from_L20, h1, h', bI_q, bX_q, bX_r, t_0, t_1, in_t, in_f, ck_p, if_pos, if_neg, if_true]
theorem r_from_L (H : Wi n (D 134)) : ∀ (m fuel : Nat) (b d : Int) (E : mD), m < fuel → 0 ≤ d → d + m = 10 → 0 ≤ b → b ≤ 9 → Qw D E →
    ∃ E', F_X12_from_L9 fuel b d E = some (nrF (fun a => wSl (D 134) a) b d m, E') ∧ Qw D E' := by
  intro m
  induction m with
  | zero =>
    intro fuel b d E hf hd hm b0 b1 K
    obtain ⟨j, rfl⟩ : ∃ j, fuel = j + 1 := ⟨fuel - 1, by omega⟩
    exact ⟨E, by simp (disch := omega) only [F_X12_from_L9, nrF, bI_q, bX_q, bX_r, t_0, t_1, in_t, in_f, ck_p, if_pos, if_neg, if_true], K⟩
  | succ m ih =>
    intro fuel b d E hf hd hm b0 b1 K
    obtain ⟨j, rfl⟩ : ∃ j, fuel = j + 1 := ⟨fuel - 1, by omega⟩
    have r1 := wSl_r H (a := b) (by omega)
    have r2 := wSl_r H (a := d) (by omega)
    obtain ⟨E1, h1, K1⟩ := r_seenFrom H K (a := d) (by omega)
    obtain ⟨E2, h2, K2⟩ := r_seenFrom H K1 (a := b) (by omega)
    change F_X12_seenFrom d E = some (wSl (D 134) d, E1) at h1
    change F_X12_seenFrom b E1 = some (wSl (D 134) b, E2) at h2
    by_cases q : wSl (D 134) b ≤ wSl (D 134) d
    · obtain ⟨E', h', K'⟩ := ih j b (d + 1) E2 (by omega) (by omega) (by omega) (by omega) (by omega) K2
      refine ⟨E', ?_, K'⟩
      rw [nrF]
      simp (disch := omega) only [F_X12_from_L9, h1, h2, h', bI_q, bX_q, bX_r, t_0, t_1, in_t, in_f, ck_p, if_pos, if_neg, if_true]
    · obtain ⟨E', h', K'⟩ := ih j d (d + 1) E2 (by omega) (by omega) (by omega) (by omega) (by omega) K2
      refine ⟨E', ?_, K'⟩
      rw [nrF]
      simp (disch := omega) only [F_X12_from_L9, h1, h2, h', bI_q, bX_q, bX_r, t_0, t_1, in_t, in_f, ck_p, if_pos, if_neg, if_true]
theorem q_from (R : CR n D) : AnsI n D F_X11_from F_X12_from := by
  have hN := fN
  have hz : ∀ E, F_X12_from E = F_X12_from (pD E 133 0 0) := (fun E => by simp only [F_X12_from, pD_pD])
  obtain ⟨E0, h0, K0⟩ := c_slant (Kq.rf R) (a := 0) (by omega)
  obtain ⟨E1, h1, K1⟩ := c_from_L (n := n) (D := D) 9 fuelN 0 1 (wSl (D 134) 0) E0 (by omega) (by omega) (by omega) (by omega) (by omega) rfl K0
  refine AnsI.ok (v := nrF (fun a => wSl (D 134) a) 0 1 9) (by rw [F_X11_from, h0, bI_q, h1]) K1.ke hz ?_
  intro G e z
  have H : Wi n (G 134) := by rw [e]; exact R.wi
  rw [← e]
  obtain ⟨F, f2, q2⟩ := r_from_L H 9 fuelN 0 1 G (by omega) (by omega) (by omega) (by omega) (by omega) Qw.rf
  exact ⟨F, by rw [F_X12_from, z, f2], q2⟩
theorem q_ends (R : CR n D) {d : Int} (hd : nR d) : Ans n D [0] (F_X11_ends d) (F_X12_ends d) := by
  have hr := R.wi.ra
  have hc := R.ca
  have hz : ∀ E, F_X12_ends d E = F_X12_ends d (pD E 133 0 0) := (fun E => by simp only [F_X12_ends, pD_pD])
  by_cases a : 0 ≤ d ∧ d ≤ 30
  · by_cases b : 2 ≤ D 134 1
    · refine Ans.ok (v := wRoom (D 134) 0 - d * (D 134 1 - 2)) (by simp (disch := omega) only [F_X11_ends, n_distance_t hd a, hc.2.1, c_freeHairs R, bI_q, bX_q, bX_r, t_0, t_1, in_t, in_f, ck_p, if_pos, if_neg, if_true]) (Ke.rf R) hz ?_
      intro G e z
      have H : Wi n (G 134) := by rw [e]; exact R.wi
      rw [← e] at hr b ⊢
      exact ⟨G, by simp (disch := omega) only [F_X12_ends, F_X12_ends_j21, z, F_X12_letters, r_room H, bI_q, bX_q, bX_r, t_0, t_1, in_t, in_f, ck_p, if_pos, if_neg, if_true], Qw.rf⟩
    · refine Ans.ok (v := -999) (by simp (disch := omega) only [F_X11_ends, n_distance_t hd a, hc.2.1, bI_q, bX_q, bX_r, t_0, t_1, in_t, in_f, ck_p, if_pos, if_neg, if_true]) (Ke.rf R) hz ?_
      intro G e z
      have H : Wi n (G 134) := by rw [e]; exact R.wi
      rw [← e] at hr b
      exact ⟨G, by simp (disch := omega) only [F_X12_ends, F_X12_ends_j21, z, F_X12_letters, bI_q, bX_q, bX_r, t_0, t_1, in_t, in_f, ck_p, if_pos, if_neg, if_true], Qw.rf⟩
  · exact no_white R (by simp (disch := omega) only [F_X11_ends, n_distance_f hd a, bI_q, bX_q, bX_r, t_0, t_1, in_t, in_f, ck_p, if_pos, if_neg, if_true]) hz 0 rfl (fun G e z => by simp (disch := omega) only [F_X12_ends, F_X12_ends_j21, z, bI_q, bX_q, bX_r, t_0, t_1, in_t, in_f, ck_p, if_pos, if_neg, if_true]; rfl)
def wEven (w : Int → Int) (u k : Int) : Int := if w (227 + k) ≤ u then 0 else 1
theorem half_two {a b : Int} (ha : 0 ≤ a ∧ a ≤ 8) (hb : 0 ≤ b ∧ b ≤ 8) : a * (a - 1) / 2 + b * (b - 1) / 2 = (a * (a - 1) + b * (b - 1)) / 2 ∧ 0 ≤ a * (a - 1) ∧ a * (a - 1) ≤ 56 ∧ 0 ≤ b * (b - 1) ∧ b * (b - 1) ≤ 56 := by
  have e : ∀ a : Int, 0 ≤ a ∧ a ≤ 8 → ∃ k, a * (a - 1) = 2 * k ∧ 0 ≤ k ∧ k ≤ 28 := by
    intro a h
    obtain h | h | h | h | h | h | h | h | h : a = 0 ∨ a = 1 ∨ a = 2 ∨ a = 3 ∨ a = 4 ∨ a = 5 ∨ a = 6 ∨ a = 7 ∨ a = 8 := by omega
    all_goals subst h
    · exact ⟨0, by decide, by decide, by decide⟩
    · exact ⟨0, by decide, by decide, by decide⟩
    · exact ⟨1, by decide, by decide, by decide⟩
    · exact ⟨3, by decide, by decide, by decide⟩
    · exact ⟨6, by decide, by decide, by decide⟩
    · exact ⟨10, by decide, by decide, by decide⟩
    · exact ⟨15, by decide, by decide, by decide⟩
    · exact ⟨21, by decide, by decide, by decide⟩
    · exact ⟨28, by decide, by decide, by decide⟩
  obtain ⟨k, e1, k0, k1⟩ := e a ha
  obtain ⟨l, e2, l0, l1⟩ := e b hb
  rw [e1, e2]
  omega
theorem even_r (w : Int → Int) (u : Int) : ∀ (m : Nat) (k : Int), 0 ≤ sumF (wEven w u) k m ∧ sumF (wEven w u) k m ≤ m := by
  intro m k
  have := sumF_bounds (f := wEven w u) (lo := 0) (hi := 1) m k (fun j _ _ => by unfold wEven; split <;> omega)
  omega
theorem c_lookers_L {o u : Int} (ho : nR o) (hu : nR u) {E : mD} (K : Kq n D E) : ∀ (m fuel : Nat) (k s : Int), m < fuel → 0 ≤ k → k + m = D 134 8 → 0 ≤ s → s ≤ k →
    F_X11_lookers_L21 o u fuel s k E = some (if o = 0 then s + sumF (wEven (D 134) u) k m else ((s + sumF (wEven (D 134) u) k m) * (s + sumF (wEven (D 134) u) k m - 1) + (D 134 8 - (s + sumF (wEven (D 134) u) k m)) * (D 134 8 - (s + sumF (wEven (D 134) u) k m) - 1)) / 2, E) := by
  have hr := K.wi.ra
  have hc := K.ca
  intro m
  induction m with
  | zero =>
    intro fuel k s hf hk hm s0 s1
    obtain ⟨j, rfl⟩ : ∃ j, fuel = j + 1 := ⟨fuel - 1, by omega⟩
    obtain ⟨e, a0, a1, b0, b1⟩ := half_two (a := s) (b := D 134 8 - s) (by omega) (by omega)
    rw [F_X11_lookers_L21, hc.2.2.2.2.2.2.2.1, ck_p (by omega), ck_p (by omega), if_pos (by omega), ck_p ho, ck_p (fun _ => by omega), ck_p (fun _ => by omega), ck_p (fun _ => by omega), ck_p (fun _ => by omega), e, sumF, Int.add_zero]
  | succ m ih =>
    intro fuel k s hf hk hm s0 s1
    obtain ⟨j, rfl⟩ : ∃ j, fuel = j + 1 := ⟨fuel - 1, by omega⟩
    have hl := K.wi.lk (j := k) (by omega) (by omega)
    have e11 : E 11 k = D 134 (227 + k) := by rw [K.2.lk (j := k) (by omega) (by rw [K.w]; omega), K.w]
    rw [F_X11_lookers_L21, hc.2.2.2.2.2.2.2.1, ck_p (by omega), ck_p (by omega), if_neg (by omega), ck_p (by omega), ck_p hu, e11, ck_p (by omega), sumF]
    by_cases z : D 134 (227 + k) ≤ u
    · rw [if_pos z, ih j (k + 1) s (by omega) (by omega) (by omega) s0 (by omega), show wEven (D 134) u k = 0 from if_pos z, Int.zero_add]
    · rw [if_neg z, ih j (k + 1) (s + 1) (by omega) (by omega) (by omega) (by omega) (by omega), show wEven (D 134) u k = 1 from if_neg z, Int.add_assoc s 1]
theorem r_lookers_L (H : Wi n (D 134)) {o u : Int} (ho : nR o) (hu : nR u) {E : mD} (q : Qw D E) : ∀ (m fuel : Nat) (k s : Int), m < fuel → 0 ≤ k → k + m = D 134 8 → 0 ≤ s → s ≤ k →
    F_X12_lookers_L15 o u fuel s k E = some (if o = 0 then s + sumF (wEven (D 134) u) k m else ((s + sumF (wEven (D 134) u) k m) * (s + sumF (wEven (D 134) u) k m - 1) + (D 134 8 - (s + sumF (wEven (D 134) u) k m)) * (D 134 8 - (s + sumF (wEven (D 134) u) k m) - 1)) / 2, E) := by
  have hr := H.ra
  intro m
  induction m with
  | zero =>
    intro fuel k s hf hk hm s0 s1
    obtain ⟨j, rfl⟩ : ∃ j, fuel = j + 1 := ⟨fuel - 1, by omega⟩
    obtain ⟨e, a0, a1, b0, b1⟩ := half_two (a := s) (b := D 134 8 - s) (by omega) (by omega)
    rw [F_X12_lookers_L15, q.w, ck_p (by omega), ck_p (by omega), if_pos (by omega), ck_p ho, ck_p (fun _ => by omega), ck_p (fun _ => by omega), sumF, Int.add_zero]
  | succ m ih =>
    intro fuel k s hf hk hm s0 s1
    obtain ⟨j, rfl⟩ : ∃ j, fuel = j + 1 := ⟨fuel - 1, by omega⟩
    have hl := H.lk (j := k) (by omega) (by omega)
    rw [F_X12_lookers_L15, q.w, ck_p (by omega), ck_p (by omega), if_neg (by omega), ck_p (by omega), ck_p hu, ck_p (by omega), sumF]
    by_cases z : D 134 (227 + k) ≤ u
    · rw [if_pos z, ih j (k + 1) (s + 0) (by omega) (by omega) (by omega) (by omega) (by omega), show wEven (D 134) u k = 0 from if_pos z, Int.zero_add, Int.add_zero]
    · rw [if_neg z, ih j (k + 1) (s + 1) (by omega) (by omega) (by omega) (by omega) (by omega), show wEven (D 134) u k = 1 from if_neg z, Int.add_assoc s 1]
theorem q_lookers (R : CR n D) {o : Int} (ho : nR o) : AnsI n D (F_X11_lookers o) (F_X12_lookers o) := by
  have hr := R.wi.ra
  have hN := fN
  have hu := wUn_r R.wi
  have hz : ∀ E, F_X12_lookers o E = F_X12_lookers o (pD E 133 0 0) := (fun E => by simp only [F_X12_lookers, pD_pD])
  obtain ⟨E0, h0, K0⟩ := c_slant (Kq.rf R) (a := 0) (by omega)
  rw [wSl_0 R.wi] at h0
  have h1 := c_lookers_L ho (u := wUn (D 134)) (by omega) K0 (D 134 8).toNat fuelN 0 0 (by omega) (by omega) (by omega) (by omega) (by omega)
  refine AnsI.ok (by rw [F_X11_lookers, h0, bI_q, h1]) K0.ke hz ?_
  intro G e z
  have H : Wi n (G 134) := by rw [e]; exact R.wi
  rw [← e] at hr hu ⊢
  obtain ⟨F, f2, q2⟩ := r_unevenNow H Qw.rf
  have f3 := r_lookers_L H ho (u := wUn (G 134)) (by omega) q2 (G 134 8).toNat fuelN 0 0 (by omega) (by omega) (by omega) (by omega) (by omega)
  exact ⟨F, by rw [F_X12_lookers, z, f2, bI_q, f3], q2⟩
end PA4
