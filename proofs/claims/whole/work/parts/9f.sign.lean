/-! LINES of the shop: signs -/
section PW5
variable {n : Int} {B W0 f f0 g : Int → Int} {L p q b s : Int} {C D E R : mD}
theorem rnF_in {k : Int} : ∀ (m : Nat) (p j : Int), p ≤ j → j < rnF B k p m → kd (B j) = k := by
  intro m
  induction m with
  | zero => intro p j h1 h2; rw [rnF] at h2; omega
  | succ m ih =>
    intro p j h1 h2
    rw [rnF] at h2
    by_cases y : kd (B p) = k
    · rw [if_pos y] at h2
      by_cases z : j = p
      · rw [z]; exact y
      · exact ih (p + 1) j (by omega) h2
    · rw [if_neg y] at h2; omega
theorem fig_r {S : Int} (h : kd (B S) = 2) : 48 ≤ B S ∧ B S ≤ 57 := by
  unfold kd at h
  by_cases x : 97 ≤ B S ∧ B S ≤ 122
  · rw [if_pos x] at h; omega
  · rw [if_neg x] at h
    by_cases x2 : 48 ≤ B S ∧ B S ≤ 57
    · exact x2
    · rw [if_neg x2] at h; omega
/-- five figures at p -/
def fig5 (B : Int → Int) (L p : Int) : Bool := decide (nd B L p - sk B L p = 5)
theorem fig5_in (h : fig5 B L p = true) {j : Int} (h0 : 0 ≤ j) (h1 : j < 5) : 48 ≤ B (sk B L p + j) ∧ B (sk B L p + j) ≤ 57 := by
  unfold fig5 at h
  rw [decide_eq_true_eq] at h
  refine fig_r (rnF_in (k := 2) (L - sk B L p).toNat (sk B L p) _ (by omega) ?_)
  unfold nd rn at h
  omega
theorem fig5_tk (h : fig5 B L p = true) : tk B L (sk B L p) = 2 ∧ nx B L p = nd B L p := by
  unfold fig5 at h
  rw [decide_eq_true_eq] at h
  have t : tk B L (sk B L p) = 2 := by
    refine Classical.byContradiction fun y => ?_
    rw [nd_no y] at h
    omega
  exact ⟨t, nd_yes t⟩
theorem c_isFigures (hB : CB B L) (h : CT B L p D) (p0 : 0 ≤ p) (p1 : p ≤ L) : F_X8_isFigures D = some (bi (fig5 B L p), D) := by
  have q := h.pos p0 p1
  have l4 := hB.2.1
  obtain ⟨h1, h2, h3, h4, h5⟩ := h
  have tr := tk_r B L (sk B L p)
  rw [F_X8_isFigures, h4, h5, h3, ck_p (by omega), ck_p (fun _ => by omega)]
  unfold fig5
  by_cases y : tk B L (sk B L p) = 2
  · have e := nd_yes y
    unfold nx at e
    rw [if_pos y, e]
    by_cases z : nd B L p - sk B L p = 5
    · rw [if_pos z, decide_eq_true z, ck_p (Or.inr rfl), bi_t]
    · rw [if_neg z, decide_eq_false z, ck_p (Or.inl rfl), bi_f]
  · rw [if_neg y, nd_no y, decide_eq_false (by omega), ck_p (Or.inl rfl), bi_f]
theorem r_rows (hB : CB B L) (rt : RT B L R) (p0 : 0 ≤ p) (p1 : p ≤ L) {i : Nat} (hi : 54 ≤ i ∧ i < 81) {x : Int} (x0 : 0 ≤ x) (x1 : x ≤ 2000) (q b : Int) (hq : q = p) : 
    (isW B L (sTx i) p = false ∧ F_X12_readRows i x (stR R q b f) = some (0, stR R (wd B L p) (sk B L p) f)) ∨
    (isW B L (sTx i) p = true ∧ fig5 B L (wd B L p) = false ∧ F_X12_readRows i x (stR R q b f) = some (0, stR R (nd B L (wd B L p)) (sk B L (wd B L p)) f)) ∨
    (isW B L (sTx i) p = true ∧ fig5 B L (wd B L p) = true ∧ ∃ g, F_X12_readRows i x (stR R q b f) = some (1, stR R (nd B L (wd B L p)) (sk B L (wd B L p)) g) ∧ (∀ j : Int, ¬ (x ≤ j ∧ j < x + 5) → g j = f j) ∧ ∀ j, 0 ≤ j → j < 5 → g (x + j) = B (sk B L (wd B L p) + j) - 48) := by
  have hN := fN
  have l4 := hB.2.1
  have w := wd_r (B := B) p1
  have d := nd_r (B := B) (p := wd B L p) w.2.2
  subst hq
  rw [F_X12_readRows, st_letters hB rt p0 p1, bI_q, st_word hB rt p0 p1 hi, bI_q]
  cases hw : isW B L (sTx i) q with
  | false =>
    left
    rw [bi_f, ck_p (by decide), if_pos rfl]
    exact ⟨rfl, rfl⟩
  | true =>
    right
    rw [bi_t, ck_p (by decide), if_neg (by decide), st_blanks hB rt (by omega) w.2.2, bI_q]
    obtain ⟨S, eS⟩ : ∃ S, S = sk B L (wd B L q) := ⟨_, rfl⟩
    obtain ⟨N, eN⟩ : ∃ N, N = nd B L (wd B L q) := ⟨_, rfl⟩
    have eN2 : N = rn B L 2 S := by rw [eN, eS]; rfl
    rw [← eS, ← eN] at d
    rw [← eS, ← eN]
    have Lp : ∀ (m fuel : Nat) (t : Int), m < fuel → S ≤ t → t + m = N → rn B L 2 t = N → F_X12_readRows_L18 i x fuel (stR R t S f) = F_X12_readRows_L44 i x fuelN 0 (stR R N S f) := by
      intro m
      induction m with
      | zero =>
        intro fuel t hf t0 ht hr
        obtain ⟨j, rfl⟩ : ∃ j, fuel = j + 1 := ⟨fuel - 1, by omega⟩
        have tN : t = N := by omega
        have nk : ¬ (t < L ∧ kd (B t) = 2) := fun z => by
          rw [rn_step z.1 z.2] at hr
          have := (rn_r (B := B) (k := 2) (p := t + 1) (L := L) (by omega)).1
          omega
        have := r_run (R := stR R 0 0 f) (b := S) hB (st_RT rt 0 0 f) (Or.inr ⟨rfl, rfl, rfl⟩) (q := t) (by omega) (by omega)
        rw [st_pos] at this
        rw [F_X12_readRows_L18, this, bI_q, decide_eq_false nk, bi_f, ck_p (by decide), if_pos rfl, tN]
      | succ m ih =>
        intro fuel t hf t0 ht hr
        obtain ⟨j, rfl⟩ : ∃ j, fuel = j + 1 := ⟨fuel - 1, by omega⟩
        have yk : t < L ∧ kd (B t) = 2 := by
          refine Classical.byContradiction fun z => ?_
          rw [rn_stop (by omega)] at hr
          omega
        have := r_run (R := stR R 0 0 f) (b := S) hB (st_RT rt 0 0 f) (Or.inr ⟨rfl, rfl, rfl⟩) (q := t) (by omega) (by omega)
        rw [st_pos] at this
        rw [F_X12_readRows_L18, this, bI_q, decide_eq_true yk, bi_t, ck_p (by decide), if_neg (by decide), (st_f R t S f).1]
        have e10 : pD (stR R t S f) 133 10 (t + 1) = stR R (t + 1) S f := by
          have := st_pos R t S (t + 1) S f
          rw [← this, ← pos_10 (stR R t S f) t S (t + 1), st_pos R t S t S f]
        rw [e10]
        exact ih j (t + 1) (by omega) (by omega) (by omega) (by rw [← rn_step yk.1 yk.2]; exact hr)
    rw [Lp (N - S).toNat fuelN S (by omega) (by omega) (by omega) eN2.symm]
    by_cases z : N - S = 5
    · right
      have hf5 : fig5 B L (wd B L q) = true := by unfold fig5; rw [← eS, ← eN]; exact decide_eq_true z
      have Lq : ∀ (m fuel : Nat) (k : Int) (h : Int → Int), m < fuel → 0 ≤ k → k + m = 5 → ∃ g, F_X12_readRows_L44 i x fuel k (stR R N S h) = some (1, stR R N S g) ∧ (∀ j : Int, ¬ (x + k ≤ j ∧ j < x + 5) → g j = h j) ∧ ∀ j, k ≤ j → j < 5 → g (x + j) = B (S + j) - 48 := by
        intro m
        induction m with
        | zero =>
          intro fuel k h hf k0 hk
          obtain ⟨j, rfl⟩ : ∃ j, fuel = j + 1 := ⟨fuel - 1, by omega⟩
          have sf := st_f R N S h
          rw [F_X12_readRows_L44, ck_p (by omega), if_pos (by omega), F_X12_readRows_j90, sf.1, sf.2.1, ck_p (by omega), if_pos z, ck_p (Or.inr rfl)]
          exact ⟨h, rfl, fun _ _ => rfl, fun j h1 h2 => by omega⟩
        | succ m ih =>
          intro fuel k h hf k0 hk
          obtain ⟨j, rfl⟩ : ∃ j, fuel = j + 1 := ⟨fuel - 1, by omega⟩
          have sf := st_f R N S h
          have fb := fig5_in hf5 (j := k) k0 (by omega)
          rw [← eS] at fb
          have rb := rt.2 (S + k) (by omega) (by omega)
          obtain ⟨g, g1, g2, g3⟩ := ih j (k + 1) (sI h (x + k) (R 139 (S + k) - 48)) (by omega) (by omega) (by omega)
          rw [F_X12_readRows_L44, ck_p (by omega), if_neg (show ¬ 5 ≤ k by omega), sf.1, sf.2.1, ck_p (by omega), if_pos z, ck_p (by omega), ck_p (by omega), st_set, sf.2.2.2.1 139 (by decide) (by decide), g1]
          refine ⟨g, rfl, fun t ht => ?_, fun t t0 t1 => ?_⟩
          · rw [g2 t (by omega), sI_ne (by omega)]
          · by_cases u : t = k
            · rw [u, g2 (x + k) (by omega), sI_eq]; omega
            · exact g3 t (by omega) t1
      obtain ⟨g, g1, g2, g3⟩ := Lq 5 fuelN 0 f (by omega) (by omega) (by omega)
      rw [Int.add_zero] at g2
      exact ⟨rfl, hf5, g, g1, g2, g3⟩
    · left
      obtain ⟨J, hJ⟩ : ∃ J, fuelN = J + 1 := ⟨999999, rfl⟩
      have sf := st_f R N S f
      rw [hJ, F_X12_readRows_L44, ck_p (by decide), if_neg (by decide), sf.1, sf.2.1, ck_p (by omega), if_neg z, F_X12_readRows_j90, sf.1, sf.2.1, ck_p (by omega), if_neg z, ck_p (Or.inl rfl)]
      exact ⟨rfl, by unfold fig5; rw [← eS, ← eN]; exact decide_eq_false z, rfl⟩
end PW5
