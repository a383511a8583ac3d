/-! PAINTING a day: the class -/
section PP3
variable {n : Int} {D E : mD} {w : Int → Int} {t : Nat}
theorem bitN_congr {p q : Nat → Bool} : ∀ m : Nat, (∀ j, j < m → p j = q j) → bitN p m = bitN q m := by
  intro m
  induction m with
  | zero => intro _; rfl
  | succ m ih =>
    intro h
    rw [bitN, bitN, ih (fun j hj => h j (by omega)), h m (by omega)]
theorem wPainted_ne {j v : Int} (h1 : j ≠ 1) (h2 : ∀ l, 0 ≤ l → l < w 1 → j ≠ 159 + 4 * l + 2) : wPainted (sI w j v) = wPainted w := by
  unfold wPainted
  rw [sI_ne (Ne.symm h1)]
  congr 1
  refine bitN_congr _ (fun l hl => ?_)
  have : wL (sI w j v) (l : Int) 2 = wL w (l : Int) 2 := sI_ne (Ne.symm (h2 l (by omega) (by omega)))
  rw [this]
theorem WorkR.seed (h : WorkR t w D) (hw : w 1 ≤ 14) (s : Int) : WorkR t (sI w 14 s) (pD D t 6 s) := by
  obtain ⟨a1, a2, a3, a4, a5, a6, a7, a8, a9, b⟩ := h
  unfold WorkR
  unfold wL at a8 a9 ⊢
  refine ⟨?_, ?_, ?_, ?_, ?_, ?_, ?_, fun g g0 g1 => ?_, fun l l0 l1 => ?_, fun a k a0 a1 k0 k1 => ?_⟩
  · rw [pD_nj (by decide), wPainted_ne (by decide) (fun l _ _ => by omega)]; exact a1
  · rw [pD_nj (by decide), sI_ne (by decide)]; exact a2
  · rw [pD_nj (by decide), sI_ne (by decide)]; exact a3
  · rw [pD_eq, sI_eq]
  · rw [pD_nj (by decide), sI_ne (by decide)]; exact a5
  · rw [pD_nj (by decide), sI_ne (by decide)]; exact a6
  · rw [pD_nj (by decide)]; exact a7
  · rw [sI_ne (by decide)] at g1
    rw [pD_ne (by omega), sI_ne (by omega)]; exact a8 g g0 g1
  · rw [sI_ne (by decide)] at l1
    rw [pD_ne (by omega), pD_ne (by omega), sI_ne (by omega), sI_ne (by omega)]; exact a9 l l0 l1
  · rw [sI_ne (by decide)] at a1
    rw [pD_ne (by omega), pD_nj (by decide), sI_ne (by omega)]; exact b a k a0 a1 k0 k1
theorem WorkR.shad (h : WorkR t w D) (hw : w 1 ≤ 14) (s : Int) : WorkR t (sI w 5 s) (pD D t 5 s) := by
  obtain ⟨a1, a2, a3, a4, a5, a6, a7, a8, a9, b⟩ := h
  unfold WorkR
  unfold wL at a8 a9 ⊢
  refine ⟨?_, ?_, ?_, ?_, ?_, ?_, ?_, fun g g0 g1 => ?_, fun l l0 l1 => ?_, fun a k a0 a1 k0 k1 => ?_⟩
  · rw [pD_nj (by decide), wPainted_ne (by decide) (fun l _ _ => by omega)]; exact a1
  · rw [pD_nj (by decide), sI_ne (by decide)]; exact a2
  · rw [pD_eq, sI_eq]
  · rw [pD_nj (by decide), sI_ne (by decide)]; exact a4
  · rw [pD_nj (by decide), sI_ne (by decide)]; exact a5
  · rw [pD_nj (by decide), sI_ne (by decide)]; exact a6
  · rw [pD_nj (by decide)]; exact a7
  · rw [sI_ne (by decide)] at g1
    rw [pD_ne (by omega), sI_ne (by omega)]; exact a8 g g0 g1
  · rw [sI_ne (by decide)] at l1
    rw [pD_ne (by omega), pD_ne (by omega), sI_ne (by omega), sI_ne (by omega)]; exact a9 l l0 l1
  · rw [sI_ne (by decide)] at a1
    rw [pD_ne (by omega), pD_nj (by decide), sI_ne (by omega)]; exact b a k a0 a1 k0 k1
theorem WorkR.wets (h : WorkR t w D) (hw : w 1 ≤ 14) (s : Int) : WorkR t (sI w 12 s) (pD D t 4 s) := by
  obtain ⟨a1, a2, a3, a4, a5, a6, a7, a8, a9, b⟩ := h
  unfold WorkR
  unfold wL at a8 a9 ⊢
  refine ⟨?_, ?_, ?_, ?_, ?_, ?_, ?_, fun g g0 g1 => ?_, fun l l0 l1 => ?_, fun a k a0 a1 k0 k1 => ?_⟩
  · rw [pD_nj (by decide), wPainted_ne (by decide) (fun l _ _ => by omega)]; exact a1
  · rw [pD_eq, sI_eq]
  · rw [pD_nj (by decide), sI_ne (by decide)]; exact a3
  · rw [pD_nj (by decide), sI_ne (by decide)]; exact a4
  · rw [pD_nj (by decide), sI_ne (by decide)]; exact a5
  · rw [pD_nj (by decide), sI_ne (by decide)]; exact a6
  · rw [pD_nj (by decide)]; exact a7
  · rw [sI_ne (by decide)] at g1
    rw [pD_ne (by omega), sI_ne (by omega)]; exact a8 g g0 g1
  · rw [sI_ne (by decide)] at l1
    rw [pD_ne (by omega), pD_ne (by omega), sI_ne (by omega), sI_ne (by omega)]; exact a9 l l0 l1
  · rw [sI_ne (by decide)] at a1
    rw [pD_ne (by omega), pD_nj (by decide), sI_ne (by omega)]; exact b a k a0 a1 k0 k1
theorem WorkR.days (h : WorkR t w D) (hw : w 1 ≤ 14) (s : Int) : WorkR t (sI w 11 s) (pD D t 7 s) := by
  obtain ⟨a1, a2, a3, a4, a5, a6, a7, a8, a9, b⟩ := h
  unfold WorkR
  unfold wL at a8 a9 ⊢
  refine ⟨?_, ?_, ?_, ?_, ?_, ?_, ?_, fun g g0 g1 => ?_, fun l l0 l1 => ?_, fun a k a0 a1 k0 k1 => ?_⟩
  · rw [pD_nj (by decide), wPainted_ne (by decide) (fun l _ _ => by omega)]; exact a1
  · rw [pD_nj (by decide), sI_ne (by decide)]; exact a2
  · rw [pD_nj (by decide), sI_ne (by decide)]; exact a3
  · rw [pD_nj (by decide), sI_ne (by decide)]; exact a4
  · rw [pD_eq, sI_eq]
  · rw [pD_nj (by decide), sI_ne (by decide)]; exact a6
  · rw [pD_nj (by decide)]; exact a7
  · rw [sI_ne (by decide)] at g1
    rw [pD_ne (by omega), sI_ne (by omega)]; exact a8 g g0 g1
  · rw [sI_ne (by decide)] at l1
    rw [pD_ne (by omega), pD_ne (by omega), sI_ne (by omega), sI_ne (by omega)]; exact a9 l l0 l1
  · rw [sI_ne (by decide)] at a1
    rw [pD_ne (by omega), pD_nj (by decide), sI_ne (by omega)]; exact b a k a0 a1 k0 k1
/-- in the letters: j of 1 to 3 -/
theorem WorkR.dist (h : WorkR t w D) (hw : w 1 ≤ 14) {g v : Int} (hg : 0 ≤ g ∧ g < w 1) : WorkR t (sI w (159 + 4 * g + 3) v) (pD D (t + 1) g v) := by
  obtain ⟨a1, a2, a3, a4, a5, a6, a7, a8, a9, b⟩ := h
  unfold WorkR
  unfold wL at a8 a9 ⊢
  refine ⟨?_, ?_, ?_, ?_, ?_, ?_, ?_, fun g' g0 g1 => ?_, fun l l0 l1 => ?_, fun a k a0 a1 k0 k1 => ?_⟩
  · rw [pD_ne (by omega), wPainted_ne (by omega) (fun l _ _ => by omega)]; exact a1
  · rw [pD_ne (by omega), sI_ne (by omega)]; exact a2
  · rw [pD_ne (by omega), sI_ne (by omega)]; exact a3
  · rw [pD_ne (by omega), sI_ne (by omega)]; exact a4
  · rw [pD_ne (by omega), sI_ne (by omega)]; exact a5
  · rw [pD_ne (by omega), sI_ne (by omega)]; exact a6
  · rw [pD_ne (by omega)]; exact a7
  · rw [sI_ne (by omega)] at g1
    by_cases z : g' = g
    · rw [z, pD_eq, sI_eq]
    · rw [pD_nj z, sI_ne (by omega)]; exact a8 g' g0 g1
  · rw [sI_ne (by omega)] at l1
    rw [pD_ne (by omega), pD_ne (by omega), sI_ne (by omega), sI_ne (by omega)]; exact a9 l l0 l1
  · rw [sI_ne (by omega)] at a1
    rw [pD_ne (by omega), pD_ne (by omega), sI_ne (by omega)]; exact b a k a0 a1 k0 k1
theorem WorkR.sqz (h : WorkR t w D) (hw : w 1 ≤ 14) {g v : Int} (hg : 0 ≤ g ∧ g < w 1) : WorkR t (sI w (159 + 4 * g + 1) v) (pD D (t + 2) g v) := by
  obtain ⟨a1, a2, a3, a4, a5, a6, a7, a8, a9, b⟩ := h
  unfold WorkR
  unfold wL at a8 a9 ⊢
  refine ⟨?_, ?_, ?_, ?_, ?_, ?_, ?_, fun g' g0 g1 => ?_, fun l l0 l1 => ?_, fun a k a0 a1 k0 k1 => ?_⟩
  · rw [pD_ne (by omega), wPainted_ne (by omega) (fun l _ _ => by omega)]; exact a1
  · rw [pD_ne (by omega), sI_ne (by omega)]; exact a2
  · rw [pD_ne (by omega), sI_ne (by omega)]; exact a3
  · rw [pD_ne (by omega), sI_ne (by omega)]; exact a4
  · rw [pD_ne (by omega), sI_ne (by omega)]; exact a5
  · rw [pD_ne (by omega), sI_ne (by omega)]; exact a6
  · rw [pD_ne (by omega)]; exact a7
  · rw [sI_ne (by omega)] at g1
    rw [pD_ne (by omega), sI_ne (by omega)]; exact a8 g' g0 g1
  · rw [sI_ne (by omega)] at l1
    rw [pD_ne (a := t + 2) (b := t + 3) (by omega), sI_ne (j := 159 + 4 * l + 2) (by omega)]
    refine ⟨?_, (a9 l l0 l1).2⟩
    by_cases z : l = g
    · rw [z, pD_eq, sI_eq]
    · rw [pD_nj z, sI_ne (by omega)]; exact (a9 l l0 l1).1
  · rw [sI_ne (by omega)] at a1
    rw [pD_ne (by omega), pD_ne (by omega), sI_ne (by omega)]; exact b a k a0 a1 k0 k1
theorem wPainted_in (hw : 0 ≤ w 1 ∧ w 1 ≤ 14) {l d : Int} (hl : 0 ≤ l ∧ l < w 1) (hd : 0 ≤ d) : bOr (wPainted w) (bShl 1 l) = wPainted (sI w (159 + 4 * l + 2) d) := by
  obtain ⟨k, rfl⟩ : ∃ k : Nat, l = k := ⟨l.toNat, by omega⟩
  unfold wPainted
  rw [sI_ne (i := 159 + 4 * (k : Int) + 2) (by omega)]
  refine bit_in (by omega) (by omega) (fun j hj => ?_)
  by_cases z : j = k
  · subst z
    rw [show wL (sI w (159 + 4 * (j : Int) + 2) d) (j : Int) 2 = d from sI_eq _ _ _, decide_eq_true hd, decide_eq_true (rfl : j = j), Bool.or_true]
  · rw [show wL (sI w (159 + 4 * (k : Int) + 2) d) (j : Int) 2 = wL w (j : Int) 2 from sI_ne (by omega), decide_eq_false z, Bool.or_false]
theorem WorkR.pnt (h : WorkR t w D) (hw : 0 ≤ w 1 ∧ w 1 ≤ 14) {g d : Int} (hg : 0 ≤ g ∧ g < w 1) (hd : 0 ≤ d) : WorkR t (sI w (159 + 4 * g + 2) d) (pD (pD D t 3 (bOr (D t 3) (bShl 1 g))) (t + 3) g d) := by
  obtain ⟨a1, a2, a3, a4, a5, a6, a7, a8, a9, b⟩ := h
  unfold WorkR
  unfold wL at a8 a9 ⊢
  refine ⟨?_, ?_, ?_, ?_, ?_, ?_, ?_, fun g' g0 g1 => ?_, fun l l0 l1 => ?_, fun a k a0 a1 k0 k1 => ?_⟩
  · rw [pD_ne (by omega), pD_eq, a1, wPainted_in hw hg hd]
  · rw [pD_ne (by omega), pD_nj (by decide), sI_ne (by omega)]; exact a2
  · rw [pD_ne (by omega), pD_nj (by decide), sI_ne (by omega)]; exact a3
  · rw [pD_ne (by omega), pD_nj (by decide), sI_ne (by omega)]; exact a4
  · rw [pD_ne (by omega), pD_nj (by decide), sI_ne (by omega)]; exact a5
  · rw [pD_ne (by omega), pD_nj (by decide), sI_ne (by omega)]; exact a6
  · rw [pD_ne (by omega), pD_nj (by decide)]; exact a7
  · rw [sI_ne (by omega)] at g1
    rw [pD_ne (by omega), pD_ne (by omega), sI_ne (by omega)]; exact a8 g' g0 g1
  · rw [sI_ne (by omega)] at l1
    rw [pD_ne (a := t + 3) (b := t + 2) (by omega), pD_ne (a := t) (b := t + 2) (by omega), sI_ne (j := 159 + 4 * l + 1) (by omega)]
    refine ⟨(a9 l l0 l1).1, ?_⟩
    by_cases z : l = g
    · rw [z, pD_eq, sI_eq]
    · rw [pD_nj z, pD_ne (by omega), sI_ne (by omega)]; exact (a9 l l0 l1).2
  · rw [sI_ne (by omega)] at a1
    rw [pD_ne (by omega), pD_ne (by omega), pD_ne (by omega), pD_nj (by decide), sI_ne (by omega)]; exact b a k a0 a1 k0 k1
theorem c_draw : F_X10_draw t D = some (dr (wDr (D t 6)), pD D t 6 (wDr (D t 6))) := by
  rw [F_X10_draw, pD_eq, (draw_same _).1]
  rfl
theorem c_slipBeside (H : Wi n w) (h : WorkR t w D) {l x : Int} (hl : 0 ≤ l ∧ l < w 1) (hx : 0 ≤ x ∧ x < w 7) :
    ∃ D', F_X10_slipBeside t l (w (215 + 2 * x + 1)) (w 1) D = some ((wSlip w l x).1, D') ∧ WorkR t (wSlip w l x).2 D' ∧ ∀ a : Nat, ¬ (t ≤ a ∧ a ≤ t + 4) → D' a = D a := by
  have hr := H.ra
  have hw := H.wt hx.1 hx.2
  have e6 : D t 6 = w 14 := h.2.2.2.1
  have d1 := dr_r (wDr (w 14))
  have d2 := dr_r (wDr (wDr (w 14)))
  have h1 := h.seed hr.2.2.2.1 (wDr (w 14))
  rw [F_X10_slipBeside, c_draw, bI_q, e6, ck_p (by omega), ck_p (by omega), ck_p (by omega), ck_p (by omega)]
  unfold wSlip
  by_cases q : w (215 + 2 * x + 1) ≤ dr (wDr (w 14)) % 100
  · rw [if_neg (by omega), if_pos q]
    exact ⟨_, rfl, h1, fun a ha => pD_ne (by omega)⟩
  · rw [if_pos (by omega), if_neg q, ck_p (by omega), ck_p (by omega)]
    by_cases z : max 0 (w 1 - 1) = 0
    · rw [if_pos z, F_X10_slipBeside_j27]
      refine ⟨pD D t 6 (wDr (w 14)), ?_, h1, fun a ha => pD_ne (by omega)⟩
      by_cases y : w 1 ≤ l + 1
      · rw [if_pos y, ck_p (by omega), if_neg (by omega)]
      · omega
    · rw [if_neg z]
      have hg := gapAt_r H hl z
      have hd := H.lta hg.1 (by omega)
      have eg : (if w 1 ≤ l + 1 then l - 1 else l) = gapAt w l := by
        unfold gapAt
        by_cases y : w 1 ≤ l + 1
        · rw [if_pos y, if_pos (by omega)]; omega
        · rw [if_neg y, if_neg (by omega)]
      have h2 := h1.seed (by rw [sI_ne (by decide)]; omega) (wDr (wDr (w 14)))
      rw [sI_sI, pD_pD] at h2
      have e1 : (pD D t 6 (wDr (w 14))) (t + 1) (gapAt w l) = wL w (gapAt w l) 3 := by rw [pD_ne (by omega)]; exact h.2.2.2.2.2.2.2.1 _ hg.1 hg.2
      rw [eg, F_X10_slipBeside_j27, ck_p (by omega), if_pos (by omega), ck_p (by omega), c_draw, bI_q, pD_eq, pD_pD, e1, ck_p (by omega), ck_p (by omega), ck_p (by omega)]
      have ev : max 0 (min 30 (if dr (wDr (wDr (w 14))) % 2 = 0 then wL w (gapAt w l) 3 - 1 else wL w (gapAt w l) 3 + 1)) = max 0 (min 30 (wL w (gapAt w l) 3 + 2 * (dr (wDr (wDr (w 14))) % 2) - 1)) := by
        by_cases y : dr (wDr (wDr (w 14))) % 2 = 0
        · rw [if_pos y]; omega
        · rw [if_neg y]; omega
      have er : nR (if dr (wDr (wDr (w 14))) % 2 = 0 then wL w (gapAt w l) 3 - 1 else wL w (gapAt w l) 3 + 1) := by
        by_cases y : dr (wDr (wDr (w 14))) % 2 = 0
        · rw [if_pos y]; omega
        · rw [if_neg y]; omega
      rw [F_X10_slipBeside_j65, ck_p er, ck_p (by omega), ck_p (by omega), pD_eq, ev]
      refine ⟨_, rfl, h2.dist (by rw [sI_ne (by decide)]; omega) (by rw [sI_ne (by decide)]; omega), fun a ha => ?_⟩
      rw [pD_ne (by omega), pD_ne (by omega)]
theorem c_writeLog (H : Wi n w) (h : WorkR t w D) {l x b : Int} : ∃ D', F_X10_writeLog t l x b D = some (0, D') ∧ WorkR t (wLogW w l x b) D' ∧ ∀ a : Nat, ¬ (t ≤ a ∧ a ≤ t + 4) → D' a = D a := by
  have hr := H.ra
  obtain ⟨a1, a2, a3, a4, a5, a6, a7, a8, a9, bl⟩ := h
  rw [F_X10_writeLog]
  simp (disch := omega) only [pD_ne, pD_nj, ck_p]
  refine ⟨_, rfl, ?_, fun a ha => ?_⟩
  · unfold WorkR
    unfold wL at a8 a9 ⊢
    refine ⟨?_, ?_, ?_, ?_, ?_, ?_, ?_, fun g g0 g1 => ?_, fun l' l0 l1 => ?_, fun a k a0 a1 k0 k1 => ?_⟩
    · simp (disch := omega) only [pD_ne, pD_nj]
      rw [a1]
      unfold wPainted
      rw [wLogW_ne (i := 1) (by decide) (by decide)]
      congr 1
      exact (bitN_congr _ (fun j hj => by
        have : wL (wLogW w l x b) (j : Int) 2 = wL w (j : Int) 2 := wLogW_ne (by omega) (by omega)
        rw [this])).symm
    · simp (disch := omega) only [pD_ne, pD_nj, wLogW_ne]; exact a2
    · simp (disch := omega) only [pD_ne, pD_nj, wLogW_ne]; exact a3
    · simp (disch := omega) only [pD_ne, pD_nj, wLogW_ne]; exact a4
    · simp (disch := omega) only [pD_ne, pD_nj, wLogW_ne]; exact a5
    · simp (disch := omega) only [pD_ne, pD_nj, pD_eq, wLogW_13, a6]
    · simp (disch := omega) only [pD_ne, pD_nj, pD_eq]; omega
    · rw [wLogW_ne (by decide) (by decide)] at g1
      simp (disch := omega) only [pD_ne, wLogW_ne]; exact a8 g g0 g1
    · rw [wLogW_ne (by decide) (by decide)] at l1
      simp (disch := omega) only [pD_ne, wLogW_ne]; exact a9 l' l0 l1
    · rw [wLogW_13] at a1
      simp (disch := omega) only [pD_ne, pD_nj, pD_eq]
      by_cases z : a = 0
      · subst z
        obtain ⟨e1, e2, e3, e4⟩ := wLogW_0 (w := w) (l := l) (x := x) (b := b)
        rw [show ((D t 10 + 1) % 60 - 1 - 0) % 60 * 4 + k = D t 10 * 4 + k by omega, show (235 : Int) + 4 * 0 + k = 235 + k by omega]
        obtain k | k | k | k : k = 0 ∨ k = 1 ∨ k = 2 ∨ k = 3 := by omega
        · subst k; simp (disch := omega) only [pD_nj, Int.add_zero, pD_eq, e1]; exact a5
        · subst k; simp (disch := omega) only [pD_nj, pD_eq, show (235 : Int) + 1 = 236 from rfl, e2]
        · subst k; simp (disch := omega) only [pD_nj, pD_eq, show (235 : Int) + 2 = 237 from rfl, e3]
        · subst k; simp (disch := omega) only [pD_nj, pD_eq, show (235 : Int) + 3 = 238 from rfl, e4]
      · have hb := bl (a - 1) k (by omega) (by omega) k0 k1
        rw [show D t 10 - 1 - (a - 1) = D t 10 - a by omega] at hb
        rw [show ((D t 10 + 1) % 60 - 1 - a) % 60 * 4 + k = (D t 10 - a) % 60 * 4 + k by omega, wLogW_sh (i := 235 + 4 * a + k) (by omega), show 235 + 4 * a + k - 4 = 235 + 4 * (a - 1) + k by omega, ← hb]
        simp (disch := omega) only [pD_nj, pD_ne]
  · simp (disch := omega) only [pD_ne]
theorem c_paintDay (H : Wi n w) (h : WorkR t w D) {x : Int} (hx : 0 ≤ x ∧ x < w 7) :
    ∃ D', F_X10_paintDay t x (w (215 + 2 * x + 1)) (w 1) D = some (wNext w, D') ∧ WorkR t (wPaint w x) D' ∧ ∀ a : Nat, ¬ (t ≤ a ∧ a ≤ t + 4) → D' a = D a := by
  have hr := H.ra
  have e3 : D t 3 = wPainted w := h.1
  have e4 : D t 4 = w 12 := h.2.1
  have e7 : D t 7 = w 11 := h.2.2.2.2.1
  have fin : ∀ {f : Int → Int} {F : mD} (l : Int), WorkR t f F → f 1 ≤ 14 → F_X10_paintDay_j59 t l F = some (l, pD (pD F t 4 l) t 7 (f 11 + 1)) ∧ WorkR t (wDay f l) (pD (pD F t 4 l) t 7 (f 11 + 1)) := fun {f F} l hf h1 => by
    have a := hf.wets h1 l
    have b := a.days (by rw [sI_ne (by decide)]; exact h1) (f 11 + 1)
    refine ⟨?_, b⟩
    rw [F_X10_paintDay_j59, pD_nj (by decide), hf.2.2.2.2.1]
  rw [F_X10_paintDay, e3, e4, c_nextLetter H, bI_q]
  unfold wPaint
  rcases wNext_r H with hh | ⟨h0, h1, h2, -⟩
  · rw [ck_p (by omega), if_pos hh, if_pos (by omega)]
    obtain ⟨f1, f2⟩ := fin (wNext w) h (by omega)
    exact ⟨_, f1, f2, fun a ha => by rw [pD_ne (by omega), pD_ne (by omega)]⟩
  · rw [ck_p (by omega), if_neg (by omega), if_neg (by omega), ck_p (by omega)]
    generalize wNext w = l at *
    have a := h.pnt (by omega) (g := l) (d := w 11) ⟨h0, h1⟩ (by omega)
    have aw : Wi n (wPL w l) ∧ SameS w (wPL w l) := H.pnt ⟨h0, h1⟩ (by omega)
    have e1 : (wPL w l) 1 = w 1 := sI_ne (by omega)
    have e77 : (wPL w l) 7 = w 7 := sI_ne (by omega)
    have er : (wPL w l) (215 + 2 * x + 1) = w (215 + 2 * x + 1) := sI_ne (by omega)
    have ed : (pD D t 3 (bOr (D t 3) (bShl 1 l))) t 7 = w 11 := by rw [pD_nj (by decide)]; exact e7
    rw [ed]
    obtain ⟨D1, g1, g2, g3⟩ := c_slipBeside aw.1 a (l := l) (x := x) (by rw [e1]; exact ⟨h0, h1⟩) (by rw [e77]; exact hx)
    rw [e1, er] at g1
    have sw := wSlip_r aw.1 (l := l) (x := x) (by rw [e1]; exact ⟨h0, h1⟩)
    obtain ⟨D2, k1, k2, k3⟩ := c_writeLog sw.1 g2 (l := l) (x := x) (b := (wSlip (wPL w l) l x).1)
    have e1' : (wLogW (wSlip (wPL w l) l x).2 l x (wSlip (wPL w l) l x).1) 1 ≤ 14 := by
      rw [wLogW_ne (by decide) (by decide), (same_n sw.2.1).2.1, e1]; omega
    obtain ⟨f1, f2⟩ := fin l k2 e1'
    refine ⟨_, ?_, f2, fun a ha => ?_⟩
    · rw [g1, bI_q, k1, bI_q, f1]
    · rw [pD_ne (by omega), pD_ne (by omega), k3 a ha, g3 a ha, pD_ne (by omega), pD_ne (by omega)]
end PP3
