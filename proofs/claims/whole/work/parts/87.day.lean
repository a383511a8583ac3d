/-! PAINTING a day: the world behind it; the reference -/
section PP2
variable {n : Int} {D E : mD} {w : Int → Int}
theorem wr_R (z : Int) : nR (wr z) := ⟨by have := Int32.le_toInt (Int32.ofInt z); unfold wr; omega, by have := Int32.toInt_lt (Int32.ofInt z); unfold wr; omega⟩
def wDr (s : Int) : Int := wr (1103515245 * s + 12345)
def dr (s : Int) : Int := bAnd (bShr s 16) 32767
theorem dr_r (s : Int) : 0 ≤ dr s ∧ dr s ≤ 32767 := (draw_same s).2
def gapAt (w : Int → Int) (l : Int) : Int := if max 0 (w 1 - 1) ≤ l then max 0 (w 1 - 1) - 1 else l
def wSlip (w : Int → Int) (l x : Int) : Int × (Int → Int) :=
  if w (215 + 2 * x + 1) ≤ dr (wDr (w 14)) % 100 then (0, sI w 14 (wDr (w 14)))
  else if max 0 (w 1 - 1) = 0 then (0, sI w 14 (wDr (w 14)))
  else (max 0 (min 30 (wL w (gapAt w l) 3 + 2 * (dr (wDr (wDr (w 14))) % 2) - 1)) - wL w (gapAt w l) 3, sI (sI w 14 (wDr (wDr (w 14)))) (159 + 4 * gapAt w l + 3) (max 0 (min 30 (wL w (gapAt w l) 3 + 2 * (dr (wDr (wDr (w 14))) % 2) - 1))))
def wLogW (w : Int → Int) (l x b : Int) : Int → Int := fun i => if i = 13 then min 60 (w 13 + 1) else if i = 235 then w 11 else if i = 236 then l else if i = 237 then x else if i = 238 then b else if 239 ≤ i ∧ i < 475 then w (i - 4) else w i
def wPL (w : Int → Int) (l : Int) : Int → Int := sI w (159 + 4 * l + 2) (w 11)
def wDay (w : Int → Int) (l : Int) : Int → Int := sI (sI w 12 l) 11 (w 11 + 1)
def wPaint (w : Int → Int) (x : Int) : Int → Int := if wNext w < 0 then wDay w (wNext w) else wDay (wLogW (wSlip (wPL w (wNext w)) (wNext w) x).2 (wNext w) x (wSlip (wPL w (wNext w)) (wNext w) x).1) (wNext w)
theorem sI_or (f : Int → Int) (j v i : Int) : (i = j ∧ sI f j v i = v) ∨ (i ≠ j ∧ sI f j v i = f i) := by
  by_cases q : i = j
  · exact Or.inl ⟨q, by rw [q, sI_eq]⟩
  · exact Or.inr ⟨q, sI_ne q⟩
/-- one number of those that acts change -/
theorem Wi.upd {n' : Int} (H : Wi n w) (hn : n ≤ n') {j v : Int} (hj : ¬ keptC j) (h0 : 0 ≤ j ∧ j < 235 ∧ j ≠ 13)
    (c5 : j = 5 → 0 ≤ v ∧ v ≤ 9) (c11 : j = 11 → 0 ≤ v ∧ v ≤ n') (c12 : j = 12 → -1 ≤ v ∧ v < 14 ∧ (0 ≤ v → v < w 1 ∧ 0 ≤ wL w v 2)) (c14 : j = 14 → nR v)
    (cL : ∀ l, 0 ≤ l → l < w 1 → (j = 159 + 4 * l + 1 → 0 ≤ v ∧ v ≤ 3 ∧ v < wI w l 1) ∧ (j = 159 + 4 * l + 2 → 0 ≤ v ∧ v ≤ n') ∧ (j = 159 + 4 * l + 3 → 0 ≤ v ∧ v ≤ 30)) : Wi n' (sI w j v) ∧ SameS w (sI w j v) := by
  have hr := H.ra
  have e := sI_or w j v
  have S : SameS w (sI w j v) := SameS.rf.set hj
  refine ⟨H.of S ?_ (fun l l0 l1 => ?_) (fun k k0 k1 => ?_) (fun h => ?_), S⟩
  · have e5 := e 5
    have e11 := e 11
    have e12 := e 12
    have e13 := e 13
    have e14 := e 14
    refine ⟨?_, ?_, ?_, ?_, ?_, ?_, ?_, ?_, ?_⟩
    · omega
    · omega
    · omega
    · omega
    · omega
    · omega
    · omega
    · omega
    · rcases e14 with ⟨a, b⟩ | ⟨a, b⟩
      · rw [b]; exact c14 a.symm
      · rw [b]; omega
  · have a := H.lta l0 l1
    have c := cL l l0 l1
    have e1 := e (159 + 4 * l + 1)
    have e2 := e (159 + 4 * l + 2)
    have e3 := e (159 + 4 * l + 3)
    unfold wI at c ⊢
    unfold LtA wL at a
    unfold wL at c ⊢
    omega
  · have e13 := e 13
    have e1 := e (235 + 4 * k)
    have e2 := e (235 + 4 * k + 1)
    have e3 := e (235 + 4 * k + 2)
    have e4 := e (235 + 4 * k + 3)
    have a := H.lg k0 (by omega)
    omega
  · have e12 := e 12
    rcases e12 with ⟨a, b⟩ | ⟨a, b⟩
    · rw [b] at h ⊢
      have c := (c12 a.symm).2.2 h
      have e2 := e (159 + 4 * v + 2)
      unfold wL at c ⊢
      omega
    · rw [b] at h ⊢
      have c := H.wet h
      have e2 := e (159 + 4 * w 12 + 2)
      have c2 := (cL (w 12) h c.1).2.1
      unfold wL at c ⊢
      omega
theorem Wi.seed (H : Wi n w) (s : Int) (hs : nR s) : Wi n (sI w 14 s) ∧ SameS w (sI w 14 s) :=
  H.upd (Int.le_refl _) (by unfold keptC; omega) (by omega) (fun z => by omega) (fun z => by omega) (fun z => by omega) (fun _ => hs) (fun l _ _ => ⟨fun z => by omega, fun z => by omega, fun z => by omega⟩)
theorem Wi.dist (H : Wi n w) {g v : Int} (hg : 0 ≤ g ∧ g < w 1) (hv : 0 ≤ v ∧ v ≤ 30) : Wi n (sI w (159 + 4 * g + 3) v) ∧ SameS w (sI w (159 + 4 * g + 3) v) := by
  have hr := H.ra
  exact H.upd (Int.le_refl _) (by unfold keptC; omega) (by omega) (fun z => by omega) (fun z => by omega) (fun z => by omega) (fun z => by omega) (fun l _ _ => ⟨fun z => by omega, fun z => by omega, fun _ => hv⟩)
theorem Wi.sqz (H : Wi n w) {g v : Int} (hg : 0 ≤ g ∧ g < w 1) (hv : 0 ≤ v ∧ v ≤ 3 ∧ v < wI w g 1) : Wi n (sI w (159 + 4 * g + 1) v) ∧ SameS w (sI w (159 + 4 * g + 1) v) := by
  have hr := H.ra
  exact H.upd (Int.le_refl _) (by unfold keptC; omega) (by omega) (fun z => by omega) (fun z => by omega) (fun z => by omega) (fun z => by omega) (fun l _ _ => ⟨fun z => by rw [show l = g by omega]; exact hv, fun z => by omega, fun z => by omega⟩)
theorem Wi.pnt (H : Wi n w) {g v : Int} (hg : 0 ≤ g ∧ g < w 1) (hv : 0 ≤ v ∧ v ≤ n) : Wi n (sI w (159 + 4 * g + 2) v) ∧ SameS w (sI w (159 + 4 * g + 2) v) := by
  have hr := H.ra
  exact H.upd (Int.le_refl _) (by unfold keptC; omega) (by omega) (fun z => by omega) (fun z => by omega) (fun z => by omega) (fun z => by omega) (fun l _ _ => ⟨fun z => by omega, fun _ => hv, fun z => by omega⟩)
theorem Wi.wets (H : Wi n w) {v : Int} (hv : -1 ≤ v ∧ v < 14) (h : 0 ≤ v → v < w 1 ∧ 0 ≤ wL w v 2) : Wi n (sI w 12 v) ∧ SameS w (sI w 12 v) :=
  H.upd (Int.le_refl _) (by unfold keptC; omega) (by omega) (fun z => by omega) (fun z => by omega) (fun _ => ⟨hv.1, hv.2, h⟩) (fun z => by omega) (fun l _ _ => ⟨fun z => by omega, fun z => by omega, fun z => by omega⟩)
theorem Wi.days {n' : Int} (H : Wi n w) (hn : n ≤ n') {v : Int} (hv : 0 ≤ v ∧ v ≤ n') : Wi n' (sI w 11 v) ∧ SameS w (sI w 11 v) :=
  H.upd hn (by unfold keptC; omega) (by omega) (fun z => by omega) (fun _ => hv) (fun z => by omega) (fun z => by omega) (fun l _ _ => ⟨fun z => by omega, fun z => by omega, fun z => by omega⟩)
theorem wLogW_ne {l x b i : Int} (h1 : i ≠ 13) (h2 : i < 235 ∨ 475 ≤ i) : wLogW w l x b i = w i := by
  unfold wLogW
  rw [if_neg h1, if_neg (by omega), if_neg (by omega), if_neg (by omega), if_neg (by omega), if_neg (by omega)]
theorem wLogW_13 {l x b : Int} : wLogW w l x b 13 = min 60 (w 13 + 1) := if_pos rfl
theorem wLogW_sh {l x b i : Int} (h : 239 ≤ i ∧ i < 475) : wLogW w l x b i = w (i - 4) := by
  unfold wLogW
  rw [if_neg (by omega), if_neg (by omega), if_neg (by omega), if_neg (by omega), if_neg (by omega), if_pos h]
theorem wLogW_0 {l x b : Int} : wLogW w l x b 235 = w 11 ∧ wLogW w l x b 236 = l ∧ wLogW w l x b 237 = x ∧ wLogW w l x b 238 = b := ⟨rfl, rfl, rfl, rfl⟩
theorem Wi.log (H : Wi n w) {l x b : Int} (hl : 0 ≤ l ∧ l ≤ 13) (hx : 0 ≤ x ∧ x ≤ 5) (hb : -1 ≤ b ∧ b ≤ 1) : Wi n (wLogW w l x b) ∧ SameS w (wLogW w l x b) := by
  have hr := H.ra
  have S : SameS w (wLogW w l x b) := fun i hi => wLogW_ne (by unfold keptC at hi; omega) (by unfold keptC at hi; omega)
  refine ⟨H.of S ?_ (fun l' l0 l1 => ?_) (fun k k0 k1 => ?_) (fun h => ?_), S⟩
  · rw [wLogW_ne (i := 5) (by omega) (by omega), wLogW_ne (i := 11) (by omega) (by omega), wLogW_ne (i := 12) (by omega) (by omega), wLogW_ne (i := 14) (by omega) (by omega), wLogW_13]
    omega
  · have a := H.lta l0 l1
    unfold LtA wL at a
    unfold wI wL
    rw [wLogW_ne (i := 159 + 4 * l' + 1) (by omega) (by omega), wLogW_ne (i := 159 + 4 * l' + 2) (by omega) (by omega), wLogW_ne (i := 159 + 4 * l' + 3) (by omega) (by omega)]
    omega
  · rw [wLogW_13] at k1
    by_cases z : k = 0
    · subst z
      obtain ⟨e1, e2, e3, e4⟩ := wLogW_0 (w := w) (l := l) (x := x) (b := b)
      rw [show (235 : Int) + 4 * 0 = 235 from rfl, show (235 : Int) + 1 = 236 from rfl, show (235 : Int) + 2 = 237 from rfl, show (235 : Int) + 3 = 238 from rfl, e1, e2, e3, e4]
      omega
    · have a := H.lg (j := k - 1) (by omega) (by omega)
      rw [wLogW_sh (i := 235 + 4 * k) (by omega), wLogW_sh (i := 235 + 4 * k + 1) (by omega), wLogW_sh (i := 235 + 4 * k + 2) (by omega), wLogW_sh (i := 235 + 4 * k + 3) (by omega)]
      rw [show 235 + 4 * k - 4 = 235 + 4 * (k - 1) by omega, show 235 + 4 * k + 1 - 4 = 235 + 4 * (k - 1) + 1 by omega, show 235 + 4 * k + 2 - 4 = 235 + 4 * (k - 1) + 2 by omega, show 235 + 4 * k + 3 - 4 = 235 + 4 * (k - 1) + 3 by omega]
      exact a
  · rw [wLogW_ne (i := 12) (by omega) (by omega)] at h ⊢
    unfold wL
    rw [wLogW_ne (i := 159 + 4 * w 12 + 2) (by omega) (by omega)]
    exact H.wet h
theorem gapAt_r (H : Wi n w) {l : Int} (hl : 0 ≤ l ∧ l < w 1) (h : ¬ max 0 (w 1 - 1) = 0) : 0 ≤ gapAt w l ∧ gapAt w l + 1 < w 1 := by
  have hr := H.ra
  unfold gapAt
  by_cases q : max 0 (w 1 - 1) ≤ l
  · rw [if_pos q]; omega
  · rw [if_neg q]; omega
theorem wSlip_r (H : Wi n w) {l x : Int} (hl : 0 ≤ l ∧ l < w 1) : Wi n (wSlip w l x).2 ∧ SameS w (wSlip w l x).2 ∧ -1 ≤ (wSlip w l x).1 ∧ (wSlip w l x).1 ≤ 1 ∧ (wSlip w l x).2 11 = w 11 ∧ (∀ k, 0 ≤ k → wL (wSlip w l x).2 k 2 = wL w k 2) := by
  have hr := H.ra
  have S1 := H.seed (wDr (w 14)) (wr_R _)
  unfold wSlip
  by_cases q : w (215 + 2 * x + 1) ≤ dr (wDr (w 14)) % 100
  · rw [if_pos q]
    exact ⟨S1.1, S1.2, (by show (-1 : Int) ≤ 0; decide), (by show (0 : Int) ≤ 1; decide), (show sI w 14 (wDr (w 14)) 11 = w 11 from sI_ne (by decide)), fun k k0 => sI_ne (by omega)⟩
  · rw [if_neg q]
    by_cases z : max 0 (w 1 - 1) = 0
    · rw [if_pos z]
      exact ⟨S1.1, S1.2, (by show (-1 : Int) ≤ 0; decide), (by show (0 : Int) ≤ 1; decide), (show sI w 14 (wDr (w 14)) 11 = w 11 from sI_ne (by decide)), fun k k0 => sI_ne (by omega)⟩
    · rw [if_neg z]
      have hg := gapAt_r H hl z
      have hd := H.lta hg.1 (by omega)
      have S2 := H.seed (wDr (wDr (w 14))) (wr_R _)
      have S3 := S2.1.dist (g := gapAt w l) (v := max 0 (min 30 (wL w (gapAt w l) 3 + 2 * (dr (wDr (wDr (w 14))) % 2) - 1))) (by rw [sI_ne (by decide)]; omega) (by omega)
      refine ⟨S3.1, S2.2.tr S3.2, ?_, ?_, ?_, fun k k0 => ?_⟩
      · show -1 ≤ max 0 (min 30 (wL w (gapAt w l) 3 + 2 * (dr (wDr (wDr (w 14))) % 2) - 1)) - wL w (gapAt w l) 3
        omega
      · show max 0 (min 30 (wL w (gapAt w l) 3 + 2 * (dr (wDr (wDr (w 14))) % 2) - 1)) - wL w (gapAt w l) 3 ≤ 1
        omega
      · show sI (sI w 14 _) _ _ 11 = w 11
        rw [sI_ne (by omega), sI_ne (by decide)]
      · show sI (sI w 14 _) _ _ (159 + 4 * k + 2) = w (159 + 4 * k + 2)
        rw [sI_ne (by omega), sI_ne (by omega)]
theorem wPaint_r (H : Wi n w) {x : Int} (hx : 0 ≤ x ∧ x < w 7) : Wi (n + 1) (wPaint w x) ∧ SameS w (wPaint w x) ∧ (wPaint w x) 5 = w 5 := by
  have hr := H.ra
  unfold wPaint
  rcases wNext_r H with h | ⟨h0, h1, h2, h3⟩
  · rw [if_pos (by omega), h]
    have a := H.wets (v := -1) (by omega) (fun z => by omega)
    have b := a.1.days (n' := n + 1) (by omega) (v := w 11 + 1) (by omega)
    exact ⟨b.1, a.2.tr b.2, by unfold wDay; rw [sI_ne (by decide), sI_ne (by decide)]⟩
  · rw [if_neg (by omega)]
    generalize wNext w = l at *
    have a : Wi n (wPL w l) ∧ SameS w (wPL w l) := H.pnt ⟨h0, h1⟩ (by omega)
    have e1 : (wPL w l) 1 = w 1 := sI_ne (by omega)
    have b := wSlip_r a.1 (l := l) (x := x) (by rw [e1]; exact ⟨h0, h1⟩)
    have c := b.1.log (l := l) (x := x) (b := (wSlip (wPL w l) l x).1) (by omega) (by omega) ⟨b.2.2.1, b.2.2.2.1⟩
    have e2 : (wLogW (wSlip (wPL w l) l x).2 l x (wSlip (wPL w l) l x).1) 11 = w 11 := by
      rw [wLogW_ne (by decide) (by decide), b.2.2.2.2.1]
      exact sI_ne (by omega)
    have e3 : (wLogW (wSlip (wPL w l) l x).2 l x (wSlip (wPL w l) l x).1) 1 = w 1 := by
      rw [(same_n c.2).2.1, (same_n b.2.1).2.1, e1]
    have e4 : wL (wLogW (wSlip (wPL w l) l x).2 l x (wSlip (wPL w l) l x).1) l 2 = w 11 := by
      show wLogW _ _ _ _ (159 + 4 * l + 2) = _
      rw [wLogW_ne (by omega) (by omega)]
      show wL (wSlip (wPL w l) l x).2 l 2 = _
      rw [b.2.2.2.2.2 l h0]
      exact sI_eq _ _ _
    have d := c.1.wets (v := l) (by omega) (fun _ => by rw [e3, e4]; omega)
    have f := d.1.days (n' := n + 1) (by omega) (v := w 11 + 1) (by omega)
    unfold wDay
    rw [e2]
    refine ⟨f.1, ((a.2.tr b.2.1).tr c.2).tr (d.2.tr f.2), ?_⟩
    rw [sI_ne (by decide), sI_ne (by decide), wLogW_ne (by decide) (by decide)]
    unfold wSlip
    split
    · show sI (wPL w l) 14 (wDr ((wPL w l) 14)) 5 = w 5
      rw [sI_ne (by decide)]; exact sI_ne (by omega)
    · split
      · show sI (wPL w l) 14 (wDr ((wPL w l) 14)) 5 = w 5
        rw [sI_ne (by decide)]; exact sI_ne (by omega)
      · rename_i z1 z2
        have hg := gapAt_r a.1 (l := l) (by rw [e1]; exact ⟨h0, h1⟩) z2
        show sI (sI _ 14 _) _ _ 5 = _
        rw [sI_ne (by omega), sI_ne (by decide)]
        exact sI_ne (by omega)
/-! the reference paints -/
theorem g_gaps (h : 0 ≤ E 134 1 ∧ E 134 1 ≤ 14) : F_X12_gaps E = some (max 0 (E 134 1 - 1), E) := by
  rw [F_X12_gaps, F_X12_letters, bI_q, ck_p (by omega)]
theorem r_draw {m : Int} (hm : 0 < m ∧ m ≤ 100) : F_X12_draw m D = some (dr (wDr (D 134 14)) % m, sA D 134 (sI (D 134) 14 (wDr (D 134 14)))) := by
  have h := dr_r (wDr (D 134 14))
  rw [F_X12_draw, pD_eq, show bAnd (bShr (wr (1103515245 * D 134 14 + 12345)) 16) 32767 = dr (wDr (D 134 14)) from rfl, ck_p (by omega), ck_p (by omega), ck_p h.1, ck_p (by omega)]
  rfl
theorem r_slipsBy (H : Wi n (D 134)) {l x : Int} (hl : 0 ≤ l ∧ l < D 134 1) (hx : 0 ≤ x ∧ x < D 134 7) : F_X12_slipsBy l x D = some ((wSlip (D 134) l x).1, sA D 134 (wSlip (D 134) l x).2) := by
  have hr := H.ra
  have hw := H.wt hx.1 hx.2
  have d1 := dr_r (wDr (D 134 14))
  have d2 := dr_r (wDr (wDr (D 134 14)))
  rw [F_X12_slipsBy, r_draw (by omega), bI_q, sA_eq, sI_ne (by omega)]
  unfold wSlip
  rw [ck_p (by omega), ck_p (by omega), ck_p (by omega)]
  by_cases q : D 134 (215 + 2 * x + 1) ≤ dr (wDr (D 134 14)) % 100
  · rw [if_pos q, if_pos q]
  · rw [if_neg q, if_neg q]
    have e1 : (sA D 134 (sI (D 134) 14 (wDr (D 134 14)))) 134 1 = D 134 1 := by rw [sA_eq, sI_ne (by decide)]
    rw [g_gaps (by rw [e1]; omega), bI_q, e1, ck_p (by omega)]
    by_cases z : max 0 (D 134 1 - 1) = 0
    · rw [if_pos z, if_pos z]
    · rw [if_neg z, if_neg z]
      have hg := gapAt_r H hl z
      have hd := H.lta hg.1 (by omega)
      have e2 : F_X12_gapOf l (sA D 134 (sI (D 134) 14 (wDr (D 134 14)))) = some (gapAt (D 134) l, sA D 134 (sI (D 134) 14 (wDr (D 134 14)))) := by
        rw [F_X12_gapOf, g_gaps (by rw [e1]; omega), bI_q, e1, ck_p (by omega), ck_p (by omega)]
        unfold gapAt
        by_cases y : max 0 (D 134 1 - 1) ≤ l
        · rw [if_pos y, if_pos y, g_gaps (by rw [e1]; omega), bI_q, e1]
        · rw [if_neg y, if_neg y]
      have e3 : wL ((sA D 134 (sI (D 134) 14 (wDr (D 134 14)))) 134) (gapAt (D 134) l) 3 = wL (D 134) (gapAt (D 134) l) 3 := by
        rw [sA_eq]; exact sI_ne (by omega)
      rw [e2, bI_q, e_distance (by omega) (by omega), bI_q, e3, r_draw (by omega), bI_q, sA_eq, sI_eq, sA_sA, sI_sI, ck_p (by omega), ck_p (by omega), F_X12_sets, ck_p (by omega), bI_q, e_distance (by omega) (by omega), bI_q]
      have e4 : ∀ (f : Int → Int) (v : Int), pD (sA D 134 f) 134 (159 + 4 * gapAt (D 134) l + 3) v = sA D 134 (sI f (159 + 4 * gapAt (D 134) l + 3) v) := fun f v => by unfold pD; rw [sA_eq, sA_sA]
      rw [e4, sA_eq]
      have e5 : ∀ (f : Int → Int) (v : Int), wL (sI f (159 + 4 * gapAt (D 134) l + 3) v) (gapAt (D 134) l) 3 = v := fun f v => sI_eq _ _ _
      rw [e5]
theorem pD_sA (D : mD) (f : Int → Int) (i v : Int) : pD (sA D 134 f) 134 i v = sA D 134 (sI f i v) := by unfold pD; rw [sA_eq, sA_sA]
theorem r_isLogged_L (h13 : nR (w 13 + 1)) {l x b : Int} : ∀ (m fuel : Nat) (k : Int) (f : Int → Int), m < fuel → k = 3 + m → k ≤ 239 → (∀ i, f i = if 235 + k < i ∧ i < 475 then w (i - 4) else w i) →
    F_X12_isLogged_L5 l x b fuel k (sA D 134 f) = some (0, sA D 134 (wLogW w l x b)) := by
  intro m
  induction m with
  | zero =>
    intro fuel k f hf hk h9 e
    obtain ⟨j, rfl⟩ : ∃ j, fuel = j + 1 := ⟨fuel - 1, by omega⟩
    have e13 : f 13 = w 13 := by rw [e 13, if_neg (by omega)]
    have e11 : f 11 = w 11 := by rw [e 11, if_neg (by omega)]
    rw [F_X12_isLogged_L5, ck_p (by omega), if_pos (by omega)]
    simp only [pD_sA, sA_eq]
    rw [sI_ne (by decide), sI_ne (by decide), sI_ne (by decide), sI_ne (by decide), e13, ck_p h13, e11]
    congr 3
    funext i
    unfold wLogW
    by_cases y : i = 13
    · rw [if_pos y, y, sI_eq]
    · rw [if_neg y, sI_ne y]
      by_cases y8 : i = 238
      · subst y8; rw [sI_eq]; rfl
      · rw [sI_ne y8]
        by_cases y7 : i = 237
        · subst y7; rw [sI_eq]; rfl
        · rw [sI_ne y7]
          by_cases y6 : i = 236
          · subst y6; rw [sI_eq]; rfl
          · rw [sI_ne y6]
            by_cases y5 : i = 235
            · subst y5; rw [sI_eq]; rfl
            · rw [sI_ne y5, if_neg y5, if_neg y6, if_neg y7, if_neg y8, e i]
              by_cases s : 239 ≤ i ∧ i < 475
              · rw [if_pos (by omega), if_pos s]
              · rw [if_neg (by omega), if_neg s]
  | succ m ih =>
    intro fuel k f hf hk h9 e
    obtain ⟨j, rfl⟩ : ∃ j, fuel = j + 1 := ⟨fuel - 1, by omega⟩
    rw [F_X12_isLogged_L5, ck_p (by omega), if_neg (by omega), ck_p (by omega), ck_p (by omega), pD_sA, sA_eq]
    refine ih j (k - 1) _ (by omega) (by omega) (by omega) (fun i => ?_)
    by_cases y : i = 235 + k
    · rw [y, sI_eq, e (235 + k - 4), if_neg (by omega), if_pos (by omega)]
    · rw [sI_ne y, e i]
      by_cases s : 235 + k < i ∧ i < 475
      · rw [if_pos s, if_pos (by omega)]
      · rw [if_neg s, if_neg (by omega)]
theorem r_isLogged {f : Int → Int} (h13 : nR (f 13 + 1)) {l x b : Int} : F_X12_isLogged l x b (sA D 134 f) = some (0, sA D 134 (wLogW f l x b)) := by
  have hN := fN
  exact r_isLogged_L h13 236 fuelN 239 f (by omega) (by omega) (by omega) (fun i => by rw [if_neg (by omega)])
theorem r_paints (H : Wi n (D 134)) (hn : n ≤ 100000) {x : Int} (hx : 0 ≤ x ∧ x < D 134 7) : F_X12_paints x D = some (wNext (D 134), sA D 134 (wPaint (D 134) x)) := by
  have hr := H.ra
  rw [F_X12_paints, e_nextLetter H hn, bI_q]
  unfold wPaint
  have eD : ∀ (f : Int → Int) (l : Int), F_X12_paints_j34 l (sA D 134 f) = some (l, sA D 134 (wDay f l)) := fun f l => by
    rw [F_X12_paints_j34, pD_sA, pD_sA, sA_eq, sI_ne (by decide)]
    rfl
  have e0 : sA D 134 (D 134) = D := by
    funext a
    unfold sA
    by_cases q : a = 134
    · rw [if_pos q, q]
    · rw [if_neg q]
  rcases wNext_r H with h | ⟨h0, h1, h2, h3⟩
  · have := eD (D 134) (wNext (D 134))
    rw [e0] at this
    rw [ck_p (by omega), if_pos (by omega), if_pos (by omega), this]
  · rw [ck_p (by omega), if_neg (by omega), if_neg (by omega)]
    have hN := wNext_r H
    generalize wNext (D 134) = l at *
    have a : Wi n (wPL (D 134) l) ∧ SameS (D 134) (wPL (D 134) l) := H.pnt ⟨h0, h1⟩ (by omega)
    have e1 : (wPL (D 134) l) 1 = D 134 1 := sI_ne (by omega)
    have e7 : (wPL (D 134) l) 7 = D 134 7 := sI_ne (by omega)
    have eW : pD D 134 (159 + 4 * l + 2) (D 134 11) = sA D 134 (wPL (D 134) l) := rfl
    have b := wSlip_r a.1 (l := l) (x := x) (by rw [e1]; exact ⟨h0, h1⟩)
    have hb := b.1.ra
    have s := r_slipsBy (D := sA D 134 (wPL (D 134) l)) (n := n) (by rw [sA_eq]; exact a.1) (l := l) (x := x) (by rw [sA_eq, e1]; exact ⟨h0, h1⟩) (by rw [sA_eq, e7]; exact hx)
    rw [sA_eq, sA_sA] at s
    rw [F_X12_sets, ck_p (by omega), bI_q, eW, s, bI_q, r_isLogged (by omega), bI_q, eD]
end PP2
