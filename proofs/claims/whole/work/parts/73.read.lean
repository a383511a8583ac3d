/-! UNEVENNESS, reading: both -/
section PQ3
variable {n : Int} {D E : mD}
/-- of G whites: the most less the least -/
def unF (W : Int → Int) (G : Int) : Int := if G < 2 then 0 else maxF W 0 0 G.toNat - minF W 1000000 0 G.toNat
theorem unF_r {W : Int → Int} {G hi : Int} (h : ∀ g, 0 ≤ g → g < G → 0 ≤ W g ∧ W g ≤ hi) (h0 : 0 ≤ hi) (h1 : hi ≤ 1000000) : -1000000 ≤ unF W G ∧ unF W G ≤ 1000000 := by
  unfold unF
  by_cases q : G < 2
  · rw [if_pos q]; omega
  · rw [if_neg q]
    have a := maxF_r (f := W) (hi := hi) G.toNat 0 0 h0 (fun k a b => (h k a (by omega)).2)
    have b := minF_r (f := W) (lo := 0) G.toNat 1000000 0 (by omega) (fun k a b => (h k a (by omega)).1)
    omega
theorem unF_congr {W V : Int → Int} {G : Int} (h : ∀ g, 0 ≤ g → g < G → W g = V g) : unF W G = unF V G := by
  unfold unF
  by_cases q : G < 2
  · rw [if_pos q, if_pos q]
  · have a : ∀ (m : Nat) (x j : Int), (∀ k, j ≤ k → k < j + m → W k = V k) → maxF W x j m = maxF V x j m := by
      intro m
      induction m with
      | zero => intro x j _; rfl
      | succ m ih => intro x j h; rw [maxF, maxF, h j (by omega) (by omega), ih _ _ (fun k h1 h2 => h k (by omega) (by omega))]
    rw [if_neg q, if_neg q, a _ _ _ (fun k k0 k1 => h k k0 (by omega)), minF_congr _ _ _ (fun k k0 k1 => h k k0 (by omega))]
/-- a distance as it is seen aslant -/
def seen (a g d : Int) : Int := d * max 0 (100 - a * g) / 100
theorem seen_r {a g d : Int} (ha : 0 ≤ a ∧ a ≤ 9) (hg : 0 ≤ g ∧ g ≤ 13) (hd : 0 ≤ d ∧ d ≤ 30) : 0 ≤ a * g ∧ a * g ≤ 117 ∧ 0 ≤ d * max 0 (100 - a * g) ∧ d * max 0 (100 - a * g) ≤ 3000 ∧ 0 ≤ seen a g d ∧ seen a g d ≤ 30 := by
  have h1 := mul_r ha.1 ha.2 hg.1 hg.2
  have h2 := mul_r (b := max 0 (100 - a * g)) (B := 100) hd.1 hd.2 (by omega) (by omega)
  unfold seen
  omega
theorem seen_0 (g d : Int) (hd : 0 ≤ d) : seen 0 g d = d := by
  unfold seen
  rw [Int.zero_mul, show max (0 : Int) (100 - 0) = 100 from rfl]
  omega
theorem c_unevenBy_L {a1 : Nat} {dist : Int → Int} {a : Int} (h23 : ¬ (23 ≤ a1 ∧ a1 ≤ 25)) (ha : 0 ≤ a ∧ a ≤ 9) (hdi : ∀ g, 0 ≤ g → g + 1 < D 134 1 → D a1 g = dist g ∧ 0 ≤ dist g ∧ dist g ≤ 30) :
    ∀ (m fuel : Nat) (g lo hi : Int) (E : mD), m < fuel → 1 ≤ g → g + m = D 134 1 - 1 → Kq n D E → 0 ≤ lo → lo ≤ 1000000 → 0 ≤ hi → hi ≤ 1000000 →
    ∃ E', F_X0_unevenBy_L8 a1 a fuel lo hi g E = some (maxF (fun g => wWhite (D 134) g (seen a g (dist g))) hi g m - minF (fun g => wWhite (D 134) g (seen a g (dist g))) lo g m, E') ∧ Kq n D E' := by
  intro m
  induction m with
  | zero =>
    intro fuel g lo hi E hf hd hm K l0 l1 i0 i1
    have hr := K.wi.ra
    obtain ⟨j, rfl⟩ : ∃ j, fuel = j + 1 := ⟨fuel - 1, by omega⟩
    exact ⟨E, by simp (disch := omega) only [F_X0_unevenBy_L8, b_gapCount K, bI_s, ck_p, if_pos, minF, maxF], K⟩
  | succ m ih =>
    intro fuel g lo hi E hf hg hm K l0 l1 i0 i1
    have hr := K.wi.ra
    obtain ⟨j, rfl⟩ : ∃ j, fuel = j + 1 := ⟨fuel - 1, by omega⟩
    obtain ⟨d1, d2, d3⟩ := hdi g (by omega) (by omega)
    have hs := seen_r ha (g := g) (by omega) ⟨d2, d3⟩
    have hw := wWhite_r K.wi (g := g) (d := seen a g (dist g)) (by omega) (by omega)
    obtain ⟨E1, h1, K1⟩ := b_whiteOf K (g := g) (d := seen a g (dist g)) (by omega) (by omega)
    obtain ⟨E', h', K'⟩ := ih j (g + 1) (min lo (wWhite (D 134) g (seen a g (dist g)))) (max hi (wWhite (D 134) g (seen a g (dist g)))) E1 (by omega) (by omega) (by omega) K1 (by omega) (by omega) (by omega) (by omega)
    refine ⟨E', ?_, K'⟩
    have e : E a1 g = dist g := by rw [K.1 a1 h23]; exact d1
    unfold seen at h1 hs h' hw ⊢
    simp (disch := omega) only [F_X0_unevenBy_L8, F_X0_unevenBy_j67, b_gapCount K, bI_s, ck_p, if_neg, e, h1, h', minF, maxF]
theorem c_unevenBy (K : Kq n D E) {a1 : Nat} {dist : Int → Int} {a : Int} (h23 : ¬ (23 ≤ a1 ∧ a1 ≤ 25)) (ha : 0 ≤ a ∧ a ≤ 9) (hdi : ∀ g, 0 ≤ g → g + 1 < D 134 1 → D a1 g = dist g ∧ 0 ≤ dist g ∧ dist g ≤ 30) :
    ∃ E', F_X0_unevenBy a1 a E = some (unF (fun g => wWhite (D 134) g (seen a g (dist g))) (max 0 (D 134 1 - 1)), E') ∧ Kq n D E' := by
  have hr := K.wi.ra
  have hN := fN
  obtain ⟨j, hj⟩ : ∃ j, fuelN = j + 1 := ⟨999999, rfl⟩
  rw [F_X0_unevenBy, hj]
  by_cases z : D 134 1 ≤ 1
  · refine ⟨E, ?_, K⟩
    simp (disch := omega) only [F_X0_unevenBy_L8, b_gapCount K, bI_s, ck_p, if_pos]
    unfold unF
    rw [if_pos (by omega)]
    rfl
  · obtain ⟨d1, d2, d3⟩ := hdi 0 (by omega) (by omega)
    have hs := seen_r ha (g := 0) (by omega) ⟨d2, d3⟩
    have hw := wWhite_r K.wi (g := 0) (d := seen a 0 (dist 0)) (by omega) (by omega)
    obtain ⟨E1, h1, K1⟩ := b_whiteOf K (g := 0) (d := seen a 0 (dist 0)) (by omega) (by omega)
    obtain ⟨W0, eW⟩ : ∃ W0, W0 = wWhite (D 134) 0 (seen a 0 (dist 0)) := ⟨_, rfl⟩
    obtain ⟨E', h', K'⟩ := c_unevenBy_L h23 ha hdi (D 134 1 - 2).toNat j 1 W0 W0 E1 (by omega) (by omega) (by omega) K1 (by omega) (by omega) (by omega) (by omega)
    refine ⟨E', ?_, K'⟩
    have e : E a1 0 = dist 0 := by rw [K.1 a1 h23]; exact d1
    rw [← eW] at h1
    unfold seen at h1 hs h' ⊢
    simp (disch := omega) only [F_X0_unevenBy_L8, F_X0_unevenBy_j67, b_gapCount K, bI_s, ck_p, if_neg, if_pos, if_true, e, h1, show (0 : Int) + 1 = 1 from rfl, h']
    unfold unF
    rw [show (max 0 (D 134 1 - 1)).toNat = (D 134 1 - 2).toNat + 1 by omega]
    by_cases z2 : D 134 1 ≤ 2
    · rw [if_pos (by omega), show (D 134 1 - 2).toNat = 0 by omega, minF, maxF, Int.sub_self]
    · rw [if_neg (by omega), minF, maxF]
      have e0 : wWhite (D 134) 0 (dist 0 * max 0 (100 - a * 0) / 100) = W0 := by rw [eW]; rfl
      rw [e0, Int.max_eq_right (by omega), Int.min_eq_right (by omega)]
      rfl
theorem r_seenFrom_L (H : Wi n (D 134)) {a : Int} (ha : 0 ≤ a ∧ a ≤ 9) : ∀ (m fuel : Nat) (g lo hi : Int) (E : mD), m < fuel → 0 ≤ g → g + m = max 0 (D 134 1 - 1) → Qw D E → 0 ≤ lo → lo ≤ 1000000 → 0 ≤ hi → hi ≤ 1000000 →
    ∃ E', F_X12_seenFrom_L9 a fuel hi lo g E = some (if 2 ≤ max 0 (D 134 1 - 1) then maxF (fun g => wWhite (D 134) g (seen a g (wL (D 134) g 3))) hi g m - minF (fun g => wWhite (D 134) g (seen a g (wL (D 134) g 3))) lo g m else 0, E') ∧ Qw D E' := by
  have hr := H.ra
  intro m
  induction m with
  | zero =>
    intro fuel g lo hi E hf hd hm K l0 l1 i0 i1
    obtain ⟨j, rfl⟩ : ∃ j, fuel = j + 1 := ⟨fuel - 1, by omega⟩
    exact ⟨E, by simp (disch := omega) only [F_X12_seenFrom_L9, s_gaps H K, bI_s, ck_p, if_pos, minF, maxF], K⟩
  | succ m ih =>
    intro fuel g lo hi E hf hg hm K l0 l1 i0 i1
    obtain ⟨j, rfl⟩ : ∃ j, fuel = j + 1 := ⟨fuel - 1, by omega⟩
    have hl := H.lta (l := g) (by omega) (by omega)
    have hs := seen_r ha (g := g) (d := wL (D 134) g 3) (by omega) (by omega)
    have hw := wWhite_r H (g := g) (d := seen a g (wL (D 134) g 3)) (by omega) (by omega)
    obtain ⟨E1, h1, K1, -⟩ := s_whiteBy H K (g := g) (d := seen a g (wL (D 134) g 3)) (by omega) (by omega)
    obtain ⟨E', h', K'⟩ := ih j (g + 1) (min lo (wWhite (D 134) g (seen a g (wL (D 134) g 3)))) (max hi (wWhite (D 134) g (seen a g (wL (D 134) g 3)))) E1 (by omega) (by omega) (by omega) K1 (by omega) (by omega) (by omega) (by omega)
    refine ⟨E', ?_, K'⟩
    unfold seen at h1 hs h' hw ⊢
    simp (disch := omega) only [F_X12_seenFrom_L9, s_gaps H K, s_distance K, bI_s, ck_p, if_neg, h1, h', minF, maxF]
theorem r_seenFrom (H : Wi n (D 134)) (K : Qw D E) {a : Int} (ha : 0 ≤ a ∧ a ≤ 9) : ∃ E', F_X12_seenFrom a E = some (unF (fun g => wWhite (D 134) g (seen a g (wL (D 134) g 3))) (max 0 (D 134 1 - 1)), E') ∧ Qw D E' := by
  have hr := H.ra
  have hN := fN
  obtain ⟨E', h', K'⟩ := r_seenFrom_L H ha (max 0 (D 134 1 - 1)).toNat fuelN 0 1000000 0 E (by omega) (by omega) (by omega) K (by omega) (by omega) (by omega) (by omega)
  refine ⟨E', ?_, K'⟩
  rw [F_X12_seenFrom, h']
  unfold unF
  by_cases z : max 0 (D 134 1 - 1) < 2
  · rw [if_neg (by omega), if_pos z]
  · rw [if_pos (by omega), if_neg z]
theorem r_unevenNow_L (H : Wi n (D 134)) : ∀ (m fuel : Nat) (g lo hi : Int) (E : mD), m < fuel → 0 ≤ g → g + m = max 0 (D 134 1 - 1) → Qw D E → 0 ≤ lo → lo ≤ 1000000 → 0 ≤ hi → hi ≤ 1000000 →
    ∃ E', F_X12_unevenNow_L8 fuel hi lo g E = some (if 2 ≤ max 0 (D 134 1 - 1) then maxF (fun g => wWhite (D 134) g (wL (D 134) g 3)) hi g m - minF (fun g => wWhite (D 134) g (wL (D 134) g 3)) lo g m else 0, E') ∧ Qw D E' := by
  have hr := H.ra
  intro m
  induction m with
  | zero =>
    intro fuel g lo hi E hf hd hm K l0 l1 i0 i1
    obtain ⟨j, rfl⟩ : ∃ j, fuel = j + 1 := ⟨fuel - 1, by omega⟩
    exact ⟨E, by simp (disch := omega) only [F_X12_unevenNow_L8, s_gaps H K, bI_s, ck_p, if_pos, minF, maxF], K⟩
  | succ m ih =>
    intro fuel g lo hi E hf hg hm K l0 l1 i0 i1
    obtain ⟨j, rfl⟩ : ∃ j, fuel = j + 1 := ⟨fuel - 1, by omega⟩
    have hl := H.lta (l := g) (by omega) (by omega)
    have hw := wWhite_r H (g := g) (d := wL (D 134) g 3) (by omega) (by omega)
    obtain ⟨E1, h1, K1⟩ := s_white H K (g := g) (by omega)
    obtain ⟨E2, h2, K2⟩ := s_white H K1 (g := g) (by omega)
    obtain ⟨E', h', K'⟩ := ih j (g + 1) (min lo (wWhite (D 134) g (wL (D 134) g 3))) (max hi (wWhite (D 134) g (wL (D 134) g 3))) E2 (by omega) (by omega) (by omega) K2 (by omega) (by omega) (by omega) (by omega)
    refine ⟨E', ?_, K'⟩
    simp (disch := omega) only [F_X12_unevenNow_L8, s_gaps H K, bI_s, ck_p, if_neg, h1, h2, h', minF, maxF]
/-- how uneven the word stands -/
def wUn (w : Int → Int) : Int := unF (fun g => wWhite w g (wL w g 3)) (max 0 (w 1 - 1))
theorem wUn_r {w : Int → Int} (H : Wi n w) : -1000000 ≤ wUn w ∧ wUn w ≤ 1000000 := by
  have hr := H.ra
  exact unF_r (hi := 25920) (fun g a b => wWhite_r H (by omega) (by have := H.lta (l := g) a (by omega); omega)) (by omega) (by omega)
theorem r_unevenNow (H : Wi n (D 134)) (K : Qw D E) : ∃ E', F_X12_unevenNow E = some (wUn (D 134), E') ∧ Qw D E' := by
  have hr := H.ra
  have hN := fN
  obtain ⟨E', h', K'⟩ := r_unevenNow_L H (max 0 (D 134 1 - 1)).toNat fuelN 0 1000000 0 E (by omega) (by omega) (by omega) K (by omega) (by omega) (by omega) (by omega)
  refine ⟨E', ?_, K'⟩
  rw [F_X12_unevenNow, h']
  unfold wUn unF
  by_cases z : max 0 (D 134 1 - 1) < 2
  · rw [if_neg (by omega), if_pos z]
  · rw [if_pos (by omega), if_neg z]
/-- how uneven it is seen aslant -/
def wSl (w : Int → Int) (a : Int) : Int := unF (fun g => wWhite w g (seen a g (wL w g 3))) (max 0 (w 1 - 1))
theorem wSl_r {w : Int → Int} (H : Wi n w) {a : Int} (ha : 0 ≤ a ∧ a ≤ 9) : -1000000 ≤ wSl w a ∧ wSl w a ≤ 1000000 := by
  have hr := H.ra
  exact unF_r (hi := 25920) (fun g g0 g1 => wWhite_r H (by omega) (by have := H.lta (l := g) g0 (by omega); have := seen_r ha (g := g) (d := wL w g 3) (by omega) (by omega); omega)) (by omega) (by omega)
theorem wSl_0 {w : Int → Int} (H : Wi n w) : wSl w 0 = wUn w := unF_congr (fun g a b => by rw [seen_0]; have := H.lta (l := g) a (by omega); omega)
theorem c_slant (K : Kq n D E) {a : Int} (ha : 0 ≤ a ∧ a ≤ 9) : ∃ E', F_X0_unevenBy 18 a E = some (wSl (D 134) a, E') ∧ Kq n D E' :=
  c_unevenBy K (by decide) ha (fun g g0 g1 => by
    have := K.wi.lta (l := g) g0 (by omega)
    have e := b_ds K g0 g1
    rw [K.1 18 (by decide)] at e
    exact ⟨e, by omega, by omega⟩)
/-! reading -/
def wClear (w : Int → Int) (Y L : Int) : Int := max 0 (w 6 - wFades w Y L)
theorem wClear_r {w : Int → Int} (H : Wi n w) (Y L : Int) : 0 ≤ wClear w Y L ∧ wClear w Y L ≤ 99 := by
  have hr := H.ra
  have := wFades_r H Y L
  unfold wClear
  omega
theorem c_clearness (K : Kq n D E) {Y L : Int} (hY : 0 ≤ Y ∧ Y ≤ 60) (hL : 0 ≤ L ∧ L ≤ 60) : ∃ E', F_X0_clearness Y L E = some (wClear (D 134) Y L, E') ∧ Kq n D E' := by
  have hr := K.wi.ra
  have hc := K.ca
  have hf := wFades_r K.wi Y L
  obtain ⟨E1, h1, K1⟩ := b_fadingAt K hY hL
  refine ⟨E1, ?_, K1⟩
  simp (disch := omega) only [F_X0_clearness, h1, bI_s, ck_p, hc.2.2.2.2.2.1]
  rfl
theorem r_strength (H : Wi n (D 134)) (K : Qw D E) {Y L : Int} (hY : 0 ≤ Y ∧ Y ≤ 60) (hL : 0 ≤ L ∧ L ≤ 60) : ∃ E', F_X12_strength Y L E = some (wClear (D 134) Y L, E') ∧ Qw D E' := by
  have hr := H.ra
  have hf := wFades_r H Y L
  obtain ⟨E1, h1, K1⟩ := s_fadesBy H K hY hL
  refine ⟨E1, ?_, K1⟩
  simp (disch := omega) only [F_X12_strength, h1, bI_s, ck_p, K.w]
  rfl
def wTight (w : Int → Int) (sh : Int) : Int := minF (fun g => wLeast w sh g (wL w g 3)) 60 0 (max 0 (w 1 - 1)).toNat
theorem wTight_r {w : Int → Int} (H : Wi n w) {sh : Int} (hs : 0 ≤ sh) : 0 ≤ wTight w sh ∧ wTight w sh ≤ 60 := by
  have hr := H.ra
  exact minF_r (lo := 0) _ 60 0 (by omega) (fun g a b => (wLeast_r H (by omega) (by have := H.lta (l := g) a (by omega); omega) hs).1)
theorem c_tightestSpace_L {sh : Int} (hs : 0 ≤ sh ∧ sh ≤ 9) (K : Kq n D E) : ∀ (m fuel : Nat) (g a : Int), m < fuel → 0 ≤ g → g + m = max 0 (D 134 1 - 1) → 0 ≤ a → a ≤ 60 →
    F_X0_tightestSpace_L5 sh fuel a g E = some (minF (fun g => wLeast (D 134) sh g (wL (D 134) g 3)) a g m, E) := by
  have hr := K.wi.ra
  intro m
  induction m with
  | zero =>
    intro fuel g a hf hg hm a0 a1
    obtain ⟨j, rfl⟩ : ∃ j, fuel = j + 1 := ⟨fuel - 1, by omega⟩
    simp (disch := omega) only [F_X0_tightestSpace_L5, b_gapCount K, bI_s, ck_p, if_pos, minF]
  | succ m ih =>
    intro fuel g a hf hg hm a0 a1
    obtain ⟨j, rfl⟩ : ∃ j, fuel = j + 1 := ⟨fuel - 1, by omega⟩
    have hl := K.wi.lta (l := g) hg (by omega)
    have e := b_ds K hg (by omega)
    have hw := wLeast_r K.wi (sh := sh) (g := g) (d := wL (D 134) g 3) (by omega) (by omega) (by omega)
    simp (disch := omega) only [F_X0_tightestSpace_L5, b_gapCount K, e, b_leastSpace K, bI_s, ck_p, if_neg, minF, ih]
theorem c_tightestSpace (K : Kq n D E) {sh : Int} (hs : 0 ≤ sh ∧ sh ≤ 9) : F_X0_tightestSpace sh E = some (wTight (D 134) sh, E) := by
  have hr := K.wi.ra
  have hN := fN
  simp (disch := omega) only [F_X0_tightestSpace, c_tightestSpace_L hs K (max 0 (D 134 1 - 1)).toNat]
  rfl
/-- is the word read -/
def wRead (w : Int → Int) (sh Y L : Int) : Int := b01 (Y ≤ wClear w Y L * wTight w sh)
theorem c_isRead (K : Kq n D E) {sh Y L : Int} (hs : 0 ≤ sh ∧ sh ≤ 9) (hY : 0 ≤ Y ∧ Y ≤ 60) (hL : 0 ≤ L ∧ L ≤ 60) : ∃ E', F_X0_isRead Y L (wTight (D 134) sh) E = some (wRead (D 134) sh Y L, E') ∧ Kq n D E' := by
  have hr := K.wi.ra
  have h1 := wClear_r K.wi Y L
  have h2 := wTight_r K.wi (sh := sh) hs.1
  have h3 := mul_r h1.1 h1.2 h2.1 h2.2
  obtain ⟨E1, e1, K1⟩ := c_clearness K hY hL
  refine ⟨E1, ?_, K1⟩
  simp (disch := omega) only [F_X0_isRead, e1, bI_s, ck_p, le_tree]
  rw [ck_p (b01_01 _)]
  rfl
/-- the gaps at which letters run together -/
def wRuns (w : Int → Int) (Y L : Int) : Int := (bitN (fun g => decide (wClear w Y L * wLeast w (w 5) (g : Int) (wL w (g : Int) 3) < Y)) (max 0 (w 1 - 1)).toNat : Int)
theorem bitN_nR (p : Nat → Bool) {m : Nat} (h : m ≤ 14) : 0 ≤ (bitN p m : Int) ∧ (bitN p m : Int) < 16384 := by
  have h1 := bitN_lt p m
  have h2 : 2 ^ m ≤ 2 ^ 14 := Nat.pow_le_pow_right (by decide) h
  omega
theorem bitN_0 (p : Nat → Bool) : ∀ m, bitN p m = 0 ↔ ∀ j, j < m → p j = false := by
  intro m
  induction m with
  | zero => simp [bitN]
  | succ m ih =>
    rw [bitN]
    have h2 : 0 < 2 ^ m := Nat.two_pow_pos m
    constructor
    · intro h j hj
      by_cases e : j = m
      · subst e
        by_cases q : p j = true
        · rw [if_pos q] at h; omega
        · simpa using q
      · exact ih.mp (by omega) j (by omega)
    · intro h
      rw [ih.mpr (fun j hj => h j (by omega)), if_neg (by simp [h m (by omega)])]
theorem r_runsBy_L (H : Wi n (D 134)) {Y c : Int} (hY : 0 ≤ Y ∧ Y ≤ 60) (hc : 0 ≤ c ∧ c ≤ 99) (K : Qw D E) : ∀ (m fuel k : Nat), m < fuel → (k : Int) + m = max 0 (D 134 1 - 1) →
    F_X12_runsBy_L13 Y c fuel (bitN (fun g => decide (c * wLeast (D 134) (D 134 5) (g : Int) (wL (D 134) (g : Int) 3) < Y)) k : Int) (k : Int) E = some ((bitN (fun g => decide (c * wLeast (D 134) (D 134 5) (g : Int) (wL (D 134) (g : Int) 3) < Y)) (k + m) : Int), E) := by
  have hr := H.ra
  intro m
  induction m with
  | zero =>
    intro fuel g hf hm
    obtain ⟨j, rfl⟩ : ∃ j, fuel = j + 1 := ⟨fuel - 1, by omega⟩
    simp (disch := omega) only [F_X12_runsBy_L13, s_gaps H K, bI_s, ck_p, if_pos, Nat.add_zero]
  | succ m ih =>
    intro fuel g hf hm
    obtain ⟨j, rfl⟩ : ∃ j, fuel = j + 1 := ⟨fuel - 1, by omega⟩
    have hl := H.lta (l := g) (by omega) (by omega)
    have hw := wLeast_r H (sh := D 134 5) (g := g) (d := wL (D 134) g 3) (by omega) (by omega) (by omega)
    have hm2 := mul_r hc.1 hc.2 hw.1 hw.2
    simp (disch := omega) only [F_X12_runsBy_L13, s_gaps H K, s_leastSpace H K, bI_s, ck_p, if_neg]
    have e := bitN_step (p := fun g : Nat => decide (c * wLeast (D 134) (D 134 5) (g : Int) (wL (D 134) (g : Int) 3) < Y)) (k := g) (by omega)
    have e2 : (if Y ≤ c * wLeast (D 134) (D 134 5) (g : Int) (wL (D 134) (g : Int) 3) then (0 : Int) else bShl 1 (g : Int)) = (if decide (c * wLeast (D 134) (D 134 5) (g : Int) (wL (D 134) (g : Int) 3) < Y) = true then bShl 1 (g : Int) else 0) := by
      by_cases z : Y ≤ c * wLeast (D 134) (D 134 5) (g : Int) (wL (D 134) (g : Int) 3)
      · rw [if_pos z, if_neg (by simp; omega)]
      · rw [if_neg z, if_pos (by simp; omega)]
    rw [e2, e, show (g : Int) + 1 = ((g + 1 : Nat) : Int) by omega, ih j (g + 1) (by omega) (by omega), show g + 1 + m = g + (m + 1) by omega]
theorem r_runsBy (H : Wi n (D 134)) (K : Qw D E) {Y L : Int} (hY : 0 ≤ Y ∧ Y ≤ 60) (hL : 0 ≤ L ∧ L ≤ 60) : ∃ E', F_X12_runsBy Y L E = some (wRuns (D 134) Y L, E') ∧ Qw D E' := by
  have hr := H.ra
  have hN := fN
  obtain ⟨E1, h1, K1⟩ := r_strength H K hY hL
  refine ⟨E1, ?_, K1⟩
  have := r_runsBy_L H hY (wClear_r H Y L) K1 (max 0 (D 134 1 - 1)).toNat fuelN 0 (by omega) (by omega)
  simp only [F_X12_runsBy, h1, bI_s]
  rw [show ((0 : Nat) : Int) = 0 from rfl, show bitN _ 0 = 0 from rfl, show ((0 : Nat) : Int) = 0 from rfl, Nat.zero_add] at this
  rw [this]
  rfl
theorem tight_iff {f : Int → Int} {c Y : Int} (hc : 0 ≤ c) : ∀ (m : Nat) (a j : Int), Y ≤ c * minF f a j m ↔ Y ≤ c * a ∧ ∀ k, j ≤ k → k < j + m → Y ≤ c * f k := by
  intro m
  induction m with
  | zero => intro a j; rw [minF]; exact ⟨fun h => ⟨h, fun k a b => by omega⟩, fun h => h.1⟩
  | succ m ih =>
    intro a j
    rw [minF, ih]
    have e : Y ≤ c * min a (f j) ↔ Y ≤ c * a ∧ Y ≤ c * f j := by
      by_cases q : a ≤ f j
      · rw [Int.min_eq_left q]
        have := Int.mul_le_mul_of_nonneg_left q hc
        omega
      · rw [Int.min_eq_right (by omega)]
        have := Int.mul_le_mul_of_nonneg_left (show f j ≤ a by omega) hc
        omega
    rw [e]
    constructor
    · rintro ⟨⟨h1, h2⟩, h3⟩
      refine ⟨h1, fun k k0 k1 => ?_⟩
      by_cases z : k = j
      · subst z; exact h2
      · exact h3 k (by omega) (by omega)
    · rintro ⟨h1, h2⟩
      exact ⟨⟨h1, h2 j (by omega) (by omega)⟩, fun k k0 k1 => h2 k (by omega) (by omega)⟩
theorem r_isRead (H : Wi n (D 134)) (K : Qw D E) {Y L : Int} (hY : 1 ≤ Y ∧ Y ≤ 60) (hL : 0 ≤ L ∧ L ≤ 60) : ∃ E', F_X12_isRead Y L E = some (wRead (D 134) (D 134 5) Y L, E') ∧ Qw D E' := by
  have hr := H.ra
  have h1 := wClear_r H Y L
  by_cases z : D 134 1 ≤ 1
  · obtain ⟨E1, e1, K1⟩ := r_strength H K (Y := Y) (L := L) (by omega) hL
    refine ⟨E1, ?_, K1⟩
    simp (disch := omega) only [F_X12_isRead, s_gaps H K, e1, bI_s, ck_p, if_pos]
    have e : (if wClear (D 134) Y L ≤ 0 then (0 : Int) else 1) = wRead (D 134) (D 134 5) Y L := by
      unfold wRead wTight
      rw [show (max 0 (D 134 1 - 1)).toNat = 0 by omega, minF]
      by_cases q : wClear (D 134) Y L ≤ 0
      · rw [if_pos q, b01_f (by omega)]
      · rw [if_neg q, b01_t (by omega)]
    rw [e]
  · obtain ⟨E1, e1, K1⟩ := r_runsBy H K (Y := Y) (L := L) (by omega) hL
    refine ⟨E1, ?_, K1⟩
    have hb := bitN_nR (fun g => decide (wClear (D 134) Y L * wLeast (D 134) (D 134 5) (g : Int) (wL (D 134) (g : Int) 3) < Y)) (m := (max 0 (D 134 1 - 1)).toNat) (by omega)
    have hb2 : nR (wRuns (D 134) Y L) := by unfold wRuns; omega
    simp (disch := omega) only [F_X12_isRead, s_gaps H K, e1, bI_s, ck_p, if_neg]
    have e : (if wRuns (D 134) Y L = 0 then (1 : Int) else 0) = wRead (D 134) (D 134 5) Y L := by
      have e2 : wRuns (D 134) Y L = 0 ↔ Y ≤ wClear (D 134) Y L * wTight (D 134) (D 134 5) := by
        unfold wRuns wTight
        rw [tight_iff h1.1]
        constructor
        · intro h
          have h := (bitN_0 _ _).mp (Int.ofNat_eq_zero.mp h)
          have h3 : ∀ k : Int, 0 ≤ k → k < max 0 (D 134 1 - 1) → Y ≤ wClear (D 134) Y L * wLeast (D 134) (D 134 5) k (wL (D 134) k 3) := by
            intro k k0 k1
            have := h k.toNat (by omega)
            rw [show ((k.toNat : Nat) : Int) = k by omega] at this
            simpa using this
          refine ⟨?_, fun k k0 k1 => h3 k k0 (by omega)⟩
          have h4 := h3 0 (by omega) (by omega)
          have hl := H.lta (l := 0) (by omega) (by omega)
          have h5 := wLeast_r H (sh := D 134 5) (g := 0) (d := wL (D 134) 0 3) (by omega) (by omega) (by omega)
          have h6 := Int.mul_le_mul_of_nonneg_left (show wLeast (D 134) (D 134 5) 0 (wL (D 134) 0 3) ≤ 60 by omega) h1.1
          omega
        · rintro ⟨-, h⟩
          rw [(bitN_0 _ _).mpr (fun j hj => by
            have := h j (by omega) (by omega)
            simpa using this)]
          rfl
      unfold wRead
      by_cases q : wRuns (D 134) Y L = 0
      · rw [if_pos q, b01_t (e2.mp q)]
      · rw [if_neg q, b01_f (fun z => q (e2.mpr z))]
    rw [e]
/-- how far it is read -/
def farF (w : Int → Int) (sh L : Int) : Int → Nat → Int
  | y, 0 => y
  | y, m + 1 => if wRead w sh (y + 1) L = 0 then y else farF w sh L (y + 1) m
theorem farF_r (w : Int → Int) (sh L : Int) : ∀ (m : Nat) (y : Int), y ≤ farF w sh L y m ∧ farF w sh L y m ≤ y + m := by
  intro m
  induction m with
  | zero => intro y; simp [farF]
  | succ m ih =>
    intro y
    have := ih (y + 1)
    rw [farF]
    by_cases q : wRead w sh (y + 1) L = 0
    · rw [if_pos q]; omega
    · rw [if_neg q]; omega
def wFar (w : Int → Int) (L : Int) : Int := farF w (w 5) L 0 60
theorem wFar_r (w : Int → Int) (L : Int) : 0 ≤ wFar w L ∧ wFar w L ≤ 60 := by have := farF_r w (w 5) L 60 0; unfold wFar; omega
theorem wRead_01 (w : Int → Int) (sh Y L : Int) : wRead w sh Y L = 0 ∨ wRead w sh Y L = 1 := b01_01 _
theorem c_farthestBy_L {sh L : Int} (hs : 0 ≤ sh ∧ sh ≤ 9) (hL : 0 ≤ L ∧ L ≤ 60) : ∀ (m fuel : Nat) (y : Int) (E : mD), m < fuel → 0 ≤ y → y + m = 60 → Kq n D E →
    ∃ E', F_X0_farthestBy_L14 L (wTight (D 134) sh) fuel y E = some (farF (D 134) sh L y m, E') ∧ Kq n D E' := by
  intro m
  induction m with
  | zero =>
    intro fuel y E hf hd hm K
    obtain ⟨j, rfl⟩ : ∃ j, fuel = j + 1 := ⟨fuel - 1, by omega⟩
    exact ⟨E, by simp (disch := omega) only [F_X0_farthestBy_L14, ck_p, if_pos, farF], K⟩
  | succ m ih =>
    intro fuel y E hf hd hm K
    obtain ⟨j, rfl⟩ : ∃ j, fuel = j + 1 := ⟨fuel - 1, by omega⟩
    obtain ⟨E1, h1, K1⟩ := c_isRead K hs (Y := y + 1) (L := L) (by omega) hL
    have h01 := wRead_01 (D 134) sh (y + 1) L
    by_cases q : wRead (D 134) sh (y + 1) L = 0
    · exact ⟨E1, by simp (disch := omega) only [F_X0_farthestBy_L14, ck_p, if_neg, if_pos, farF, h1, bI_s], K1⟩
    · obtain ⟨E', h', K'⟩ := ih j (y + 1) E1 (by omega) (by omega) (by omega) K1
      exact ⟨E', by simp (disch := omega) only [F_X0_farthestBy_L14, ck_p, if_neg, farF, h1, bI_s, h'], K'⟩
theorem c_farthestBy (K : Kq n D E) {L : Int} (hL : 0 ≤ L ∧ L ≤ 60) : ∃ E', F_X0_farthestBy L E = some (wFar (D 134) L, E') ∧ Kq n D E' := by
  have hr := K.wi.ra
  have hc := K.ca
  have hN := fN
  obtain ⟨E', h', K'⟩ := c_farthestBy_L (sh := D 134 5) (by omega) hL 60 fuelN 0 E (by omega) (by omega) (by omega) K
  refine ⟨E', ?_, K'⟩
  rw [F_X0_farthestBy, hc.2.2.2.2.2.2.2.2.2.2.2.1, c_tightestSpace K (by omega), bI_s, h', wFar]
theorem r_farBy_L (H : Wi n (D 134)) {L : Int} (hL : 0 ≤ L ∧ L ≤ 60) : ∀ (m fuel : Nat) (y : Int) (E : mD), m < fuel → 0 ≤ y → y + m = 60 → Qw D E →
    ∃ E', F_X12_farBy_L2 L fuel y E = some (farF (D 134) (D 134 5) L y m, E') ∧ Qw D E' := by
  intro m
  induction m with
  | zero =>
    intro fuel y E hf hd hm K
    obtain ⟨j, rfl⟩ : ∃ j, fuel = j + 1 := ⟨fuel - 1, by omega⟩
    exact ⟨E, by simp (disch := omega) only [F_X12_farBy_L2, ck_p, if_pos, farF], K⟩
  | succ m ih =>
    intro fuel y E hf hd hm K
    obtain ⟨j, rfl⟩ : ∃ j, fuel = j + 1 := ⟨fuel - 1, by omega⟩
    obtain ⟨E1, h1, K1⟩ := r_isRead H K (Y := y + 1) (L := L) (by omega) hL
    have h01 := wRead_01 (D 134) (D 134 5) (y + 1) L
    by_cases q : wRead (D 134) (D 134 5) (y + 1) L = 0
    · exact ⟨E1, by simp (disch := omega) only [F_X12_farBy_L2, ck_p, if_neg, if_pos, farF, h1, bI_s], K1⟩
    · obtain ⟨E', h', K'⟩ := ih j (y + 1) E1 (by omega) (by omega) (by omega) K1
      exact ⟨E', by simp (disch := omega) only [F_X12_farBy_L2, ck_p, if_neg, farF, h1, bI_s, h'], K'⟩
theorem r_farBy (H : Wi n (D 134)) (K : Qw D E) {L : Int} (hL : 0 ≤ L ∧ L ≤ 60) : ∃ E', F_X12_farBy L E = some (wFar (D 134) L, E') ∧ Qw D E' := by
  have hN := fN
  exact r_farBy_L H hL 60 fuelN 0 E (by omega) (by omega) (by omega) K
end PQ3
