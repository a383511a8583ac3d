/-! THE REFERENCE: weights, fades, spaces, whites -/
section PR2
variable {n : Int} {D : mD}
theorem e475 (k : Int) : (475 : Int) + 1 + 4 * k = 476 + 4 * k := by omega
theorem sA_sA (D : mD) (a : Nat) (f g : Int → Int) : sA (sA D a f) a g = sA D a g := by
  funext b
  unfold sA
  by_cases q : b = a
  · rw [if_pos q, if_pos q]
  · rw [if_neg q, if_neg q, if_neg q]
theorem sA_id (D : mD) (a : Nat) : sA D a (D a) = D := by
  funext b
  unfold sA
  by_cases q : b = a
  · rw [if_pos q, q]
  · rw [if_neg q]
theorem fctW_0 (w : Int → Int) (d L Y r : Int) : fctW w (-1) d L Y r = fctW w (-1) 0 L Y r := by
  funext s n
  unfold fctW
  by_cases h : s = 1
  · subst h; simp
  · simp [h]
theorem r_holdsLine (H : Wi n (D 134)) (hL : LawOk (D 134) 475) (hg : GapD D) {row : Int} (hr : 0 ≤ row ∧ row < 5) (hf : FctOk (fctD D row)) {k : Int} (h0 : 0 ≤ k) (h1 : k < D 134 475) :
    ∃ f, F_X12_holdsLine k row D = some (evLine (D 134) 475 (fctD D row) k, sA D 141 f) := by
  obtain ⟨-, -, -, a1, a2, a3, -, a4⟩ := hL.2.2 k h0 h1
  have hk := hL.2.1
  rw [e475] at a1 a2 a3 a4
  unfold F_X12_holdsLine
  rw [ck_p (by omega)]
  unfold evLine
  rw [e475]
  rcases a4 with a4 | a4
  · rw [if_pos a4]
    obtain ⟨m, em⟩ := fuel_big (n := 0) (by decide)
    refine ⟨D 141, ?_⟩
    rw [sA_id, show fuelN = m + 1 by omega, F_X12_holdsLine_L22, ck_p (by omega), ck_p (by omega), ck_p (by omega), if_pos (by omega), ck_p (by decide), ck_p (fun q => absurd rfl q), if_pos rfl, ck_p (Or.inr rfl)]
  · by_cases q : D 134 (476 + 4 * k + 2) = D 134 (476 + 4 * k + 3)
    · rw [if_pos q]
      obtain ⟨m, em⟩ := fuel_big (n := 0) (by decide)
      refine ⟨D 141, ?_⟩
      rw [sA_id, show fuelN = m + 1 by omega, F_X12_holdsLine_L22, ck_p (by omega), ck_p (by omega), ck_p (by omega), if_pos (by omega), ck_p (by decide), ck_p (fun q => absurd rfl q), if_pos rfl, ck_p (Or.inr rfl)]
    · rw [if_neg q]
      have := r_holds H hr (x4 := 476 + 4 * k) (by omega) a3 (D 134 (476 + 4 * k + 3) - D 134 (476 + 4 * k + 2)).toNat fuelN (D 134 (476 + 4 * k + 2)) [] [] D (by unfold fuelN; omega) a1 (by omega) a4 trivial (by simp; omega) (by decide) rfl rfl hg hf trivial
      exact this
theorem r_sumOf_L (H : Wi n (D 134)) (hL : LawOk (D 134) 475) (hg : GapD D) {row kind : Int} (hr : 0 ≤ row ∧ row < 5) (hf : FctOk (fctD D row)) (hk : nR kind) :
    ∀ (m fuel : Nat) (k s : Int) (E : mD), m < fuel → 0 ≤ k → k + m = D 134 475 → (∃ g, E = sA D 141 g) →
      ∃ f, F_X12_sumOf_L5 kind row fuel s k E = some (s + sumF (fun k => if D 134 (475 + 1 + 4 * k) = kind ∧ evLine (D 134) 475 (fctD D row) k = 1 then D 134 (475 + 1 + 4 * k + 1) else 0) k m, sA D 141 f) := by
  have hl := hL.2.1
  intro m
  induction m with
  | zero =>
    intro fuel k s E hfu hk0 hkm hE
    obtain ⟨g, rfl⟩ := hE
    obtain ⟨j, rfl⟩ : ∃ j, fuel = j + 1 := ⟨fuel - 1, by omega⟩
    refine ⟨g, ?_⟩
    rw [F_X12_sumOf_L5, ck_p (by omega), sA_ne (by decide), ck_p (by omega), if_pos (by omega), sumF, Int.add_zero]
  | succ m ih =>
    intro fuel k s E hfu hk0 hkm hE
    obtain ⟨g, rfl⟩ := hE
    obtain ⟨j, rfl⟩ : ∃ j, fuel = j + 1 := ⟨fuel - 1, by omega⟩
    obtain ⟨b1, b2, b3, -⟩ := hL.2.2 k hk0 (by omega)
    rw [e475] at b1 b2 b3
    have w1 : (sA D 141 g) 134 = D 134 := sA_ne (by decide)
    rw [F_X12_sumOf_L5, ck_p (by omega), w1, ck_p (by omega), if_neg (by omega), ck_p (by omega), ck_p (by omega), ck_p hk, sumF]
    simp only [e475]
    by_cases q : D 134 (476 + 4 * k) = kind
    · rw [if_pos q]
      have gd : GapD (sA D 141 g) := by unfold GapD at hg ⊢; rw [sA_ne (by decide), sA_ne (by decide)]; exact hg
      have fd : fctD (sA D 141 g) row = fctD D row := by unfold fctD; rw [sA_ne (by decide), sA_ne (by decide)]
      obtain ⟨f, hf1⟩ := r_holdsLine (D := sA D 141 g) (by rw [w1]; exact H) (by rw [w1]; exact hL) gd hr (by rw [fd]; exact hf) (k := k) hk0 (by rw [w1]; omega)
      rw [w1, fd, sA_sA] at hf1
      rw [bI_e hf1]
      rcases evLine_01 hf hL hk0 (by omega) with e | e
      · rw [e, ck_p (by decide), ck_p (fun z => absurd rfl z), if_pos rfl, if_neg (by simp)]
        obtain ⟨f2, hf2⟩ := ih j (k + 1) (s + 0) (sA D 141 f) (by omega) (by omega) (by omega) ⟨f, rfl⟩
        refine ⟨f2, ?_⟩
        rw [hf2]
        simp only [e475]
        congr 2
        omega
      · rw [e, ck_p (by decide), ck_p (fun _ => by omega), if_neg (by decide), if_pos ⟨q, rfl⟩, sA_ne (by decide)]
        obtain ⟨f2, hf2⟩ := ih j (k + 1) (s + D 134 (476 + 4 * k + 1)) (sA D 141 f) (by omega) (by omega) (by omega) ⟨f, rfl⟩
        refine ⟨f2, ?_⟩
        rw [hf2]
        simp only [e475]
        congr 2
        omega
    · rw [if_neg q, if_neg (fun z => q z.1)]
      obtain ⟨f2, hf2⟩ := ih j (k + 1) (s + 0) (sA D 141 g) (by omega) (by omega) (by omega) ⟨g, rfl⟩
      refine ⟨f2, ?_⟩
      rw [hf2]
      simp only [e475]
      congr 2
      omega
theorem r_sumOf (H : Wi n (D 134)) (hL : LawOk (D 134) 475) (hg : GapD D) {row kind : Int} (hr : 0 ≤ row ∧ row < 5) (hf : FctOk (fctD D row)) (hk : nR kind) :
    ∃ f, F_X12_sumOf kind row D = some (evSum (D 134) 475 kind (fctD D row), sA D 141 f) := by
  have h1 := hL.1
  have h2 := hL.2.1
  obtain ⟨f, h⟩ := r_sumOf_L H hL hg hr hf hk (D 134 475).toNat fuelN 0 0 D (by unfold fuelN; omega) (by omega) (by omega) ⟨D 141, (sA_id D 141).symm⟩
  refine ⟨f, ?_⟩
  unfold F_X12_sumOf
  rw [h, Int.zero_add]
  rfl
/-- WEIGHT of a row of a gap, were its distance d -/
def wWeight (w : Int → Int) (g d r : Int) : Int := if w 10 = 0 then 1 else evSum w 475 0 (fctW w g d 0 0 r)
def wFades (w : Int → Int) (Y L : Int) : Int := if w 10 = 0 then 0 else evSum w 475 1 (fctW w (-1) 0 L Y 0)
theorem wWeight_r {w : Int → Int} (H : Wi n w) (g d r : Int) : 0 ≤ wWeight w g d r ∧ wWeight w g d r ≤ 108 := by
  have hr := H.r
  unfold Wr at hr
  unfold wWeight
  by_cases q : w 10 = 0
  · rw [if_pos q]; omega
  · rw [if_neg q]; exact evSum_r0 (H.law (by omega))
theorem wFades_r {w : Int → Int} (H : Wi n w) (Y L : Int) : 0 ≤ wFades w Y L ∧ wFades w Y L ≤ 1188 := by
  have hr := H.r
  unfold Wr at hr
  unfold wFades
  by_cases q : w 10 = 0
  · rw [if_pos q]; omega
  · rw [if_neg q]; exact evSum_r (H.law (by omega))
theorem r_weightOf (H : Wi n (D 134)) {g d r : Int} (hg : 0 ≤ g ∧ g + 1 < D 134 1) (hd : 0 ≤ d ∧ d ≤ 30) (hr : 0 ≤ r ∧ r < 5) : ∃ D', F_X12_weightOf g d r D = some (wWeight (D 134) g d r, D') ∧ Qr D D' := by
  have hrr := H.r
  unfold Wr at hrr
  unfold F_X12_weightOf wWeight
  rw [ck_p (by omega)]
  by_cases q : D 134 10 = 0
  · rw [if_pos q, if_pos q]; exact ⟨D, rfl, Qr.rf⟩
  · rw [if_neg q, if_neg q]
    obtain ⟨E, hE⟩ : ∃ E, E = pD (pD (pD (pD D 133 18 g) 133 19 d) 133 20 0) 133 21 0 := ⟨_, rfl⟩
    have qr : Qr D E := by
      rw [hE]
      exact (((Qr.put (by omega)).tr (Qr.put (by omega))).tr (Qr.put (by omega))).tr (Qr.put (by omega))
    have f1 : E 133 18 = g := by rw [hE]; simp [pD_at]
    have f2 : E 133 19 = d := by rw [hE]; simp [pD_at]
    have f3 : E 133 20 = 0 := by rw [hE]; simp [pD_at]
    have f4 : E 133 21 = 0 := by rw [hE]; simp [pD_at]
    have ew := qr.w
    have fd : fctD E r = fctW (D 134) g d 0 0 r := by unfold fctD; rw [f1, f2, f3, f4, ew]
    obtain ⟨f, hf⟩ := r_sumOf (D := E) (by rw [ew]; exact H) (by rw [ew]; exact H.law (by omega)) (by unfold GapD; rw [f1, ew]; exact Or.inr hg) hr (by rw [fd]; exact fctW_ok H (Or.inr hg) hd (by omega) (by omega) hr) (kind := 0) (by decide)
    rw [← hE, bI_e hf, ew, fd]
    exact ⟨_, rfl, qr.tr (Qr.puts)⟩
theorem r_fadesBy (H : Wi n (D 134)) {Y L : Int} (hY : 0 ≤ Y ∧ Y ≤ 60) (hL : 0 ≤ L ∧ L ≤ 60) : ∃ D', F_X12_fadesBy Y L D = some (wFades (D 134) Y L, D') ∧ Qr D D' := by
  have hrr := H.r
  unfold Wr at hrr
  unfold F_X12_fadesBy wFades
  rw [ck_p (by omega)]
  by_cases q : D 134 10 = 0
  · rw [if_pos q, if_pos q]; exact ⟨D, rfl, Qr.rf⟩
  · rw [if_neg q, if_neg q]
    obtain ⟨E, hE⟩ : ∃ E, E = pD (pD (pD D 133 18 (-1)) 133 20 L) 133 21 Y := ⟨_, rfl⟩
    have qr : Qr D E := by
      rw [hE]
      exact ((Qr.put (by omega)).tr (Qr.put (by omega))).tr (Qr.put (by omega))
    have f1 : E 133 18 = -1 := by rw [hE]; simp [pD_at]
    have f3 : E 133 20 = L := by rw [hE]; simp [pD_at]
    have f4 : E 133 21 = Y := by rw [hE]; simp [pD_at]
    have ew := qr.w
    have fd : fctD E 0 = fctW (D 134) (-1) 0 L Y 0 := by unfold fctD; rw [f1, f3, f4, ew, fctW_0]
    obtain ⟨f, hf⟩ := r_sumOf (D := E) (by rw [ew]; exact H) (by rw [ew]; exact H.law (by omega)) (by unfold GapD; rw [f1]; exact Or.inl rfl) (row := 0) (by omega) (by rw [fd]; exact fctW_ok H (Or.inl rfl) (by omega) hL hY (by omega)) (kind := 1) (by decide)
    rw [← hE, bI_e hf, ew, fd]
    exact ⟨_, rfl, qr.tr (Qr.puts)⟩
/-- SPACE, were the distance d, the shadow sh -/
def wSpace (w : Int → Int) (sh g d r : Int) : Int := min (w 4) (wI w g (7 + r) + max 0 (d - sh) + wI w (g + 1) (2 + r))
theorem wIr {w : Int → Int} (H : Wi n w) {l r : Int} (h0 : 0 ≤ l) (h1 : l < w 1) (hr : 0 ≤ r ∧ r < 5) : 0 ≤ wI w l (7 + r) ∧ wI w l (7 + r) ≤ 9 ∧ 0 ≤ wI w l (2 + r) ∧ wI w l (2 + r) ≤ 9 := by
  have hl := H.lt h0 h1
  unfold LtOk at hl
  have hs := (H.sg (s := wL w l 0) (by omega) (by omega)).2.2.2.2 r hr.1 hr.2
  unfold wI
  omega
theorem wSpace_r {w : Int → Int} (H : Wi n w) {sh g d r : Int} (hg : 0 ≤ g ∧ g + 1 < w 1) (hd : 0 ≤ d ∧ d ≤ 30) (hs : 0 ≤ sh) (hr : 0 ≤ r ∧ r < 5) : 0 ≤ wSpace w sh g d r ∧ wSpace w sh g d r ≤ 48 := by
  have hrr := H.r
  unfold Wr at hrr
  have h1 := wIr H (l := g) hg.1 (by omega) hr
  have h2 := wIr H (l := g + 1) (by omega) hg.2 hr
  unfold wSpace
  omega
theorem r_spaceOf (H : Wi n (D 134)) {g d r : Int} (hg : 0 ≤ g ∧ g + 1 < D 134 1) (hd : 0 ≤ d ∧ d ≤ 30) (hr : 0 ≤ r ∧ r < 5) : F_X12_spaceOf g d r D = some (wSpace (D 134) (D 134 5) g d r, D) := by
  have hrr := H.r
  unfold Wr at hrr
  have h1 := wIr H (l := g) hg.1 (by omega) hr
  have h2 := wIr H (l := g + 1) (by omega) hg.2 hr
  unfold F_X12_spaceOf
  rw [e_its H (by omega) (by omega) (by omega) (by omega), bI_s, ck_p (by omega), e_its H (by omega) (by omega) (by omega) (by omega), bI_s, ck_p (by omega), ck_p (by omega)]
  rfl
/-- WHITE of a gap, were its distance d -/
def wWhite (w : Int → Int) (g d : Int) : Int := sumF (fun r => wSpace w (w 5) g d r * wWeight w g d r) 0 5
theorem mul_r {a b A B : Int} (a0 : 0 ≤ a) (a1 : a ≤ A) (b0 : 0 ≤ b) (b1 : b ≤ B) : 0 ≤ a * b ∧ a * b ≤ A * B :=
  ⟨Int.mul_nonneg a0 b0, Int.mul_le_mul a1 b1 b0 (Int.le_trans a0 a1)⟩
theorem wWhite_r {w : Int → Int} (H : Wi n w) {g d : Int} (hg : 0 ≤ g ∧ g + 1 < w 1) (hd : 0 ≤ d ∧ d ≤ 30) : 0 ≤ wWhite w g d ∧ wWhite w g d ≤ 25920 := by
  have hrr := H.r
  unfold Wr at hrr
  have h := sumF_bounds (f := fun r => wSpace w (w 5) g d r * wWeight w g d r) (lo := 0) (hi := 48 * 108) 5 0 (fun r h0 h1 => by
    have a := wSpace_r H (sh := w 5) hg hd (by omega) (r := r) (by omega)
    have b := wWeight_r H g d r
    exact mul_r a.1 a.2 b.1 b.2)
  unfold wWhite
  omega
theorem r_whiteBy_L (H : Wi n (D 134)) {g d : Int} (hg : 0 ≤ g ∧ g + 1 < D 134 1) (hd : 0 ≤ d ∧ d ≤ 30) : ∀ (m fuel : Nat) (k s : Int) (E : mD), m < fuel → 0 ≤ k → k + m = 5 → Qr D E →
    ∃ D', F_X12_whiteBy_L5 g d fuel s k E = some (s + sumF (fun r => wSpace (D 134) (D 134 5) g d r * wWeight (D 134) g d r) k m, D') ∧ Qr D D' := by
  intro m
  induction m with
  | zero =>
    intro fuel k s E hfu hk0 hkm hE
    obtain ⟨j, rfl⟩ : ∃ j, fuel = j + 1 := ⟨fuel - 1, by omega⟩
    refine ⟨E, ?_, hE⟩
    rw [F_X12_whiteBy_L5, ck_p (by omega), if_pos (by omega), sumF, Int.add_zero]
  | succ m ih =>
    intro fuel k s E hfu hk0 hkm hE
    obtain ⟨j, rfl⟩ : ∃ j, fuel = j + 1 := ⟨fuel - 1, by omega⟩
    have ew := hE.w
    obtain ⟨E2, h2, q2⟩ := r_weightOf (D := E) (by rw [ew]; exact H) (g := g) (d := d) (r := k) (by rw [ew]; exact hg) hd (by omega)
    have h1 := r_spaceOf (D := E) (by rw [ew]; exact H) (g := g) (d := d) (r := k) (by rw [ew]; exact hg) hd (by omega)
    rw [ew] at h1 h2
    obtain ⟨D', h3, q3⟩ := ih j (k + 1) (s + wSpace (D 134) (D 134 5) g d k * wWeight (D 134) g d k) E2 (by omega) (by omega) (by omega) (hE.tr q2)
    refine ⟨D', ?_, q3⟩
    rw [F_X12_whiteBy_L5, ck_p (by omega), if_neg (by omega), bI_e h1, bI_e h2, h3, sumF]
    congr 2
    omega
theorem r_whiteBy (H : Wi n (D 134)) {g d : Int} (hg : 0 ≤ g ∧ g + 1 < D 134 1) (hd : 0 ≤ d ∧ d ≤ 30) : ∃ D', F_X12_whiteBy g d D = some (wWhite (D 134) g d, D') ∧ Qr D D' := by
  obtain ⟨D', h, q⟩ := r_whiteBy_L H hg hd 5 fuelN 0 0 D (by unfold fuelN; omega) (by omega) (by omega) Qr.rf
  refine ⟨D', ?_, q⟩
  unfold F_X12_whiteBy
  rw [h, Int.zero_add]
  rfl
theorem r_white (H : Wi n (D 134)) {g : Int} (hg : 0 ≤ g ∧ g + 1 < D 134 1) : ∃ D', F_X12_white g D = some (wWhite (D 134) g (wL (D 134) g 3), D') ∧ Qr D D' := by
  have hl := H.lt (l := g) (by omega) (by omega)
  have hrr := H.r
  unfold Wr at hrr
  unfold LtOk at hl
  obtain ⟨D', h, q⟩ := r_whiteBy H hg (d := wL (D 134) g 3) (by omega)
  refine ⟨D', ?_, q⟩
  unfold F_X12_white
  rw [e_distance (by omega) (by omega), bI_s, bI_e h]
end PR2
