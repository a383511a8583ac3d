/-! WHITES kept, distances for a white, what is lacking: both -/
section PQ2
variable {n : Int} {D E : mD}
def Kq (n : Int) (D E : mD) : Prop := Qc D E ∧ CR n E
theorem Kq.rf (R : CR n D) : Kq n D D := ⟨Qc.rf, R⟩
theorem Kq.w (K : Kq n D E) : E 134 = D 134 := K.1.w
theorem Kq.ca (K : Kq n D E) : CA (D 134) E := by have := K.2.ca; rw [K.w] at this; exact this
theorem Kq.wi (K : Kq n D E) : Wi n (D 134) := by have := K.2.wi; rw [K.w] at this; exact this
theorem b_gapCount (K : Kq n D E) : F_X6_gapCount 3 E = some (max 0 (D 134 1 - 1), E) := by rw [c_gapCount K.2, K.w]
theorem b_widthOf (K : Kq n D E) {l : Int} (h0 : 0 ≤ l) (h1 : l < D 134 1) : F_X0_widthOf l E = some (wWid (D 134) l, E) := by rw [c_widthOf K.2 h0 (by rw [K.w]; exact h1), K.w]
theorem b_whiteOf (K : Kq n D E) {g d : Int} (hg : 0 ≤ g ∧ g + 1 < D 134 1) (hd : 0 ≤ d ∧ d ≤ 30) : ∃ E', F_X0_whiteOf g d E = some (wWhite (D 134) g d, E') ∧ Kq n D E' := by
  obtain ⟨E', h, q, R⟩ := c_whiteCR K.2 (g := g) (d := d) (by rw [K.w]; exact hg) hd
  rw [K.w] at h
  exact ⟨E', h, K.1.tr q, R⟩
theorem b_ds (K : Kq n D E) {g : Int} (h0 : 0 ≤ g) (h1 : g + 1 < D 134 1) : E 18 g = wL (D 134) g 3 := by rw [K.2.ds h0 (by rw [K.w]; exact h1), K.w]
theorem b_leastSpace (K : Kq n D E) {g d sh : Int} (hg : 0 ≤ g ∧ g + 1 < D 134 1) (hd : 0 ≤ d ∧ d ≤ 30) (hs : 0 ≤ sh ∧ sh ≤ 9) : F_X0_leastSpace g d sh E = some (wLeast (D 134) sh g d, E) := by
  rw [c_leastSpace K.2 (by rw [K.w]; exact hg) hd hs, K.w]
theorem b_fadingAt (K : Kq n D E) {Y L : Int} (hY : 0 ≤ Y ∧ Y ≤ 60) (hL : 0 ≤ L ∧ L ≤ 60) : ∃ E', F_X0_fadingAt Y L E = some (wFades (D 134) Y L, E') ∧ Kq n D E' := by
  obtain ⟨E', h, q, e25⟩ := c_fadingAt K.2.cw Qc.rf hY hL
  rw [K.w] at h
  exact ⟨E', h, K.1.tr q, K.2.god25 q.qd e25⟩
/-! of the reference, behind other questions -/
theorem s_wi (H : Wi n (D 134)) (q : Qw D E) : Wi n (E 134) := by rw [q.w]; exact H
theorem s_gaps (H : Wi n (D 134)) (q : Qw D E) : F_X12_gaps E = some (max 0 (D 134 1 - 1), E) := by rw [e_gaps (s_wi H q).r, q.w]
theorem s_letters (q : Qw D E) : F_X12_letters E = some (D 134 1, E) := by rw [F_X12_letters, q.w]
theorem s_widthOf (H : Wi n (D 134)) (q : Qw D E) {l : Int} (h0 : 0 ≤ l) (h1 : l < D 134 1) : F_X12_widthOf l E = some (wWid (D 134) l, E) := by rw [e_widthOf (s_wi H q) h0 (by rw [q.w]; exact h1), q.w]
theorem s_distance (q : Qw D E) {l : Int} (h0 : 0 ≤ l) (h1 : l < 14) : F_X12_distance l E = some (wL (D 134) l 3, E) := by rw [e_distance h0 h1, q.w]
theorem s_whiteBy (H : Wi n (D 134)) (q : Qw D E) {g d : Int} (hg : 0 ≤ g ∧ g + 1 < D 134 1) (hd : 0 ≤ d ∧ d ≤ 30) : ∃ E', F_X12_whiteBy g d E = some (wWhite (D 134) g d, E') ∧ Qw D E' ∧ E' 142 = E 142 := by
  obtain ⟨E', h, q'⟩ := r_whiteBy (s_wi H q) (g := g) (d := d) (by rw [q.w]; exact hg) hd
  rw [q.w] at h
  exact ⟨E', h, q.tr q'.qw, q'.1 142 (by decide) (by decide)⟩
theorem s_white (H : Wi n (D 134)) (q : Qw D E) {g : Int} (hg : 0 ≤ g ∧ g + 1 < D 134 1) : ∃ E', F_X12_white g E = some (wWhite (D 134) g (wL (D 134) g 3), E') ∧ Qw D E' := by
  obtain ⟨E', h, q'⟩ := r_white (s_wi H q) (g := g) (by rw [q.w]; exact hg)
  rw [q.w] at h
  exact ⟨E', h, q.tr q'.qw⟩
theorem s_fadesBy (H : Wi n (D 134)) (q : Qw D E) {Y L : Int} (hY : 0 ≤ Y ∧ Y ≤ 60) (hL : 0 ≤ L ∧ L ≤ 60) : ∃ E', F_X12_fadesBy Y L E = some (wFades (D 134) Y L, E') ∧ Qw D E' := by
  obtain ⟨E', h, q'⟩ := r_fadesBy (s_wi H q) hY hL
  rw [q.w] at h
  exact ⟨E', h, q.tr q'.qw⟩
theorem s_leastSpace (H : Wi n (D 134)) (q : Qw D E) {g : Int} (hg : 0 ≤ g ∧ g + 1 < D 134 1) : F_X12_leastSpace g E = some (wLeast (D 134) (D 134 5) g (wL (D 134) g 3), E) := by
  rw [r_leastSpace (s_wi H q) (by rw [q.w]; exact hg), q.w]
/-! the whites that the reference lays -/
def WhU (w : Int → Int) (E : mD) (b : Int) : Prop := ∀ g d, 0 ≤ g → g + 1 < w 1 → 0 ≤ d → d ≤ 30 → 31 * g + d < b → E 142 (31 * g + d) = wWhite w g d
def WhR (w : Int → Int) (E : mD) : Prop := WhU w E 434
theorem WhR.at {w : Int → Int} (h : WhR w E) {g d : Int} (g0 : 0 ≤ g) (g1 : g + 1 < w 1) (d0 : 0 ≤ d) (d1 : d ≤ 30) (hw : w 1 ≤ 14) : E 142 (31 * g + d) = wWhite w g d := h g d g0 g1 d0 d1 (by omega)
theorem r_laysWhites_K (H : Wi n (D 134)) {g : Int} (g0 : 0 ≤ g) (g1 : g + 1 < D 134 1) (K : Int → mD → RI) : ∀ (m fuel : Nat) (d : Int) (E : mD), m < fuel → 0 ≤ d → d + m = 31 → Qw D E → WhU (D 134) E (31 * g + d) →
    ∃ E', F_X12_laysWhites_L12 K g fuel d E = K (g + 1) E' ∧ Qw D E' ∧ WhU (D 134) E' (31 * (g + 1)) := by
  have hr := H.ra
  intro m
  induction m with
  | zero =>
    intro fuel d E hf hd hm q hU
    obtain ⟨j, rfl⟩ : ∃ j, fuel = j + 1 := ⟨fuel - 1, by omega⟩
    refine ⟨E, ?_, q, ?_⟩
    · simp (disch := omega) only [F_X12_laysWhites_L12, ck_p, if_pos]
    · rw [show 31 * (g + 1) = 31 * g + d by omega]; exact hU
  | succ m ih =>
    intro fuel d E hf hd hm q hU
    obtain ⟨j, rfl⟩ : ∃ j, fuel = j + 1 := ⟨fuel - 1, by omega⟩
    obtain ⟨E1, h1, q1, e1⟩ := s_whiteBy H q (g := g) (d := d) (by omega) (by omega)
    obtain ⟨E', h', q', u'⟩ := ih j (d + 1) (pD E1 142 (31 * g + d) (wWhite (D 134) g d)) (by omega) (by omega) (by omega) (q1.tr (Qw.put (by omega))) (by
      intro g2 d2 a1 a2 a3 a4 a5
      rw [pD_at]
      by_cases z : 31 * g2 + d2 = 31 * g + d
      · rw [if_pos z, show g2 = g by omega, show d2 = d by omega]
      · rw [if_neg z, e1]
        exact hU g2 d2 a1 a2 a3 a4 (by omega))
    refine ⟨E', ?_, q', u'⟩
    simp (disch := omega) only [F_X12_laysWhites_L12, ck_p, if_neg, h1, bI_s, h']
theorem r_laysWhites_L (H : Wi n (D 134)) : ∀ (m fuel : Nat) (g : Int) (E : mD), m < fuel → 0 ≤ g → g + m = max 0 (D 134 1 - 1) → Qw D E → WhU (D 134) E (31 * g) →
    ∃ E', F_X12_laysWhites_L2 fuel g E = some (0, E') ∧ Qw D E' ∧ WhR (D 134) E' := by
  have hr := H.ra
  have hN := fN
  intro m
  induction m with
  | zero =>
    intro fuel d E hf hd hm q hU
    obtain ⟨j, rfl⟩ : ∃ j, fuel = j + 1 := ⟨fuel - 1, by omega⟩
    refine ⟨E, ?_, q, ?_⟩
    · simp (disch := omega) only [F_X12_laysWhites_L2, s_gaps H q, bI_s, ck_p, if_pos]
    · intro g2 d2 a1 a2 a3 a4 a5
      exact hU g2 d2 a1 a2 a3 a4 (by omega)
  | succ m ih =>
    intro fuel g E hf hd hm q hU
    obtain ⟨j, rfl⟩ : ∃ j, fuel = j + 1 := ⟨fuel - 1, by omega⟩
    obtain ⟨E1, h1, q1, u1⟩ := r_laysWhites_K H (g := g) (by omega) (by omega) (F_X12_laysWhites_L2 j) 31 fuelN 0 E (by omega) (by omega) (by omega) q (by rw [Int.add_zero]; exact hU)
    obtain ⟨E', h', q', u'⟩ := ih j (g + 1) E1 (by omega) (by omega) (by omega) q1 u1
    refine ⟨E', ?_, q', u'⟩
    simp (disch := omega) only [F_X12_laysWhites_L2, s_gaps H q, bI_s, ck_p, if_neg, h1, h']
theorem r_laysWhites (H : Wi n (D 134)) (q : Qw D E) : ∃ E', F_X12_laysWhites E = some (0, E') ∧ Qw D E' ∧ WhR (D 134) E' := by
  have hN := fN
  exact r_laysWhites_L H (max 0 (D 134 1 - 1)).toNat fuelN 0 E (by have := H.ra; omega) (by omega) (by omega) q (fun g2 d2 a1 a2 a3 a4 a5 => by omega)
/-! the least distance for a white -/
def fstG (f : Int → Int) (x : Int) : Int → Nat → Int
  | d, 0 => d
  | d, m + 1 => if x ≤ f d then d else fstG f x (d + 1) m
theorem fstG_r (f : Int → Int) (x : Int) : ∀ (m : Nat) (d : Int), d ≤ fstG f x d m ∧ fstG f x d m ≤ d + m := by
  intro m
  induction m with
  | zero => intro d; simp [fstG]
  | succ m ih =>
    intro d
    have := ih (d + 1)
    rw [fstG]
    by_cases q : x ≤ f d
    · rw [if_pos q]; omega
    · rw [if_neg q]; omega
def wDis (w : Int → Int) (g x : Int) : Int := fstG (wWhite w g) x 0 30
theorem wDis_r (w : Int → Int) (g x : Int) : 0 ≤ wDis w g x ∧ wDis w g x ≤ 30 := by have := fstG_r (wWhite w g) x 30 0; unfold wDis; omega
theorem c_distanceFor_L {g x : Int} (hg : 0 ≤ g ∧ g + 1 < D 134 1) (hx : nR x) : ∀ (m fuel : Nat) (d : Int) (E : mD), m < fuel → 0 ≤ d → d + m = 30 → Kq n D E →
    ∃ E', F_X0_distanceFor_L2 g x fuel d E = some (fstG (wWhite (D 134) g) x d m, E') ∧ Kq n D E' := by
  intro m
  induction m with
  | zero =>
    intro fuel d E hf hd hm K
    obtain ⟨j, rfl⟩ : ∃ j, fuel = j + 1 := ⟨fuel - 1, by omega⟩
    exact ⟨E, by simp (disch := omega) only [F_X0_distanceFor_L2, ck_p, if_pos, fstG], K⟩
  | succ m ih =>
    intro fuel d E hf hd hm K
    obtain ⟨j, rfl⟩ : ∃ j, fuel = j + 1 := ⟨fuel - 1, by omega⟩
    have hw := wWhite_r K.wi hg (d := d) (by omega)
    obtain ⟨E1, h1, K1⟩ := b_whiteOf K hg (d := d) (by omega)
    by_cases q : x ≤ wWhite (D 134) g d
    · exact ⟨E1, by simp (disch := omega) only [F_X0_distanceFor_L2, ck_p, if_pos, if_neg, fstG, h1, bI_s], K1⟩
    · obtain ⟨E', h', K'⟩ := ih j (d + 1) E1 (by omega) (by omega) (by omega) K1
      exact ⟨E', by simp (disch := omega) only [F_X0_distanceFor_L2, ck_p, if_neg, fstG, h1, bI_s, h'], K'⟩
theorem c_distanceFor (K : Kq n D E) {g x : Int} (hg : 0 ≤ g ∧ g + 1 < D 134 1) (hx : nR x) : ∃ E', F_X0_distanceFor g x E = some (wDis (D 134) g x, E') ∧ Kq n D E' := by
  have hN := fN
  exact c_distanceFor_L hg hx 30 fuelN 0 E (by omega) (by omega) (by omega) K
theorem r_leastFor_L (H : Wi n (D 134)) (U : WhR (D 134) E) {g x : Int} (hg : 0 ≤ g ∧ g + 1 < D 134 1) (hx : nR x) : ∀ (m fuel : Nat) (d : Int), m < fuel → 0 ≤ d → d + m = 30 →
    F_X12_leastFor_L2 g x fuel d E = some (fstG (wWhite (D 134) g) x d m, E) := by
  have hr := H.ra
  intro m
  induction m with
  | zero =>
    intro fuel d hf hd hm
    obtain ⟨j, rfl⟩ : ∃ j, fuel = j + 1 := ⟨fuel - 1, by omega⟩
    simp (disch := omega) only [F_X12_leastFor_L2, ck_p, if_pos, fstG]
  | succ m ih =>
    intro fuel d hf hd hm
    obtain ⟨j, rfl⟩ : ∃ j, fuel = j + 1 := ⟨fuel - 1, by omega⟩
    have hw := wWhite_r H hg (d := d) (by omega)
    have e := U.at hg.1 hg.2 hd (d := d) (by omega) (by omega)
    by_cases q : x ≤ wWhite (D 134) g d
    · simp (disch := omega) only [F_X12_leastFor_L2, ck_p, if_pos, if_neg, fstG, e]
    · simp (disch := omega) only [F_X12_leastFor_L2, ck_p, if_neg, fstG, e, ih]
theorem r_leastFor (H : Wi n (D 134)) (U : WhR (D 134) E) {g x : Int} (hg : 0 ≤ g ∧ g + 1 < D 134 1) (hx : nR x) : F_X12_leastFor g x E = some (wDis (D 134) g x, E) := by
  have hN := fN
  exact r_leastFor_L H U hg hx 30 fuelN 0 (by omega) (by omega) (by omega)
/-- what the first k letters lack for a white -/
def wLack (w : Int → Int) (x k : Int) : Int := 2 * w 3 + w 5 - w 2 + sumF (fun l => wWid w l + (if l < k - 1 then wDis w l x else 0)) 0 k.toNat
theorem wLack_r {w : Int → Int} (H : Wi n w) {x k : Int} (k0 : 0 ≤ k) (k1 : k ≤ w 1) : -120 ≤ wLack w x k ∧ wLack w x k ≤ 615 := by
  have hr := H.ra
  have h := sumF_bounds (f := fun l => wWid w l + (if l < k - 1 then wDis w l x else 0)) (lo := 0) (hi := 42) k.toNat 0 (fun l a b => by
    have h1 := wWid_r H (l := l) a (by omega)
    have h2 := wDis_r w l x
    by_cases q : l < k - 1
    · simp only [if_pos q]; omega
    · simp only [if_neg q]; omega)
  unfold wLack
  omega
theorem r_shortBy_L (H : Wi n (D 134)) (U : WhR (D 134) E) (q : Qw D E) {x k : Int} (hk : 0 ≤ k ∧ k ≤ D 134 1) (hx : nR x) : ∀ (m fuel : Nat) (l s : Int), m < fuel → 0 ≤ l → l + m = k →
    F_X12_shortBy_L26 x k fuel s l E = some (s + sumF (fun l => wWid (D 134) l + (if l < k - 1 then wDis (D 134) l x else 0)) l m, E) := by
  have hr := H.ra
  intro m
  induction m with
  | zero =>
    intro fuel d s hf hd hm
    obtain ⟨j, rfl⟩ : ∃ j, fuel = j + 1 := ⟨fuel - 1, by omega⟩
    simp (disch := omega) only [F_X12_shortBy_L26, ck_p, if_pos, sumF, Int.add_zero]
  | succ m ih =>
    intro fuel l s hf hl hm
    obtain ⟨j, rfl⟩ : ∃ j, fuel = j + 1 := ⟨fuel - 1, by omega⟩
    by_cases z : k - 1 ≤ l
    · simp (disch := omega) only [F_X12_shortBy_L26, ck_p, if_pos, if_neg, s_widthOf H q, bI_s, ih, sumF, Int.add_assoc]
    · simp (disch := omega) only [F_X12_shortBy_L26, ck_p, if_pos, if_neg, s_widthOf H q, r_leastFor H U, bI_s, ih, sumF, Int.add_assoc]
theorem r_shortBy (H : Wi n (D 134)) (U : WhR (D 134) E) (q : Qw D E) {x k : Int} (hk : 0 ≤ k ∧ k ≤ D 134 1) (hx : nR x) : F_X12_shortBy x k E = some (wLack (D 134) x k, E) := by
  have hr := H.ra
  have hN := fN
  rw [F_X12_shortBy, r_shortBy_L H U q hk hx k.toNat fuelN 0 _ (by omega) (by omega) (by omega), q.w]
  rfl
/-- the class adds each distance a letter later -/
theorem lack_shift (a f : Int → Int) : ∀ (m : Nat) (j : Int), sumF (fun l => a l + (if l < j + m then f l else 0)) j (m + 1) = a j + sumF (fun l => a l + f (l - 1)) (j + 1) m := by
  intro m
  induction m with
  | zero => intro j; simp [sumF]
  | succ m ih =>
    intro j
    have h := ih (j + 1)
    have e : sumF (fun l => a l + f (l - 1)) (j + 1) (m + 1) = (a (j + 1) + f (j + 1 - 1)) + sumF (fun l => a l + f (l - 1)) (j + 1 + 1) m := rfl
    have e2 : sumF (fun l => a l + (if l < j + ((m + 1 : Nat) : Int) then f l else 0)) j (m + 1 + 1) = (a j + (if j < j + ((m + 1 : Nat) : Int) then f j else 0)) + sumF (fun l => a l + (if l < j + ((m + 1 : Nat) : Int) then f l else 0)) (j + 1) (m + 1) := rfl
    rw [e, e2, if_pos (by omega), show j + ((m + 1 : Nat) : Int) = j + 1 + m by omega, h, show j + 1 - 1 = j by omega]
    omega
theorem c_lackingBy_L {x k : Int} (hk : 0 ≤ k ∧ k ≤ D 134 1) (hx : nR x) : ∀ (m fuel : Nat) (l s : Int) (E : mD), m < fuel → 1 ≤ l → l + m = k → Kq n D E →
    ∃ E', F_X0_lackingBy_L29 x k fuel s l E = some (s + sumF (fun l => wWid (D 134) l + wDis (D 134) (l - 1) x) l m, E') ∧ Kq n D E' := by
  intro m
  induction m with
  | zero =>
    intro fuel l s E hf hd hm K
    have hr := K.wi.ra
    obtain ⟨j, rfl⟩ : ∃ j, fuel = j + 1 := ⟨fuel - 1, by omega⟩
    exact ⟨E, by simp (disch := omega) only [F_X0_lackingBy_L29, ck_p, if_pos, sumF, Int.add_zero], K⟩
  | succ m ih =>
    intro fuel l s E hf hl hm K
    have hr := K.wi.ra
    obtain ⟨j, rfl⟩ : ∃ j, fuel = j + 1 := ⟨fuel - 1, by omega⟩
    obtain ⟨E1, h1, K1⟩ := c_distanceFor K (g := l - 1) (x := x) (by omega) hx
    obtain ⟨E', h', K'⟩ := ih j (l + 1) (s + wWid (D 134) l + wDis (D 134) (l - 1) x) E1 (by omega) (by omega) (by omega) K1
    refine ⟨E', ?_, K'⟩
    simp (disch := omega) only [F_X0_lackingBy_L29, ck_p, if_neg, b_widthOf K, bI_s, h1, h', sumF]
    simp only [Int.add_assoc]
theorem c_lackingBy (K : Kq n D E) {x k : Int} (hk : 0 ≤ k ∧ k ≤ D 134 1) (hx : nR x) : ∃ E', F_X0_lackingBy x k E = some (wLack (D 134) x k, E') ∧ Kq n D E' := by
  have hr := K.wi.ra
  have hc := K.ca
  have hN := fN
  obtain ⟨j, hj⟩ : ∃ j, fuelN = j + 1 := ⟨999999, rfl⟩
  have e : (2 * E 3 8 + E 17 5 - E 3 7) = 2 * D 134 3 + D 134 5 - D 134 2 := by omega
  by_cases z : k = 0
  · subst z
    refine ⟨E, ?_, K⟩
    rw [F_X0_lackingBy, e, hj]
    simp (disch := omega) only [F_X0_lackingBy_L29, ck_p, if_pos]
    simp [wLack, sumF]
  · obtain ⟨E', h', K'⟩ := c_lackingBy_L hk hx (k - 1).toNat j 1 (2 * D 134 3 + D 134 5 - D 134 2 + wWid (D 134) 0) E (by omega) (by omega) (by omega) K
    refine ⟨E', ?_, K'⟩
    rw [F_X0_lackingBy, e, hj]
    simp (disch := omega) only [F_X0_lackingBy_L29, ck_p, if_neg, if_pos, b_widthOf K, bI_s, show (0 : Int) + 1 = 1 from rfl, h']
    have := lack_shift (wWid (D 134)) (fun l => wDis (D 134) l x) (k - 1).toNat 0
    rw [show (0 : Int) + ((k - 1).toNat : Int) = k - 1 by omega, show (k - 1).toNat + 1 = k.toNat by omega] at this
    unfold wLack
    rw [this, Int.add_assoc]
    rfl
end PQ2
