/-! SQUEEZING: the least harm, the letters, both -/
section PQ8
variable {n : Int} {D E : mD}
/-! the reference -/
def TabH (w : Int → Int) (E : mD) (P : Int → Int → Prop) : Prop := ∀ l gain, 0 ≤ l → l ≤ w 1 → 0 ≤ gain → gain ≤ 42 → P l gain → E 147 (43 * l + gain) = HF w (w 1 - l).toNat l gain
theorem s_of (q : Qw D E) {l k : Int} (h0 : 0 ≤ 159 + 4 * l + k) (h1 : 159 + 4 * l + k < 2173) : F_X12_of l k E = some (wL (D 134) l k, E) := by rw [e_of h0 h1, q.w]
theorem s_its (H : Wi n (D 134)) (q : Qw D E) {l k : Int} (h0 : 0 ≤ l) (h1 : l < D 134 1) (hk : 0 ≤ k) (hk2 : k < 12) : F_X12_its l k E = some (wI (D 134) l k, E) := by rw [e_its (s_wi H q) h0 (by rw [q.w]; exact h1) hk hk2, q.w]
theorem s_inkOf (H : Wi n (D 134)) (q : Qw D E) {s : Int} (h0 : 0 ≤ s) (h1 : s < D 134 0) : F_X12_inkOf s E = some (wInk (D 134) s, E) := by rw [r_inkOf (s_wi H q) h0 (by rw [q.w]; exact h1), q.w]
theorem s_harmBy (H : Wi n (D 134)) (q : Qw D E) {l b : Int} (h0 : 0 ≤ l) (h1 : l < D 134 1) : F_X12_harmBy l b E = some (hH (D 134) l b, E) := by
  have hr := H.ra
  have hl := H.lta h0 h1
  simp (disch := omega) only [F_X12_harmBy, s_of q, s_inkOf H q, bI_s]
  rfl
theorem s_canBe (H : Wi n (D 134)) (q : Qw D E) {l b : Int} (h0 : 0 ≤ l) (h1 : l < D 134 1) (b0 : 0 ≤ b) (b1 : b ≤ 3) : F_X12_canBe l b E = some (if b ≤ mX (D 134) l then 1 else 0, E) := by
  have hr := H.ra
  have hl := H.lta h0 h1
  have hw := wWid_r H h0 h1
  have hx := mX_r H h0 h1
  unfold wWid at hw
  by_cases z : b = 0
  · subst z
    simp (disch := omega) only [F_X12_canBe, ck_p, if_pos, if_true]
  · by_cases y : wL (D 134) l 1 = 0
    · simp (disch := omega) only [F_X12_canBe, ck_p, if_pos, if_neg, s_of q, s_its H q, bI_s]
      congr 2
      unfold mX wWid
      rw [if_neg (show ¬ 0 < wL (D 134) l 1 by omega)]
      by_cases v : wI (D 134) l 1 - b < 1
      · rw [if_pos v, if_neg (by omega)]
      · rw [if_neg v, if_pos (by omega)]
    · simp (disch := omega) only [F_X12_canBe, ck_p, if_neg, s_of q, bI_s]
      have e : mX (D 134) l = 0 := by unfold mX; rw [if_pos (by omega)]
      rw [e, if_neg (by omega)]
theorem r_harmFrom {l left v : Int} (hl : 0 ≤ l ∧ l ≤ 14) (h : nR left) (h2 : left ≤ 42) (e : E 147 (43 * l + max 0 left) = v) : F_X12_harmFrom l left E = some (v, E) := by
  simp (disch := omega) only [F_X12_harmFrom, ck_p, e]
theorem r_laysHarms_b (H : Wi n (D 134)) (q : Qw D E) {a l left : Int} (l0 : 0 ≤ l) (l1 : l < D 134 1) (f0 : 0 ≤ left) (f1 : left ≤ 42) (T : TabH (D 134) E (fun l' _ => l < l')) (K56 K62 : Int → mD → RI) :
    ∀ (m fuel : Nat) (b best : Int), m < fuel → 0 ≤ b → b + m = 4 → 0 ≤ best → best ≤ 1000000 →
    F_X12_laysHarms_L76 K56 K62 a l left fuel best b E = K62 (left + 1) (pD E 147 (43 * l + left) (minF (fun b => hH (D 134) l b + HF (D 134) (D 134 1 - (l + 1)).toNat (l + 1) (max 0 (left - b))) best b (mX (D 134) l + 1 - b).toNat)) := by
  have hr := H.ra
  have hx := mX_r H l0 l1
  intro m
  induction m with
  | zero =>
    intro fuel b best hf hb hm b0 b1
    obtain ⟨j, rfl⟩ : ∃ j, fuel = j + 1 := ⟨fuel - 1, by omega⟩
    have e : min 1000000 best = best := Int.min_eq_right b1
    rw [show (mX (D 134) l + 1 - b).toNat = 0 by omega]
    simp (disch := omega) only [F_X12_laysHarms_L76, ck_p, if_pos, minF, e]
  | succ m ih =>
    intro fuel b best hf hb hm b0 b1
    obtain ⟨j, rfl⟩ : ∃ j, fuel = j + 1 := ⟨fuel - 1, by omega⟩
    have hc := s_canBe H q (l := l) (b := b) l0 l1 hb (by omega)
    by_cases z : b ≤ mX (D 134) l
    · rw [if_pos z] at hc
      have hT := r_harmFrom (E := E) (l := l + 1) (left := left - b) (by omega) (by omega) (by omega) (T (l + 1) (max 0 (left - b)) (by omega) (by omega) (by omega) (by omega) (by omega))
      have h1 := hH_r H (l := l) (b := b) l0 l1 hb (by omega)
      have h2 := HF_r H (D 134 1 - (l + 1)).toNat (l + 1) (max 0 (left - b)) (by omega) (by omega)
      rw [show (mX (D 134) l + 1 - b).toNat = (mX (D 134) l + 1 - (b + 1)).toNat + 1 by omega, minF]
      simp (disch := omega) only [F_X12_laysHarms_L76, ck_p, if_neg, hc, bI_s, s_harmBy H q, hT, ih]
    · rw [if_neg z] at hc
      rw [show (mX (D 134) l + 1 - b).toNat = (mX (D 134) l + 1 - (b + 1)).toNat by omega]
      simp (disch := omega) only [F_X12_laysHarms_L76, ck_p, if_neg, if_pos, if_true, hc, bI_s, ih]
      rw [show (mX (D 134) l + 1 - (b + 1)).toNat = 0 by omega, minF, minF]
theorem r_laysHarms_r (H : Wi n (D 134)) {a l : Int} (l0 : 0 ≤ l) (l1 : l < D 134 1) (K56 : Int → mD → RI) :
    ∀ (m fuel : Nat) (left : Int) (E : mD), m < fuel → 0 ≤ left → left + m = 43 → Qw D E → TabH (D 134) E (fun l' f => l < l' ∨ (l' = l ∧ f < left)) →
    ∃ E', F_X12_laysHarms_L62 K56 a l fuel left E = K56 (l - 1) E' ∧ Qw D E' ∧ TabH (D 134) E' (fun l' _ => l - 1 < l') := by
  have hr := H.ra
  have hN := fN
  have hx := mX_r H l0 l1
  intro m
  induction m with
  | zero =>
    intro fuel left E hf hd hm q T
    obtain ⟨j, rfl⟩ : ∃ j, fuel = j + 1 := ⟨fuel - 1, by omega⟩
    exact ⟨E, by simp (disch := omega) only [F_X12_laysHarms_L62, ck_p, if_pos], q, fun g' left' a b c d e => T g' left' a b c d (by omega)⟩
  | succ m ih =>
    intro fuel left E hf hd hm q T
    obtain ⟨j, rfl⟩ : ∃ j, fuel = j + 1 := ⟨fuel - 1, by omega⟩
    have h1 := r_laysHarms_b H q (a := a) l0 l1 (left := left) hd (by omega) (fun g' left' a b c d e => T g' left' a b c d (Or.inl e)) K56 (F_X12_laysHarms_L62 K56 a l j) 4 fuelN 0 1000000 (by omega) (by omega) (by omega) (by omega) (by omega)
    obtain ⟨V, eV⟩ : ∃ V, V = minF (fun b => hH (D 134) l b + HF (D 134) (D 134 1 - (l + 1)).toNat (l + 1) (max 0 (left - b))) 1000000 0 (mX (D 134) l + 1 - 0).toNat := ⟨_, rfl⟩
    have eV2 : V = HF (D 134) (D 134 1 - l).toNat l left := by
      rw [eV, show (D 134 1 - l).toNat = (D 134 1 - (l + 1)).toNat + 1 by omega, HF, Int.sub_zero]
    rw [← eV] at h1
    obtain ⟨E', h', q', T'⟩ := ih j (left + 1) (pD E 147 (43 * l + left) V) (by omega) (by omega) (by omega) (q.tr (Qw.put (by omega))) (by
      intro l' left' a b c d e
      rw [pD_at]
      by_cases z : 43 * l' + left' = 43 * l + left
      · rw [if_pos z, eV2, show l' = l by omega, show left' = left by omega]
      · rw [if_neg z]
        exact T l' left' a b c d (by omega))
    refine ⟨E', ?_, q', T'⟩
    simp (disch := omega) only [F_X12_laysHarms_L62, ck_p, if_neg]
    rw [h1, h']
theorem r_laysHarms_l (H : Wi n (D 134)) {a : Int} (ha : nR a) (ha2 : a ≤ 42) :
    ∀ (m fuel : Nat) (E : mD), m < fuel → (m : Int) ≤ D 134 1 → Qw D E → TabH (D 134) E (fun l' _ => (m : Int) - 1 < l') →
    ∃ E', F_X12_laysHarms_L56 a fuel ((m : Int) - 1) E = some (HF (D 134) (D 134 1).toNat 0 (max 0 a), E') ∧ Qw D E' ∧ TabH (D 134) E' (fun _ _ => True) := by
  have hr := H.ra
  have hN := fN
  intro m
  induction m with
  | zero =>
    intro fuel E hf hm q T
    obtain ⟨j, rfl⟩ : ∃ j, fuel = j + 1 := ⟨fuel - 1, by omega⟩
    have e := T 0 (max 0 a) (by omega) (by omega) (by omega) (by omega) (by omega)
    rw [Int.sub_zero] at e
    have h := r_harmFrom (E := E) (l := 0) (left := a) (by omega) ha ha2 e
    exact ⟨E, by simp (disch := omega) only [F_X12_laysHarms_L56, h, bI_s, ck_p, if_pos], q, fun g' left' a b c d e => T g' left' a b c d (by omega)⟩
  | succ m ih =>
    intro fuel E hf hm q T
    obtain ⟨j, rfl⟩ : ∃ j, fuel = j + 1 := ⟨fuel - 1, by omega⟩
    obtain ⟨E1, h1, q1, T1⟩ := r_laysHarms_r H (a := a) (l := (m : Int)) (by omega) (by omega) (F_X12_laysHarms_L56 a j) 43 fuelN 0 E (by omega) (by omega) (by omega) q (fun g' left' a b c d e => T g' left' a b c d (by omega))
    obtain ⟨E', h', q', T'⟩ := ih j E1 (by omega) (by omega) q1 T1
    refine ⟨E', ?_, q', T'⟩
    rw [show ((m + 1 : Nat) : Int) - 1 = m by omega]
    simp (disch := omega) only [F_X12_laysHarms_L56, ck_p, if_neg]
    rw [h1, h']
theorem r_laysHarms_0 (H : Wi n (D 134)) {a : Int} (ha : nR a) (ha2 : a ≤ 42) :
    ∀ (m fuel : Nat) (left : Int) (E : mD), m < fuel → 0 ≤ left → left + m = 43 → Qw D E → TabH (D 134) E (fun l' f => l' = D 134 1 ∧ f < left) →
    ∃ E', F_X12_laysHarms_L12 a fuel left E = some (HF (D 134) (D 134 1).toNat 0 (max 0 a), E') ∧ Qw D E' ∧ TabH (D 134) E' (fun _ _ => True) := by
  have hr := H.ra
  have hN := fN
  intro m
  induction m with
  | zero =>
    intro fuel left E hf hd hm q T
    obtain ⟨j, rfl⟩ : ∃ j, fuel = j + 1 := ⟨fuel - 1, by omega⟩
    obtain ⟨E', h', q', T'⟩ := r_laysHarms_l H ha ha2 (D 134 1).toNat fuelN E (by omega) (by omega) q (fun g' left' a b c d e => T g' left' a b c d (by omega))
    rw [show (((D 134 1).toNat : Nat) : Int) = D 134 1 by omega] at h'
    refine ⟨E', ?_, q', T'⟩
    simp (disch := omega) only [F_X12_laysHarms_L12, ck_p, if_pos, s_letters q, bI_s]
    rw [h']
  | succ m ih =>
    intro fuel left E hf hd hm q T
    obtain ⟨j, rfl⟩ : ∃ j, fuel = j + 1 := ⟨fuel - 1, by omega⟩
    obtain ⟨E', h', q', T'⟩ := ih j (left + 1) (pD E 147 (43 * D 134 1 + left) (if left = 0 then 0 else 1000000)) (by omega) (by omega) (by omega) (q.tr (Qw.put (by omega))) (by
      intro l' left' a b c d e
      rw [pD_at]
      by_cases z : 43 * l' + left' = 43 * D 134 1 + left
      · rw [if_pos z, show l' = D 134 1 by omega, show left' = left by omega, Int.sub_self]
        rfl
      · rw [if_neg z]
        exact T l' left' a b c d (by omega))
    refine ⟨E', ?_, q', T'⟩
    simp (disch := omega) only [F_X12_laysHarms_L12, ck_p, if_neg, s_letters q, bI_s]
    rw [h']
/-- the least harm by which so much is gained; 1000000 if it can't be -/
def wHarm (w : Int → Int) (a : Int) : Int := if a < 43 then HF w (w 1).toNat 0 (max 0 a) else 1000000
theorem wHarm_r {w : Int → Int} (H : Wi n w) (a : Int) : 0 ≤ wHarm w a ∧ wHarm w a ≤ 1000000 := by
  have hr := H.ra
  unfold wHarm
  by_cases q : a < 43
  · rw [if_pos q]; exact HF_r H _ _ _ (by omega) (by omega)
  · rw [if_neg q]; omega
theorem r_laysHarms (H : Wi n (D 134)) (q : Qw D E) {a : Int} (ha : nR a) : ∃ E', F_X12_laysHarms a E = some (wHarm (D 134) a, E') ∧ Qw D E' ∧ (a < 43 → TabH (D 134) E' (fun _ _ => True)) := by
  have hN := fN
  unfold wHarm
  by_cases z : a < 43
  · obtain ⟨E', h', q', T'⟩ := r_laysHarms_0 H ha (by omega) 43 fuelN 0 E (by omega) (by omega) (by omega) q (fun l' f _ _ _ _ e => by omega)
    refine ⟨E', ?_, q', fun _ => T'⟩
    rw [F_X12_laysHarms, ck_p ha, if_pos z, if_pos z, h']
  · refine ⟨E, ?_, q, fun h => absurd h z⟩
    rw [F_X12_laysHarms, ck_p ha, if_neg z, if_neg z]
theorem r_squeezes_b (H : Wi n (D 134)) (q : Qw D E) (T : TabH (D 134) E (fun _ _ => True)) {l left s : Int} {k : Nat} (l0 : 0 ≤ l) (l1 : l + (k + 1 : Nat) = D 134 1) (hl : -300 ≤ left ∧ left ≤ 42) (hf : HF (D 134) (k + 1) l (max 0 left) < 1000000) (K7 : Int → Int → Int → mD → RI) :
    ∀ (m fuel : Nat) (b : Int), m < fuel → 0 ≤ b → b + m = fstS (D 134) k l (max 0 left) →
    F_X12_squeezes_L19 K7 left s l fuel b E = K7 (left - fstS (D 134) k l (max 0 left)) (bOr s (if fstS (D 134) k l (max 0 left) ≤ 0 then 0 else bShl 1 l)) (l + 1) E := by
  have hr := H.ra
  have hx := mX_r H (l := l) l0 (by omega)
  obtain ⟨p1, p2, p3, p4, p5⟩ := fstS_p H l0 l1 hf
  have h3 := r_harmFrom (E := E) (l := l) (left := left) (by omega) (by omega) (by omega) (T l (max 0 left) (by omega) (by omega) (by omega) (by omega) trivial)
  rw [show (D 134 1 - l).toNat = k + 1 by omega] at h3
  have f3 := HF_r H (k + 1) l (max 0 left) l0 (by omega)
  have hS : ∀ b : Int, 0 ≤ b → b ≤ 3 → max 0 (left - b) = max 0 (max 0 left - b) := fun b _ _ => by omega
  intro m
  induction m with
  | zero =>
    intro fuel b hfu hb hm
    obtain ⟨j, rfl⟩ : ∃ j, fuel = j + 1 := ⟨fuel - 1, by omega⟩
    have hm : fstS (D 134) k l (max 0 left) = b := by omega
    rw [hm] at p1 p2 p3 p4 p5 ⊢
    have hc := s_canBe H q (l := l) (b := b) l0 (by omega) hb (by omega)
    rw [if_pos p3] at hc
    have h2 := r_harmFrom (E := E) (l := l + 1) (left := left - b) (by omega) (by omega) (by omega) (T (l + 1) (max 0 (left - b)) (by omega) (by omega) (by omega) (by omega) trivial)
    rw [show (D 134 1 - (l + 1)).toNat = k by omega, hS b hb (by omega)] at h2
    have h1 := hH_r H (l := l) (b := b) l0 (by omega) hb (by omega)
    have f2 := HF_r H k (l + 1) (max 0 (max 0 left - b)) (by omega) (by omega)
    simp (disch := omega) only [F_X12_squeezes_L19, F_X12_squeezes_j81, hc, bI_s, ck_p, if_neg, if_pos, s_harmBy H q, h2, h3]
  | succ m ih =>
    intro fuel b hfu hb hm
    obtain ⟨j, rfl⟩ : ∃ j, fuel = j + 1 := ⟨fuel - 1, by omega⟩
    have hc := s_canBe H q (l := l) (b := b) l0 (by omega) hb (by omega)
    rw [if_pos (by omega)] at hc
    have h2 := r_harmFrom (E := E) (l := l + 1) (left := left - b) (by omega) (by omega) (by omega) (T (l + 1) (max 0 (left - b)) (by omega) (by omega) (by omega) (by omega) trivial)
    rw [show (D 134 1 - (l + 1)).toNat = k by omega, hS b hb (by omega)] at h2
    have h1 := hH_r H (l := l) (b := b) l0 (by omega) hb (by omega)
    have f2 := HF_r H k (l + 1) (max 0 (max 0 left - b)) (by omega) (by omega)
    have ne := p5 b hb (by omega)
    simp (disch := omega) only [F_X12_squeezes_L19, hc, bI_s, ck_p, if_neg, s_harmBy H q, h2, h3, ih]
theorem r_squeezes_L (H : Wi n (D 134)) (q : Qw D E) (T : TabH (D 134) E (fun _ _ => True)) {L : Nat} (hL : (L : Int) = D 134 1) {wanted : Int} (h0 : 0 ≤ wanted ∧ wanted ≤ 42) (hf : HF (D 134) L 0 wanted < 1000000) :
    ∀ (m fuel k : Nat) (left : Int), m < fuel → k + m = L → -200 - 3 * (k : Int) ≤ left → left ≤ 42 → max 0 left = gainW (D 134) L wanted k →
    F_X12_squeezes_L7 fuel left (bitN (fun k => decide (0 < fstS (D 134) (L - 1 - k) (k : Int) (gainW (D 134) L wanted k))) k : Int) (k : Int) E = some ((bitN (fun k => decide (0 < fstS (D 134) (L - 1 - k) (k : Int) (gainW (D 134) L wanted k))) L : Int), E) := by
  have hr := H.ra
  have hN := fN
  intro m
  induction m with
  | zero =>
    intro fuel k left hfu hm h1 h2 he
    obtain ⟨j, rfl⟩ : ∃ j, fuel = j + 1 := ⟨fuel - 1, by omega⟩
    simp (disch := omega) only [F_X12_squeezes_L7, s_letters q, bI_s, ck_p, if_pos]
    rw [show k = L by omega]
  | succ m ih =>
    intro fuel k left hfu hm h1 h2 he
    obtain ⟨j, rfl⟩ : ∃ j, fuel = j + 1 := ⟨fuel - 1, by omega⟩
    obtain ⟨g1, g2, g3⟩ := gainW_r H hL h0 hf k (by omega)
    rw [show L - k = (L - 1 - k) + 1 by omega] at g3
    have hx := mX_r H (l := (k : Int)) (by omega) (by omega)
    obtain ⟨p1, p2, p3, p4, p5⟩ := fstS_p H (m := L - 1 - k) (l := (k : Int)) (by omega) (by omega) g3
    rw [← he] at g3 p1 p2 p3 p4 p5
    have hb := r_squeezes_b H q T (l := (k : Int)) (left := left) (s := (bitN (fun k => decide (0 < fstS (D 134) (L - 1 - k) (k : Int) (gainW (D 134) L wanted k))) k : Int)) (k := L - 1 - k) (by omega) (by omega) (by omega) g3 (F_X12_squeezes_L7 j) (fstS (D 134) (L - 1 - k) (k : Int) (max 0 left)).toNat fuelN 0 (by omega) (by omega) (by omega)
    have hbit := bitN_step (p := fun k => decide (0 < fstS (D 134) (L - 1 - k) (k : Int) (gainW (D 134) L wanted k))) (k := k) (by omega)
    have he2 : (if fstS (D 134) (L - 1 - k) (k : Int) (max 0 left) ≤ 0 then (0 : Int) else bShl 1 (k : Int)) = (if decide (0 < fstS (D 134) (L - 1 - k) (k : Int) (gainW (D 134) L wanted k)) = true then bShl 1 (k : Int) else 0) := by
      rw [← he]
      by_cases z : fstS (D 134) (L - 1 - k) (k : Int) (max 0 left) ≤ 0
      · rw [if_pos z, if_neg (by simp; omega)]
      · rw [if_neg z, if_pos (by simp; omega)]
    simp (disch := omega) only [F_X12_squeezes_L7, s_letters q, bI_s, ck_p, if_neg]
    rw [hb, he2, hbit, show (k : Int) + 1 = ((k + 1 : Nat) : Int) by omega]
    exact ih j (k + 1) (left - fstS (D 134) (L - 1 - k) (k : Int) (max 0 left)) (by omega) (by omega) (by omega) (by omega) (by
      rw [gainW, ← he]
      omega)
theorem r_squeezes (H : Wi n (D 134)) (q : Qw D E) (T : TabH (D 134) E (fun _ _ => True)) {a : Int} (ha : -200 ≤ a ∧ a ≤ 42) (hf : wHarm (D 134) a < 1000000) : F_X12_squeezes a E = some (wSqB (D 134) (max 0 a), E) := by
  have hr := H.ra
  have hN := fN
  unfold wHarm at hf
  rw [if_pos (by omega)] at hf
  have := r_squeezes_L H q T (L := (D 134 1).toNat) (by omega) (wanted := max 0 a) (by omega) hf (D 134 1).toNat fuelN 0 a (by omega) (by omega) (by omega) (by omega) (by rw [gainW])
  rw [F_X12_squeezes]
  exact this
end PQ8
