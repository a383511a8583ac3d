/-! SQUEEZING: the class -/
section PQ9
variable {n : Int} {D E : mD}
def TabP (w : Int → Int) (wanted : Int) (E : mD) (P : Int → Int → Prop) : Prop := ∀ l gain, 0 ≤ l → l ≤ w 1 → 0 ≤ gain → gain ≤ wanted → P l gain → E 30 (l * 43 + gain) = HF w (w 1 - l).toNat l gain
theorem d_widthOf (K : Ke n D E) {l : Int} (h0 : 0 ≤ l) (h1 : l < D 134 1) : F_X0_widthOf l E = some (wWid (D 134) l, E) := by rw [c_widthOf K.2 h0 (by rw [K.w]; exact h1), K.w]
theorem d_mostOf (K : Ke n D E) {l : Int} (h0 : 0 ≤ l) (h1 : l < D 134 1) : F_X5_mostOf l E = some (mX (D 134) l, E) := by
  have hr := K.wi.ra
  have hl := K.wi.lta h0 h1
  have hw := wWid_r K.wi h0 h1
  have e := (K.2.sq h0 (show l < E 134 1 by rw [K.w]; exact h1)).1
  rw [K.w] at e
  unfold mX
  by_cases z : wL (D 134) l 1 ≤ 0
  · simp (disch := omega) only [F_X5_mostOf, ck_p, e, if_pos, if_neg, d_widthOf K, bI_s]
  · simp (disch := omega) only [F_X5_mostOf, ck_p, e, if_pos, if_neg]
theorem d_harmWith (K : Ke n D E) {l gain b V : Int} (h0 : 0 ≤ l) (h1 : l < D 134 1) (hg : 0 ≤ gain ∧ gain ≤ 42) (hb : 0 ≤ b ∧ b ≤ 3) (e30 : E 30 ((l + 1) * 43 + max 0 (gain - b)) = V) : F_X5_harmWith l gain b E = some (hH (D 134) l b + V, E) := by
  have hr := K.wi.ra
  have hl := K.wi.lta h0 h1
  have e := K.2.wd h0 (show l < E 134 1 by rw [K.w]; exact h1)
  rw [K.w] at e
  have e2 : F_X6_inkOf 3 (wL (D 134) l 0) E = some (wInk (D 134) (wL (D 134) l 0), E) := by rw [c_inkOf K.2 hl.1 (by rw [K.w]; exact hl.2.1), K.w]
  simp (disch := omega) only [F_X5_harmWith, ck_p, e, e2, bI_s, e30]
  rfl
theorem c_leastFrom_L (K : Ke n D E) {l gain wanted : Int} (l0 : 0 ≤ l) (l1 : l < D 134 1) (hw : wanted ≤ 42) (hg : 0 ≤ gain ∧ gain ≤ wanted) (T : TabP (D 134) wanted E (fun l' _ => l < l')) :
    ∀ (m fuel : Nat) (b best : Int), m < fuel → 0 ≤ b → b + m = mX (D 134) l + 1 → 0 ≤ best → best ≤ 1000000 →
    F_X5_leastFrom_L6 l gain fuel best b E = some (minF (fun b => hH (D 134) l b + HF (D 134) (D 134 1 - (l + 1)).toNat (l + 1) (max 0 (gain - b))) best b m, E) := by
  have hr := K.wi.ra
  have hx := mX_r K.wi l0 l1
  intro m
  induction m with
  | zero =>
    intro fuel b best hf hb hm b0 b1
    obtain ⟨j, rfl⟩ : ∃ j, fuel = j + 1 := ⟨fuel - 1, by omega⟩
    simp (disch := omega) only [F_X5_leastFrom_L6, d_mostOf K, bI_s, ck_p, if_pos, minF]
  | succ m ih =>
    intro fuel b best hf hb hm b0 b1
    obtain ⟨j, rfl⟩ : ∃ j, fuel = j + 1 := ⟨fuel - 1, by omega⟩
    have h2 := d_harmWith K l0 l1 (gain := gain) (b := b) (by omega) (by omega) (T (l + 1) (max 0 (gain - b)) (by omega) (by omega) (by omega) (by omega) (by omega))
    have h1 := hH_r K.wi (l := l) (b := b) l0 l1 hb (by omega)
    have f2 := HF_r K.wi (D 134 1 - (l + 1)).toNat (l + 1) (max 0 (gain - b)) (by omega) (by omega)
    simp (disch := omega) only [F_X5_leastFrom_L6, d_mostOf K, bI_s, ck_p, if_neg, h2, minF, ih]
theorem TabP.keep {w : Int → Int} {x : Int} {P : Int → Int → Prop} {E' : mD} (h : TabP w x E P) (e : E' 30 = E 30) : TabP w x E' P := by
  unfold TabP at h ⊢
  rw [e]
  exact h
theorem c_leastHarm_g (H : Wi n (D 134)) {l wanted : Int} (l0 : 0 ≤ l) (l1 : l < D 134 1) (hw : 0 ≤ wanted ∧ wanted ≤ 42) (K74 : Int → mD → RI) :
    ∀ (m fuel : Nat) (gain : Int) (E : mD), m < fuel → 0 ≤ gain → gain + m = wanted + 1 → Ke n D E → E 29 4 = wanted → TabP (D 134) wanted E (fun l' f => l < l' ∨ (l' = l ∧ f < gain)) →
    ∃ E', F_X5_leastHarm_L81 K74 l fuel gain E = K74 (l - 1) E' ∧ Ke n D E' ∧ E' 29 4 = wanted ∧ TabP (D 134) wanted E' (fun l' _ => l - 1 < l') := by
  have hr := H.ra
  have hN := fN
  have hx := mX_r H l0 l1
  intro m
  induction m with
  | zero =>
    intro fuel gain E hf hd hm K e4 T
    obtain ⟨j, rfl⟩ : ∃ j, fuel = j + 1 := ⟨fuel - 1, by omega⟩
    exact ⟨E, by simp (disch := omega) only [F_X5_leastHarm_L81, ck_p, if_pos, e4], K, e4, fun g' left' a b c d e => T g' left' a b c d (by omega)⟩
  | succ m ih =>
    intro fuel gain E hf hd hm K e4 T
    obtain ⟨j, rfl⟩ : ∃ j, fuel = j + 1 := ⟨fuel - 1, by omega⟩
    have h1 := c_leastFrom_L K (gain := gain) (wanted := wanted) l0 l1 hw.2 (by omega) (fun g' left' a b c d e => T g' left' a b c d (Or.inl e)) (mX (D 134) l + 1).toNat fuelN 0 1000000 (by omega) (by omega) (by omega) (by omega) (by omega)
    obtain ⟨V, eV⟩ : ∃ V, V = minF (fun b => hH (D 134) l b + HF (D 134) (D 134 1 - (l + 1)).toNat (l + 1) (max 0 (gain - b))) 1000000 0 (mX (D 134) l + 1).toNat := ⟨_, rfl⟩
    have eV2 : V = HF (D 134) (D 134 1 - l).toNat l gain := by
      rw [eV, show (D 134 1 - l).toNat = (D 134 1 - (l + 1)).toNat + 1 by omega, HF]
    rw [← eV] at h1
    obtain ⟨E', h', K', e4', T'⟩ := ih j (gain + 1) (pD E 30 (l * 43 + gain) V) (by omega) (by omega) (by omega) (K.put (by omega) (by decide)) (by rw [pD_ne (by decide)]; exact e4) (by
      intro l' left' a b c d e
      rw [pD_at]
      by_cases z : l' * 43 + left' = l * 43 + gain
      · rw [if_pos z, eV2, show l' = l by omega, show left' = gain by omega]
      · rw [if_neg z]
        exact T l' left' a b c d (by omega))
    refine ⟨E', ?_, K', e4', T'⟩
    simp (disch := omega) only [F_X5_leastHarm_L81, ck_p, if_neg, e4]
    rw [F_X5_leastFrom, h1, bI_s, h']
theorem c_leastHarm_l (H : Wi n (D 134)) {wanted : Int} (hw : 0 ≤ wanted ∧ wanted ≤ 42) :
    ∀ (m fuel : Nat) (E : mD), m < fuel → (m : Int) ≤ D 134 1 → Ke n D E → E 29 4 = wanted → TabP (D 134) wanted E (fun l' _ => (m : Int) - 1 < l') →
    ∃ E', F_X5_leastHarm_L74 fuel ((m : Int) - 1) E = some (if HF (D 134) (D 134 1).toNat 0 wanted = 1000000 then -1 else HF (D 134) (D 134 1).toNat 0 wanted, E') ∧ Ke n D E' ∧ E' 29 4 = wanted ∧ TabP (D 134) wanted E' (fun _ _ => True) := by
  have hr := H.ra
  have hN := fN
  intro m
  induction m with
  | zero =>
    intro fuel E hf hm K e4 T
    obtain ⟨j, rfl⟩ : ∃ j, fuel = j + 1 := ⟨fuel - 1, by omega⟩
    have e := T 0 wanted (by omega) (by omega) (by omega) (by omega) (by omega)
    rw [Int.sub_zero, show (0 : Int) * 43 + wanted = wanted by omega] at e
    have f := HF_r H (D 134 1).toNat 0 wanted (by omega) (by omega)
    refine ⟨E, ?_, K, e4, fun g' left' a b c d e => T g' left' a b c d (by omega)⟩
    simp (disch := omega) only [F_X5_leastHarm_L74, ck_p, if_pos, e4, e]
    congr 2
    by_cases z : HF (D 134) (D 134 1).toNat 0 wanted = 1000000
    · rw [if_neg (by omega), if_pos z]
    · rw [if_pos (by omega), if_neg z]
  | succ m ih =>
    intro fuel E hf hm K e4 T
    obtain ⟨j, rfl⟩ : ∃ j, fuel = j + 1 := ⟨fuel - 1, by omega⟩
    obtain ⟨E1, h1, K1, f1, T1⟩ := c_leastHarm_g H (l := (m : Int)) (by omega) (by omega) hw (F_X5_leastHarm_L74 j) (wanted + 1).toNat fuelN 0 E (by omega) (by omega) (by omega) K e4 (fun g' left' a b c d e => T g' left' a b c d (by omega))
    obtain ⟨E', h', K', e4', T'⟩ := ih j E1 (by omega) (by omega) K1 f1 T1
    refine ⟨E', ?_, K', e4', T'⟩
    rw [show ((m + 1 : Nat) : Int) - 1 = m by omega]
    simp (disch := omega) only [F_X5_leastHarm_L74, ck_p, if_neg]
    rw [h1, h']
theorem c_leastHarm_0 (H : Wi n (D 134)) {wanted : Int} (hw : 0 ≤ wanted ∧ wanted ≤ 42) :
    ∀ (m fuel : Nat) (gain : Int) (E : mD), m < fuel → 1 ≤ gain → gain + m = wanted + 1 → Ke n D E → E 29 4 = wanted → TabP (D 134) wanted E (fun l' f => l' = D 134 1 ∧ f < gain) →
    ∃ E', F_X5_leastHarm_L40 (D 134 1 * 43) fuel gain E = some (if HF (D 134) (D 134 1).toNat 0 wanted = 1000000 then -1 else HF (D 134) (D 134 1).toNat 0 wanted, E') ∧ Ke n D E' ∧ E' 29 4 = wanted ∧ TabP (D 134) wanted E' (fun _ _ => True) := by
  have hr := H.ra
  have hN := fN
  intro m
  induction m with
  | zero =>
    intro fuel gain E hf hd hm K e4 T
    obtain ⟨j, rfl⟩ : ∃ j, fuel = j + 1 := ⟨fuel - 1, by omega⟩
    obtain ⟨E', h', K', e4', T'⟩ := c_leastHarm_l H hw (D 134 1).toNat fuelN E (by omega) (by omega) K e4 (fun g' left' a b c d e => T g' left' a b c d (by omega))
    rw [show (((D 134 1).toNat : Nat) : Int) = D 134 1 by omega] at h'
    have hc := K.ca
    refine ⟨E', ?_, K', e4', T'⟩
    simp (disch := omega) only [F_X5_leastHarm_L40, ck_p, if_pos, e4, hc.2.1]
    exact h'
  | succ m ih =>
    intro fuel gain E hf hd hm K e4 T
    obtain ⟨j, rfl⟩ : ∃ j, fuel = j + 1 := ⟨fuel - 1, by omega⟩
    obtain ⟨E', h', K', e4', T'⟩ := ih j (gain + 1) (pD E 30 (D 134 1 * 43 + gain) 1000000) (by omega) (by omega) (by omega) (K.put (by omega) (by decide)) (by rw [pD_ne (by decide)]; exact e4) (by
      intro l' left' a b c d e
      rw [pD_at]
      by_cases z : l' * 43 + left' = D 134 1 * 43 + gain
      · rw [if_pos z, show l' = D 134 1 by omega, show left' = gain by omega, Int.sub_self]
        show _ = HF _ 0 _ _
        rw [HF, if_neg (by omega)]
      · rw [if_neg z]
        exact T l' left' a b c d (by omega))
    refine ⟨E', ?_, K', e4', T'⟩
    simp (disch := omega) only [F_X5_leastHarm_L40, ck_p, if_neg, e4]
    exact h'
theorem c_leastHarm (K : Ke n D E) {a : Int} (ha : nR a) : ∃ E', F_X5_leastHarm a E = some (if wHarm (D 134) a = 1000000 then -1 else wHarm (D 134) a, E') ∧ Ke n D E' ∧ (a < 43 → E' 29 4 = max 0 a ∧ TabP (D 134) (max 0 a) E' (fun _ _ => True)) := by
  have H := K.wi
  have hr := H.ra
  have hN := fN
  have K1 : Ke n D (pD E 29 4 (max 0 a)) := K.put (by omega) (by decide)
  have hc := K1.ca
  have e4 : (pD E 29 4 (max 0 a)) 29 4 = max 0 a := pD_eq _ _ _ _
  unfold wHarm
  by_cases z : a < 43
  · obtain ⟨E', h', K', e4', T'⟩ := c_leastHarm_0 H (wanted := max 0 a) (by omega) (max 0 a).toNat fuelN 1 (pD (pD E 29 4 (max 0 a)) 30 (D 134 1 * 43) 0) (by omega) (by omega) (by omega) (K1.put (by omega) (by decide)) (by rw [pD_ne (by decide)]; exact e4) (by
      intro l' left' a b c d e
      rw [pD_at, if_pos (by omega), show (D 134 1 - l').toNat = 0 by omega, HF, if_pos (by omega)])
    refine ⟨E', ?_, K', fun _ => ⟨e4', T'⟩⟩
    simp (disch := omega) only [F_X5_leastHarm, ck_p, e4, hc.2.1, if_pos]
    exact h'
  · refine ⟨_, ?_, K1, fun h => absurd h z⟩
    simp (disch := omega) only [F_X5_leastHarm, ck_p, e4, if_neg]
    rfl
theorem c_sqBits_b (K : Ke n D E) {wanted : Int} (hw : 0 ≤ wanted ∧ wanted ≤ 42) (T : TabP (D 134) wanted E (fun _ _ => True)) {l gain s : Int} {k : Nat} (l0 : 0 ≤ l) (l1 : l + (k + 1 : Nat) = D 134 1) (hg : 0 ≤ gain ∧ gain ≤ wanted) (hf : HF (D 134) (k + 1) l gain < 1000000) (K9 : Int → Int → Int → mD → RI) :
    ∀ (m fuel : Nat) (b : Int), m < fuel → 0 ≤ b → b + m = fstS (D 134) k l gain →
    F_X5_squeezedBits_L23 K9 s gain l fuel b E = K9 (if fstS (D 134) k l gain ≤ 0 then s else bOr s (bShl 1 l)) (max 0 (gain - fstS (D 134) k l gain)) (l + 1) E := by
  have hr := K.wi.ra
  have hx := mX_r K.wi (l := l) l0 (by omega)
  obtain ⟨p1, p2, p3, p4, p5⟩ := fstS_p K.wi l0 l1 hf
  have h3 := T l gain (by omega) (by omega) (by omega) (by omega) trivial
  rw [show (D 134 1 - l).toNat = k + 1 by omega] at h3
  have f3 := HF_r K.wi (k + 1) l gain l0 (by omega)
  intro m
  induction m with
  | zero =>
    intro fuel b hfu hb hm
    obtain ⟨j, rfl⟩ : ∃ j, fuel = j + 1 := ⟨fuel - 1, by omega⟩
    have hm : fstS (D 134) k l gain = b := by omega
    rw [hm] at p1 p2 p3 p4 p5 ⊢
    by_cases z : mX (D 134) l ≤ b
    · simp (disch := omega) only [F_X5_squeezedBits_L23, F_X5_squeezedBits_j61, F_X5_squeezedBits_j72, d_mostOf K, bI_s, ck_p, if_pos]
    · have h2 := d_harmWith K l0 (by omega) (gain := gain) (b := b) (by omega) (by omega) (T (l + 1) (max 0 (gain - b)) (by omega) (by omega) (by omega) (by omega) trivial)
      rw [show (D 134 1 - (l + 1)).toNat = k by omega, p1] at h2
      simp (disch := omega) only [F_X5_squeezedBits_L23, F_X5_squeezedBits_j61, F_X5_squeezedBits_j72, d_mostOf K, bI_s, ck_p, if_pos, if_true, if_neg, h2, h3]
  | succ m ih =>
    intro fuel b hfu hb hm
    obtain ⟨j, rfl⟩ : ∃ j, fuel = j + 1 := ⟨fuel - 1, by omega⟩
    have h2 := d_harmWith K l0 (by omega) (gain := gain) (b := b) (by omega) (by omega) (T (l + 1) (max 0 (gain - b)) (by omega) (by omega) (by omega) (by omega) trivial)
    rw [show (D 134 1 - (l + 1)).toNat = k by omega] at h2
    have h1 := hH_r K.wi (l := l) (b := b) l0 (by omega) hb (by omega)
    have f2 := HF_r K.wi k (l + 1) (max 0 (gain - b)) (by omega) (by omega)
    have ne := p5 b hb (by omega)
    simp (disch := omega) only [F_X5_squeezedBits_L23, d_mostOf K, bI_s, ck_p, if_neg, h2, h3, ih]
theorem c_sqBits_L (K : Ke n D E) {wanted : Int} (hw : 0 ≤ wanted ∧ wanted ≤ 42) (T : TabP (D 134) wanted E (fun _ _ => True)) {L : Nat} (hL : (L : Int) = D 134 1) (hf : HF (D 134) L 0 wanted < 1000000) :
    ∀ (m fuel k : Nat), m < fuel → k + m = L →
    F_X5_squeezedBits_L9 fuel (bitN (fun k => decide (0 < fstS (D 134) (L - 1 - k) (k : Int) (gainW (D 134) L wanted k))) k : Int) (gainW (D 134) L wanted k) (k : Int) E = some ((bitN (fun k => decide (0 < fstS (D 134) (L - 1 - k) (k : Int) (gainW (D 134) L wanted k))) L : Int), E) := by
  have hr := K.wi.ra
  have hc := K.ca
  have hN := fN
  intro m
  induction m with
  | zero =>
    intro fuel k hfu hm
    obtain ⟨j, rfl⟩ : ∃ j, fuel = j + 1 := ⟨fuel - 1, by omega⟩
    simp (disch := omega) only [F_X5_squeezedBits_L9, bI_s, ck_p, if_pos]
    rw [show k = L by omega]
  | succ m ih =>
    intro fuel k hfu hm
    obtain ⟨j, rfl⟩ : ∃ j, fuel = j + 1 := ⟨fuel - 1, by omega⟩
    obtain ⟨g1, g2, g3⟩ := gainW_r K.wi hL hw hf k (by omega)
    rw [show L - k = (L - 1 - k) + 1 by omega] at g3
    have hx := mX_r K.wi (l := (k : Int)) (by omega) (by omega)
    obtain ⟨p1, p2, p3, p4, p5⟩ := fstS_p K.wi (m := L - 1 - k) (l := (k : Int)) (by omega) (by omega) g3
    have hb := c_sqBits_b K hw T (l := (k : Int)) (gain := gainW (D 134) L wanted k) (s := (bitN (fun k => decide (0 < fstS (D 134) (L - 1 - k) (k : Int) (gainW (D 134) L wanted k))) k : Int)) (k := L - 1 - k) (by omega) (by omega) (by omega) g3 (F_X5_squeezedBits_L9 j) (fstS (D 134) (L - 1 - k) (k : Int) (gainW (D 134) L wanted k)).toNat fuelN 0 (by omega) (by omega) (by omega)
    have hbit := bitN_step (p := fun k => decide (0 < fstS (D 134) (L - 1 - k) (k : Int) (gainW (D 134) L wanted k))) (k := k) (by omega)
    have he2 : (if fstS (D 134) (L - 1 - k) (k : Int) (gainW (D 134) L wanted k) ≤ 0 then (bitN (fun k => decide (0 < fstS (D 134) (L - 1 - k) (k : Int) (gainW (D 134) L wanted k))) k : Int) else bOr (bitN (fun k => decide (0 < fstS (D 134) (L - 1 - k) (k : Int) (gainW (D 134) L wanted k))) k : Int) (bShl 1 (k : Int))) = (bitN (fun k => decide (0 < fstS (D 134) (L - 1 - k) (k : Int) (gainW (D 134) L wanted k))) (k + 1) : Int) := by
      rw [← hbit]
      by_cases z : fstS (D 134) (L - 1 - k) (k : Int) (gainW (D 134) L wanted k) ≤ 0
      · rw [if_pos z, if_neg (by simp; omega)]
        have h3 := bitN_nR (fun k => decide (0 < fstS (D 134) (L - 1 - k) (k : Int) (gainW (D 134) L wanted k))) (m := k) (by omega)
        rw [or_bit0 (by omega)]
      · rw [if_neg z, if_pos (by simp; omega)]
    simp (disch := omega) only [F_X5_squeezedBits_L9, bI_s, ck_p, if_neg]
    rw [hb, he2, show (k : Int) + 1 = ((k + 1 : Nat) : Int) by omega]
    exact ih j (k + 1) (by omega) (by omega)
theorem c_sqBits (K : Ke n D E) {a : Int} (e4 : E 29 4 = max 0 a) (T : TabP (D 134) (max 0 a) E (fun _ _ => True)) (ha : a < 43) (hf : wHarm (D 134) a < 1000000) : F_X5_squeezedBits E = some (wSqB (D 134) (max 0 a), E) := by
  have hr := K.wi.ra
  have hN := fN
  unfold wHarm at hf
  rw [if_pos (by omega)] at hf
  have := c_sqBits_L K (wanted := max 0 a) (by omega) T (L := (D 134 1).toNat) (by omega) hf (D 134 1).toNat fuelN 0 (by omega) (by omega)
  rw [F_X5_squeezedBits, e4]
  exact this
end PQ9
