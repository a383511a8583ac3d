/-! DISTANCES LAID: the least off, both -/
section PQ4
variable {n : Int} {D E : mD}
theorem minF_le {f : Int → Int} : ∀ (m : Nat) (a j : Int), minF f a j m ≤ a ∧ ∀ k, j ≤ k → k < j + m → minF f a j m ≤ f k := by
  intro m
  induction m with
  | zero => intro a j; exact ⟨Int.le_refl _, fun k a b => by omega⟩
  | succ m ih =>
    intro a j
    have := ih (min a (f j)) (j + 1)
    rw [minF]
    refine ⟨by omega, fun k k0 k1 => ?_⟩
    by_cases e : k = j
    · subst e; omega
    · exact this.2 k (by omega) (by omega)
theorem minF_att {f : Int → Int} : ∀ (m : Nat) (a j : Int), minF f a j m = a ∨ ∃ k, j ≤ k ∧ k < j + m ∧ minF f a j m = f k := by
  intro m
  induction m with
  | zero => intro a j; exact Or.inl rfl
  | succ m ih =>
    intro a j
    rw [minF]
    rcases ih (min a (f j)) (j + 1) with h | ⟨k, h1, h2, h3⟩
    · by_cases q : a ≤ f j
      · rw [Int.min_eq_left q] at h ⊢; exact Or.inl h
      · rw [Int.min_eq_right (by omega)] at h ⊢; exact Or.inr ⟨j, by omega, by omega, h⟩
    · exact Or.inr ⟨k, by omega, by omega, h3⟩
/-- the least off of m gaps from g on, so many hairs given out to them; 1000000 if it can't be -/
def VF (c : Int → Int → Int) : Nat → Int → Int → Int
  | 0, _, left => if left = 0 then 0 else 1000000
  | m + 1, g, left => minF (fun d => c g d + VF c m (g + 1) (left - d)) 1000000 0 (min 30 left + 1).toNat
theorem VF_0 {c : Int → Int → Int} (hc : ∀ g d, 0 ≤ c g d) : ∀ (m : Nat) (g left : Int), 0 ≤ VF c m g left ∧ VF c m g left ≤ 1000000 := by
  intro m
  induction m with
  | zero => intro g left; rw [VF]; by_cases q : left = 0; rw [if_pos q]; omega; rw [if_neg q]; omega
  | succ m ih =>
    intro g left
    rw [VF]
    exact minF_r (lo := 0) _ _ _ (by omega) (fun k _ _ => by have := ih (g + 1) (left - k); have := hc g k; omega)
theorem VF_far {c : Int → Int → Int} (hc : ∀ g d, 0 ≤ c g d) : ∀ (m : Nat) (g left : Int), left < 0 ∨ 30 * m < left → VF c m g left = 1000000 := by
  intro m
  induction m with
  | zero => intro g left h; rw [VF, if_neg (by omega)]
  | succ m ih =>
    intro g left h
    have h1 := (VF_0 hc (m + 1) g left).2
    rw [VF] at h1 ⊢
    have h2 := (minF_r (f := fun d => c g d + VF c m (g + 1) (left - d)) (lo := 1000000) (min 30 left + 1).toNat 1000000 0 (by omega) (fun k k0 k1 => by
      have := hc g k
      have h3 := ih (g + 1) (left - k) (by omega)
      simp only [h3]
      omega)).1
    omega
theorem VF_le {c : Int → Int → Int} {m : Nat} {g left d : Int} (h0 : 0 ≤ d) (h1 : d ≤ 30) (h2 : d ≤ left) : VF c (m + 1) g left ≤ c g d + VF c m (g + 1) (left - d) := by
  rw [VF]
  exact (minF_le (f := fun d => c g d + VF c m (g + 1) (left - d)) (min 30 left + 1).toNat 1000000 0).2 d h0 (by omega)
theorem VF_att {c : Int → Int → Int} (hc : ∀ g d, 0 ≤ c g d) {m : Nat} {g left : Int} (h : VF c (m + 1) g left < 1000000) : ∃ d, 0 ≤ d ∧ d ≤ 30 ∧ d ≤ left ∧ left - d ≤ 30 * m ∧ VF c (m + 1) g left = c g d + VF c m (g + 1) (left - d) := by
  have h' := h
  rw [VF] at h'
  rcases minF_att (f := fun d => c g d + VF c m (g + 1) (left - d)) (min 30 left + 1).toNat 1000000 0 with e | ⟨k, k0, k1, e⟩
  · omega
  · refine ⟨k, k0, by omega, by omega, ?_, by rw [VF]; exact e⟩
    by_cases q : left - k ≤ 30 * m
    · exact q
    · have := VF_far hc m (g + 1) (left - k) (by omega)
      have := hc g k
      omega
theorem VF_fin {c : Int → Int → Int} {G : Int} (hB : ∀ g d, 0 ≤ g → g < G → 0 ≤ d → d ≤ 30 → c g d ≤ 26000) : ∀ (m : Nat) (g left : Int), 0 ≤ g → g + m = G → 0 ≤ left → left ≤ 30 * m → VF c m g left ≤ 26000 * m := by
  intro m
  induction m with
  | zero => intro g left _ _ h0 h1; rw [VF, if_pos (by omega)]; omega
  | succ m ih =>
    intro g left g0 g1 h0 h1
    have h2 := VF_le (c := c) (m := m) (g := g) (left := left) (d := max 0 (left - 30 * m)) (by omega) (by omega) (by omega)
    have h3 := ih (g + 1) (left - max 0 (left - 30 * m)) (by omega) (by omega) (by omega) (by omega)
    have h4 := hB g (max 0 (left - 30 * m)) g0 (by omega) (by omega) (by omega)
    omega
theorem VF_lip {c c' : Int → Int → Int} {G δ : Int} (hc : ∀ g d, 0 ≤ c' g d) (hB : ∀ g d, 0 ≤ g → g < G → 0 ≤ d → d ≤ 30 → c' g d ≤ 26000) (hG : G ≤ 13) (hl : ∀ g d, 0 ≤ g → g < G → 0 ≤ d → d ≤ 30 → c g d ≤ c' g d + δ) :
    ∀ (m : Nat) (g left : Int), 0 ≤ g → g + m = G → 0 ≤ left → left ≤ 30 * m → VF c m g left ≤ VF c' m g left + δ * m := by
  intro m
  induction m with
  | zero => intro g left _ _ h0 h1; rw [VF, VF, if_pos (by omega)]; omega
  | succ m ih =>
    intro g left g0 g1 h0 h1
    have hf := VF_fin hB (m + 1) g left g0 g1 h0 h1
    obtain ⟨d, d0, d1, d2, d3, e⟩ := VF_att hc (m := m) (g := g) (left := left) (by omega)
    have h2 := VF_le (c := c) (m := m) (g := g) (left := left) d0 d1 d2
    have h3 := ih (g + 1) (left - d) (by omega) (by omega) (by omega) d3
    have h4 := hl g d g0 (by omega) d0 d1
    rw [show ((m + 1 : Nat) : Int) = (m : Int) + 1 by omega, Int.mul_add]
    omega
/-- as the class reckons it: of those that can be alone -/
theorem VF_cls {c : Int → Int → Int} {G : Int} (hc : ∀ g d, 0 ≤ c g d) (hB : ∀ g d, 0 ≤ g → g < G → 0 ≤ d → d ≤ 30 → c g d ≤ 26000) (hG : G ≤ 13) {m : Nat} {g left : Int} (g0 : 0 ≤ g) (g1 : g + (m + 1 : Nat) = G) (h0 : 0 ≤ left) (h1 : left ≤ 30 * (m + 1 : Nat)) :
    minF (fun d => VF c m (g + 1) (left - d) + c g d) 1000000000 (max 0 (left - 30 * m)) (min 30 left + 1 - max 0 (left - 30 * m)).toNat = VF c (m + 1) g left := by
  have hf := VF_fin hB (m + 1) g left g0 g1 h0 h1
  obtain ⟨d, d0, d1, d2, d3, e⟩ := VF_att hc (m := m) (g := g) (left := left) (by omega)
  have a1 := (minF_le (f := fun d => VF c m (g + 1) (left - d) + c g d) (min 30 left + 1 - max 0 (left - 30 * m)).toNat 1000000000 (max 0 (left - 30 * m))).2 d (by omega) (by omega)
  rcases minF_att (f := fun d => VF c m (g + 1) (left - d) + c g d) (min 30 left + 1 - max 0 (left - 30 * m)).toNat 1000000000 (max 0 (left - 30 * m)) with h | ⟨k, k0, k1, h⟩
  · omega
  · have := VF_le (c := c) (m := m) (g := g) (left := left) (d := k) (by omega) (by omega) (by omega)
    omega
/-- how far off a distance's white is -/
def wCost (w : Int → Int) (x g d : Int) : Int := (Int.natAbs (wWhite w g d - x) : Int)
theorem wCost_0 (w : Int → Int) (x g d : Int) : 0 ≤ wCost w x g d := Int.natCast_nonneg _
theorem wCost_r {w : Int → Int} (H : Wi n w) {x g d : Int} (hx : 0 ≤ x ∧ x ≤ 2000) (g0 : 0 ≤ g) (g1 : g < max 0 (w 1 - 1)) (d0 : 0 ≤ d) (d1 : d ≤ 30) : wCost w x g d ≤ 26000 := by
  have := wWhite_r H (g := g) (d := d) (by omega) (by omega)
  unfold wCost
  omega
theorem wRoom_r {w : Int → Int} (H : Wi n w) {more : Int} (hm : 0 ≤ more ∧ more ≤ 12) : -300 ≤ wRoom w more ∧ wRoom w more ≤ 132 := by
  have hr := H.ra
  have := wWids_r H
  unfold wRoom
  omega
/-- the least off; 1000000 if there is none -/
def wOff (w : Int → Int) (x more : Int) : Int := if w 1 = 0 ∨ wRoom w more < 0 then 1000000 else VF (wCost w x) (max 0 (w 1 - 1)).toNat 0 (wRoom w more)
/-- it can be laid -/
def wCan (w : Int → Int) (more : Int) : Prop := w 1 ≠ 0 ∧ 0 ≤ wRoom w more ∧ wRoom w more ≤ 30 * max 0 (w 1 - 1)
theorem wOff_can {w : Int → Int} (H : Wi n w) {x more : Int} (hx : 0 ≤ x ∧ x ≤ 2000) (h : wCan w more) : wOff w x more = VF (wCost w x) (max 0 (w 1 - 1)).toNat 0 (wRoom w more) ∧ 0 ≤ wOff w x more ∧ wOff w x more ≤ 338000 := by
  have hr := H.ra
  obtain ⟨h1, h2, h3⟩ := h
  have e : wOff w x more = VF (wCost w x) (max 0 (w 1 - 1)).toNat 0 (wRoom w more) := by unfold wOff; rw [if_neg (by omega)]
  have a := VF_fin (c := wCost w x) (G := max 0 (w 1 - 1)) (fun g d a b c d => wCost_r H hx a b c d) (max 0 (w 1 - 1)).toNat 0 (wRoom w more) (by omega) (by omega) h2 (by omega)
  have b := (VF_0 (wCost_0 w x) (max 0 (w 1 - 1)).toNat 0 (wRoom w more)).1
  exact ⟨e, by omega, by omega⟩
theorem wOff_cannot {w : Int → Int} {x more : Int} (h : ¬ wCan w more) : wOff w x more = 1000000 := by
  unfold wCan at h
  unfold wOff
  by_cases q : w 1 = 0 ∨ wRoom w more < 0
  · rw [if_pos q]
  · rw [if_neg q, VF_far (wCost_0 w x) _ _ _ (by omega)]
/-! the reference's table -/
def TabF (w : Int → Int) (x room : Int) (E : mD) (P : Int → Int → Prop) : Prop := ∀ g left, 0 ≤ g → g ≤ max 0 (w 1 - 1) → 0 ≤ left → left ≤ room → P g left → E 143 (g * 133 + left) = VF (wCost w x) (max 0 (w 1 - 1) - g).toNat g left
theorem s_offBy (H : Wi n (D 134)) (U : WhR (D 134) E) {x g d : Int} (hx : 0 ≤ x ∧ x ≤ 2000) (g0 : 0 ≤ g) (g1 : g < max 0 (D 134 1 - 1)) (d0 : 0 ≤ d) (d1 : d ≤ 30) : F_X12_offBy g d x E = some (wCost (D 134) x g d, E) := by
  have hr := H.ra
  have e := U.at g0 (show g + 1 < D 134 1 by omega) d0 d1 (by omega)
  have := wWhite_r H (g := g) (d := d) (by omega) (by omega)
  simp (disch := omega) only [F_X12_offBy, e, ck_p]
  rfl
theorem WhR.keep {w : Int → Int} {E' : mD} (h : WhR w E) (e : E' 142 = E 142) : WhR w E' := by
  unfold WhR WhU at h ⊢
  rw [e]
  exact h
theorem r_rest {g left v : Int} (h0 : 0 ≤ left) (h1 : 0 ≤ g * 133 + left) (h2 : g * 133 + left < 1862) (hl : left ≤ 200) (e : E 143 (g * 133 + left) = v) : F_X12_rest g left E = some (v, E) := by
  simp (disch := omega) only [F_X12_rest, F_X12_leastAt, ck_p, if_pos, bI_s, e]
theorem r_laysBy_d (H : Wi n (D 134)) {x room g left : Int} (hx : 0 ≤ x ∧ x ≤ 2000) (hrm : 0 ≤ room ∧ room ≤ 132) (g0 : 0 ≤ g) (g1 : g < max 0 (D 134 1 - 1)) (l0 : 0 ≤ left) (l1 : left ≤ room) (U : WhR (D 134) E) (T : TabF (D 134) x room E (fun g' _ => g < g')) (K70 K78 : Int → mD → RI) :
    ∀ (m fuel : Nat) (d best : Int), m < fuel → 0 ≤ d → d + m = min 30 left + 1 → 0 ≤ best → best ≤ 1000000 →
    F_X12_laysBy_L92 K70 K78 x room g left fuel best d E = K78 (left + 1) (pD E 143 (g * 133 + left) (minF (fun d => wCost (D 134) x g d + VF (wCost (D 134) x) (max 0 (D 134 1 - 1) - (g + 1)).toNat (g + 1) (left - d)) best d m)) := by
  have hr := H.ra
  intro m
  induction m with
  | zero =>
    intro fuel d best hf hd hm b0 b1
    obtain ⟨j, rfl⟩ : ∃ j, fuel = j + 1 := ⟨fuel - 1, by omega⟩
    have e : min 1000000 best = best := Int.min_eq_right b1
    by_cases q : 30 < d
    · simp (disch := omega) only [F_X12_laysBy_L92, F_X12_laysBy_j142, F_X12_leastAt, ck_p, if_pos, bI_s, minF, e]
    · simp (disch := omega) only [F_X12_laysBy_L92, F_X12_laysBy_j142, F_X12_leastAt, ck_p, if_neg, if_pos, bI_s, minF, e]
  | succ m ih =>
    intro fuel d best hf hd hm b0 b1
    obtain ⟨j, rfl⟩ : ∃ j, fuel = j + 1 := ⟨fuel - 1, by omega⟩
    have h1 := s_offBy H U hx g0 g1 hd (d := d) (by omega)
    have h2 := r_rest (E := E) (g := g + 1) (left := left - d) (by omega) (by omega) (by omega) (by omega) (T (g + 1) (left - d) (by omega) (by omega) (by omega) (by omega) (by omega))
    have c0 := wCost_0 (D 134) x g d
    have c1 := wCost_r H hx g0 g1 hd (d := d) (by omega)
    have v := VF_0 (wCost_0 (D 134) x) (max 0 (D 134 1 - 1) - (g + 1)).toNat (g + 1) (left - d)
    simp (disch := omega) only [F_X12_laysBy_L92, ck_p, if_neg, bI_s, h1, h2, minF, ih]
theorem r_laysBy_r (H : Wi n (D 134)) {x room g : Int} (hx : 0 ≤ x ∧ x ≤ 2000) (hrm : 0 ≤ room ∧ room ≤ 132) (g0 : 0 ≤ g) (g1 : g < max 0 (D 134 1 - 1)) (K70 : Int → mD → RI) :
    ∀ (m fuel : Nat) (left : Int) (E : mD), m < fuel → 0 ≤ left → left + m = room + 1 → Qw D E → WhR (D 134) E → TabF (D 134) x room E (fun g' left' => g < g' ∨ (g' = g ∧ left' < left)) →
    ∃ E', F_X12_laysBy_L78 K70 x room g fuel left E = K70 (g - 1) E' ∧ Qw D E' ∧ WhR (D 134) E' ∧ TabF (D 134) x room E' (fun g' _ => g - 1 < g') := by
  have hr := H.ra
  have hN := fN
  intro m
  induction m with
  | zero =>
    intro fuel left E hf hd hm q U T
    obtain ⟨j, rfl⟩ : ∃ j, fuel = j + 1 := ⟨fuel - 1, by omega⟩
    exact ⟨E, by simp (disch := omega) only [F_X12_laysBy_L78, ck_p, if_pos], q, U, fun g' left' a b c d e => T g' left' a b c d (by omega)⟩
  | succ m ih =>
    intro fuel left E hf hd hm q U T
    obtain ⟨j, rfl⟩ : ∃ j, fuel = j + 1 := ⟨fuel - 1, by omega⟩
    have h1 := r_laysBy_d H hx hrm g0 g1 (left := left) hd (by omega) U (fun g' left' a b c d e => T g' left' a b c d (Or.inl e)) K70 (F_X12_laysBy_L78 K70 x room g j) (min 30 left + 1).toNat fuelN 0 1000000 (by omega) (by omega) (by omega) (by omega) (by omega)
    obtain ⟨V, eV⟩ : ∃ V, V = minF (fun d => wCost (D 134) x g d + VF (wCost (D 134) x) (max 0 (D 134 1 - 1) - (g + 1)).toNat (g + 1) (left - d)) 1000000 0 (min 30 left + 1).toNat := ⟨_, rfl⟩
    have eV2 : V = VF (wCost (D 134) x) (max 0 (D 134 1 - 1) - g).toNat g left := by
      rw [eV, show (max 0 (D 134 1 - 1) - g).toNat = (max 0 (D 134 1 - 1) - (g + 1)).toNat + 1 by omega, VF]
    rw [← eV] at h1
    obtain ⟨E', h', q', U', T'⟩ := ih j (left + 1) (pD E 143 (g * 133 + left) V) (by omega) (by omega) (by omega) (q.tr (Qw.put (by omega))) (U.keep (pD_ne (by decide))) (by
      intro g' left' a b c d e
      rw [pD_at]
      by_cases z : g' * 133 + left' = g * 133 + left
      · rw [if_pos z, eV2, show g' = g by omega, show left' = left by omega]
      · rw [if_neg z]
        exact T g' left' a b c d (by omega))
    refine ⟨E', ?_, q', U', T'⟩
    simp (disch := omega) only [F_X12_laysBy_L78, ck_p, if_neg]
    rw [h1, h']
theorem r_laysBy_g (H : Wi n (D 134)) {x room : Int} (hx : 0 ≤ x ∧ x ≤ 2000) (hrm : 0 ≤ room ∧ room ≤ 132) :
    ∀ (m fuel : Nat) (E : mD), m < fuel → (m : Int) ≤ max 0 (D 134 1 - 1) → Qw D E → WhR (D 134) E → TabF (D 134) x room E (fun g' _ => (m : Int) - 1 < g') →
    ∃ E', F_X12_laysBy_L70 x room fuel ((m : Int) - 1) E = some (VF (wCost (D 134) x) (max 0 (D 134 1 - 1)).toNat 0 room, E') ∧ Qw D E' ∧ WhR (D 134) E' ∧ TabF (D 134) x room E' (fun _ _ => True) := by
  have hr := H.ra
  have hN := fN
  intro m
  induction m with
  | zero =>
    intro fuel E hf hm q U T
    obtain ⟨j, rfl⟩ : ∃ j, fuel = j + 1 := ⟨fuel - 1, by omega⟩
    have e := T 0 room (by omega) (by omega) (by omega) (by omega) (by omega)
    rw [Int.sub_zero] at e
    exact ⟨E, by simp (disch := omega) only [F_X12_laysBy_L70, F_X12_leastAt, bI_s, ck_p, if_pos, e], q, U, fun g' left' a b c d e => T g' left' a b c d (by omega)⟩
  | succ m ih =>
    intro fuel E hf hm q U T
    obtain ⟨j, rfl⟩ : ∃ j, fuel = j + 1 := ⟨fuel - 1, by omega⟩
    obtain ⟨E1, h1, q1, U1, T1⟩ := r_laysBy_r H hx hrm (g := (m : Int)) (by omega) (by omega) (F_X12_laysBy_L70 x room j) (room + 1).toNat fuelN 0 E (by omega) (by omega) (by omega) q U (fun g' left' a b c d e => T g' left' a b c d (by omega))
    obtain ⟨E', h', q', U', T'⟩ := ih j E1 (by omega) (by omega) q1 U1 T1
    refine ⟨E', ?_, q', U', T'⟩
    rw [show ((m + 1 : Nat) : Int) - 1 = m by omega]
    simp (disch := omega) only [F_X12_laysBy_L70, ck_p, if_neg]
    rw [h1, h']
theorem r_laysBy_b (H : Wi n (D 134)) {x room : Int} (hx : 0 ≤ x ∧ x ≤ 2000) (hrm : 0 ≤ room ∧ room ≤ 132) :
    ∀ (m fuel : Nat) (left : Int) (E : mD), m < fuel → 0 ≤ left → left + m = room + 1 → Qw D E → WhR (D 134) E → TabF (D 134) x room E (fun g' left' => g' = max 0 (D 134 1 - 1) ∧ left' < left) →
    ∃ E', F_X12_laysBy_L24 x room fuel left E = some (VF (wCost (D 134) x) (max 0 (D 134 1 - 1)).toNat 0 room, E') ∧ Qw D E' ∧ WhR (D 134) E' ∧ TabF (D 134) x room E' (fun _ _ => True) := by
  have hr := H.ra
  have hN := fN
  intro m
  induction m with
  | zero =>
    intro fuel left E hf hd hm q U T
    obtain ⟨j, rfl⟩ : ∃ j, fuel = j + 1 := ⟨fuel - 1, by omega⟩
    obtain ⟨E', h', q', U', T'⟩ := r_laysBy_g H hx hrm (max 0 (D 134 1 - 1)).toNat fuelN E (by omega) (by omega) q U (fun g' left' a b c d e => T g' left' a b c d (by omega))
    rw [show (((max 0 (D 134 1 - 1)).toNat : Nat) : Int) = max 0 (D 134 1 - 1) by omega] at h'
    refine ⟨E', ?_, q', U', T'⟩
    simp (disch := omega) only [F_X12_laysBy_L24, ck_p, if_pos, s_gaps H q, bI_s]
    rw [h']
  | succ m ih =>
    intro fuel left E hf hd hm q U T
    obtain ⟨j, rfl⟩ : ∃ j, fuel = j + 1 := ⟨fuel - 1, by omega⟩
    obtain ⟨E', h', q', U', T'⟩ := ih j (left + 1) (pD E 143 (max 0 (D 134 1 - 1) * 133 + left) (if left = 0 then 0 else 1000000)) (by omega) (by omega) (by omega) (q.tr (Qw.put (by omega))) (U.keep (pD_ne (by decide))) (by
      intro g' left' a b c d e
      rw [pD_at]
      by_cases z : g' * 133 + left' = max 0 (D 134 1 - 1) * 133 + left
      · rw [if_pos z, show g' = max 0 (D 134 1 - 1) by omega, show left' = left by omega, Int.sub_self]
        rfl
      · rw [if_neg z]
        exact T g' left' a b c d (by omega))
    refine ⟨E', ?_, q', U', T'⟩
    simp (disch := omega) only [F_X12_laysBy_L24, F_X12_leastAt, ck_p, if_neg, s_gaps H q, bI_s]
    rw [h']
theorem r_laysBy (H : Wi n (D 134)) (q : Qw D E) (U : WhR (D 134) E) {x more : Int} (hx : 0 ≤ x ∧ x ≤ 2000) (hm : 0 ≤ more ∧ more ≤ 12) :
    ∃ E', F_X12_laysBy x more E = some (wOff (D 134) x more, E') ∧ Qw D E' ∧ WhR (D 134) E' ∧ (wCan (D 134) more → TabF (D 134) x (wRoom (D 134) more) E' (fun _ _ => True)) := by
  have hr := H.ra
  have hN := fN
  have hrm := wRoom_r H hm
  have e1 : F_X12_room more E = some (wRoom (D 134) more, E) := by rw [r_room (s_wi H q), q.w]
  by_cases z : D 134 1 = 0
  · refine ⟨E, ?_, q, U, fun h => absurd z h.1⟩
    simp (disch := omega) only [F_X12_laysBy, e1, bI_s, s_letters q, ck_p, if_pos]
    unfold wOff
    rw [if_pos (Or.inl z)]
  · by_cases z2 : 0 ≤ wRoom (D 134) more
    · obtain ⟨E', h', q', U', T'⟩ := r_laysBy_b H hx (room := wRoom (D 134) more) (by omega) (wRoom (D 134) more + 1).toNat fuelN 0 E (by omega) (by omega) (by omega) q U (fun g' left' a b c d e => by omega)
      refine ⟨E', ?_, q', U', fun _ => T'⟩
      simp (disch := omega) only [F_X12_laysBy, e1, bI_s, s_letters q, ck_p, if_pos, if_neg]
      rw [h']
      unfold wOff
      rw [if_neg (by omega)]
    · refine ⟨E, ?_, q, U, fun h => absurd h.2.1 z2⟩
      simp (disch := omega) only [F_X12_laysBy, e1, bI_s, s_letters q, ck_p, if_neg]
      unfold wOff
      rw [if_pos (Or.inr (by omega))]
end PQ4
