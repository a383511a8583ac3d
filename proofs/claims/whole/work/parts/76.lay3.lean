/-! DISTANCES LAID: the first way, both -/
section PQ6
variable {n : Int} {D E : mD}
theorem leastF_ex {p : Int → Bool} {k : Int} (hk : p k = true) : ∀ (m : Nat) (h : Int), h ≤ k → k ≤ h + m → p (leastF p h m) = true ∧ h ≤ leastF p h m ∧ leastF p h m ≤ k ∧ ∀ j, h ≤ j → j < leastF p h m → p j = false := by
  intro m
  induction m with
  | zero => intro h h0 h1; rw [leastF]; have e : k = h := by omega
            subst e; exact ⟨hk, by omega, by omega, fun j a b => by omega⟩
  | succ m ih =>
    intro h h0 h1
    rw [leastF]
    by_cases q : p h = true
    · rw [if_pos q]
      exact ⟨q, by omega, by omega, fun j a b => by omega⟩
    · rw [if_neg q]
      have hne : h ≠ k := fun e => q (by rw [e]; exact hk)
      have := ih (h + 1) (by omega) (by omega)
      refine ⟨this.1, by omega, by omega, fun j a b => ?_⟩
      by_cases e : j = h
      · subst e; simpa using q
      · exact this.2.2.2 j (by omega) b
/-- the distance is one with which the least off is reached -/
def isD (c : Int → Int → Int) (m : Nat) (g left d : Int) : Bool := decide (c g d + VF c m (g + 1) (left - d) = VF c (m + 1) g left)
def fstD (c : Int → Int → Int) (m : Nat) (g left : Int) : Int := leastF (isD c m g left) 0 30
theorem fstD_p {c : Int → Int → Int} {G : Int} (hc : ∀ g d, 0 ≤ c g d) (hB : ∀ g d, 0 ≤ g → g < G → 0 ≤ d → d ≤ 30 → c g d ≤ 26000) (hG : G ≤ 13) {m : Nat} {g left : Int} (g0 : 0 ≤ g) (g1 : g + (m + 1 : Nat) = G) (h0 : 0 ≤ left) (h1 : left ≤ 30 * (m + 1 : Nat)) :
    (c g (fstD c m g left) + VF c m (g + 1) (left - fstD c m g left) = VF c (m + 1) g left) ∧ 0 ≤ fstD c m g left ∧ fstD c m g left ≤ 30 ∧ fstD c m g left ≤ left ∧ left - fstD c m g left ≤ 30 * m ∧ ∀ d, 0 ≤ d → d < fstD c m g left → c g d + VF c m (g + 1) (left - d) ≠ VF c (m + 1) g left := by
  have hf := VF_fin hB (m + 1) g left g0 g1 h0 h1
  obtain ⟨d, d0, d1, d2, d3, e⟩ := VF_att hc (m := m) (g := g) (left := left) (by omega)
  obtain ⟨a1, a2, a3, a4⟩ := leastF_ex (p := isD c m g left) (k := d) (decide_eq_true e.symm) 30 0 d0 (by omega)
  have a1 : c g (fstD c m g left) + VF c m (g + 1) (left - fstD c m g left) = VF c (m + 1) g left := of_decide_eq_true a1
  have a2 : 0 ≤ fstD c m g left := a2
  have a3 : fstD c m g left ≤ d := a3
  refine ⟨a1, a2, by omega, by omega, ?_, fun j j0 j1 => of_decide_eq_false (a4 j j0 j1)⟩
  by_cases q : left - fstD c m g left ≤ 30 * m
  · exact q
  · have := VF_far hc m (g + 1) (left - fstD c m g left) (by omega)
    have := hc g (fstD c m g left)
    omega
/-- what is left at gap k; the distance there -/
def leftW (c : Int → Int → Int) (G : Nat) (room : Int) : Nat → Int
  | 0 => room
  | k + 1 => leftW c G room k - fstD c (G - 1 - k) (k : Int) (leftW c G room k)
def layW (c : Int → Int → Int) (G : Nat) (room : Int) (k : Nat) : Int := fstD c (G - 1 - k) (k : Int) (leftW c G room k)
theorem leftW_r {c : Int → Int → Int} {G : Nat} {room : Int} (hc : ∀ g d, 0 ≤ c g d) (hB : ∀ g d : Int, 0 ≤ g → g < (G : Int) → 0 ≤ d → d ≤ 30 → c g d ≤ 26000) (hG : G ≤ 13) (h0 : 0 ≤ room) (h1 : room ≤ 30 * G) :
    ∀ k : Nat, k ≤ G → 0 ≤ leftW c G room k ∧ leftW c G room k ≤ 30 * (G - k) ∧ leftW c G room k ≤ room := by
  intro k
  induction k with
  | zero => intro _; rw [leftW]; omega
  | succ k ih =>
    intro hk
    have := ih (by omega)
    have h := fstD_p hc hB (by omega) (m := G - 1 - k) (g := (k : Int)) (left := leftW c G room k) (by omega) (by omega) (by omega) (by omega)
    rw [leftW]
    omega
theorem layW_r {c : Int → Int → Int} {G : Nat} {room : Int} (hc : ∀ g d, 0 ≤ c g d) (hB : ∀ g d : Int, 0 ≤ g → g < (G : Int) → 0 ≤ d → d ≤ 30 → c g d ≤ 26000) (hG : G ≤ 13) (h0 : 0 ≤ room) (h1 : room ≤ 30 * G) {k : Nat} (hk : k < G) : 0 ≤ layW c G room k ∧ layW c G room k ≤ 30 := by
  have := leftW_r hc hB hG h0 h1 k (by omega)
  have h := fstD_p hc hB (by omega) (m := G - 1 - k) (g := (k : Int)) (left := leftW c G room k) (by omega) (by omega) (by omega) (by omega)
  unfold layW
  omega
/-! the reference -/
theorem r_firstWay_d (H : Wi n (D 134)) {x room : Int} (hx : 0 ≤ x ∧ x ≤ 2000) (hrm : 0 ≤ room ∧ room ≤ 132) (U : WhR (D 134) E) (T : TabF (D 134) x room E (fun _ _ => True)) (K8 : Int → Int → mD → RI)
    {g : Int} {k : Nat} (g0 : 0 ≤ g) (g1 : g + (k + 1 : Nat) = max 0 (D 134 1 - 1)) {left : Int} (l0 : 0 ≤ left) (l1 : left ≤ room) (l2 : left ≤ 30 * (k + 1 : Nat)) :
    ∀ (m fuel : Nat) (d : Int), m < fuel → 0 ≤ d → d + m = fstD (wCost (D 134) x) k g left →
    F_X12_firstWay_L19 K8 x left g fuel d E = K8 (left - fstD (wCost (D 134) x) k g left) (g + 1) (pD E 144 g (fstD (wCost (D 134) x) k g left)) := by
  have hr := H.ra
  obtain ⟨p1, p2, p3, p4, p5, p6⟩ := fstD_p (wCost_0 (D 134) x) (G := max 0 (D 134 1 - 1)) (fun g d a b c d => wCost_r H hx a b c d) (by omega) g0 g1 l0 l2
  have hf := VF_0 (wCost_0 (D 134) x) (k + 1) g left
  have hT := T g left g0 (by omega) l0 l1 trivial
  rw [show (max 0 (D 134 1 - 1) - g).toNat = k + 1 by omega] at hT
  have h3 := r_rest (E := E) (g := g) (left := left) l0 (by omega) (by omega) (by omega) hT
  intro m
  induction m with
  | zero =>
    intro fuel d hf hd hm
    obtain ⟨j, rfl⟩ : ∃ j, fuel = j + 1 := ⟨fuel - 1, by omega⟩
    have hm : fstD (wCost (D 134) x) k g left = d := by omega
    rw [hm] at p1 p2 p3 p4 p5 ⊢
    have h1 := s_offBy H U hx g0 (by omega) hd (d := d) (by omega)
    have hT2 := T (g + 1) (left - d) (by omega) (by omega) (by omega) (by omega) trivial
    rw [show (max 0 (D 134 1 - 1) - (g + 1)).toNat = k by omega] at hT2
    have h2 := r_rest (E := E) (g := g + 1) (left := left - d) (by omega) (by omega) (by omega) (by omega) hT2
    have c0 := wCost_0 (D 134) x g d
    have c1 := wCost_r H hx g0 (by omega) hd (d := d) (by omega)
    simp (disch := omega) only [F_X12_firstWay_L19, ck_p, h1, h2, h3, bI_s, if_pos]
  | succ m ih =>
    intro fuel d hf hd hm
    obtain ⟨j, rfl⟩ : ∃ j, fuel = j + 1 := ⟨fuel - 1, by omega⟩
    have h1 := s_offBy H U hx g0 (by omega) hd (d := d) (by omega)
    have hT2 := T (g + 1) (left - d) (by omega) (by omega) (by omega) (by omega) trivial
    rw [show (max 0 (D 134 1 - 1) - (g + 1)).toNat = k by omega] at hT2
    have h2 := r_rest (E := E) (g := g + 1) (left := left - d) (by omega) (by omega) (by omega) (by omega) hT2
    have c0 := wCost_0 (D 134) x g d
    have c1 := wCost_r H hx g0 (by omega) hd (d := d) (by omega)
    have v := VF_0 (wCost_0 (D 134) x) k (g + 1) (left - d)
    have ne := p6 d hd (by omega)
    simp (disch := omega) only [F_X12_firstWay_L19, ck_p, h1, h2, h3, bI_s, if_neg]
    exact ih j (d + 1) (by omega) (by omega) (by omega)
theorem TabF.keep {w : Int → Int} {x room : Int} {P : Int → Int → Prop} {E' : mD} (h : TabF w x room E P) (e : E' 143 = E 143) : TabF w x room E' P := by
  unfold TabF at h ⊢
  rw [e]
  exact h
theorem r_firstWay_L (H : Wi n (D 134)) {x room : Int} {G : Nat} (hG : (G : Int) = max 0 (D 134 1 - 1)) (hx : 0 ≤ x ∧ x ≤ 2000) (hrm : 0 ≤ room ∧ room ≤ 132) (hr2 : room ≤ 30 * G) :
    ∀ (m fuel k : Nat) (E : mD), m < fuel → k + m = G → Qw D E → WhR (D 134) E → TabF (D 134) x room E (fun _ _ => True) → (∀ i : Nat, i < k → E 144 (i : Int) = layW (wCost (D 134) x) G room i) →
    ∃ E', F_X12_firstWay_L8 x fuel (leftW (wCost (D 134) x) G room k) (k : Int) E = some (0, E') ∧ Qw D E' ∧ ∀ i : Nat, i < G → E' 144 (i : Int) = layW (wCost (D 134) x) G room i := by
  have hr := H.ra
  have hN := fN
  have hB : ∀ g d, 0 ≤ g → g < (G : Int) → 0 ≤ d → d ≤ 30 → wCost (D 134) x g d ≤ 26000 := fun g d a b c e => wCost_r H hx a (by omega) c e
  intro m
  induction m with
  | zero =>
    intro fuel k E hf hm q U T hl
    obtain ⟨j, rfl⟩ : ∃ j, fuel = j + 1 := ⟨fuel - 1, by omega⟩
    exact ⟨E, by simp (disch := omega) only [F_X12_firstWay_L8, s_gaps H q, bI_s, ck_p, if_pos], q, fun i hi => hl i (by omega)⟩
  | succ m ih =>
    intro fuel k E hf hm q U T hl
    obtain ⟨j, rfl⟩ : ∃ j, fuel = j + 1 := ⟨fuel - 1, by omega⟩
    have hw := leftW_r (wCost_0 (D 134) x) hB (by omega) hrm.1 hr2 k (by omega)
    have hp := fstD_p (wCost_0 (D 134) x) hB (by omega) (m := G - 1 - k) (g := (k : Int)) (left := leftW (wCost (D 134) x) G room k) (by omega) (by omega) (by omega) (by omega)
    have h1 := r_firstWay_d H hx hrm U T (F_X12_firstWay_L8 x j) (g := (k : Int)) (k := G - 1 - k) (by omega) (by omega) (left := leftW (wCost (D 134) x) G room k) (by omega) (by omega) (by omega) (fstD (wCost (D 134) x) (G - 1 - k) (k : Int) (leftW (wCost (D 134) x) G room k)).toNat fuelN 0 (by omega) (by omega) (by omega)
    obtain ⟨E', h', q', l'⟩ := ih j (k + 1) (pD E 144 (k : Int) (fstD (wCost (D 134) x) (G - 1 - k) (k : Int) (leftW (wCost (D 134) x) G room k))) (by omega) (by omega) (q.tr (Qw.put (by omega))) (U.keep (pD_ne (by decide))) (T.keep (pD_ne (by decide))) (fun i hi => by
      rw [pD_at]
      by_cases z : (i : Int) = (k : Int)
      · rw [if_pos z, show i = k by omega]; rfl
      · rw [if_neg z]; exact hl i (by omega))
    refine ⟨E', ?_, q', l'⟩
    simp (disch := omega) only [F_X12_firstWay_L8, s_gaps H q, bI_s, ck_p, if_neg]
    rw [h1, show (k : Int) + 1 = ((k + 1 : Nat) : Int) by omega, ← h']
    rfl
theorem r_firstWay (H : Wi n (D 134)) (q : Qw D E) {x : Int} (hx : 0 ≤ x ∧ x ≤ 2000) (hc : wCan (D 134) 0) (U : WhR (D 134) E) (T : TabF (D 134) x (wRoom (D 134) 0) E (fun _ _ => True)) :
    ∃ E', F_X12_firstWay x E = some (0, E') ∧ Qw D E' ∧ ∀ i : Nat, i < (max 0 (D 134 1 - 1)).toNat → E' 144 (i : Int) = layW (wCost (D 134) x) (max 0 (D 134 1 - 1)).toNat (wRoom (D 134) 0) i := by
  have hr := H.ra
  have hN := fN
  have hrm := wRoom_r H (more := 0) (by omega)
  unfold wCan at hc
  have e1 : F_X12_room 0 E = some (wRoom (D 134) 0, E) := by rw [r_room (s_wi H q), q.w]
  rw [F_X12_firstWay, e1, bI_s]
  exact r_firstWay_L H (room := wRoom (D 134) 0) (G := (max 0 (D 134 1 - 1)).toNat) (by omega) hx (by omega) (by omega) (max 0 (D 134 1 - 1)).toNat fuelN 0 E (by omega) (by omega) q U T (fun i hi => by omega)
/-! the class -/
theorem w_gapCount (R : CW n E) : F_X6_gapCount 3 E = some (max 0 (E 134 1 - 1), E) := by
  have hc := R.shop
  have hr := R.wi.ra
  simp (disch := omega) only [F_X6_gapCount, ck_p, hc.2.1]
  congr 2
  by_cases q : E 134 1 ≤ 1
  · rw [if_pos q]; omega
  · rw [if_neg q]; omega
theorem c_firstDistance_L {w : Int → Int} (H : Wi n w) {x hairs : Int} (hx : 0 ≤ x ∧ x ≤ 2000) (hh : 0 ≤ hairs ∧ hairs ≤ 132)
    {g : Int} {k : Nat} (g0 : 0 ≤ g) (g1 : g + (k + 1 : Nat) = max 0 (w 1 - 1)) {left : Int} (l0 : max 0 (hairs - 30 * g) ≤ left) (l1 : left ≤ hairs) (l2 : left ≤ 30 * (k + 1 : Nat)) :
    ∀ (m fuel : Nat) (d : Int) (E : mD), m < fuel → max 0 (left - 30 * k) ≤ d → d + m = fstD (wCost w x) k g left → CW n E → E 134 = w → E 26 4 = x → TabR w x hairs E (fun _ _ => True) →
    ∃ E', F_X4_firstDistance_L46 g left (min 30 left) (VF (wCost w x) (k + 1) g left) fuel d E = some (fstD (wCost w x) k g left, E') ∧ Qc E E' ∧ CW n E' := by
  have hr := H.ra
  obtain ⟨p1, p2, p3, p4, p5, p6⟩ := fstD_p (wCost_0 w x) (G := max 0 (w 1 - 1)) (fun g d a b c d => wCost_r H hx a b c d) (by omega) g0 g1 (by omega) l2
  have hf0 := VF_0 (wCost_0 w x) (k + 1) g left
  intro m
  induction m with
  | zero =>
    intro fuel d E hf hd hm R ew e4 T
    obtain ⟨j, rfl⟩ : ∃ j, fuel = j + 1 := ⟨fuel - 1, by omega⟩
    have hm : fstD (wCost w x) k g left = d := by omega
    rw [hm] at p1 p2 p3 p4 p5 ⊢
    by_cases z : min 30 left ≤ d
    · refine ⟨E, ?_, Qc.rf, R⟩
      simp (disch := omega) only [F_X4_firstDistance_L46, ck_p, if_pos]
      congr 2
      omega
    · obtain ⟨E1, h1, q1, R1⟩ := c_whiteOf R (g := g) (d := d) (by rw [ew]; omega) (by omega)
      rw [ew] at h1
      have hw := wWhite_r H (g := g) (d := d) (by omega) (by omega)
      have f4 : E1 26 4 = x := by rw [q1 26 (by omega)]; exact e4
      have hT2 := T (g + 1) (left - d) (by omega) (by omega) (by omega) (by omega) trivial
      rw [show (max 0 (w 1 - 1) - (g + 1)).toNat = k by omega, show (g + 1) * 133 + (left - d) = (g + 1) * 133 + left - d by omega] at hT2
      have v := VF_0 (wCost_0 w x) k (g + 1) (left - d)
      have ec : (Int.natAbs (wWhite w g d - x) : Int) = wCost w x g d := rfl
      have c1 := wCost_r H hx g0 (by omega) p2 (d := d) (by omega)
      refine ⟨E1, ?_, q1, R1⟩
      simp (disch := omega) only [F_X4_firstDistance_L46, ck_p, if_pos, if_neg, h1, bI_s, f4, hT2, ec]
  | succ m ih =>
    intro fuel d E hf hd hm R ew e4 T
    obtain ⟨j, rfl⟩ : ∃ j, fuel = j + 1 := ⟨fuel - 1, by omega⟩
    obtain ⟨E1, h1, q1, R1⟩ := c_whiteOf R (g := g) (d := d) (by rw [ew]; omega) (by omega)
    rw [ew] at h1
    have hw := wWhite_r H (g := g) (d := d) (by omega) (by omega)
    have f4 : E1 26 4 = x := by rw [q1 26 (by omega)]; exact e4
    have hT2 := T (g + 1) (left - d) (by omega) (by omega) (by omega) (by omega) trivial
    rw [show (max 0 (w 1 - 1) - (g + 1)).toNat = k by omega, show (g + 1) * 133 + (left - d) = (g + 1) * 133 + left - d by omega] at hT2
    have v := VF_0 (wCost_0 w x) k (g + 1) (left - d)
    have ec : (Int.natAbs (wWhite w g d - x) : Int) = wCost w x g d := rfl
    have c1 := wCost_r H hx g0 (by omega) (show 0 ≤ d by omega) (d := d) (by omega)
    have ne := p6 d (by omega) (by omega)
    obtain ⟨E', h', q', R'⟩ := ih j (d + 1) E1 (by omega) (by omega) (by omega) R1 (q1.w.trans ew) f4 (T.keep (q1 27 (by omega)))
    refine ⟨E', ?_, q1.tr q', R'⟩
    simp (disch := omega) only [F_X4_firstDistance_L46, ck_p, if_neg, h1, bI_s, f4, hT2, ec]
    exact h'
theorem c_firstDistance {w : Int → Int} {x hairs : Int} (hx : 0 ≤ x ∧ x ≤ 2000) (hh : 0 ≤ hairs ∧ hairs ≤ 132)
    {g : Int} {k : Nat} (g0 : 0 ≤ g) (g1 : g + (k + 1 : Nat) = max 0 (w 1 - 1)) {left : Int} (l0 : max 0 (hairs - 30 * g) ≤ left) (l1 : left ≤ hairs) (l2 : left ≤ 30 * (k + 1 : Nat)) (R : CW n E) (ew : E 134 = w) (e4 : E 26 4 = x) (T : TabR w x hairs E (fun _ _ => True)) :
    ∃ E', F_X4_firstDistance g left E = some (fstD (wCost w x) k g left, E') ∧ Qc E E' ∧ CW n E' := by
  have H : Wi n w := ew ▸ R.wi
  have hr := H.ra
  have hN := fN
  obtain ⟨p1, p2, p3, p4, p5, p6⟩ := fstD_p (wCost_0 w x) (G := max 0 (w 1 - 1)) (fun g d a b c d => wCost_r H hx a b c d) (by omega) g0 g1 (by omega) l2
  obtain ⟨E', h', q', R'⟩ := c_firstDistance_L H hx hh g0 g1 l0 l1 l2 (fstD (wCost w x) k g left - max 0 (left - 30 * k)).toNat fuelN (max 0 (left - 30 * k)) E (by omega) (by omega) (by omega) R ew e4 T
  have hT := T g left g0 (by omega) l0 (by omega) trivial
  rw [show (max 0 (w 1 - 1) - g).toNat = k + 1 by omega] at hT
  refine ⟨E', ?_, q', R'⟩
  have eg := w_gapCount R
  rw [ew] at eg
  simp (disch := omega) only [F_X4_firstDistance, eg, bI_s, ck_p, hT]
  rw [show left - 30 * (max 0 (w 1 - 1) - g - 1) = left - 30 * k by omega, h']
theorem leftW_lo {c : Int → Int → Int} {G : Nat} {room : Int} (hc : ∀ g d, 0 ≤ c g d) (hB : ∀ g d : Int, 0 ≤ g → g < (G : Int) → 0 ≤ d → d ≤ 30 → c g d ≤ 26000) (hG : G ≤ 13) (h0 : 0 ≤ room) (h1 : room ≤ 30 * G) :
    ∀ k : Nat, k ≤ G → room - 30 * k ≤ leftW c G room k := by
  intro k
  induction k with
  | zero => intro _; rw [leftW]; omega
  | succ k ih =>
    intro hk
    have := ih (by omega)
    have h2 := layW_r hc hB hG h0 h1 (k := k) (by omega)
    unfold layW at h2
    rw [leftW]
    omega
theorem c_distanceOf_L {w : Int → Int} (H : Wi n w) {x hairs : Int} {G : Nat} (hG : (G : Int) = max 0 (w 1 - 1)) (hx : 0 ≤ x ∧ x ≤ 2000) (hh : 0 ≤ hairs ∧ hairs ≤ 132) (hh2 : hairs ≤ 30 * G) {t : Nat} (ht : t < G) :
    ∀ (m fuel k : Nat) (y : Int) (E : mD), m < fuel → k + m = t + 1 → (k = t + 1 → y = layW (wCost w x) G hairs t) → CW n E → E 134 = w → E 26 4 = x → TabR w x hairs E (fun _ _ => True) →
    ∃ E', F_X4_distanceOf_L10 (t : Int) fuel (leftW (wCost w x) G hairs k) y (k : Int) E = some (layW (wCost w x) G hairs t, E') ∧ Qc E E' ∧ CW n E' := by
  have hr := H.ra
  have hN := fN
  have hB : ∀ g d, 0 ≤ g → g < (G : Int) → 0 ≤ d → d ≤ 30 → wCost w x g d ≤ 26000 := fun g d a b c e => wCost_r H hx a (by omega) c e
  intro m
  induction m with
  | zero =>
    intro fuel k y E hf hm hy R ew e4 T
    obtain ⟨j, rfl⟩ : ∃ j, fuel = j + 1 := ⟨fuel - 1, by omega⟩
    refine ⟨E, ?_, Qc.rf, R⟩
    simp (disch := omega) only [F_X4_distanceOf_L10, ck_p, if_pos]
    rw [hy (by omega)]
  | succ m ih =>
    intro fuel k y E hf hm hy R ew e4 T
    obtain ⟨j, rfl⟩ : ∃ j, fuel = j + 1 := ⟨fuel - 1, by omega⟩
    have hw := leftW_r (wCost_0 w x) hB (by omega) hh.1 hh2 k (by omega)
    have hl := leftW_lo (wCost_0 w x) hB (by omega) hh.1 hh2 k (by omega)
    obtain ⟨E1, h1, q1, R1⟩ := c_firstDistance hx hh (g := (k : Int)) (k := G - 1 - k) (by omega) (by omega) (left := leftW (wCost w x) G hairs k) (by omega) (by omega) (by omega) R ew e4 T
    obtain ⟨E', h', q', R'⟩ := ih j (k + 1) (layW (wCost w x) G hairs k) E1 (by omega) (by omega) (fun z => by rw [show k = t by omega]) R1 (q1.w.trans ew) (by rw [q1 26 (by omega)]; exact e4) (T.keep (q1 27 (by omega)))
    refine ⟨E', ?_, q1.tr q', R'⟩
    simp (disch := omega) only [F_X4_distanceOf_L10, ck_p, if_neg, h1, bI_s]
    rw [show (k : Int) + 1 = ((k + 1 : Nat) : Int) by omega, ← h']
    rfl
theorem c_putDistances_L {w : Int → Int} (H : Wi n w) {x hairs : Int} {G : Nat} (hG : (G : Int) = max 0 (w 1 - 1)) (hx : 0 ≤ x ∧ x ≤ 2000) (hh : 0 ≤ hairs ∧ hairs ≤ 132) (hh2 : hairs ≤ 30 * G) :
    ∀ (m fuel k : Nat) (E : mD), m < fuel → k + m = G → (∀ i : Nat, i < k → E 18 (i : Int) = layW (wCost w x) G hairs i) → CW n E → E 134 = w → E 26 4 = x → TabR w x hairs E (fun _ _ => True) →
    ∃ E', F_X4_putDistances_L7 18 fuel (leftW (wCost w x) G hairs k) (k : Int) E = some (0, E') ∧ (∀ a : Nat, a ≠ 18 → ¬ (23 ≤ a ∧ a ≤ 25) → E' a = E a) ∧ CW n E' ∧ ∀ i : Nat, i < G → E' 18 (i : Int) = layW (wCost w x) G hairs i := by
  have hr := H.ra
  have hN := fN
  have hB : ∀ g d, 0 ≤ g → g < (G : Int) → 0 ≤ d → d ≤ 30 → wCost w x g d ≤ 26000 := fun g d a b c e => wCost_r H hx a (by omega) c e
  intro m
  induction m with
  | zero =>
    intro fuel k E hf hm hl R ew e4 T
    obtain ⟨j, rfl⟩ : ∃ j, fuel = j + 1 := ⟨fuel - 1, by omega⟩
    have eg := w_gapCount R
    rw [ew] at eg
    refine ⟨E, ?_, fun _ _ _ => rfl, R, fun i hi => hl i (by omega)⟩
    simp (disch := omega) only [F_X4_putDistances_L7, eg, bI_s, ck_p, if_pos]
  | succ m ih =>
    intro fuel k E hf hm hl R ew e4 T
    obtain ⟨j, rfl⟩ : ∃ j, fuel = j + 1 := ⟨fuel - 1, by omega⟩
    have eg := w_gapCount R
    rw [ew] at eg
    have hw := leftW_r (wCost_0 w x) hB (by omega) hh.1 hh2 k (by omega)
    have hlo := leftW_lo (wCost_0 w x) hB (by omega) hh.1 hh2 k (by omega)
    obtain ⟨E1, h1, q1, R1⟩ := c_firstDistance hx hh (g := (k : Int)) (k := G - 1 - k) (by omega) (by omega) (left := leftW (wCost w x) G hairs k) (by omega) (by omega) (by omega) R ew e4 T
    obtain ⟨v, ev⟩ : ∃ v, v = fstD (wCost w x) (G - 1 - k) (k : Int) (leftW (wCost w x) G hairs k) := ⟨_, rfl⟩
    rw [← ev] at h1
    have R2 : CW n (pD E1 18 (k : Int) v) := by
      obtain ⟨b1, b2, b3, b4, b5⟩ := R1
      refine ⟨by rw [pD_ne (by decide)]; exact b1, ?_, ?_, ?_, ?_⟩
      · rw [pD_ne (show (134 : Nat) ≠ 18 by decide)]; exact b2.keep (fun a _ _ => pD_ne (by omega))
      · rw [pD_ne (show (134 : Nat) ≠ 18 by decide)]; exact b3.keep (fun a _ _ => pD_ne (by omega))
      · rw [pD_ne (show (134 : Nat) ≠ 18 by decide), pD_ne (show (17 : Nat) ≠ 18 by decide)]; exact b4
      · unfold Ca at b5 ⊢
        rw [pD_ne (show (134 : Nat) ≠ 18 by decide), pD_ne (show (25 : Nat) ≠ 18 by decide)]; exact b5
    obtain ⟨E', h', q', R', l'⟩ := ih j (k + 1) (pD E1 18 (k : Int) v) (by omega) (by omega) (fun i hi => by
      rw [pD_at]
      by_cases z : (i : Int) = (k : Int)
      · rw [if_pos z, show i = k by omega, ev]; rfl
      · rw [if_neg z, q1 18 (by omega)]; exact hl i (by omega)) R2 (by rw [pD_ne (by decide)]; exact q1.w.trans ew) (by rw [pD_ne (by decide), q1 26 (by omega)]; exact e4) (T.keep (by rw [pD_ne (by decide)]; exact q1 27 (by omega)))
    refine ⟨E', ?_, fun a a1 a2 => by rw [q' a a1 a2, pD_ne a1, q1 a a2], R', l'⟩
    simp (disch := omega) only [F_X4_putDistances_L7, eg, ck_p, if_neg, h1, bI_s, pD_eq]
    rw [show (k : Int) + 1 = ((k + 1 : Nat) : Int) by omega, ← h', leftW, ev]
end PQ6
