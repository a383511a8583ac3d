/-! DISTANCES LAID: the class's table; the first way, both -/
section PQ5
variable {n : Int} {D E : mD}
def Ke (n : Int) (D E : mD) : Prop := Qd D E ∧ CR n E
theorem Ke.rf (R : CR n D) : Ke n D D := ⟨Qd.rf, R⟩
theorem Ke.w (K : Ke n D E) : E 134 = D 134 := K.1.w
theorem Ke.ca (K : Ke n D E) : CA (D 134) E := by have := K.2.ca; rw [K.w] at this; exact this
theorem Ke.wi (K : Ke n D E) : Wi n (D 134) := by have := K.2.wi; rw [K.w] at this; exact this
theorem Kq.ke (K : Kq n D E) : Ke n D E := ⟨K.1.qd, K.2⟩
theorem Ke.put (K : Ke n D E) {a : Nat} {i v : Int} (h : (23 ≤ a ∧ a ≤ 30) ∨ (109 ≤ a ∧ a ≤ 113)) (h25 : a ≠ 25) : Ke n D (pD E a i v) :=
  ⟨K.1.tr (Qd.put h), K.2.god25 (Qd.put h) (pD_ne (Ne.symm h25))⟩
theorem Ke.tr {E' : mD} (K : Ke n D E) (k : Kq n E E') : Ke n D E' := ⟨K.1.tr k.1.qd, k.2⟩
theorem d_gapCount (K : Ke n D E) : F_X6_gapCount 3 E = some (max 0 (D 134 1 - 1), E) := by rw [c_gapCount K.2, K.w]
theorem d_freeHairs (K : Ke n D E) (more : Int) : F_X0_freeHairs more E = some (wRoom (D 134) more, E) := by rw [c_freeHairs K.2, K.w]
theorem d_whiteOf (K : Ke n D E) {g d : Int} (hg : 0 ≤ g ∧ g + 1 < D 134 1) (hd : 0 ≤ d ∧ d ≤ 30) : ∃ E', F_X0_whiteOf g d E = some (wWhite (D 134) g d, E') ∧ Ke n D E' ∧ Qc E E' := by
  obtain ⟨E', h, q, R⟩ := c_whiteCR K.2 (g := g) (d := d) (by rw [K.w]; exact hg) hd
  rw [K.w] at h
  exact ⟨E', h, ⟨K.1.tr q.qd, R⟩, q⟩
def TabR (w : Int → Int) (x hairs : Int) (E : mD) (P : Int → Int → Prop) : Prop := ∀ g left, 0 ≤ g → g ≤ max 0 (w 1 - 1) → max 0 (hairs - 30 * g) ≤ left → left ≤ min hairs (30 * (max 0 (w 1 - 1) - g)) → P g left → E 27 (g * 133 + left) = VF (wCost w x) (max 0 (w 1 - 1) - g).toNat g left
theorem TabR.keep {w : Int → Int} {x hairs : Int} {P : Int → Int → Prop} {E' : mD} (h : TabR w x hairs E P) (e : E' 27 = E 27) : TabR w x hairs E' P := by
  unfold TabR at h ⊢
  rw [e]
  exact h
theorem c_fill_d {c : Int → Int → Int} {G g x4 given hi : Int} {K67 : Int → mD → RI} {V : Int → Int} (hg : 0 ≤ g ∧ g ≤ 12) (hgi : 0 ≤ given ∧ given ≤ 132) (hhi : hi ≤ 30 ∧ hi ≤ given) {lo : Int} (hlo : 0 ≤ lo)
    (hV : ∀ d, lo ≤ d → d ≤ hi → 0 ≤ V d ∧ V d ≤ 1000000 ∧ E 27 ((g + 1) * 133 + given - d) = V d) (hc : ∀ d, 0 ≤ d → d ≤ 30 → E 28 d = c g d ∧ 0 ≤ c g d ∧ c g d ≤ 26000) :
    ∀ (m fuel : Nat) (d best : Int), m < fuel → lo ≤ d → d + m = hi + 1 → 0 ≤ best → best ≤ 1000000000 →
    F_X4_fillFrom_L109 K67 g G x4 given ((g + 1) * 133 + given) hi fuel best d E = K67 (given + 1) (pD E 27 (g * 133 + given) (minF (fun d => V d + c g d) best d m)) := by
  intro m
  induction m with
  | zero =>
    intro fuel d best hf hd hm b0 b1
    obtain ⟨j, rfl⟩ : ∃ j, fuel = j + 1 := ⟨fuel - 1, by omega⟩
    simp (disch := omega) only [F_X4_fillFrom_L109, ck_p, if_pos, minF]
  | succ m ih =>
    intro fuel d best hf hd hm b0 b1
    obtain ⟨j, rfl⟩ : ∃ j, fuel = j + 1 := ⟨fuel - 1, by omega⟩
    obtain ⟨v0, v1, e1⟩ := hV d hd (by omega)
    obtain ⟨e2, c0, c1⟩ := hc d (by omega) (by omega)
    have e3 : (if best ≤ V d + c g d then best else V d + c g d) = min best (V d + c g d) := by
      by_cases q : best ≤ V d + c g d
      · rw [if_pos q, Int.min_eq_left q]
      · rw [if_neg q, Int.min_eq_right (by omega)]
    simp (disch := omega) only [F_X4_fillFrom_L109, ck_p, if_neg, e1, e2, minF]
    rw [e3, ih j (d + 1) _ (by omega) (by omega) (by omega) (by omega) (by omega)]
theorem c_fill_r (H : Wi n (D 134)) {x hairs g : Int} (hx : 0 ≤ x ∧ x ≤ 2000) (hh : 0 ≤ hairs ∧ hairs ≤ 132) (hh2 : hairs ≤ 30 * max 0 (D 134 1 - 1)) (g0 : 0 ≤ g) (g1 : g < max 0 (D 134 1 - 1)) :
    ∀ (m fuel : Nat) (given : Int) (E : mD), m < fuel → max 0 (hairs - 30 * g) ≤ given → given + m = min hairs (30 * (max 0 (D 134 1 - 1) - g - 1) + 30) + 1 → Ke n D E → (∀ d, 0 ≤ d → d ≤ 30 → E 28 d = wCost (D 134) x g d) → TabR (D 134) x hairs E (fun g' left' => g < g' ∨ (g' = g ∧ left' < given)) →
    ∃ E', F_X4_fillFrom_L67 g (30 * (max 0 (D 134 1 - 1) - g - 1)) (min hairs (30 * (max 0 (D 134 1 - 1) - g - 1) + 30)) fuel given E = some (0, E') ∧ Ke n D E' ∧ E' 26 = E 26 ∧ TabR (D 134) x hairs E' (fun g' _ => g - 1 < g') := by
  have hr := H.ra
  have hN := fN
  intro m
  induction m with
  | zero =>
    intro fuel given E hf hd hm K hc T
    obtain ⟨j, rfl⟩ : ∃ j, fuel = j + 1 := ⟨fuel - 1, by omega⟩
    exact ⟨E, by simp (disch := omega) only [F_X4_fillFrom_L67, ck_p, if_pos], K, rfl, fun g' left' a b c d e => T g' left' a b c d (by omega)⟩
  | succ m ih =>
    intro fuel given E hf hd hm K hc T
    obtain ⟨j, rfl⟩ : ∃ j, fuel = j + 1 := ⟨fuel - 1, by omega⟩
    obtain ⟨k, ek⟩ : ∃ k : Nat, (k : Int) = max 0 (D 134 1 - 1) - g - 1 := ⟨(max 0 (D 134 1 - 1) - g - 1).toNat, by omega⟩
    have h1 := c_fill_d (E := E) (c := wCost (D 134) x) (G := 30 * (max 0 (D 134 1 - 1) - g - 1)) (g := g) (x4 := min hairs (30 * (max 0 (D 134 1 - 1) - g - 1) + 30)) (given := given) (hi := min 30 given) (K67 := F_X4_fillFrom_L67 g (30 * (max 0 (D 134 1 - 1) - g - 1)) (min hairs (30 * (max 0 (D 134 1 - 1) - g - 1) + 30)) j) (V := fun d => VF (wCost (D 134) x) k (g + 1) (given - d)) (by omega) (by omega) (by omega) (lo := max 0 (given - 30 * k)) (by omega)
      (fun d d0 d1 => by
        have a := VF_0 (wCost_0 (D 134) x) k (g + 1) (given - d)
        refine ⟨a.1, a.2, ?_⟩
        have := T (g + 1) (given - d) (by omega) (by omega) (by omega) (by omega) (Or.inl (by omega))
        rw [show (max 0 (D 134 1 - 1) - (g + 1)).toNat = k by omega] at this
        rw [← this]
        congr 1
        omega)
      (fun d d0 d1 => ⟨hc d d0 d1, wCost_0 _ _ _ _, wCost_r H hx g0 g1 d0 d1⟩)
      (min 30 given + 1 - max 0 (given - 30 * k)).toNat fuelN (max 0 (given - 30 * k)) 1000000000 (by omega) (by omega) (by omega) (by omega) (by omega)
    have h2 := VF_cls (c := wCost (D 134) x) (G := max 0 (D 134 1 - 1)) (wCost_0 _ _) (fun g d a b c d => wCost_r H hx a b c d) (by omega) (m := k) (g := g) (left := given) g0 (by omega) (by omega) (by omega)
    rw [h2] at h1
    obtain ⟨E', h', K', e26, T'⟩ := ih j (given + 1) (pD E 27 (g * 133 + given) (VF (wCost (D 134) x) (k + 1) g given)) (by omega) (by omega) (by omega) (K.put (by omega) (by decide)) (fun d d0 d1 => by rw [pD_ne (by decide)]; exact hc d d0 d1) (by
      intro g' left' a b c d e
      rw [pD_at]
      by_cases z : g' * 133 + left' = g * 133 + given
      · rw [if_pos z, show g' = g by omega, show left' = given by omega, show (max 0 (D 134 1 - 1) - g).toNat = k + 1 by omega]
      · rw [if_neg z]
        exact T g' left' a b c d (by omega))
    refine ⟨E', ?_, K', by rw [e26, pD_ne (by decide)], T'⟩
    simp (disch := omega) only [F_X4_fillFrom_L67, ck_p, if_neg]
    rw [show max 0 (given - 30 * (max 0 (D 134 1 - 1) - g - 1)) = max 0 (given - 30 * k) by omega, h1, h']
theorem c_fill (H : Wi n (D 134)) {x hairs g : Int} (hx : 0 ≤ x ∧ x ≤ 2000) (hh : 0 ≤ hairs ∧ hairs ≤ 132) (hh2 : hairs ≤ 30 * max 0 (D 134 1 - 1)) (g0 : 0 ≤ g) (g1 : g < max 0 (D 134 1 - 1)) :
    ∀ (m fuel : Nat) (d : Int) (E : mD), m < fuel → 0 ≤ d → d + m = 31 → Ke n D E → E 26 4 = x → E 26 5 = hairs → (∀ d', 0 ≤ d' → d' < d → E 28 d' = wCost (D 134) x g d') → TabR (D 134) x hairs E (fun g' _ => g < g') →
    ∃ E', F_X4_fillFrom_L2 g (30 * (max 0 (D 134 1 - 1) - g - 1)) fuel d E = some (0, E') ∧ Ke n D E' ∧ E' 26 = E 26 ∧ TabR (D 134) x hairs E' (fun g' _ => g - 1 < g') := by
  have hr := H.ra
  have hN := fN
  intro m
  induction m with
  | zero =>
    intro fuel d E hf hd hm K e4 e5 hc T
    obtain ⟨j, rfl⟩ : ∃ j, fuel = j + 1 := ⟨fuel - 1, by omega⟩
    obtain ⟨E', h', K', e26, T'⟩ := c_fill_r H hx hh hh2 g0 g1 (min hairs (30 * (max 0 (D 134 1 - 1) - g - 1) + 30) + 1 - max 0 (hairs - 30 * g)).toNat fuelN (max 0 (hairs - 30 * g)) E (by omega) (by omega) (by omega) K (fun d' a b => hc d' a (by omega)) (fun g' left' a b c d e => T g' left' a b c d (by omega))
    refine ⟨E', ?_, K', e26, T'⟩
    simp (disch := omega) only [F_X4_fillFrom_L2, ck_p, if_pos, e5]
    exact h'
  | succ m ih =>
    intro fuel d E hf hd hm K e4 e5 hc T
    obtain ⟨j, rfl⟩ : ∃ j, fuel = j + 1 := ⟨fuel - 1, by omega⟩
    have hw := wWhite_r H (g := g) (d := d) (by omega) (by omega)
    obtain ⟨E1, h1, K1, q1⟩ := d_whiteOf K (g := g) (d := d) (by omega) (by omega)
    have f4 : E1 26 4 = x := by rw [q1 26 (by omega)]; exact e4
    have f5 : E1 26 5 = hairs := by rw [q1 26 (by omega)]; exact e5
    obtain ⟨E', h', K', e26, T'⟩ := ih j (d + 1) (pD E1 28 d (wCost (D 134) x g d)) (by omega) (by omega) (by omega) (K1.put (by omega) (by decide)) (by rw [pD_ne (by decide)]; exact f4) (by rw [pD_ne (by decide)]; exact f5) (fun d' a b => by
      rw [pD_at]
      by_cases z : d' = d
      · rw [if_pos z, z]
      · rw [if_neg z, q1 28 (by omega)]
        exact hc d' a (by omega)) (T.keep (by rw [pD_ne (by decide), q1 27 (by omega)]))
    refine ⟨E', ?_, K', by rw [e26, pD_ne (by decide), q1 26 (by omega)], T'⟩
    simp (disch := omega) only [F_X4_fillFrom_L2, ck_p, if_neg, h1, bI_s, f4]
    exact h'
theorem c_leastOff_L (H : Wi n (D 134)) {x hairs : Int} (hx : 0 ≤ x ∧ x ≤ 2000) (hh : 0 ≤ hairs ∧ hairs ≤ 132) (hh2 : hairs ≤ 30 * max 0 (D 134 1 - 1)) :
    ∀ (m fuel : Nat) (E : mD), m < fuel → (m : Int) ≤ max 0 (D 134 1 - 1) → Ke n D E → E 26 4 = x → E 26 5 = hairs → TabR (D 134) x hairs E (fun g' _ => (m : Int) - 1 < g') →
    ∃ E', F_X4_leastOff_L81 (max 0 (D 134 1 - 1)) fuel ((m : Int) - 1) E = some (VF (wCost (D 134) x) (max 0 (D 134 1 - 1)).toNat 0 hairs, E') ∧ Ke n D E' ∧ E' 26 = E 26 ∧ TabR (D 134) x hairs E' (fun _ _ => True) := by
  have hr := H.ra
  have hN := fN
  intro m
  induction m with
  | zero =>
    intro fuel E hf hm K e4 e5 T
    obtain ⟨j, rfl⟩ : ∃ j, fuel = j + 1 := ⟨fuel - 1, by omega⟩
    have e := T 0 hairs (by omega) (by omega) (by omega) (by omega) (by omega)
    rw [Int.sub_zero, show (0 : Int) * 133 + hairs = hairs by omega] at e
    exact ⟨E, by simp (disch := omega) only [F_X4_leastOff_L81, ck_p, if_pos, e5, e], K, rfl, fun g' left' a b c d e => T g' left' a b c d (by omega)⟩
  | succ m ih =>
    intro fuel E hf hm K e4 e5 T
    obtain ⟨j, rfl⟩ : ∃ j, fuel = j + 1 := ⟨fuel - 1, by omega⟩
    obtain ⟨E1, h1, K1, f1, T1⟩ := c_fill H hx hh hh2 (g := (m : Int)) (by omega) (by omega) 31 fuelN 0 E (by omega) (by omega) (by omega) K e4 e5 (fun d' a b => by omega) (fun g' left' a b c d e => T g' left' a b c d (by omega))
    obtain ⟨E', h', K', e26, T'⟩ := ih j E1 (by omega) (by omega) K1 (by rw [f1]; exact e4) (by rw [f1]; exact e5) T1
    refine ⟨E', ?_, K', by rw [e26, f1], T'⟩
    rw [show ((m + 1 : Nat) : Int) - 1 = m by omega]
    simp (disch := omega) only [F_X4_leastOff_L81, ck_p, if_neg, F_X4_fillFrom]
    rw [h1, bI_s, h']
theorem c_leastOff (K : Ke n D E) {x more : Int} (hx : 0 ≤ x ∧ x ≤ 2000) (hm : 0 ≤ more ∧ more ≤ 12) :
    ∃ E', F_X4_leastOff x more E = some (if wOff (D 134) x more = 1000000 then -1 else wOff (D 134) x more, E') ∧ Ke n D E' ∧ (wCan (D 134) more → E' 26 4 = x ∧ E' 26 5 = wRoom (D 134) more ∧ TabR (D 134) x (wRoom (D 134) more) E' (fun _ _ => True)) := by
  have H := K.wi
  have hr := H.ra
  have hN := fN
  have hrm := wRoom_r H hm
  have K1 : Ke n D (pD E 26 4 x) := K.put (by omega) (by decide)
  have K2 : Ke n D (pD (pD E 26 4 x) 26 5 (wRoom (D 134) more)) := K1.put (by omega) (by decide)
  have hc := K2.ca
  obtain ⟨E2, e2⟩ : ∃ E2, E2 = pD (pD E 26 4 x) 26 5 (wRoom (D 134) more) := ⟨_, rfl⟩
  have f5 : E2 26 5 = wRoom (D 134) more := by rw [e2, pD_eq]
  have f4 : E2 26 4 = x := by rw [e2, pD_nj (by decide), pD_eq]
  rw [← e2] at K2 hc
  by_cases z : wCan (D 134) more
  · have hv := wOff_can H hx z
    have z' := z
    unfold wCan at z'
    obtain ⟨E', h', K', e26, T'⟩ := c_leastOff_L H hx (hairs := wRoom (D 134) more) (by omega) (by omega) (max 0 (D 134 1 - 1)).toNat fuelN (pD E2 27 (max 0 (D 134 1 - 1) * 133) 0) (by omega) (by omega) (K2.put (by omega) (by decide)) (by rw [pD_ne (by decide)]; exact f4) (by rw [pD_ne (by decide)]; exact f5) (by
      intro g' left' a b c d e
      rw [pD_at, if_pos (by omega), show (max 0 (D 134 1 - 1) - g').toNat = 0 by omega, VF, if_pos (by omega)])
    rw [show (((max 0 (D 134 1 - 1)).toNat : Nat) : Int) = max 0 (D 134 1 - 1) by omega] at h'
    refine ⟨E', ?_, K', fun _ => ⟨by rw [e26, pD_ne (by decide)]; exact f4, by rw [e26, pD_ne (by decide)]; exact f5, T'⟩⟩
    simp (disch := omega) only [F_X4_leastOff, d_gapCount K, d_freeHairs K1, bI_s, ← e2, ck_p, if_neg, if_pos, f5]
    rw [h', ← hv.1]
  · have hv := wOff_cannot (x := x) z
    unfold wCan at z
    refine ⟨E2, ?_, K2, fun h => absurd h z⟩
    rw [if_pos hv]
    simp only [F_X4_leastOff, d_gapCount K, d_freeHairs K1, bI_s, ← e2]
    by_cases z1 : D 134 1 = 0
    · simp (disch := omega) only [ck_p, if_pos]
    · by_cases z2 : wRoom (D 134) more < 0
      · simp (disch := omega) only [ck_p, if_pos, if_neg, f5]
      · simp (disch := omega) only [ck_p, if_pos, if_neg, f5]
end PQ5
