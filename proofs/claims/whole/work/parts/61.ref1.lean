/-! THE REFERENCE: single numbers, checks of arguments -/
section PR0
variable {n : Int} {D : mD}
/-- a truth as a number -/
def b01 (p : Prop) [Decidable p] : Int := if p then 1 else 0
theorem b01_t {p : Prop} [Decidable p] (h : p) : b01 p = 1 := if_pos h
theorem b01_f {p : Prop} [Decidable p] (h : ¬ p) : b01 p = 0 := if_neg h
theorem b01_01 (p : Prop) [Decidable p] : b01 p = 0 ∨ b01 p = 1 := by
  by_cases h : p
  · exact Or.inr (b01_t h)
  · exact Or.inl (b01_f h)
theorem b01_nR (p : Prop) [Decidable p] : nR (b01 p) := by
  rcases b01_01 p with h | h <;> rw [h] <;> decide
theorem b01_0 {p : Prop} [Decidable p] : b01 p = 0 ↔ ¬ p := by
  by_cases h : p
  · rw [b01_t h]; simp [h]
  · rw [b01_f h]; simp [h]
theorem b01_1 {p : Prop} [Decidable p] : b01 p = 1 ↔ p := by
  by_cases h : p
  · rw [b01_t h]; simp [h]
  · rw [b01_f h]; simp [h]
theorem b01_congr {p q : Prop} [Decidable p] [Decidable q] (h : p ↔ q) : b01 p = b01 q := by
  by_cases hp : p
  · rw [b01_t hp, b01_t (h.mp hp)]
  · rw [b01_f hp, b01_f (fun z => hp (h.mpr z))]
theorem e_in {x lo hi : Int} (h : nR x) (h1 : nR lo) (h2 : nR hi) : F_X12_in x lo hi D = some (b01 (lo ≤ x ∧ x ≤ hi), D) := by
  unfold F_X12_in
  by_cases q : x < lo
  · rw [ck_p h, ck_p h1, ck_p (fun z => h2), if_pos q, ck_p (Or.inl rfl), b01_f (by omega)]
  · by_cases q2 : hi < x
    · rw [ck_p h, ck_p h1, ck_p (fun z => h2), if_neg q, if_pos q2, ck_p (Or.inl rfl), b01_f (by omega)]
    · rw [ck_p h, ck_p h1, ck_p (fun z => h2), if_neg q, if_neg q2, ck_p (Or.inr rfl), b01_t (by omega)]
theorem e_not {p : Prop} [Decidable p] {v : Int} (h : v = b01 p) {α : Type} {f : Int → Option α} : (ck (nR v) <| ck ((if v = 0 then (1 : Int) else (0 : Int)) = 0 ∨ (if v = 0 then (1 : Int) else (0 : Int)) = 1) <| f (if v = 0 then (1 : Int) else (0 : Int))) = f (b01 (¬ p)) := by
  subst h
  rw [ck_p (b01_nR p)]
  by_cases hp : p
  · rw [b01_t hp, if_neg (by decide), ck_p (Or.inl rfl), b01_f (by simpa using hp)]
  · rw [b01_f hp, if_pos rfl, ck_p (Or.inr rfl), b01_t hp]
theorem e_throwsIf {p : Prop} [Decidable p] {c : Int} : F_X12_throwsIf (b01 p) c D = some (b01 p, if p then pD D 133 0 c else D) := by
  unfold F_X12_throwsIf
  rw [ck_p (b01_nR p)]
  by_cases hp : p
  · rw [b01_t hp, if_neg (by decide), if_pos hp, ck_p (Or.inr rfl)]
  · rw [b01_f hp, if_pos rfl, if_neg hp, ck_p (Or.inl rfl)]
theorem e_gaps (H : Wr n (D 134)) : F_X12_gaps D = some (max 0 (D 134 1 - 1), D) := by
  unfold Wr at H
  unfold F_X12_gaps F_X12_letters
  rw [bI_s, ck_p (by omega)]
theorem e_of {l k : Int} (h0 : 0 ≤ 159 + 4 * l + k) (h1 : 159 + 4 * l + k < 2173) : F_X12_of l k D = some (wL (D 134) l k, D) := by
  unfold F_X12_of
  rw [ck_p ⟨h0, h1⟩]
  rfl
theorem e_ofSign {s k : Int} (h0 : 0 ≤ 15 + 12 * s + k) (h1 : 15 + 12 * s + k < 2173) : F_X12_ofSign s k D = some (wS (D 134) s k, D) := by
  unfold F_X12_ofSign
  rw [ck_p ⟨h0, h1⟩]
  rfl
/-- of a letter's sign -/
def wI (w : Int → Int) (l k : Int) : Int := wS w (wL w l 0) k
theorem e_its (H : Wi n (D 134)) {l k : Int} (h0 : 0 ≤ l) (h1 : l < D 134 1) (hk : 0 ≤ k) (hk2 : k < 12) : F_X12_its l k D = some (wI (D 134) l k, D) := by
  have hr := H.r
  unfold Wr at hr
  have hl := H.lt h0 h1
  unfold LtOk at hl
  unfold F_X12_its
  rw [e_of (by omega) (by omega), bI_s, e_ofSign (by omega) (by omega), bI_s]
  rfl
def wWid (w : Int → Int) (l : Int) : Int := wI w l 1 - wL w l 1
theorem wWid_r {w : Int → Int} (H : Wi n w) {l : Int} (h0 : 0 ≤ l) (h1 : l < w 1) : 1 ≤ wWid w l ∧ wWid w l ≤ 12 := by
  have hl := H.lt h0 h1
  unfold LtOk at hl
  have hs := H.sg (s := wL w l 0) (by omega) (by omega)
  unfold SgOk at hs
  unfold wWid wI
  omega
theorem e_widthOf (H : Wi n (D 134)) {l : Int} (h0 : 0 ≤ l) (h1 : l < D 134 1) : F_X12_widthOf l D = some (wWid (D 134) l, D) := by
  have hr := H.r
  unfold Wr at hr
  have hw := wWid_r H h0 h1
  unfold wWid at hw ⊢
  unfold F_X12_widthOf
  rw [e_its H h0 h1 (by omega) (by omega), bI_s, e_of (by omega) (by omega), bI_s, ck_p (by omega), Int.max_eq_right (by omega)]
theorem e_distance {l : Int} (h0 : 0 ≤ l) (h1 : l < 14) : F_X12_distance l D = some (wL (D 134) l 3, D) := by
  unfold F_X12_distance
  rw [e_of (by omega) (by omega), bI_s]
theorem e_isPainted (H : Wi n (D 134)) (hn : n ≤ 2147483647) {l : Int} (h0 : 0 ≤ l) (h1 : l < D 134 1) : F_X12_isPainted l D = some (b01 (0 ≤ wL (D 134) l 2), D) := by
  have hr := H.r
  unfold Wr at hr
  have hl := H.lt h0 h1
  unfold LtOk at hl
  unfold F_X12_isPainted
  rw [e_of (by omega) (by omega), bI_s, ck_p (by omega)]
  by_cases q : wL (D 134) l 2 < 0
  · rw [if_pos q, ck_p (Or.inl rfl), b01_f (by omega)]
  · rw [if_neg q, ck_p (Or.inr rfl), b01_t (by omega)]
theorem e_noSign (H : Wr n (D 134)) {x : Int} (hx : nR x) : F_X12_noSign x D = some (b01 (¬ (0 ≤ x ∧ x ≤ D 134 0 - 1)), D) := by
  unfold Wr at H
  unfold F_X12_noSign F_X12_signs
  rw [bI_s, e_in hx (by decide) (by omega), bI_s]
  exact e_not (f := fun v => some (v, D)) rfl
theorem e_noLetter (H : Wr n (D 134)) {x : Int} (hx : nR x) : F_X12_noLetter x D = some (b01 (¬ (0 ≤ x ∧ x ≤ D 134 1 - 1)), D) := by
  unfold Wr at H
  unfold F_X12_noLetter F_X12_letters
  rw [bI_s, e_in hx (by decide) (by omega), bI_s]
  exact e_not (f := fun v => some (v, D)) rfl
theorem e_noGap (H : Wr n (D 134)) {x : Int} (hx : nR x) : F_X12_noGap x D = some (b01 (¬ (0 ≤ x ∧ x ≤ max 0 (D 134 1 - 1) - 1)), D) := by
  have H2 := H
  unfold Wr at H
  unfold F_X12_noGap
  rw [e_gaps H2, bI_s, e_in hx (by decide) (by omega), bI_s]
  exact e_not (f := fun v => some (v, D)) rfl
theorem e_noWriter (H : Wr n (D 134)) {x : Int} (hx : nR x) : F_X12_noWriter x D = some (b01 (¬ (0 ≤ x ∧ x ≤ D 134 7 - 1)), D) := by
  unfold Wr at H
  unfold F_X12_noWriter F_X12_writers
  rw [bI_s, e_in hx (by decide) (by omega), bI_s]
  exact e_not (f := fun v => some (v, D)) rfl
theorem e_noWhite {x : Int} (hx : nR x) : F_X12_noWhite x D = some (b01 (¬ (0 ≤ x ∧ x ≤ 2000)), D) := by
  unfold F_X12_noWhite
  rw [e_in hx (by decide) (by decide), bI_s]
  exact e_not (f := fun v => some (v, D)) rfl
theorem e_noLight {x y : Int} (hx : nR x) (hy : nR y) : F_X12_noLight x y D = some (b01 (¬ (1 ≤ x ∧ x ≤ 60) ∨ ¬ (0 ≤ y ∧ y ≤ 9)), D) := by
  unfold F_X12_noLight
  rw [e_in hx (by decide) (by decide), bI_s, ck_p (b01_nR _)]
  by_cases q : 1 ≤ x ∧ x ≤ 60
  · rw [b01_t q, if_neg (by decide), e_in hy (by decide) (by decide), bI_s]
    rw [show b01 (¬ (1 ≤ x ∧ x ≤ 60) ∨ ¬ (0 ≤ y ∧ y ≤ 9)) = b01 (¬ (0 ≤ y ∧ y ≤ 9)) from b01_congr (by omega)]
    exact e_not (f := fun v => some (v, D)) rfl
  · rw [b01_f q, if_pos rfl, b01_t (Or.inl q)]
end PR0
