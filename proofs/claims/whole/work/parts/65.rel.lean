/-! HOW THE CLASS'S CELLS STAND for the world -/
section PC0
/-- the number whose bits say of which of the first m it holds -/
def bitN (p : Nat → Bool) : Nat → Nat
  | 0 => 0
  | m + 1 => bitN p m + (if p m then 2 ^ m else 0)
theorem bitN_lt (p : Nat → Bool) : ∀ m, bitN p m < 2 ^ m := by
  intro m
  induction m with
  | zero => simp [bitN]
  | succ m ih =>
    rw [bitN, Nat.pow_succ]
    split <;> omega
theorem bitN_test (p : Nat → Bool) : ∀ m j, (bitN p m).testBit j = (decide (j < m) && p j) := by
  intro m
  induction m with
  | zero => intro j; simp [bitN]
  | succ m ih =>
    intro j
    rw [bitN]
    have hl := bitN_lt p m
    by_cases hp : p m = true
    · rw [if_pos hp, Nat.add_comm]
      by_cases hj : j < m
      · rw [Nat.testBit_two_pow_add_gt hj, ih j]
        simp [hj, Nat.lt_succ_of_lt hj]
      · by_cases e : j = m
        · subst e
          rw [Nat.testBit_two_pow_add_eq, Nat.testBit_lt_two_pow hl]
          simp [hp]
        · have h2 : 2 ^ m + bitN p m < 2 ^ j := Nat.lt_of_lt_of_le (show 2 ^ m + bitN p m < 2 ^ (m + 1) by rw [Nat.pow_succ]; omega) (Nat.pow_le_pow_right (by decide) (by omega))
          rw [Nat.testBit_lt_two_pow h2]
          simp [show ¬ j < m + 1 by omega]
    · rw [if_neg hp, Nat.add_zero, ih j]
      by_cases e : j = m
      · subst e; simp [hp]
      · by_cases hj : j < m
        · simp [hj, Nat.lt_succ_of_lt hj]
        · simp [hj, show ¬ j < m + 1 by omega]
def wPainted (w : Int → Int) : Int := (bitN (fun l => decide (0 ≤ wL w (l : Int) 2)) (w 1).toNat : Int)
def ShopR (t : Nat) (w : Int → Int) (D : mD) : Prop :=
  D t 0 = w 0 ∧ D t 5 = w 1 ∧ D t 7 = w 2 ∧ D t 8 = w 3 ∧ D t 9 = w 4 ∧ D t 10 = w 6 ∧ D t 11 = w 7 ∧ D t 14 = w 8 ∧ D t 16 = w 9 ∧
  (∀ s, 0 ≤ s → s < w 0 → D (t + 1) s = wS w s 0 ∧ D (t + 2) s = wS w s 1 ∧ ∀ r, 0 ≤ r → r < 5 → D (t + 3) (s * 5 + r) = wS w s (2 + r) ∧ D (t + 4) (s * 5 + r) = wS w s (7 + r)) ∧
  (∀ l, 0 ≤ l → l < w 1 → D (t + 5) l = wL w l 0) ∧
  (∀ j, 0 ≤ j → j < w 7 → D (t + 6) j = w (215 + 2 * j) ∧ D (t + 7) j = w (215 + 2 * j + 1)) ∧
  (∀ j, 0 ≤ j → j < w 8 → D (t + 8) j = w (227 + j))
/-- a step of the law as the class writes it -/
def cItem (s n : Int) : Int := if s ≤ 5 then 1000 + s else if s = 6 then 1005 + n else if s = 7 then n else if s = 8 then 1009 else if s = 9 then 1010 else if s = 10 then 1011 else if s = 12 then 1012 else if s = 13 then 1013 else 1014
def LawR (t : Nat) (w : Int → Int) (D : mD) : Prop :=
  D t 0 = (if w 10 = 1 then w 475 else -1) ∧
  (w 10 = 1 → ∀ k, 0 ≤ k → k < w 475 → D (t + 1) k = w (476 + 4 * k) ∧ D (t + 2) k = w (476 + 4 * k + 1) ∧ D (t + 3) k = w (476 + 4 * k + 3) ∧
    ∀ i, w (476 + 4 * k + 2) ≤ i → i < w (476 + 4 * k + 3) → D (t + 4) i = cItem (w (524 + 2 * i)) (w (524 + 2 * i + 1)))
def WorkR (t : Nat) (w : Int → Int) (D : mD) : Prop :=
  D t 3 = wPainted w ∧ D t 4 = w 12 ∧ D t 5 = w 5 ∧ D t 6 = w 14 ∧ D t 7 = w 11 ∧ D t 9 = w 13 ∧ (0 ≤ D t 10 ∧ D t 10 < 60) ∧
  (∀ g, 0 ≤ g → g + 1 < w 1 → D (t + 1) g = wL w g 3) ∧
  (∀ l, 0 ≤ l → l < w 1 → D (t + 2) l = wL w l 1 ∧ D (t + 3) l = wL w l 2) ∧
  (∀ a k, 0 ≤ a → a < w 13 → 0 ≤ k → k < 4 → D (t + 4) ((D t 10 - 1 - a) % 60 * 4 + k) = w (235 + 4 * a + k))
/-- whites that are kept are right -/
def Ca (D : mD) : Prop := ∀ g d, 0 ≤ g → g + 1 < D 134 1 → 0 ≤ d → d ≤ 30 → D 25 (g * 31 + d) = -1 ∨ D 25 (g * 31 + d) = wWhite (D 134) g d
def CR (n : Int) (D : mD) : Prop := Wi n (D 134) ∧ ShopR 3 (D 134) D ∧ LawR 12 (D 134) D ∧ WorkR 17 (D 134) D ∧ Ca D
/-- what a white's reckoning may change in the class -/
def Qc (D D' : mD) : Prop := ∀ a : Nat, ¬ (23 ≤ a ∧ a ≤ 25) → D' a = D a
/-- what a question to the class may change -/
def Qd (D D' : mD) : Prop := ∀ a : Nat, ¬ (23 ≤ a ∧ a ≤ 30) → ¬ (109 ≤ a ∧ a ≤ 113) → D' a = D a
variable {n : Int} {D D' D2 : mD}
theorem Qc.rf : Qc D D := fun _ _ => rfl
theorem Qc.tr (h : Qc D D') (k : Qc D' D2) : Qc D D2 := fun a h1 => (k a h1).trans (h a h1)
theorem Qc.w (h : Qc D D') : D' 134 = D 134 := h 134 (by decide)
theorem Qc.put {a : Nat} {i v : Int} (h : 23 ≤ a ∧ a ≤ 25) : Qc D (pD D a i v) := fun b h1 => pD_ne (by omega)
theorem Qc.puts {a : Nat} {f : Int → Int} (h : 23 ≤ a ∧ a ≤ 25) : Qc D (sA D a f) := fun b h1 => sA_ne (by omega)
theorem Qc.qd (h : Qc D D') : Qd D D' := fun a h1 _ => h a (by omega)
theorem Qd.rf : Qd D D := fun _ _ _ => rfl
theorem Qd.tr (h : Qd D D') (k : Qd D' D2) : Qd D D2 := fun a h1 h2 => (k a h1 h2).trans (h a h1 h2)
theorem Qd.w (h : Qd D D') : D' 134 = D 134 := h 134 (by decide) (by decide)
theorem Qd.put {a : Nat} {i v : Int} (h : (23 ≤ a ∧ a ≤ 30) ∨ (109 ≤ a ∧ a ≤ 113)) : Qd D (pD D a i v) := fun b h1 h2 => pD_ne (by omega)
theorem Qd.puts {a : Nat} {f : Int → Int} (h : (23 ≤ a ∧ a ≤ 30) ∨ (109 ≤ a ∧ a ≤ 113)) : Qd D (sA D a f) := fun b h1 h2 => sA_ne (by omega)
theorem ShopR.keep {t : Nat} {w : Int → Int} (h : ShopR t w D) (k : ∀ a : Nat, t ≤ a → a ≤ t + 8 → D' a = D a) : ShopR t w D' := by
  unfold ShopR at h ⊢
  rw [k t (by omega) (by omega), k (t + 1) (by omega) (by omega), k (t + 2) (by omega) (by omega), k (t + 3) (by omega) (by omega), k (t + 4) (by omega) (by omega), k (t + 5) (by omega) (by omega), k (t + 6) (by omega) (by omega), k (t + 7) (by omega) (by omega), k (t + 8) (by omega) (by omega)]
  exact h
theorem LawR.keep {t : Nat} {w : Int → Int} (h : LawR t w D) (k : ∀ a : Nat, t ≤ a → a ≤ t + 4 → D' a = D a) : LawR t w D' := by
  unfold LawR at h ⊢
  rw [k t (by omega) (by omega), k (t + 1) (by omega) (by omega), k (t + 2) (by omega) (by omega), k (t + 3) (by omega) (by omega), k (t + 4) (by omega) (by omega)]
  exact h
theorem WorkR.keep {t : Nat} {w : Int → Int} (h : WorkR t w D) (k : ∀ a : Nat, t ≤ a → a ≤ t + 4 → D' a = D a) : WorkR t w D' := by
  unfold WorkR at h ⊢
  rw [k t (by omega) (by omega), k (t + 1) (by omega) (by omega), k (t + 2) (by omega) (by omega), k (t + 3) (by omega) (by omega), k (t + 4) (by omega) (by omega)]
  exact h
theorem CR.god (R : CR n D) (q : Qd D D') (c : Ca D') : CR n D' := by
  obtain ⟨h1, h2, h3, h4, -⟩ := R
  unfold CR
  rw [q.w]
  exact ⟨h1, h2.keep (fun a _ _ => q a (by omega) (by omega)), h3.keep (fun a _ _ => q a (by omega) (by omega)), h4.keep (fun a _ _ => q a (by omega) (by omega)), c⟩
theorem CR.go (R : CR n D) (q : Qc D D') (c : Ca D') : CR n D' := R.god q.qd c
theorem CR.god25 (R : CR n D) (q : Qd D D') (e : D' 25 = D 25) : CR n D' := R.god q (by
  have c := R.2.2.2.2
  unfold Ca at c ⊢
  rw [q.w, e]
  exact c)
theorem CR.go25 (R : CR n D) (q : Qc D D') (e : D' 25 = D 25) : CR n D' := R.go q (by
  have c := R.2.2.2.2
  unfold Ca at c ⊢
  rw [q.w, e]
  exact c)
theorem CR.wi (R : CR n D) : Wi n (D 134) := R.1
/-- single numbers of the shop, of what the acts change -/
theorem CR.shop (R : CR n D) : D 3 0 = D 134 0 ∧ D 3 5 = D 134 1 ∧ D 3 7 = D 134 2 ∧ D 3 8 = D 134 3 ∧ D 3 9 = D 134 4 ∧ D 3 10 = D 134 6 ∧ D 3 11 = D 134 7 ∧ D 3 14 = D 134 8 ∧ D 3 16 = D 134 9 := by
  obtain ⟨a1, a2, a3, a4, a5, a6, a7, a8, a9, -⟩ := R.2.1
  exact ⟨a1, a2, a3, a4, a5, a6, a7, a8, a9⟩
theorem CR.work (R : CR n D) : D 17 3 = wPainted (D 134) ∧ D 17 4 = D 134 12 ∧ D 17 5 = D 134 5 ∧ D 17 6 = D 134 14 ∧ D 17 7 = D 134 11 ∧ D 17 9 = D 134 13 ∧ 0 ≤ D 17 10 ∧ D 17 10 < 60 := by
  obtain ⟨a1, a2, a3, a4, a5, a6, a7, -⟩ := R.2.2.2.1
  exact ⟨a1, a2, a3, a4, a5, a6, a7.1, a7.2⟩
theorem CR.sg (R : CR n D) {s : Int} (h0 : 0 ≤ s) (h1 : s < D 134 0) : D 4 s = wS (D 134) s 0 ∧ D 5 s = wS (D 134) s 1 := by
  have h := R.2.1.2.2.2.2.2.2.2.2.2.1 s h0 h1
  exact ⟨h.1, h.2.1⟩
theorem CR.sd (R : CR n D) {s r : Int} (h0 : 0 ≤ s) (h1 : s < D 134 0) (r0 : 0 ≤ r) (r1 : r < 5) : D 6 (s * 5 + r) = wS (D 134) s (2 + r) ∧ D 7 (s * 5 + r) = wS (D 134) s (7 + r) :=
  (R.2.1.2.2.2.2.2.2.2.2.2.1 s h0 h1).2.2 r r0 r1
theorem CR.wd (R : CR n D) {l : Int} (h0 : 0 ≤ l) (h1 : l < D 134 1) : D 8 l = wL (D 134) l 0 := R.2.1.2.2.2.2.2.2.2.2.2.2.1 l h0 h1
theorem CR.wt (R : CR n D) {j : Int} (h0 : 0 ≤ j) (h1 : j < D 134 7) : D 9 j = D 134 (215 + 2 * j) ∧ D 10 j = D 134 (215 + 2 * j + 1) := R.2.1.2.2.2.2.2.2.2.2.2.2.2.1 j h0 h1
theorem CR.lk (R : CR n D) {j : Int} (h0 : 0 ≤ j) (h1 : j < D 134 8) : D 11 j = D 134 (227 + j) := R.2.1.2.2.2.2.2.2.2.2.2.2.2.2 j h0 h1
theorem CR.ds (R : CR n D) {g : Int} (h0 : 0 ≤ g) (h1 : g + 1 < D 134 1) : D 18 g = wL (D 134) g 3 := R.2.2.2.1.2.2.2.2.2.2.2.1 g h0 h1
theorem CR.sq (R : CR n D) {l : Int} (h0 : 0 ≤ l) (h1 : l < D 134 1) : D 19 l = wL (D 134) l 1 ∧ D 20 l = wL (D 134) l 2 := R.2.2.2.1.2.2.2.2.2.2.2.2.1 l h0 h1
theorem CR.lg (R : CR n D) {a k : Int} (h0 : 0 ≤ a) (h1 : a < D 134 13) (k0 : 0 ≤ k) (k1 : k < 4) : D 21 ((D 17 10 - 1 - a) % 60 * 4 + k) = D 134 (235 + 4 * a + k) := R.2.2.2.1.2.2.2.2.2.2.2.2.2 a k h0 h1 k0 k1
/-- as much of it as a white hangs on -/
def CW (n : Int) (D : mD) : Prop := Wi n (D 134) ∧ ShopR 3 (D 134) D ∧ LawR 12 (D 134) D ∧ D 17 5 = D 134 5 ∧ Ca D
theorem CR.cw (R : CR n D) : CW n D := ⟨R.1, R.2.1, R.2.2.1, R.work.2.2.1, R.2.2.2.2⟩
theorem CW.wi (R : CW n D) : Wi n (D 134) := R.1
theorem CW.shop (R : CW n D) : D 3 0 = D 134 0 ∧ D 3 5 = D 134 1 ∧ D 3 7 = D 134 2 ∧ D 3 8 = D 134 3 ∧ D 3 9 = D 134 4 ∧ D 3 10 = D 134 6 ∧ D 3 11 = D 134 7 ∧ D 3 14 = D 134 8 ∧ D 3 16 = D 134 9 := by
  obtain ⟨a1, a2, a3, a4, a5, a6, a7, a8, a9, -⟩ := R.2.1
  exact ⟨a1, a2, a3, a4, a5, a6, a7, a8, a9⟩
theorem CW.sg (R : CW n D) {s : Int} (h0 : 0 ≤ s) (h1 : s < D 134 0) : D 4 s = wS (D 134) s 0 ∧ D 5 s = wS (D 134) s 1 := by
  have h := R.2.1.2.2.2.2.2.2.2.2.2.1 s h0 h1
  exact ⟨h.1, h.2.1⟩
theorem CW.sd (R : CW n D) {s r : Int} (h0 : 0 ≤ s) (h1 : s < D 134 0) (r0 : 0 ≤ r) (r1 : r < 5) : D 6 (s * 5 + r) = wS (D 134) s (2 + r) ∧ D 7 (s * 5 + r) = wS (D 134) s (7 + r) :=
  (R.2.1.2.2.2.2.2.2.2.2.2.1 s h0 h1).2.2 r r0 r1
theorem CW.wd (R : CW n D) {l : Int} (h0 : 0 ≤ l) (h1 : l < D 134 1) : D 8 l = wL (D 134) l 0 := R.2.1.2.2.2.2.2.2.2.2.2.2.1 l h0 h1
theorem CW.go (R : CW n D) (q : Qc D D') (c : Ca D') : CW n D' := by
  obtain ⟨h1, h2, h3, h4, -⟩ := R
  unfold CW
  rw [q.w]
  exact ⟨h1, h2.keep (fun a _ _ => q a (by omega)), h3.keep (fun a _ _ => q a (by omega)), by rw [q 17 (by omega)]; exact h4, c⟩
theorem CW.go25 (R : CW n D) (q : Qc D D') (e : D' 25 = D 25) : CW n D' := R.go q (by
  have c := R.2.2.2.2
  unfold Ca at c ⊢
  rw [q.w, e]
  exact c)
end PC0
