/-! THE WORLD of the reference: what it holds between calls; the numbers that are read off it -/
section PI0
theorem pD_eq (D : mD) (a : Nat) (i v : Int) : pD D a i v a i = v := by simp [pD, sA, sI]
theorem pD_ne {D : mD} {a b : Nat} {i v : Int} (h : b ≠ a) : pD D a i v b = D b := by
  unfold pD sA
  rw [if_neg h]
theorem pD_nj {D : mD} {a : Nat} {i v j : Int} (h : j ≠ i) : pD D a i v a j = D a j := by simp [pD, sA, sI, h]
theorem pD_at (D : mD) (a : Nat) (i v j : Int) : pD D a i v a j = if j = i then v else D a j := by simp [pD, sA, sI]
theorem sA_eq (D : mD) (a : Nat) (f : Int → Int) : sA D a f a = f := by simp [sA]
theorem sA_ne {D : mD} {a b : Nat} {f : Int → Int} (h : b ≠ a) : sA D a f b = D b := by simp [sA, h]
theorem fuel_big {n : Nat} (h : n < 1000000) : ∃ m, fuelN = n + 1 + m := ⟨999999 - n, by unfold fuelN; omega⟩
/-- a letter's, a sign's number -/
def wL (w : Int → Int) (l k : Int) : Int := w (159 + 4 * l + k)
def wS (w : Int → Int) (s k : Int) : Int := w (15 + 12 * s + k)
/-- f j + f (j + 1) + .., m of them -/
def sumF (f : Int → Int) : Int → Nat → Int
  | _, 0 => 0
  | j, m + 1 => f j + sumF f (j + 1) m
theorem sumF_congr {f g : Int → Int} : ∀ (m : Nat) (j : Int), (∀ k, j ≤ k → k < j + m → f k = g k) → sumF f j m = sumF g j m := by
  intro m
  induction m with
  | zero => intro j _; rfl
  | succ m ih =>
    intro j h
    rw [sumF, sumF, h j (by omega) (by omega), ih (j + 1) (fun k h1 h2 => h k (by omega) (by omega))]
theorem sumF_last {f : Int → Int} : ∀ (m : Nat) (j : Int), sumF f j (m + 1) = sumF f j m + f (j + m) := by
  intro m
  induction m with
  | zero => intro j; simp [sumF]
  | succ m ih =>
    intro j
    rw [sumF, ih (j + 1), sumF, show j + 1 + (m : Int) = j + ((m + 1 : Nat) : Int) by omega]
    omega
theorem sumF_bounds {f : Int → Int} {lo hi : Int} : ∀ (m : Nat) (j : Int), (∀ k, j ≤ k → k < j + m → lo ≤ f k ∧ f k ≤ hi) → lo * m ≤ sumF f j m ∧ sumF f j m ≤ hi * m := by
  intro m
  induction m with
  | zero => intro j _; simp [sumF]
  | succ m ih =>
    intro j h
    have h1 := h j (by omega) (by omega)
    have h2 := ih (j + 1) (fun k h1 h2 => h k (by omega) (by omega))
    rw [sumF, show ((m + 1 : Nat) : Int) = (m : Int) + 1 by omega, Int.mul_add, Int.mul_add]
    omega
/-- what the law's steps do to the kinds on the stack (true: a truth, false: a number) -/
def tyStep (s n : Int) (st : List Bool) : Option (List Bool) :=
  if 0 ≤ s ∧ s ≤ 5 then some (false :: st)
  else if s = 6 then (if 1 ≤ n ∧ n ≤ 3 then some (true :: st) else none)
  else if s = 7 then (if 0 ≤ n ∧ n ≤ 999 then some (false :: st) else none)
  else if s = 8 then (match st with | false :: false :: r => some (false :: r) | _ => none)
  else if s = 9 ∨ s = 10 then (match st with | false :: false :: r => some (true :: r) | _ => none)
  else if s = 11 then (match st with | true :: r => some (true :: r) | _ => none)
  else if s = 12 ∨ s = 13 then (match st with | true :: true :: r => some (true :: r) | _ => none)
  else none
/-- m steps from place i on; the stack is never higher than 20 -/
def tyRun (w : Int → Int) (b : Int) : Int → Nat → List Bool → Option (List Bool)
  | _, 0, st => some st
  | i, m + 1, st => match tyStep (w (b + 2 * i)) (w (b + 2 * i + 1)) st with
    | some st' => if st'.length ≤ 20 then tyRun w b (i + 1) m st' else none
    | none => none
/-- the law at a base (LINES there, lines behind it, steps) is one -/
def LawOk (w : Int → Int) (b : Int) : Prop :=
  0 ≤ w b ∧ w b ≤ 12 ∧ ∀ k, 0 ≤ k → k < w b → ((w (b + 1 + 4 * k) = 0 ∧ w (b + 1 + 4 * k + 1) ≤ 9) ∨ w (b + 1 + 4 * k) = 1) ∧ 0 ≤ w (b + 1 + 4 * k + 1) ∧ w (b + 1 + 4 * k + 1) ≤ 99 ∧
    0 ≤ w (b + 1 + 4 * k + 2) ∧ w (b + 1 + 4 * k + 2) ≤ w (b + 1 + 4 * k + 3) ∧ w (b + 1 + 4 * k + 3) ≤ 400 ∧
    w (b + 1 + 4 * k + 2) = (if k = 0 then 0 else w (b + 1 + 4 * (k - 1) + 3)) ∧
    (w (b + 1 + 4 * k + 2) = w (b + 1 + 4 * k + 3) ∨ tyRun w (b + 49) (w (b + 1 + 4 * k + 2)) (w (b + 1 + 4 * k + 3) - w (b + 1 + 4 * k + 2)).toNat [] = some [true])
/-- the ranges of the world's single numbers -/
def Wr (n : Int) (w : Int → Int) : Prop :=
  0 ≤ w 0 ∧ w 0 ≤ 12 ∧ 0 ≤ w 1 ∧ w 1 ≤ 14 ∧ 10 ≤ w 2 ∧ w 2 ≤ 120 ∧ 0 ≤ w 3 ∧ w 3 ≤ 9 ∧ 1 ≤ w 4 ∧ w 4 ≤ 99 ∧ 0 ≤ w 5 ∧ w 5 ≤ 9 ∧ 1 ≤ w 6 ∧ w 6 ≤ 99 ∧ 0 ≤ w 7 ∧ w 7 ≤ 6 ∧ 0 ≤ w 8 ∧ w 8 ≤ 8 ∧ 0 ≤ w 9 ∧ w 9 ≤ 12 ∧ 0 ≤ w 10 ∧ w 10 ≤ 1 ∧ 0 ≤ w 11 ∧ w 11 ≤ n ∧ -1 ≤ w 12 ∧ w 12 < 14 ∧ 0 ≤ w 13 ∧ w 13 ≤ 60 ∧ nR (w 14)
def SgOk (w : Int → Int) (s : Int) : Prop := 0 ≤ wS w s 0 ∧ wS w s 0 ≤ 3 ∧ 2 ≤ wS w s 1 ∧ wS w s 1 ≤ 12 ∧ ∀ r, 0 ≤ r → r < 5 → 0 ≤ wS w s (2 + r) ∧ wS w s (2 + r) ≤ 9 ∧ 0 ≤ wS w s (7 + r) ∧ wS w s (7 + r) ≤ 9 ∧ wS w s (2 + r) + wS w s (7 + r) < wS w s 1
def LtOk (n : Int) (w : Int → Int) (l : Int) : Prop := 0 ≤ wL w l 0 ∧ wL w l 0 < w 0 ∧ 0 ≤ wL w l 1 ∧ wL w l 1 ≤ 3 ∧ wL w l 1 < wS w (wL w l 0) 1 ∧ -1 ≤ wL w l 2 ∧ wL w l 2 ≤ n ∧ 0 ≤ wL w l 3 ∧ wL w l 3 ≤ 30
/-- the world between calls; n bounds the days -/
def Wi (n : Int) (w : Int → Int) : Prop :=
  Wr n w ∧ (∀ s, 0 ≤ s → s < w 0 → SgOk w s) ∧ (∀ l, 0 ≤ l → l < w 1 → LtOk n w l) ∧
  (∀ j, 0 ≤ j → j < w 7 → 0 ≤ w (215 + 2 * j) ∧ w (215 + 2 * j) ≤ 999 ∧ 0 ≤ w (215 + 2 * j + 1) ∧ w (215 + 2 * j + 1) ≤ 100) ∧
  (∀ j, 0 ≤ j → j < w 8 → 0 ≤ w (227 + j) ∧ w (227 + j) ≤ 200) ∧
  (∀ j, 0 ≤ j → j < w 13 → 0 ≤ w (235 + 4 * j) ∧ w (235 + 4 * j) ≤ n ∧ 0 ≤ w (235 + 4 * j + 1) ∧ w (235 + 4 * j + 1) ≤ 13 ∧ 0 ≤ w (235 + 4 * j + 2) ∧ w (235 + 4 * j + 2) ≤ 5 ∧ -1 ≤ w (235 + 4 * j + 3) ∧ w (235 + 4 * j + 3) ≤ 1) ∧
  (0 ≤ w 12 → w 12 < w 1 ∧ 0 ≤ wL w (w 12) 2) ∧ (w 10 = 1 → LawOk w 475)
theorem Wi.r {n : Int} {w : Int → Int} (H : Wi n w) : Wr n w := H.1
theorem Wi.sg {n : Int} {w : Int → Int} (H : Wi n w) {s : Int} (h0 : 0 ≤ s) (h1 : s < w 0) : SgOk w s := H.2.1 s h0 h1
theorem Wi.lt {n : Int} {w : Int → Int} (H : Wi n w) {l : Int} (h0 : 0 ≤ l) (h1 : l < w 1) : LtOk n w l := H.2.2.1 l h0 h1
theorem Wi.wt {n : Int} {w : Int → Int} (H : Wi n w) {j : Int} (h0 : 0 ≤ j) (h1 : j < w 7) : 0 ≤ w (215 + 2 * j) ∧ w (215 + 2 * j) ≤ 999 ∧ 0 ≤ w (215 + 2 * j + 1) ∧ w (215 + 2 * j + 1) ≤ 100 := H.2.2.2.1 j h0 h1
theorem Wi.lk {n : Int} {w : Int → Int} (H : Wi n w) {j : Int} (h0 : 0 ≤ j) (h1 : j < w 8) : 0 ≤ w (227 + j) ∧ w (227 + j) ≤ 200 := H.2.2.2.2.1 j h0 h1
theorem Wi.lg {n : Int} {w : Int → Int} (H : Wi n w) {j : Int} (h0 : 0 ≤ j) (h1 : j < w 13) : 0 ≤ w (235 + 4 * j) ∧ w (235 + 4 * j) ≤ n ∧ 0 ≤ w (235 + 4 * j + 1) ∧ w (235 + 4 * j + 1) ≤ 13 ∧ 0 ≤ w (235 + 4 * j + 2) ∧ w (235 + 4 * j + 2) ≤ 5 ∧ -1 ≤ w (235 + 4 * j + 3) ∧ w (235 + 4 * j + 3) ≤ 1 := H.2.2.2.2.2.1 j h0 h1
theorem Wi.wet {n : Int} {w : Int → Int} (H : Wi n w) (h0 : 0 ≤ w 12) : w 12 < w 1 ∧ 0 ≤ wL w (w 12) 2 := H.2.2.2.2.2.2.1 h0
theorem Wi.law {n : Int} {w : Int → Int} (H : Wi n w) (h0 : w 10 = 1) : LawOk w 475 := H.2.2.2.2.2.2.2 h0
end PI0
