/-! PURE WORDS: the data of the abstract heap, checks, calls; they stand ahead of all -/
section PB0
abbrev mD : Type := Nat → Int → Int
def sA (D : mD) (k : Nat) (f : Int → Int) : mD := fun a => if a = k then f else D a
def sI (f : Int → Int) (i v : Int) : Int → Int := fun j => if j = i then v else f j
/-- one slot is written -/
def pD (D : mD) (a : Nat) (i v : Int) : mD := sA D a (sI (D a) i v)
/-- a row is filled; copied -/
def fillD (D : mD) (a : Nat) (n v : Int) : mD := sA D a (fun j => if 0 ≤ j ∧ j < n then v else D a j)
def cpI (f g : Int → Int) (sp dp n : Int) : Int → Int := fun j => if dp ≤ j ∧ j < dp + n then f (sp + (j - dp)) else g j
def cpD (D : mD) (a b : Nat) (n : Int) : mD := sA D b (cpI (D a) (D b) 0 0 n)
/-- numbers of an int -/
abbrev nR (z : Int) : Prop := -2147483648 ≤ z ∧ z ≤ 2147483647
/-- as an int that goes round -/
def wr (z : Int) : Int := (Int32.ofInt z).toInt
def bAnd (a b : Int) : Int := ((Int32.ofInt a) &&& (Int32.ofInt b)).toInt
def bOr (a b : Int) : Int := ((Int32.ofInt a) ||| (Int32.ofInt b)).toInt
def bXor (a b : Int) : Int := ((Int32.ofInt a) ^^^ (Int32.ofInt b)).toInt
def bShl (a b : Int) : Int := ((Int32.ofInt a) <<< ((Int32.ofInt b) &&& 31)).toInt
def bShr (a b : Int) : Int := ((Int32.ofInt a) >>> ((Int32.ofInt b) &&& 31)).toInt
def bUshr (a b : Int) : Int := (((Int32.ofInt a).toUInt32 >>> ((Int32.ofInt b).toUInt32 &&& Int32.toUInt32 31)).toInt32).toInt
def bI2b (a : Int) : Int := ((Int32.ofInt a).toInt8.toInt32).toInt
def bNb (z : Int) : Int := (vp_nar .byte (Int32.ofInt z)).toInt
/-- Integer.bitCount, as its code has it -/
def bC1 (a : Int) : Int := a - bAnd (bUshr a 1) 1431655765
def bC2 (a : Int) : Int := bAnd a 858993459 + bAnd (bUshr a 2) 858993459
def bC3 (a : Int) : Int := bAnd (a + bUshr a 4) 252645135
def bC4 (a : Int) : Int := a + bUshr a 8
def bC5 (a : Int) : Int := a + bUshr a 16
def bC (a : Int) : Int := bAnd (bC5 (bC4 (bC3 (bC2 (bC1 a))))) 63
abbrev RI : Type := Option (Int × mD)
abbrev RX : Type := Option ((Int ⊕ Nat) × mD)
/-- a check: where it fails nothing is said -/
def ck {α : Type} (p : Prop) [Decidable p] (x : Option α) : Option α := if p then x else none
theorem ck_o {α : Type} {p : Prop} [Decidable p] {x : Option α} {r : α} (h : ck p x = some r) : p ∧ x = some r := by
  unfold ck at h
  by_cases q : p
  · rw [if_pos q] at h; exact ⟨q, h⟩
  · rw [if_neg q] at h; cases h
theorem ck_p {α : Type} {p : Prop} [Decidable p] {x : Option α} (q : p) : ck p x = x := if_pos q
theorem ite_t {α : Type} {c : Prop} [Decidable c] {a b : Option α} {r : α} (q : c) (h : (if c then a else b) = some r) : a = some r := by rw [if_pos q] at h; exact h
theorem ite_f {α : Type} {c : Prop} [Decidable c] {a b : Option α} {r : α} (q : ¬ c) (h : (if c then a else b) = some r) : b = some r := by rw [if_neg q] at h; exact h
/-- a call that returns -/
def bI {β : Type} (x : RI) (f : Int → mD → Option β) : Option β := match x with
  | some (v, D) => f v D
  | none => none
theorem bI_o {β : Type} {x : RI} {f : Int → mD → Option β} {r : β} (h : bI x f = some r) : ∃ v D, x = some (v, D) ∧ f v D = some r := by
  unfold bI at h
  cases x with
  | none => cases h
  | some p => exact ⟨p.1, p.2, rfl, h⟩
theorem bI_s {β : Type} {v : Int} {D : mD} {f : Int → mD → Option β} : bI (some (v, D)) f = f v D := rfl
theorem bI_e {β : Type} {x : RI} {v : Int} {D : mD} {f : Int → mD → Option β} (h : x = some (v, D)) : bI x f = f v D := by rw [h]; rfl
/-- a call that may throw -/
def bX (x : RX) (f : Int → mD → RX) : RX := match x with
  | some (.inl v, D) => f v D
  | some (.inr i, D) => some (.inr i, D)
  | none => none
theorem bX_o {x : RX} {f : Int → mD → RX} {r : (Int ⊕ Nat) × mD} (h : bX x f = some r) : (∃ v D, x = some (.inl v, D) ∧ f v D = some r) ∨ ∃ i D, x = some (.inr i, D) ∧ some (Sum.inr i, D) = some r := by
  unfold bX at h
  match x, h with
  | some (.inl v, D), h => exact Or.inl ⟨v, D, rfl, h⟩
  | some (.inr i, D), h => exact Or.inr ⟨i, D, rfl, h⟩
theorem bX_s {v : Int} {D : mD} {f : Int → mD → RX} : bX (some (.inl v, D)) f = f v D := rfl
theorem bX_t {i : Nat} {D : mD} {f : Int → mD → RX} : bX (some (.inr i, D)) f = some (.inr i, D) := rfl
theorem bX_e {x : RX} {v : Int} {D : mD} {f : Int → mD → RX} (h : x = some (.inl v, D)) : bX x f = f v D := by rw [h]; rfl
theorem bX_x {x : RX} {i : Nat} {D : mD} {f : Int → mD → RX} (h : x = some (.inr i, D)) : bX x f = some (.inr i, D) := by rw [h]; rfl
/-- more rounds than any loop has -/
def fuelN : Nat := 1000000
end PB0
/-- the texts: class, place in its pool, text -/
def mStr : List (String × Nat × String) := [("SignBoard$LawReader", 24, "fade"), ("SignBoard$LawReader", 32, "weigh"), ("SignBoard$LawReader", 41, "if"), ("SignBoard$LawReader", 65, "not"), ("SignBoard$LawReader", 83, "round"), ("SignBoard$LawReader", 85, "slant"), ("SignBoard$LawReader", 87, "open"), ("SignBoard$LawReader", 92, "row"), ("SignBoard$LawReader", 94, "gap"), ("SignBoard$LawReader", 96, "left"), ("SignBoard$LawReader", 98, "right"), ("SignBoard$LawReader", 100, "light"), ("SignBoard$LawReader", 102, "yards"), ("SignBoard$LawReader", 61, "and"), ("SignBoard$LawReader", 63, "or"), ("SignBoard$ShopReader", 32, "sign"), ("SignBoard$ShopReader", 104, "straight"), ("SignBoard$ShopReader", 106, "round"), ("SignBoard$ShopReader", 108, "slant"), ("SignBoard$ShopReader", 110, "open"), ("SignBoard$ShopReader", 91, "wide"), ("SignBoard$ShopReader", 112, "left"), ("SignBoard$ShopReader", 124, "right"), ("SignBoard$ShopReader", 44, "writer"), ("SignBoard$ShopReader", 150, "white"), ("SignBoard$ShopReader", 155, "slip"), ("SignBoard$ShopReader", 49, "looker"), ("SignBoard$ShopReader", 54, "board"), ("SignBoard$ShopReader", 135, "margin"), ("SignBoard$ShopReader", 62, "cap"), ("SignBoard$ShopReader", 71, "colour"), ("SignBoard$ShopReader", 76, "word"), ("SignBoard", 132, "the text of the shop is wrong"), ("SignBoard", 142, "there are 12 texts of the shop"), ("SignBoard", 166, "the text of the law is wrong"), ("SignBoard", 439, "no such sign"), ("SignBoard", 198, "no such thing of a sign"), ("SignBoard", 442, "no such row"), ("SignBoard", 444, "no such letter"), ("SignBoard", 229, "no such thing of a letter"), ("SignBoard", 446, "no such gap"), ("SignBoard", 247, "no such thing of a gap"), ("SignBoard", 454, "no such yards"), ("SignBoard", 456, "no such light"), ("SignBoard", 450, "no such distance"), ("SignBoard", 312, "a letter cannot be squeezed by so many"), ("SignBoard", 314, "no such shadow"), ("SignBoard", 452, "no such white"), ("SignBoard", 324, "no distances end just at the margin"), ("SignBoard", 448, "no such writer"), ("SignBoard", 395, "no such slant"), ("SignBoard", 409, "a white has two bytes"), ("SignBoard", 458, "no such number of days"), ("SignBoard", 435, "no such thing of the log"), ("SignBoardModel", 178, "sign"), ("SignBoardModel", 139, "straight"), ("SignBoardModel", 141, "round"), ("SignBoardModel", 143, "slant"), ("SignBoardModel", 145, "open"), ("SignBoardModel", 150, "wide"), ("SignBoardModel", 156, "left"), ("SignBoardModel", 162, "right"), ("SignBoardModel", 183, "board"), ("SignBoardModel", 164, "margin"), ("SignBoardModel", 188, "cap"), ("SignBoardModel", 194, "colour"), ("SignBoardModel", 196, "word"), ("SignBoardModel", 201, "writer"), ("SignBoardModel", 174, "white"), ("SignBoardModel", 176, "slip"), ("SignBoardModel", 206, "looker"), ("SignBoardModel", 259, "fade"), ("SignBoardModel", 261, "weigh"), ("SignBoardModel", 263, "if"), ("SignBoardModel", 238, "not"), ("SignBoardModel", 218, "row"), ("SignBoardModel", 220, "gap"), ("SignBoardModel", 222, "light"), ("SignBoardModel", 224, "yards"), ("SignBoardModel", 252, "and"), ("SignBoardModel", 257, "or")]
/-- a text's length, and its signs -/
def sTx (i : Nat) : List Int := (mStr.getD i ("", 0, "")).2.2.toList.map (fun c => (c.toNat : Int))
def sLen (i : Nat) : Int := (sTx i).length
def sAt (i : Nat) (k : Int) : Int := (sTx i).getD k.toNat 0
