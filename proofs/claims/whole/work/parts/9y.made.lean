/-! WHAT the constructors write, in their order -/
section PXl
variable {D : mD}
def nw (a : Nat) (D : mD) : mD := sA D a (fun _ => 0)
def iShop (t : Nat) (D : mD) : mD := nw (t + 8) (nw (t + 7) (nw (t + 6) (pD (pD (pD (pD (nw (t + 5) (nw (t + 4) (nw (t + 3) (nw (t + 2) (nw (t + 1) D))))) t 7 60) t 8 2) t 9 12) t 10 50)))
def iLaw (t : Nat) (D : mD) : mD := nw (t + 4) (nw (t + 3) (nw (t + 2) (nw (t + 1) (pD D t 0 (-1)))))
def iBegin (t : Nat) (D : mD) : mD := pD (pD (fillD (fillD (fillD D (t + 1) 13 3) (t + 2) 14 0) (t + 3) 14 (-1)) t 3 0) t 4 (-1)
def iWork (t : Nat) (D : mD) : mD := iBegin t (pD (nw (t + 4) (nw (t + 3) (nw (t + 2) (nw (t + 1) D)))) t 6 1)
def iHist : Nat → Nat → mD → mD
  | 0, _, D => D
  | m + 1, t, D => iHist m (t + 5) (iWork t (nw t D))
def iBoard (D : mD) : mD :=
  let D := nw 2 (nw 1 D)
  let D := iShop 3 (nw 3 D)
  let D := iLaw 12 (nw 12 D)
  let D := iWork 17 (nw 17 D)
  let D := fillD (nw 25 (nw 24 (nw 23 (nw 22 D)))) 25 403 (-1)
  let D := nw 28 (nw 27 (nw 26 D))
  let D := nw 30 (nw 29 D)
  let D := iHist 12 33 (nw 32 (nw 31 D))
  let D := iShop 94 (nw 94 (pD (nw 93 D) 93 1 14))
  let D := iLaw 104 (nw 104 (pD (nw 103 D) 103 1 12))
  let D := iWork 109 (nw 109 D)
  let D := iShop 114 (nw 114 D)
  let D := iLaw 123 (nw 123 D)
  let D := iWork 128 (nw 128 D)
  pD (pD D 0 14 0) 0 15 (-1)
theorem nw_ne {a b : Nat} (h : b ≠ a) : nw a D b = D b := sA_ne h
theorem nw_eq (a : Nat) : nw a D a = fun _ => 0 := sA_eq _ _ _
theorem iShop_ne {t b : Nat} (h : ¬ (t ≤ b ∧ b ≤ t + 8)) : iShop t D b = D b := by
  unfold iShop
  rw [nw_ne (by omega), nw_ne (by omega), nw_ne (by omega), pD_ne (by omega), pD_ne (by omega), pD_ne (by omega), pD_ne (by omega), nw_ne (by omega), nw_ne (by omega), nw_ne (by omega), nw_ne (by omega), nw_ne (by omega)]
theorem iLaw_ne {t b : Nat} (h : ¬ (t ≤ b ∧ b ≤ t + 4)) : iLaw t D b = D b := by
  unfold iLaw
  rw [nw_ne (by omega), nw_ne (by omega), nw_ne (by omega), nw_ne (by omega), pD_ne (by omega)]
theorem iWork_ne {t b : Nat} (h : ¬ (t ≤ b ∧ b ≤ t + 4)) : iWork t D b = D b := by
  unfold iWork iBegin
  rw [pD_ne (by omega), pD_ne (by omega), fillD_ne (by omega), fillD_ne (by omega), fillD_ne (by omega), pD_ne (by omega), nw_ne (by omega), nw_ne (by omega), nw_ne (by omega), nw_ne (by omega)]
theorem iHist_ne {b : Nat} : ∀ (m t : Nat) (D : mD), ¬ (t ≤ b ∧ b < t + 5 * m) → iHist m t D b = D b := by
  intro m
  induction m with
  | zero => intro t D _; rfl
  | succ m ih =>
    intro t D h
    rw [iHist, ih (t + 5) _ (by omega)]
    by_cases y : b = t + 5
    · rw [iWork_ne (by omega), nw_ne (by omega)]
    · rw [iWork_ne (by omega), nw_ne (by omega)]
theorem iBoard_hi {b : Nat} (h : 133 ≤ b) : iBoard D b = D b := by
  unfold iBoard
  rw [pD_ne (by omega), pD_ne (by omega), iWork_ne (by omega), nw_ne (by omega), iLaw_ne (by omega), nw_ne (by omega), iShop_ne (by omega), nw_ne (by omega), iWork_ne (by omega), nw_ne (by omega), iLaw_ne (by omega), nw_ne (by omega), pD_ne (by omega), nw_ne (by omega), iShop_ne (by omega), nw_ne (by omega), pD_ne (by omega), nw_ne (by omega), iHist_ne _ _ _ (by omega), nw_ne (by omega), nw_ne (by omega), nw_ne (by omega), nw_ne (by omega), nw_ne (by omega), nw_ne (by omega), nw_ne (by omega), fillD_ne (by omega), nw_ne (by omega), nw_ne (by omega), nw_ne (by omega), nw_ne (by omega), iWork_ne (by omega), nw_ne (by omega), iLaw_ne (by omega), nw_ne (by omega), iShop_ne (by omega), nw_ne (by omega), nw_ne (by omega), nw_ne (by omega)]
/-- the last that is written after 33 leaves what lies below -/
theorem iBoard_lo {b : Nat} (h0 : b ≠ 0) (h : b < 33) : iBoard D b = (nw 32 (nw 31 (nw 30 (nw 29 (nw 28 (nw 27 (nw 26 (fillD (nw 25 (nw 24 (nw 23 (nw 22 (iWork 17 (nw 17 (iLaw 12 (nw 12 (iShop 3 (nw 3 (nw 2 (nw 1 D)))))))))))) 25 403 (-1))))))))) b := by
  unfold iBoard
  rw [pD_ne (by omega), pD_ne (by omega), iWork_ne (by omega), nw_ne (by omega), iLaw_ne (by omega), nw_ne (by omega), iShop_ne (by omega), nw_ne (by omega), iWork_ne (by omega), nw_ne (by omega), iLaw_ne (by omega), nw_ne (by omega), pD_ne (by omega), nw_ne (by omega), iShop_ne (by omega), nw_ne (by omega), pD_ne (by omega), nw_ne (by omega), iHist_ne _ _ _ (by omega)]
theorem iBoard_C : IniC (iBoard D) := by
  unfold IniC
  rw [iBoard_lo (b := 3) (by decide) (by decide), iBoard_lo (b := 12) (by decide) (by decide), iBoard_lo (b := 17) (by decide) (by decide), iBoard_lo (b := 25) (by decide) (by decide)]
  refine ⟨rfl, rfl, rfl, rfl, rfl, rfl, rfl, rfl, rfl, rfl, rfl, rfl, rfl, rfl, rfl, rfl, rfl, fun j j0 j1 => ?_⟩
  rw [nw_ne (by decide), nw_ne (by decide), nw_ne (by decide), nw_ne (by decide), nw_ne (by decide), nw_ne (by decide), nw_ne (by decide), fillD_in ⟨j0, j1⟩]
end PXl
