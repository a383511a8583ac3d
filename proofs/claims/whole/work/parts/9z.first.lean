/-! WHAT the reference's constructor writes; the first invariant -/
section PXm
variable {D E : mD}
def iModel (D : mD) : mD :=
  pD (pD (pD (pD (pD (pD (nw 147 (nw 146 (nw 145 (nw 144 (nw 143 (nw 142 (nw 141 (nw 140 (pD (nw 139 (nw 138 (nw 137 (nw 136 (nw 135 (nw 134 (nw 133 D))))))) 133 14 (-1)))))))))) 134 2 60) 134 3 2) 134 4 12) 134 6 50) 134 12 (-1)) 134 14 1
def iAll (D : mD) : mD := nw 148 (iModel (iBoard (nw 0 D)))
theorem iAll_lo {b : Nat} (h : b < 133) : iAll D b = iBoard (nw 0 D) b := by
  unfold iAll iModel
  rw [nw_ne (by omega), pD_ne (by omega), pD_ne (by omega), pD_ne (by omega), pD_ne (by omega), pD_ne (by omega), pD_ne (by omega), nw_ne (by omega), nw_ne (by omega), nw_ne (by omega), nw_ne (by omega), nw_ne (by omega), nw_ne (by omega), nw_ne (by omega), nw_ne (by omega), pD_ne (by omega), nw_ne (by omega), nw_ne (by omega), nw_ne (by omega), nw_ne (by omega), nw_ne (by omega), nw_ne (by omega), nw_ne (by omega)]
theorem iAll_W : IniW (iAll D) := ⟨rfl, rfl, rfl, rfl, rfl, rfl, rfl, rfl, rfl, rfl, rfl, rfl, rfl, rfl, rfl⟩
theorem iAll_C : IniC (iAll D) := by
  have h := iBoard_C (D := nw 0 D)
  unfold IniC at h ⊢
  rw [iAll_lo (b := 3) (by decide), iAll_lo (b := 12) (by decide), iAll_lo (b := 17) (by decide), iAll_lo (b := 25) (by decide)]
  exact h
theorem iBoard_0 : iBoard (nw 0 D) 0 14 = 0 ∧ iBoard (nw 0 D) 0 15 = -1 := by
  unfold iBoard
  exact ⟨by rw [pD_nj (by decide), pD_eq], pD_eq _ _ _ _⟩
theorem iBoard_93 : iBoard D 93 1 = 14 ∧ iBoard D 103 1 = 12 := by
  unfold iBoard
  constructor
  · rw [pD_ne (by decide), pD_ne (by decide), iWork_ne (by decide), nw_ne (by decide), iLaw_ne (by decide), nw_ne (by decide), iShop_ne (by decide), nw_ne (by decide), iWork_ne (by decide), nw_ne (by decide), iLaw_ne (by decide), nw_ne (by decide), pD_ne (by decide), nw_ne (by decide), iShop_ne (by decide), nw_ne (by decide), pD_eq]
  · rw [pD_ne (by decide), pD_ne (by decide), iWork_ne (by decide), nw_ne (by decide), iLaw_ne (by decide), nw_ne (by decide), iShop_ne (by decide), nw_ne (by decide), iWork_ne (by decide), nw_ne (by decide), iLaw_ne (by decide), nw_ne (by decide), pD_eq]
theorem iAll_T : IniT (iAll D) := by
  have h0 := iBoard_0 (D := D)
  have h93 := iBoard_93 (D := nw 0 D)
  have e31 : iAll D 31 = fun _ => 0 := by
    rw [iAll_lo (by decide), iBoard_lo (by decide) (by decide), nw_ne (by decide), nw_eq]
  have e1 : iAll D 1 = fun _ => 0 := by
    rw [iAll_lo (by decide), iBoard_lo (by decide) (by decide), nw_ne (by decide), nw_ne (by decide), nw_ne (by decide), nw_ne (by decide), nw_ne (by decide), nw_ne (by decide), nw_ne (by decide), fillD_ne (by decide), nw_ne (by decide), nw_ne (by decide), nw_ne (by decide), nw_ne (by decide), iWork_ne (by decide), nw_ne (by decide), iLaw_ne (by decide), nw_ne (by decide), iShop_ne (by decide), nw_ne (by decide), nw_ne (by decide), nw_eq]
  have e2 : iAll D 2 = fun _ => 0 := by
    rw [iAll_lo (by decide), iBoard_lo (by decide) (by decide), nw_ne (by decide), nw_ne (by decide), nw_ne (by decide), nw_ne (by decide), nw_ne (by decide), nw_ne (by decide), nw_ne (by decide), fillD_ne (by decide), nw_ne (by decide), nw_ne (by decide), nw_ne (by decide), nw_ne (by decide), iWork_ne (by decide), nw_ne (by decide), iLaw_ne (by decide), nw_ne (by decide), iShop_ne (by decide), nw_ne (by decide), nw_eq]
  have e139 : iAll D 139 = fun _ => 0 := rfl
  have e133 : iAll D 133 7 = 0 ∧ iAll D 133 6 = 0 ∧ iAll D 133 9 = 0 ∧ iAll D 133 14 = -1 := ⟨rfl, rfl, rfl, rfl⟩
  refine ⟨by rw [e31], by rw [e31], e133.1, e133.2.1, by rw [iAll_lo (by decide)]; exact h0.1, e133.2.2.1, by rw [e1], fun j _ _ => ⟨by rw [e139], by rw [e2]⟩, by rw [iAll_lo (by decide)]; exact h0.2, e133.2.2.2, ?_⟩
  unfold Fx
  rw [iAll_lo (by decide), iAll_lo (by decide)]
  exact h93
theorem INV.first : INV 0 (iAll D) := INV.init iAll_W iAll_C iAll_T
end PXm
