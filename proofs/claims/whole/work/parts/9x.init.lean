/-! THE BEGINNING: behind both constructors -/
section PXk
variable {D : mD}
def IniW (D : mD) : Prop := D 134 0 = 0 ∧ D 134 1 = 0 ∧ D 134 2 = 60 ∧ D 134 3 = 2 ∧ D 134 4 = 12 ∧ D 134 5 = 0 ∧ D 134 6 = 50 ∧ D 134 7 = 0 ∧ D 134 8 = 0 ∧ D 134 9 = 0 ∧ D 134 10 = 0 ∧ D 134 11 = 0 ∧ D 134 12 = -1 ∧ D 134 13 = 0 ∧ D 134 14 = 1
def IniC (D : mD) : Prop := D 3 0 = 0 ∧ D 3 5 = 0 ∧ D 3 7 = 60 ∧ D 3 8 = 2 ∧ D 3 9 = 12 ∧ D 3 10 = 50 ∧ D 3 11 = 0 ∧ D 3 14 = 0 ∧ D 3 16 = 0 ∧ D 12 0 = -1 ∧ D 17 3 = 0 ∧ D 17 4 = -1 ∧ D 17 5 = 0 ∧ D 17 6 = 1 ∧ D 17 7 = 0 ∧ D 17 9 = 0 ∧ D 17 10 = 0 ∧ ∀ j, 0 ≤ j → j < 403 → D 25 j = -1
def IniT (D : mD) : Prop := D 31 1 = 0 ∧ D 31 2 = 0 ∧ D 133 7 = 0 ∧ D 133 6 = 0 ∧ D 0 14 = 0 ∧ D 133 9 = 0 ∧ D 1 1 = 0 ∧ (∀ j, 0 ≤ j → j < 400 → D 139 j = 0 ∧ D 2 j = 0) ∧ D 0 15 = -1 ∧ D 133 14 = -1 ∧ Fx D
theorem INV.init (hw : IniW D) (hc : IniC D) (ht : IniT D) : INV 0 D := by
  obtain ⟨a0, a1, a2, a3, a4, a5, a6, a7, a8, a9, a10, a11, a12, a13, a14⟩ := hw
  obtain ⟨c0, c1, c2, c3, c4, c5, c6, c7, c8, l0, k0, k1, k2, k3, k4, k5, k6, wh⟩ := hc
  obtain ⟨t0, t1, t2, t3, t4, t5, t6, t7, t8, t9, t10⟩ := ht
  have H : Wi 0 (D 134) := by
    refine ⟨?_, fun s s0 s1 => by omega, fun l l0 l1 => by omega, fun j j0 j1 => by omega, fun j j0 j1 => by omega, fun j j0 j1 => by omega, fun h => by omega, fun h => by omega⟩
    unfold Wr
    omega
  refine ⟨⟨H, ⟨by omega, by omega, by omega, by omega, by omega, by omega, by omega, by omega, by omega, fun s s0 s1 => by omega, fun l l0 l1 => by omega, fun j j0 j1 => by omega, fun j j0 j1 => by omega⟩, ⟨?_, fun h => by omega⟩, ⟨?_, by omega, by omega, by omega, by omega, by omega, by omega, fun g g0 g1 => by omega, fun l l0 l1 => by omega, fun a k x0 x1 y0 y1 => by omega⟩, Ca.no wh (by omega)⟩, ⟨by omega, by omega, by omega, by omega, by omega, fun j j0 j1 => by omega⟩, ⟨by omega, Or.inl t3, fun h => by omega⟩, ⟨by omega, by omega, by omega, fun j j0 j1 => ?_⟩, by omega, t10⟩
  · rw [if_neg (by omega)]; exact l0
  · unfold wPainted
    rw [a1, k0]
    rfl
  · have := t7 j j0 j1
    rw [this.1, this.2]
    decide
end PXk
