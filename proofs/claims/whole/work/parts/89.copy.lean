/-! COPIES of works, shops, laws -/
section PY0
variable {n : Int} {D E : mD} {w : Int → Int} {t0 t1 : Nat}
def cF (t0 t1 : Nat) (i : Int) (D : mD) : mD := pD D t0 i (D t1 i)
theorem cF_ne {i : Int} {a : Nat} (h : a ≠ t0) : cF t0 t1 i D a = D a := pD_ne h
theorem cF_nj {i j : Int} (h : j ≠ i) : cF t0 t1 i D t0 j = D t0 j := pD_nj h
theorem cF_eq {i : Int} : cF t0 t1 i D t0 i = D t1 i := pD_eq _ _ _ _
theorem cpD_ne {a b c : Nat} {m : Int} (h : c ≠ b) : cpD D a b m c = D c := sA_ne h
theorem cpD_in {a b : Nat} {m j : Int} (h : 0 ≤ j ∧ j < m) : cpD D a b m b j = D a j := by
  unfold cpD
  rw [sA_eq]
  unfold cpI
  rw [if_pos (by omega)]
  congr 1
  omega
def cW (t0 t1 : Nat) (D : mD) : mD := cF t0 t1 10 (cF t0 t1 9 (cpD (cF t0 t1 7 (cF t0 t1 6 (cF t0 t1 5 (cF t0 t1 4 (cF t0 t1 3 (cpD (cpD (cpD D (t1 + 1) (t0 + 1) 13) (t1 + 2) (t0 + 2) 14) (t1 + 3) (t0 + 3) 14)))))) (t1 + 4) (t0 + 4) 240))
theorem c_copyW : F_X10_copyFrom t0 t1 D = some (0, cW t0 t1 D) := rfl
theorem cW_ne {a : Nat} (h : ¬ (t0 ≤ a ∧ a ≤ t0 + 4)) : cW t0 t1 D a = D a := by
  simp (disch := omega) only [cW, cF_ne, cpD_ne]
theorem WorkR.copy (hw : w 1 ≤ 14) (h : WorkR t1 w D) (ht : t0 + 5 ≤ t1 ∨ t1 + 5 ≤ t0) : WorkR t0 w (cW t0 t1 D) := by
  obtain ⟨a1, a2, a3, a4, a5, a6, a7, a8, a9, b⟩ := h
  unfold WorkR
  refine ⟨?_, ?_, ?_, ?_, ?_, ?_, ?_, fun g g0 g1 => ?_, fun l l0 l1 => ?_, fun a k a0 a1 k0 k1 => ?_⟩
  · simp (disch := omega) only [cW, cF_ne, cF_nj, cF_eq, cpD_ne]; exact a1
  · simp (disch := omega) only [cW, cF_ne, cF_nj, cF_eq, cpD_ne]; exact a2
  · simp (disch := omega) only [cW, cF_ne, cF_nj, cF_eq, cpD_ne]; exact a3
  · simp (disch := omega) only [cW, cF_ne, cF_nj, cF_eq, cpD_ne]; exact a4
  · simp (disch := omega) only [cW, cF_ne, cF_nj, cF_eq, cpD_ne]; exact a5
  · simp (disch := omega) only [cW, cF_ne, cF_nj, cF_eq, cpD_ne]; exact a6
  · simp (disch := omega) only [cW, cF_ne, cF_nj, cF_eq, cpD_ne]; exact a7
  · simp (disch := omega) only [cW, cF_ne, cpD_ne, cpD_in]; exact a8 g g0 g1
  · simp (disch := omega) only [cW, cF_ne, cpD_ne, cpD_in]; exact a9 l l0 l1
  · have e10 : cW t0 t1 D t0 10 = D t1 10 := by simp (disch := omega) only [cW, cF_ne, cF_nj, cF_eq, cpD_ne]
    rw [e10]
    simp (disch := omega) only [cW, cF_ne, cpD_ne, cpD_in]; exact b a k a0 a1 k0 k1
def cS (t0 t1 : Nat) (D : mD) : mD := cF t0 t1 16 (cpD (cF t0 t1 14 (cpD (cpD (cF t0 t1 11 (cF t0 t1 10 (cF t0 t1 9 (cF t0 t1 8 (cF t0 t1 7 (cpD (cF t0 t1 5 (cpD (cpD (cpD (cpD (cF t0 t1 0 D) (t1 + 1) (t0 + 1) 12) (t1 + 2) (t0 + 2) 12) (t1 + 3) (t0 + 3) 60) (t1 + 4) (t0 + 4) 60)) (t1 + 5) (t0 + 5) 14)))))) (t1 + 6) (t0 + 6) 6) (t1 + 7) (t0 + 7) 6)) (t1 + 8) (t0 + 8) 8)
theorem c_copyS : F_X6_copyFrom t0 t1 D = some (0, cS t0 t1 D) := rfl
theorem cS_ne {a : Nat} (h : ¬ (t0 ≤ a ∧ a ≤ t0 + 8)) : cS t0 t1 D a = D a := by
  simp (disch := omega) only [cS, cF_ne, cpD_ne]
theorem ShopR.copy (hr : WrA n w) (h : ShopR t1 w D) (ht : t0 + 9 ≤ t1 ∨ t1 + 9 ≤ t0) : ShopR t0 w (cS t0 t1 D) := by
  obtain ⟨a1, a2, a3, a4, a5, a6, a7, a8, a9, b1, b2, b3, b4⟩ := h
  unfold ShopR
  refine ⟨?_, ?_, ?_, ?_, ?_, ?_, ?_, ?_, ?_, fun s s0 s1 => ?_, fun l l0 l1 => ?_, fun j j0 j1 => ?_, fun j j0 j1 => ?_⟩
  · simp (disch := omega) only [cS, cF_ne, cF_nj, cF_eq, cpD_ne]; exact a1
  · simp (disch := omega) only [cS, cF_ne, cF_nj, cF_eq, cpD_ne]; exact a2
  · simp (disch := omega) only [cS, cF_ne, cF_nj, cF_eq, cpD_ne]; exact a3
  · simp (disch := omega) only [cS, cF_ne, cF_nj, cF_eq, cpD_ne]; exact a4
  · simp (disch := omega) only [cS, cF_ne, cF_nj, cF_eq, cpD_ne]; exact a5
  · simp (disch := omega) only [cS, cF_ne, cF_nj, cF_eq, cpD_ne]; exact a6
  · simp (disch := omega) only [cS, cF_ne, cF_nj, cF_eq, cpD_ne]; exact a7
  · simp (disch := omega) only [cS, cF_ne, cF_nj, cF_eq, cpD_ne]; exact a8
  · simp (disch := omega) only [cS, cF_ne, cF_nj, cF_eq, cpD_ne]; exact a9
  · refine ⟨?_, ?_, fun r r0 r1 => ⟨?_, ?_⟩⟩
    · simp (disch := omega) only [cS, cF_ne, cpD_ne, cpD_in]; exact (b1 s s0 s1).1
    · simp (disch := omega) only [cS, cF_ne, cpD_ne, cpD_in]; exact (b1 s s0 s1).2.1
    · simp (disch := omega) only [cS, cF_ne, cpD_ne, cpD_in]; exact ((b1 s s0 s1).2.2 r r0 r1).1
    · simp (disch := omega) only [cS, cF_ne, cpD_ne, cpD_in]; exact ((b1 s s0 s1).2.2 r r0 r1).2
  · simp (disch := omega) only [cS, cF_ne, cpD_ne, cpD_in]; exact b2 l l0 l1
  · simp (disch := omega) only [cS, cF_ne, cpD_ne, cpD_in]; exact b3 j j0 j1
  · simp (disch := omega) only [cS, cF_ne, cpD_ne, cpD_in]; exact b4 j j0 j1
def cL (t0 t1 : Nat) (D : mD) : mD := cF t0 t1 5 (cpD (cpD (cpD (cpD (cF t0 t1 0 D) (t1 + 1) (t0 + 1) 12) (t1 + 2) (t0 + 2) 12) (t1 + 3) (t0 + 3) 12) (t1 + 4) (t0 + 4) 400)
theorem c_copyL : F_X2_copyFrom t0 t1 D = some (0, cL t0 t1 D) := rfl
theorem cL_ne {a : Nat} (h : ¬ (t0 ≤ a ∧ a ≤ t0 + 4)) : cL t0 t1 D a = D a := by
  simp (disch := omega) only [cL, cF_ne, cpD_ne]
theorem LawR.copy (hl : w 10 = 1 → LawOk w 475) (h : LawR t1 w D) (ht : t0 + 5 ≤ t1 ∨ t1 + 5 ≤ t0) : LawR t0 w (cL t0 t1 D) := by
  obtain ⟨a, b⟩ := h
  unfold LawR
  refine ⟨?_, fun h10 k k0 k1 => ?_⟩
  · simp (disch := omega) only [cL, cF_ne, cF_nj, cF_eq, cpD_ne]; exact a
  · have hL := hl h10
    have h12 := hL.2.1
    have hk := hL.2.2 k k0 k1
    rw [e475] at hk
    have c := b h10 k k0 k1
    refine ⟨?_, ?_, ?_, fun i i0 i1 => ?_⟩
    · simp (disch := omega) only [cL, cF_ne, cpD_ne, cpD_in]; exact c.1
    · simp (disch := omega) only [cL, cF_ne, cpD_ne, cpD_in]; exact c.2.1
    · simp (disch := omega) only [cL, cF_ne, cpD_ne, cpD_in]; exact c.2.2.1
    · simp (disch := omega) only [cL, cF_ne, cpD_ne, cpD_in]; exact c.2.2.2 i i0 i1
end PY0
