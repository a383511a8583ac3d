/-! LENGTHS, ends, spaces: both -/
section PQ0
variable {n : Int} {D : mD}
/-- ranges that a proof by numbers reads -/
abbrev WrA (n : Int) (w : Int → Int) : Prop := 0 ≤ w 0 ∧ w 0 ≤ 12 ∧ 0 ≤ w 1 ∧ w 1 ≤ 14 ∧ 10 ≤ w 2 ∧ w 2 ≤ 120 ∧ 0 ≤ w 3 ∧ w 3 ≤ 9 ∧ 1 ≤ w 4 ∧ w 4 ≤ 99 ∧ 0 ≤ w 5 ∧ w 5 ≤ 9 ∧ 1 ≤ w 6 ∧ w 6 ≤ 99 ∧ 0 ≤ w 7 ∧ w 7 ≤ 6 ∧ 0 ≤ w 8 ∧ w 8 ≤ 8 ∧ 0 ≤ w 9 ∧ w 9 ≤ 12 ∧ 0 ≤ w 10 ∧ w 10 ≤ 1 ∧ 0 ≤ w 11 ∧ w 11 ≤ n ∧ -1 ≤ w 12 ∧ w 12 < 14 ∧ 0 ≤ w 13 ∧ w 13 ≤ 60 ∧ nR (w 14)
theorem Wi.ra {w : Int → Int} (H : Wi n w) : WrA n w := H.r
abbrev LtA (n : Int) (w : Int → Int) (l : Int) : Prop := 0 ≤ wL w l 0 ∧ wL w l 0 < w 0 ∧ 0 ≤ wL w l 1 ∧ wL w l 1 ≤ 3 ∧ wL w l 1 < wS w (wL w l 0) 1 ∧ -1 ≤ wL w l 2 ∧ wL w l 2 ≤ n ∧ 0 ≤ wL w l 3 ∧ wL w l 3 ≤ 30
theorem Wi.lta {w : Int → Int} (H : Wi n w) {l : Int} (h0 : 0 ≤ l) (h1 : l < w 1) : LtA n w l := H.lt h0 h1
/-- where a letter begins -/
def wBeg (w : Int → Int) (l : Int) : Int := w 3 + sumF (fun k => wWid w k + wL w k 3) 0 l.toNat
def wEnd (w : Int → Int) : Int := if w 1 = 0 then w 3 else wBeg w (w 1 - 1) + wWid w (w 1 - 1)
theorem wBeg_r {w : Int → Int} (H : Wi n w) {l : Int} (h0 : 0 ≤ l) (h1 : l < w 1) : 0 ≤ wBeg w l ∧ wBeg w l ≤ 9 + 42 * l := by
  have hr := H.ra
  have h := sumF_bounds (f := fun k => wWid w k + wL w k 3) (lo := 0) (hi := 42) l.toNat 0 (fun k a b => by
    have h1 := wWid_r H (l := k) a (by omega)
    have h2 := H.lta (l := k) a (by omega)
    omega)
  unfold wBeg
  omega
theorem wEnd_r {w : Int → Int} (H : Wi n w) : 0 ≤ wEnd w ∧ wEnd w ≤ 567 := by
  have hr := H.ra
  unfold wEnd
  by_cases q : w 1 = 0
  · rw [if_pos q]; omega
  · rw [if_neg q]
    have h1 := wBeg_r H (l := w 1 - 1) (by omega) (by omega)
    have h2 := wWid_r H (l := w 1 - 1) (by omega) (by omega)
    omega
theorem r_beginOf_L (H : Wi n (D 134)) {l : Int} (h0 : 0 ≤ l) (h1 : l < D 134 1) : ∀ (m fuel : Nat) (k s : Int), m < fuel → 0 ≤ k → k + m = l →
    F_X12_beginOf_L9 l fuel s k D = some (s + sumF (fun k => wWid (D 134) k + wL (D 134) k 3) k m, D) := by
  have hr := H.ra
  intro m
  induction m with
  | zero =>
    intro fuel k s hf hk hm
    obtain ⟨j, rfl⟩ : ∃ j, fuel = j + 1 := ⟨fuel - 1, by omega⟩
    simp (disch := omega) only [F_X12_beginOf_L9, ck_p, if_pos, sumF, Int.add_zero]
  | succ m ih =>
    intro fuel k s hf hk hm
    obtain ⟨j, rfl⟩ : ∃ j, fuel = j + 1 := ⟨fuel - 1, by omega⟩
    simp (disch := omega) only [F_X12_beginOf_L9, ck_p, if_neg, e_widthOf H, e_distance, bI_s, ih, sumF, Int.add_assoc]
end PQ0
