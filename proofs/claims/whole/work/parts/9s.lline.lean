/-! LAW's text: a line -/
section PXf
variable {n : Int} {B f g w : Int → Int} {L p q b s S d x : Int} {C D E F R : mD} {st st' : List Bool} {fc fr : RI}
theorem k_GA (hB : CB B L) (rt : RT B L R) : ∀ (k : Nat) (d : Int), d + k = 7 → 1 ≤ k → 0 ≤ d → ∀ (E : mD) (f : Int → Int) (S p b : Int) (st' : List Bool), CT B L p E → CR8 E f S → 0 ≤ p → p ≤ L → S < p → (st'.length : Int) ≤ 2 * d + 2 →
    LK B L st' (true :: st') p S d E f R (GA3 (k + 1) d E) (GA12 (k + 1) (stR (rS R S d) p b f)) := by
  intro k
  induction k with
  | zero => intro d h1 h2; omega
  | succ k ih =>
    intro d h1 h2 d0 E f S p b st' c c8 p0 p1 hS hl
    rw [GA3, GA12]
    refine k_atom hB rt d0 (by omega) (fun hd E f S p b st' c c8 p0 p1 hS hl => ?_) (fun hd E f S p b st' c c8 p0 p1 hS hl => ?_) hl p0 p1 hS c c8 b
    · exact ih (d + 1) (by omega) (by omega) (by omega) E f S p b st' c c8 p0 p1 hS (by omega)
    · refine k_cond hB rt (fun E f S p b st'' c c8 p0 p1 hS hl2 => ?_) (by omega) p0 p1 hS c c8 b
      exact ih (d + 1) (by omega) (by omega) (by omega) E f S p b st'' c c8 p0 p1 hS (by omega)
theorem k_G (hB : CB B L) (rt : RT B L R) (c : CT B L p E) (c8 : CR8 E f S) (p0 : 0 ≤ p) (p1 : p ≤ L) (hS : S < p) (b : Int) : LK B L [] [true] p S 0 E f R (G_X3_readsCondition 0 E) (G_X12_readCond (stR (rS R S 0) p b f)) := by
  rw [G_X3_readsCondition, G_X12_readCond]
  exact k_cond hB rt (fun E f S p b st' c c8 p0 p1 hS hl => k_GA hB rt 7 0 (by omega) (by omega) (by omega) E f S p b st' c c8 p0 p1 hS (by simp only [List.length_nil] at hl; omega)) (by decide) p0 p1 hS c c8 b
/-- a line of the draft -/
def LnOk (f : Int → Int) (k : Int) : Prop := ((f (1325 + 4 * k) = 0 ∧ f (1325 + 4 * k + 1) ≤ 9) ∨ f (1325 + 4 * k) = 1) ∧ 0 ≤ f (1325 + 4 * k + 1) ∧ f (1325 + 4 * k + 1) ≤ 99 ∧ 0 ≤ f (1325 + 4 * k + 2) ∧ f (1325 + 4 * k + 2) ≤ f (1325 + 4 * k + 3) ∧ f (1325 + 4 * k + 3) ≤ 400 ∧
  f (1325 + 4 * k + 2) = (if k = 0 then 0 else f (1325 + 4 * (k - 1) + 3)) ∧ (f (1325 + 4 * k + 2) = f (1325 + 4 * k + 3) ∨ tyRun f 1373 (f (1325 + 4 * k + 2)) (f (1325 + 4 * k + 3) - f (1325 + 4 * k + 2)).toNat [] = some [true])
/-- x lines of the draft, both ends -/
def DL (E : mD) (f : Int → Int) (S x : Int) : Prop := E 104 0 = x ∧ CR8 E f S ∧ S = (if x = 0 then 0 else f (1325 + 4 * (x - 1) + 3)) ∧ ∀ k, 0 ≤ k → k < x → LnOk f k ∧ f (1325 + 4 * k + 3) ≤ S ∧ E 105 k = f (1325 + 4 * k) ∧ E 106 k = f (1325 + 4 * k + 1) ∧ E 107 k = f (1325 + 4 * k + 3)
def FrD (E E' : mD) : Prop := ∀ a : Nat, a ≠ 1 → ¬ (104 ≤ a ∧ a ≤ 108) → E' a = E a
theorem FrL.far (h : FrL E F) : FrD E F := fun a h1 h2 => h.1 a h1 (by omega) (by omega)
theorem FrD.tr (h : FrD C E) (k : FrD E F) : FrD C F := fun a h1 h2 => (k a h1 h2).trans (h a h1 h2)
theorem FrD.rf : FrD E E := fun _ _ _ => rfl
def LLn (B : Int → Int) (L S x : Int) (E : mD) (f : Int → Int) (R : mD) (fc fr : RI) : Prop :=
  ∃ v E' q b' f' S' d', fc = some (v, E') ∧ fr = some (v, stR (rS R S' d') q b' f') ∧ FrD E E' ∧ (∀ i, i < 1325 → f' i = f i) ∧
    ((v = 0 ∧ E' 1 3 = b') ∨ (v = 1 ∧ 0 ≤ q ∧ q ≤ L ∧ S' ≤ q ∧ CT B L q E' ∧ DL E' f' S' (x + 1)))
/-- a line is set down -/
theorem k_end {kind num : Int} (hx : 0 ≤ x ∧ x < 12) (dl : DL E f S x) (F : mD) (hF : FrL E F) (g : Int → Int) (hg : ∀ i, i < 1373 + 2 * S → i ≠ 1325 + 4 * x → i ≠ 1325 + 4 * x + 1 → i ≠ 1325 + 4 * x + 2 → g i = f i) (g0 : g (1325 + 4 * x) = kind) (g1 : g (1325 + 4 * x + 1) = num) (g2 : g (1325 + 4 * x + 2) = S)
    (hk : (kind = 0 ∧ num ≤ 9) ∨ kind = 1) (hn : 0 ≤ num ∧ num ≤ 99) {S' : Int} (hS : S ≤ S' ∧ S' ≤ 400) (c8 : CR8 F g S') (ty : S = S' ∨ tyRun g 1373 S (S' - S).toNat [] = some [true]) :
    ∃ F', F_X2_endLine 104 kind num F = some (0, F') ∧ FrD F F' ∧ (∀ a : Nat, a = 1 ∨ a = 2 → F' a = F a) ∧ DL F' (sI g (1325 + 4 * x + 3) S') S' (x + 1) := by
  obtain ⟨d1, d2, d3, d4⟩ := dl
  obtain ⟨e1, e2, e3⟩ := c8
  have F0 : F 104 0 = x := (hF.2 0 (by decide)).trans d1
  have S0 := d2.2.1
  have q0 : (pD F 105 x kind) 104 0 = x := by rw [pD_ne (by decide)]; exact F0
  have q1 : (pD (pD F 105 x kind) 106 x num) 104 0 = x := by rw [pD_ne (by decide)]; exact q0
  have q5 : (pD (pD F 105 x kind) 106 x num) 104 5 = S' := by rw [pD_ne (by decide), pD_ne (by decide)]; exact e1
  have q2 : (pD (pD (pD F 105 x kind) 106 x num) 107 x S') 104 0 = x := by rw [pD_ne (by decide)]; exact q1
  have gn : ∀ i, i ≠ 1325 + 4 * x + 3 → sI g (1325 + 4 * x + 3) S' i = g i := fun i h => sI_ne h
  have gf : ∀ k j, 0 ≤ k → k < x → 0 ≤ j → j < 4 → sI g (1325 + 4 * x + 3) S' (1325 + 4 * k + j) = f (1325 + 4 * k + j) := fun k j k0 k1 j0 j1 => by rw [gn _ (by omega), hg _ (by omega) (by omega) (by omega) (by omega)]
  have gf0 : ∀ k, 0 ≤ k → k < x → sI g (1325 + 4 * x + 3) S' (1325 + 4 * k) = f (1325 + 4 * k) := fun k k0 k1 => by rw [gn _ (by omega), hg _ (by omega) (by omega) (by omega) (by omega)]
  refine ⟨pD (pD (pD (pD F 105 x kind) 106 x num) 107 x S') 104 0 (x + 1), ?_, fun a h1 h2 => ?_, fun a ha => ?_, ?_, ⟨?_, e2, fun i i0 i1 => ?_⟩, ?_, fun k k0 k1 => ?_⟩
  · rw [F_X2_endLine, F0, ck_p (by omega), if_neg (by omega), ck_p (by omega)]
    simp only [show (104 : Nat) + 1 = 105 from rfl, show (104 : Nat) + 2 = 106 from rfl, show (104 : Nat) + 3 = 107 from rfl, q0, q1, q5, q2]
    rw [ck_p (by omega), ck_p (by omega)]
  · rw [pD_ne (by omega), pD_ne (by omega), pD_ne (by omega), pD_ne (by omega)]
  · rw [pD_ne (by omega), pD_ne (by omega), pD_ne (by omega), pD_ne (by omega)]
  · rw [pD_eq]
  · rw [pD_nj (by decide), pD_ne (by decide), pD_ne (by decide), pD_ne (by decide)]; exact e1
  · rw [pD_ne (by decide), pD_ne (by decide), pD_ne (by decide), pD_ne (by decide), e3 i i0 i1, gn _ (by omega), gn _ (by omega)]
  · rw [if_neg (by omega), show x + 1 - 1 = x by omega, sI_eq]
  · have e105 : (pD (pD (pD (pD F 105 x kind) 106 x num) 107 x S') 104 0 (x + 1)) 105 k = if k = x then kind else F 105 k := by rw [pD_ne (by decide), pD_ne (by decide), pD_ne (by decide), pD_at]
    have e106 : (pD (pD (pD (pD F 105 x kind) 106 x num) 107 x S') 104 0 (x + 1)) 106 k = if k = x then num else F 106 k := by rw [pD_ne (by decide), pD_ne (by decide), pD_at, pD_ne (by decide)]
    have e107 : (pD (pD (pD (pD F 105 x kind) 106 x num) 107 x S') 104 0 (x + 1)) 107 k = if k = x then S' else F 107 k := by rw [pD_ne (by decide), pD_at, pD_ne (by decide), pD_ne (by decide)]
    rw [e105, e106, e107]
    by_cases y : k = x
    · subst y
      have z0 := gn (1325 + 4 * k) (by omega)
      have z1 := gn (1325 + 4 * k + 1) (by omega)
      have z2 := gn (1325 + 4 * k + 2) (by omega)
      rw [if_pos rfl, if_pos rfl, if_pos rfl, sI_eq, z0, z1, g0, g1]
      refine ⟨?_, by omega, rfl, rfl, rfl⟩
      unfold LnOk
      rw [sI_eq, z0, z1, z2, g0, g1, g2]
      refine ⟨hk, hn.1, hn.2, by omega, hS.1, hS.2, ?_, ?_⟩
      · rw [d3]
        by_cases u : k = 0
        · rw [if_pos u, if_pos u]
        · rw [if_neg u, if_neg u]
          rw [show 1325 + 4 * (k - 1) + 3 = 1325 + 4 * (k - 1) + 3 from rfl, gf (k - 1) 3 (by omega) (by omega) (by omega) (by omega)]
      · rcases ty with ty | ty
        · exact Or.inl ty
        · refine Or.inr ?_
          rw [← ty]
          exact tyRun_eqn _ _ _ (fun i i0 _ => gn i (by omega))
    · have dk := d4 k k0 (by omega)
      have z := gf k
      have z1 := z 1 k0 (by omega) (by omega) (by omega)
      have z2 := z 2 k0 (by omega) (by omega) (by omega)
      have z3 := z 3 k0 (by omega) (by omega) (by omega)
      have z0 := gf0 k k0 (by omega)
      rw [if_neg y, if_neg y, if_neg y, z0, z1, z3]
      refine ⟨?_, by omega, ?_, ?_, ?_⟩
      · have o := dk.1
        unfold LnOk at o ⊢
        rw [z0, z1, z2, z3]
        refine ⟨o.1, o.2.1, o.2.2.1, o.2.2.2.1, o.2.2.2.2.1, o.2.2.2.2.2.1, ?_, ?_⟩
        · by_cases u : k = 0
          · rw [if_pos u]
            have := o.2.2.2.2.2.2.1
            rw [if_pos u] at this; exact this
          · rw [if_neg u, gf (k - 1) 3 (by omega) (by omega) (by omega) (by omega)]
            have := o.2.2.2.2.2.2.1
            rw [if_neg u] at this; exact this
        · rcases o.2.2.2.2.2.2.2 with o | o
          · exact Or.inl o
          · refine Or.inr ?_
            rw [← o]
            exact tyRun_eqn _ _ _ (fun i i0 i1 => by rw [gn i (by omega), hg i (by omega) (by omega) (by omega) (by omega)])
      · rw [hF.1 105 (by decide) (by decide) (by decide)]; exact dk.2.2.1
      · rw [hF.1 106 (by decide) (by decide) (by decide)]; exact dk.2.2.2.1
      · rw [hF.1 107 (by decide) (by decide) (by decide)]; exact dk.2.2.2.2
end PXf
