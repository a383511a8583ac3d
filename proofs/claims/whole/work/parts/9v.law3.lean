/-! THE LAW's text: what hangs on the world's first 1324 places alone -/
section PXi
variable {n : Int} {w w' f g : Int → Int} {C D E F R : mD}
theorem evRun_eqn {b : Int} {f : Int → Int → Int} : ∀ (m : Nat) (i : Int) (st : List Int), (∀ k, b + 2 * i ≤ k → k < b + 2 * (i + m) → w' k = w k) → evRun w' b f i m st = evRun w b f i m st := by
  intro m
  induction m with
  | zero => intro i st _; rfl
  | succ m ih =>
    intro i st h
    rw [evRun, evRun, h (b + 2 * i) (by omega) (by omega), h (b + 2 * i + 1) (by omega) (by omega)]
    exact ih _ _ (fun k k0 k1 => h k (by omega) (by omega))
theorem evSum_eqn (e : EqN w w') (h : LawOk w 475) {kind : Int} (f : Int → Int → Int) : evSum w' 475 kind f = evSum w 475 kind f := by
  have h1 := h.2.1
  unfold evSum
  rw [e 475 (by omega) (by omega)]
  refine sumF_congr _ _ (fun k k0 k1 => ?_)
  have hk := h.2.2 k k0 (by have := h.1; omega)
  have e1 : evLine w' 475 f k = evLine w 475 f k := by
    unfold evLine
    rw [e (475 + 1 + 4 * k + 2) (by omega) (by omega), e (475 + 1 + 4 * k + 3) (by omega) (by omega), evRun_eqn _ _ _ (fun j j0 j1 => e j (by omega) (by omega))]
  rw [e1, e (475 + 1 + 4 * k) (by omega) (by omega), e (475 + 1 + 4 * k + 1) (by omega) (by omega)]
theorem wI_eqn (H : Wi n w) (e : EqN w w') {l k : Int} (l0 : 0 ≤ l) (l1 : l < w 1) (k0 : 0 ≤ k) (k1 : k < 12) : wI w' l k = wI w l k := by
  have hr := H.ra
  have hl := H.lta l0 l1
  have e1 : wL w' l 0 = wL w l 0 := e _ (by omega) (by omega)
  unfold wI
  rw [e1]
  exact e _ (by omega) (by omega)
theorem wWhite_eqn (H : Wi n w) (e : EqN w w') {g d : Int} (hg : 0 ≤ g ∧ g + 1 < w 1) : wWhite w' g d = wWhite w g d := by
  have hr := H.ra
  unfold wWhite
  refine sumF_congr _ _ (fun r r0 r1 => ?_)
  have a1 := wI_eqn H e (l := g) (k := 7 + r) (by omega) (by omega) (by omega) (by omega)
  have a2 := wI_eqn H e (l := g + 1) (k := 2 + r) (by omega) (by omega) (by omega) (by omega)
  have a3 := wI_eqn H e (l := g) (k := 0) (by omega) (by omega) (by omega) (by omega)
  have a4 := wI_eqn H e (l := g + 1) (k := 0) (by omega) (by omega) (by omega) (by omega)
  have s1 : wSpace w' (w' 5) g d r = wSpace w (w 5) g d r := by
    unfold wSpace
    rw [e 4 (by omega) (by omega), e 5 (by omega) (by omega), a1, a2]
  have s2 : wWeight w' g d r = wWeight w g d r := by
    unfold wWeight
    rw [e 10 (by omega) (by omega)]
    by_cases z : w 10 = 0
    · rw [if_pos z, if_pos z]
    · rw [if_neg z, if_neg z, evSum_eqn e (H.law (by omega))]
      congr 1
      funext s x
      unfold fctW
      rw [a1, a2, a3, a4]
  rw [s1, s2]
theorem Hist.eqn (h : Hist n D) (hc : ∀ a : Nat, 31 ≤ a → a ≤ 92 → F a = D a) (e : EqN (D 134) (F 134)) (h8 : F 138 = D 138) (h7 : F 133 7 = D 133 7) : Hist n F := by
  obtain ⟨a, b, c, d, d2, f⟩ := h
  have e31 : F 31 = D 31 := hc 31 (by omega) (by omega)
  unfold Hist
  rw [e31, h7]
  refine ⟨a, b, c, d, d2, fun j j0 j1 => ?_⟩
  obtain ⟨g1, g2, g3⟩ := f j j0 j1
  have et : hT F j = hT D j := by unfold hT; rw [e31]
  have r := hT_r D j
  have ea : EqN (actW D (D 133 7) j) (actW F (D 133 7) j) := fun i i0 i1 => by
    unfold actW
    by_cases y : 0 ≤ i ∧ i < 475
    · rw [if_pos y, if_pos y, h8]
    · rw [if_neg y, if_neg y]; exact e i i0 i1
  rw [et]
  refine ⟨fun i hi => ?_, g2.eqn ea, (g3.eqn g2 ea).at (fun a b0 b1 => hc a (by omega) (by omega))⟩
  by_cases y : 0 ≤ i ∧ i < 475
  · have := g1 i hi
    rw [e i (by omega) (by omega), ea i (by omega) (by omega), this]
  · unfold actW; rw [if_neg y]
/-- a law that is not taken leaves all -/
theorem INV.text2 (I : INV n D) (h : ∀ a : Nat, a ≠ 0 → a ≠ 1 → ¬ (93 ≤ a ∧ a ≤ 108) → a ≠ 133 → a ≠ 134 → a ≠ 136 → F a = D a) (e : EqN (D 134) (F 134)) (h93 : F 93 1 = D 93 1 ∧ F 103 1 = D 103 1) (h0 : F 0 14 = D 0 14) (h1 : F 1 1 = 0) (h15 : F 0 15 = F 133 14) (h3 : F 133 6 = D 133 6 ∧ F 133 7 = D 133 7 ∧ F 133 9 = 0) : INV (n + 1) F := by
  obtain ⟨R, hi, im, t, fx⟩ := I
  obtain ⟨t1, t2, t3, t4⟩ := t
  obtain ⟨c1, c2, c3, c4, c5⟩ := R
  refine INV.mono (n := n) ⟨⟨?_, ?_, ?_, ?_, ?_⟩, ?_, ?_, ⟨?_, ?_, ?_, fun j j0 j1 => ?_⟩, ?_, ?_⟩ (by omega)
  · exact c1.eqn e
  · exact ShopR.eqn c1 e (c2.keep (fun a _ _ => h a (by omega) (by omega) (by omega) (by omega) (by omega) (by omega)))
  · exact LawR.eqn c1 e (c3.keep (fun a _ _ => h a (by omega) (by omega) (by omega) (by omega) (by omega) (by omega)))
  · exact WorkR.eqn c1 e (c4.at (fun a _ _ => h a (by omega) (by omega) (by omega) (by omega) (by omega) (by omega)))
  · unfold Ca at c5 ⊢
    intro g d g0 g1 d0 d1
    rw [e 1 (by omega) (by omega)] at g1
    rw [h 25 (by decide) (by decide) (by decide) (by decide) (by decide) (by decide), wWhite_eqn c1 e ⟨g0, g1⟩]
    exact c5 g d g0 g1 d0 d1
  · exact hi.eqn (fun a _ _ => h a (by omega) (by omega) (by omega) (by omega) (by omega) (by omega)) e (h 138 (by decide) (by decide) (by decide) (by decide) (by decide) (by decide)) h3.2.1
  · exact im.go (fun a _ _ => h a (by omega) (by omega) (by omega) (by omega) (by omega) (by omega)) h0 (h 135 (by decide) (by decide) (by decide) (by decide) (by decide) (by decide)) h3.1
  · rw [h1, h3.2.2]
  · rw [h3.2.2]; omega
  · rw [h3.2.2]; omega
  · rw [h 139 (by decide) (by decide) (by decide) (by decide) (by decide) (by decide), h 2 (by decide) (by decide) (by decide) (by decide) (by decide) (by decide)]; exact t4 j j0 j1
  · exact h15
  · unfold Fx
    rw [h93.1, h93.2]
    exact fx.2
/-- a new law in an old world -/
theorem Wi.newLaw (H : Wi n w) (e : ∀ i, i < 475 → i ≠ 10 → g i = w i) (h10 : g 10 = 1) (hL : LawOk g 475) : Wi n g := by
  have hr := H.ra
  have eS : ∀ s k, 0 ≤ s → s < 12 → 0 ≤ k → k < 12 → wS g s k = wS w s k := fun s k h1 h2 h3 h4 => e _ (by omega) (by omega)
  have eL : ∀ l k, 0 ≤ l → l < 14 → 0 ≤ k → k < 4 → wL g l k = wL w l k := fun l k h1 h2 h3 h4 => e _ (by omega) (by omega)
  have e0 := e 0 (by omega) (by omega)
  have e1 := e 1 (by omega) (by omega)
  have e7 := e 7 (by omega) (by omega)
  have e8 := e 8 (by omega) (by omega)
  have e12 := e 12 (by omega) (by omega)
  have e13 := e 13 (by omega) (by omega)
  refine ⟨?_, fun s s0 s1 => ?_, fun l l0 l1 => ?_, fun j h0 h1 => ?_, fun j h0 h1 => ?_, fun j h0 h1 => ?_, fun h0 => ?_, fun _ => hL⟩
  · have e2 := e 2 (by omega) (by omega)
    have e3 := e 3 (by omega) (by omega)
    have e4 := e 4 (by omega) (by omega)
    have e5 := e 5 (by omega) (by omega)
    have e6 := e 6 (by omega) (by omega)
    have e9 := e 9 (by omega) (by omega)
    have e11 := e 11 (by omega) (by omega)
    have e14 := e 14 (by omega) (by omega)
    unfold Wr
    omega
  · have hs := H.sg s0 (by omega)
    unfold SgOk at hs ⊢
    rw [eS s 0 s0 (by omega) (by omega) (by omega), eS s 1 s0 (by omega) (by omega) (by omega)]
    refine ⟨hs.1, hs.2.1, hs.2.2.1, hs.2.2.2.1, fun r r0 r1 => ?_⟩
    rw [eS s (2 + r) s0 (by omega) (by omega) (by omega), eS s (7 + r) s0 (by omega) (by omega) (by omega)]
    exact hs.2.2.2.2 r r0 r1
  · have a := H.lta l0 (by omega)
    unfold LtOk
    rw [eL l 0 l0 (by omega) (by omega) (by omega), eL l 1 l0 (by omega) (by omega) (by omega), eL l 2 l0 (by omega) (by omega) (by omega), eL l 3 l0 (by omega) (by omega) (by omega), eS (wL w l 0) 1 (by omega) (by omega) (by omega) (by omega), e0]
    exact a
  · rw [e (215 + 2 * j) (by omega) (by omega), e (215 + 2 * j + 1) (by omega) (by omega)]; exact H.wt h0 (by omega)
  · rw [e (227 + j) (by omega) (by omega)]; exact H.lk h0 (by omega)
  · rw [e (235 + 4 * j) (by omega) (by omega), e (235 + 4 * j + 1) (by omega) (by omega), e (235 + 4 * j + 2) (by omega) (by omega), e (235 + 4 * j + 3) (by omega) (by omega)]; exact H.lg h0 (by omega)
  · rw [e12] at h0 ⊢
    rw [e1, eL (w 12) 2 h0 (by omega) (by omega) (by omega)]
    exact H.wet h0
theorem ShopR.lo {t : Nat} (H : Wi n w) (e : ∀ i, i < 475 → i ≠ 10 → g i = w i) (h : ShopR t w D) : ShopR t g D := by
  have hr := H.ra
  obtain ⟨a1, a2, a3, a4, a5, a6, a7, a8, a9, b1, b2, b3, b4⟩ := h
  have eS : ∀ s k, 0 ≤ s → s < 12 → 0 ≤ k → k < 12 → wS g s k = wS w s k := fun s k h1 h2 h3 h4 => e _ (by omega) (by omega)
  have eL : ∀ l k, 0 ≤ l → l < 14 → 0 ≤ k → k < 4 → wL g l k = wL w l k := fun l k h1 h2 h3 h4 => e _ (by omega) (by omega)
  unfold ShopR
  rw [e 0 (by omega) (by omega), e 1 (by omega) (by omega), e 2 (by omega) (by omega), e 3 (by omega) (by omega), e 4 (by omega) (by omega), e 6 (by omega) (by omega), e 7 (by omega) (by omega), e 8 (by omega) (by omega), e 9 (by omega) (by omega)]
  refine ⟨a1, a2, a3, a4, a5, a6, a7, a8, a9, fun s s0 s1 => ?_, fun l l0 l1 => ?_, fun j j0 j1 => ?_, fun j j0 j1 => ?_⟩
  · rw [eS s 0 s0 (by omega) (by omega) (by omega), eS s 1 s0 (by omega) (by omega) (by omega)]
    refine ⟨(b1 s s0 s1).1, (b1 s s0 s1).2.1, fun r r0 r1 => ?_⟩
    rw [eS s (2 + r) s0 (by omega) (by omega) (by omega), eS s (7 + r) s0 (by omega) (by omega) (by omega)]
    exact (b1 s s0 s1).2.2 r r0 r1
  · rw [eL l 0 l0 (by omega) (by omega) (by omega)]; exact b2 l l0 l1
  · rw [e (215 + 2 * j) (by omega) (by omega), e (215 + 2 * j + 1) (by omega) (by omega)]; exact b3 j j0 j1
  · rw [e (227 + j) (by omega) (by omega)]; exact b4 j j0 j1
theorem tyRun_shift {b b' : Int} : ∀ (m : Nat) (i : Int) (st : List Bool), (∀ k, 2 * i ≤ k → k < 2 * (i + m) → w' (b' + k) = w (b + k)) → tyRun w' b' i m st = tyRun w b i m st := by
  intro m
  induction m with
  | zero => intro i st _; rfl
  | succ m ih =>
    intro i st h
    rw [tyRun, tyRun, h (2 * i) (by omega) (by omega), Int.add_assoc, Int.add_assoc, h (2 * i + 1) (by omega) (by omega)]
    cases tyStep (w (b + 2 * i)) (w (b + (2 * i + 1))) st with
    | none => rfl
    | some st1 =>
      dsimp only
      by_cases y : st1.length ≤ 20
      · rw [if_pos y, if_pos y]; exact ih _ _ (fun k k0 k1 => h k (by omega) (by omega))
      · rw [if_neg y, if_neg y]
/-- the draft, taken -/
theorem draft_law {S x : Int} (hx : 0 ≤ x ∧ x ≤ 12) (dl : DL E f S x) (e : ∀ j, 1 ≤ j → j < 849 → g (475 + j) = f (1324 + j)) (g0 : g 475 = x) (g10 : g 10 = 1) : LawOk g 475 ∧ LawR 104 g E := by
  obtain ⟨d1, ⟨d2, d3, d4⟩, d5, d6⟩ := dl
  have el : ∀ k c, 0 ≤ k → k < x → 0 ≤ c → c < 4 → g (475 + 1 + 4 * k + c) = f (1325 + 4 * k + c) := fun k c k0 k1 c0 c1 => by
    have := e (1 + 4 * k + c) (by omega) (by omega)
    rw [show 475 + 1 + 4 * k + c = 475 + (1 + 4 * k + c) by omega, this]
    exact congrArg f (by omega)
  have el0 : ∀ k, 0 ≤ k → k < x → g (475 + 1 + 4 * k) = f (1325 + 4 * k) := fun k k0 k1 => by
    have := el k 0 k0 k1 (by omega) (by omega)
    rw [Int.add_zero, Int.add_zero] at this
    exact this
  refine ⟨⟨by omega, by omega, fun k k0 k1 => ?_⟩, by rw [if_pos g10, d1, g0], fun _ k k0 k1 => ?_⟩
  · rw [g0] at k1
    obtain ⟨o1, o2, o3, o4, o5, o6, o7, o8⟩ := (d6 k k0 k1).1
    rw [el0 k k0 k1, el k 1 k0 k1 (by omega) (by omega), el k 2 k0 k1 (by omega) (by omega), el k 3 k0 k1 (by omega) (by omega)]
    refine ⟨o1, o2, o3, o4, o5, o6, ?_, ?_⟩
    · rw [o7]
      by_cases z : k = 0
      · rw [if_pos z, if_pos z]
      · rw [if_neg z, if_neg z, el (k - 1) 3 (by omega) (by omega) (by omega) (by omega)]
    · rcases o8 with o | o
      · exact Or.inl o
      · refine Or.inr ?_
        rw [← o]
        exact tyRun_shift _ _ _ (fun c c0 c1 => by
          have := e (49 + c) (by omega) (by omega)
          rw [show 475 + 49 + c = 475 + (49 + c) by omega, this]
          exact congrArg f (by omega))
  · rw [g0] at k1
    have dk := d6 k k0 k1
    have o := dk.1
    unfold LnOk at o
    have q0 := el0 k k0 k1
    have q1 := el k 1 k0 k1 (by omega) (by omega)
    have q2 := el k 2 k0 k1 (by omega) (by omega)
    have q3 := el k 3 k0 k1 (by omega) (by omega)
    rw [show 475 + 1 + 4 * k = 476 + 4 * k by omega] at q0 q1 q2 q3
    rw [q0, q1, q2, q3]
    refine ⟨dk.2.2.1, dk.2.2.2.1, dk.2.2.2.2, fun i i0 i1 => ?_⟩
    have c0 := e (49 + 2 * i) (by omega) (by omega)
    have c1 := e (49 + 2 * i + 1) (by omega) (by omega)
    rw [show 475 + (49 + 2 * i) = 524 + 2 * i by omega, show 1324 + (49 + 2 * i) = 1373 + 2 * i by omega] at c0
    rw [show 475 + (49 + 2 * i + 1) = 524 + 2 * i + 1 by omega, show 1324 + (49 + 2 * i + 1) = 1373 + 2 * i + 1 by omega] at c1
    rw [c0, c1]
    exact d4 i (by omega) (by omega)
end PXi
