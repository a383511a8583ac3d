/-! THE SHOP's text, taken -/
section PWb
variable {n : Int} {B W0 f f0 g w : Int → Int} {L p q b s : Int} {C D E F R : mD}
theorem Wi.nine (H : Wi n f) {v : Int} (h : 0 ≤ v ∧ v ≤ 12) : Wi n (sI f 9 v) := by
  have hr := H.ra
  have e : ∀ i, i ≠ 9 → sI f 9 v i = f i := fun i hi => sI_ne hi
  have eL : ∀ l k, 0 ≤ l → 0 ≤ k → wL (sI f 9 v) l k = wL f l k := fun l k h1 h2 => e _ (by omega)
  have eS : ∀ s k, 0 ≤ s → 0 ≤ k → wS (sI f 9 v) s k = wS f s k := fun s k h1 h2 => e _ (by omega)
  have e0 := e 0 (by omega)
  have e1 := e 1 (by omega)
  have e7 := e 7 (by omega)
  have e8 := e 8 (by omega)
  have e12 := e 12 (by omega)
  have e13 := e 13 (by omega)
  refine ⟨?_, fun s h0 h1 => ?_, fun l h0 h1 => ?_, fun j' h0 h1 => ?_, fun j' h0 h1 => ?_, fun j' h0 h1 => ?_, fun h0 => ?_, fun h10 => ?_⟩
  · have e2 := e 2 (by omega)
    have e3 := e 3 (by omega)
    have e4 := e 4 (by omega)
    have e5 := e 5 (by omega)
    have e6 := e 6 (by omega)
    have e10 := e 10 (by omega)
    have e11 := e 11 (by omega)
    have e14 := e 14 (by omega)
    have e9 := sI_eq f 9 v
    unfold Wr
    omega
  · have hs := H.sg h0 (by omega)
    unfold SgOk at hs ⊢
    rw [eS s 0 h0 (by omega), eS s 1 h0 (by omega)]
    refine ⟨hs.1, hs.2.1, hs.2.2.1, hs.2.2.2.1, fun r r0 r1 => ?_⟩
    rw [eS s (2 + r) h0 (by omega), eS s (7 + r) h0 (by omega)]
    exact hs.2.2.2.2 r r0 r1
  · have a := H.lta h0 (by omega)
    unfold LtOk
    rw [eL l 0 h0 (by omega), eL l 1 h0 (by omega), eL l 2 h0 (by omega), eL l 3 h0 (by omega), eS (wL f l 0) 1 (by omega) (by omega), e0]
    exact a
  · rw [e (215 + 2 * j') (by omega), e (215 + 2 * j' + 1) (by omega)]; exact H.wt h0 (by omega)
  · rw [e (227 + j') (by omega)]; exact H.lk h0 (by omega)
  · rw [e (235 + 4 * j') (by omega), e (235 + 4 * j' + 1) (by omega), e (235 + 4 * j' + 2) (by omega), e (235 + 4 * j' + 3) (by omega)]; exact H.lg h0 (by omega)
  · rw [e12] at h0 ⊢
    rw [e1, eL (f 12) 2 h0 (by omega)]
    exact H.wet h0
  · rw [e 10 (by omega)] at h10
    exact LawOk_same (fun i hi => e i (by omega)) (H.law h10)
theorem LawR.hi {t : Nat} (H : Wi n w) (e10 : g 10 = w 10) (e : ∀ i, 475 ≤ i → g i = w i) (h : LawR t w D) : LawR t g D := by
  have hr := H.ra
  obtain ⟨a, b⟩ := h
  unfold LawR
  rw [e10, e 475 (by omega)]
  refine ⟨a, fun h10 k k0 k1 => ?_⟩
  have hk := (H.law h10).2.2 k k0 k1
  have c := b h10 k k0 k1
  rw [e (476 + 4 * k) (by omega), e (476 + 4 * k + 1) (by omega), e (476 + 4 * k + 2) (by omega), e (476 + 4 * k + 3) (by omega)]
  refine ⟨c.1, c.2.1, c.2.2.1, fun i i0 i1 => ?_⟩
  have h4 := hk.2.2.2.1
  rw [e475] at h4
  rw [e (524 + 2 * i) (by omega), e (524 + 2 * i + 1) (by omega)]
  exact c.2.2.2 i i0 i1
theorem WorkR.part {t : Nat} (h1 : w 1 ≤ 14) (h13 : w 13 ≤ 60) (e : ∀ i : Int, i = 1 ∨ i = 5 ∨ i = 11 ∨ i = 12 ∨ i = 13 ∨ i = 14 ∨ (159 ≤ i ∧ i < 215) ∨ (235 ≤ i ∧ i < 475) → g i = w i) (h : WorkR t w D) : WorkR t g D := by
  obtain ⟨a1, a2, a3, a4, a5, a6, a7, b1, b2, b3⟩ := h
  have e1 := e 1 (by omega)
  have e13 := e 13 (by omega)
  have eL : ∀ l k, 0 ≤ l → l < 14 → 0 ≤ k → k < 4 → wL g l k = wL w l k := fun l k h1 h2 h3 h4 => e _ (by omega)
  refine ⟨?_, by rw [e 12 (by omega)]; exact a2, by rw [e 5 (by omega)]; exact a3, by rw [e 14 (by omega)]; exact a4, by rw [e 11 (by omega)]; exact a5, by rw [e13]; exact a6, a7, fun l l0 l1 => ?_, fun l l0 l1 => ?_, fun a k x0 x1 k0 k1 => ?_⟩
  · rw [a1]
    unfold wPainted
    rw [e1]
    refine congrArg (fun x : Nat => (x : Int)) (bitN_congr _ (fun j hj => ?_))
    rw [eL (j : Int) 2 (by omega) (by omega) (by omega) (by omega)]
  · rw [e1] at l1
    rw [eL l 3 l0 (by omega) (by omega) (by omega)]; exact b1 l l0 l1
  · rw [e1] at l1
    rw [eL l 1 l0 (by omega) (by omega) (by omega), eL l 2 l0 (by omega) (by omega) (by omega)]; exact b2 l l0 l1
  · rw [e13] at x1
    rw [e _ (by omega)]; exact b3 a k x0 x1 k0 k1
theorem WorkR.word {t : Nat} (ht : t = 17) (h1 : g 1 ≤ 14) (h13 : w 13 ≤ 60) (e : ∀ i : Int, i = 5 ∨ i = 11 ∨ i = 13 ∨ i = 14 ∨ (235 ≤ i ∧ i < 475) → g i = w i) (g12 : g 12 = -1) (gl : ∀ l, 0 ≤ l → l < g 1 → wL g l 1 = 0 ∧ wL g l 2 = -1 ∧ wL g l 3 = 3) (h : WorkR t w D) :
    ∃ E, F_X10_beginWord t D = some (0, E) ∧ WorkR t g E ∧ ∀ a : Nat, ¬ (t ≤ a ∧ a ≤ t + 3) → E a = D a := by
  subst ht
  obtain ⟨a1, a2, a3, a4, a5, a6, a7, b1, b2, b3⟩ := h
  have e13 := e 13 (by omega)
  refine ⟨_, rfl, ⟨?_, ?_, ?_, ?_, ?_, ?_, ?_, fun l l0 l1 => ?_, fun l l0 l1 => ?_, fun a k x0 x1 k0 k1 => ?_⟩, fun a ha => ?_⟩
  · rw [pD_nj (by decide), pD_eq]
    unfold wPainted
    have : bitN (fun l => decide (0 ≤ wL g (l : Int) 2)) (g 1).toNat = 0 := (bitN_0 _ _).mpr (fun j hj => by
      rw [(gl (j : Int) (by omega) (by omega)).2.1]; decide)
    rw [this]; rfl
  · rw [pD_eq, g12]
  · rw [pD_nj (by decide), pD_nj (by decide), fillD_ne (by decide), fillD_ne (by decide), fillD_ne (by decide), e 5 (by omega)]; exact a3
  · rw [pD_nj (by decide), pD_nj (by decide), fillD_ne (by decide), fillD_ne (by decide), fillD_ne (by decide), e 14 (by omega)]; exact a4
  · rw [pD_nj (by decide), pD_nj (by decide), fillD_ne (by decide), fillD_ne (by decide), fillD_ne (by decide), e 11 (by omega)]; exact a5
  · rw [pD_nj (by decide), pD_nj (by decide), fillD_ne (by decide), fillD_ne (by decide), fillD_ne (by decide), e13]; exact a6
  · rw [pD_nj (by decide), pD_nj (by decide), fillD_ne (by decide), fillD_ne (by decide), fillD_ne (by decide)]; exact a7
  · rw [pD_ne (by decide), pD_ne (by decide), fillD_ne (by decide), fillD_ne (by decide), fillD_in ⟨l0, by omega⟩, (gl l l0 (by omega)).2.2]
  · have := gl l l0 l1
    rw [pD_ne (by decide), pD_ne (by decide), fillD_ne (by decide), fillD_in ⟨l0, by omega⟩, pD_ne (by decide), pD_ne (by decide), fillD_in ⟨l0, by omega⟩, this.1, this.2.1]
    exact ⟨rfl, rfl⟩
  · rw [e13] at x1
    rw [pD_ne (by decide), pD_ne (by decide), fillD_ne (by decide), fillD_ne (by decide), fillD_ne (by decide), pD_nj (by decide), pD_nj (by decide), fillD_ne (by decide), fillD_ne (by decide), fillD_ne (by decide), e _ (by omega)]; exact b3 a k x0 x1 k0 k1
  · rw [pD_ne (by omega), pD_ne (by omega), fillD_ne (by omega), fillD_ne (by omega), fillD_ne (by omega)]
theorem r_shop_L2 : ∀ (m fuel : Nat) (k : Int) (h : Int → Int), m < fuel → 0 ≤ k → k + m = 1324 → (∀ i, 0 ≤ i → i < k → h i = E 134 i) →
    ∃ h', F_X12_shop_L2 fuel k (sA E 136 h) = (bI (F_X12_readAll 1 (sA E 136 h')) fun v1 D1 => ck (nR v1) <| F_X12_shop_j46 v1 (if 0 ≤ v1 then (-1 : Int) else (D1 133 12)) D1) ∧ ∀ i, 0 ≤ i → i < 1324 → h' i = E 134 i := by
  intro m
  induction m with
  | zero =>
    intro fuel k f hf k0 hk h
    obtain ⟨j, rfl⟩ : ∃ j, fuel = j + 1 := ⟨fuel - 1, by omega⟩
    exact ⟨f, by rw [F_X12_shop_L2, ck_p (by omega), if_pos (by omega)], fun i i0 i1 => h i i0 (by omega)⟩
  | succ m ih =>
    intro fuel k f hf k0 hk h
    obtain ⟨j, rfl⟩ : ∃ j, fuel = j + 1 := ⟨fuel - 1, by omega⟩
    obtain ⟨g, g1, g2⟩ := ih j (k + 1) (sI f k (E 134 k)) (by omega) (by omega) (by omega) (fun i i0 i1 => by
      by_cases y : i = k
      · rw [y, sI_eq]
      · rw [sI_ne y]; exact h i i0 (by omega))
    refine ⟨g, ?_, g2⟩
    rw [F_X12_shop_L2, ck_p (by omega), if_neg (by omega), ck_p (by omega), ck_p (by omega), sA_ne (by decide), ← g1]
    unfold pD
    rw [sA_eq, sA_sA]
theorem r_shop_L93 {W : Int → Int} (hW : ∀ i, 0 ≤ i → i < 1324 → E 136 i = W i) : ∀ (m fuel : Nat) (k : Int) (h : Int → Int), m < fuel → 0 ≤ k → k + m = 1324 → (∀ i, i < k ∨ 1324 ≤ i → h i = W i) →
    F_X12_shop_L93 fuel k (sA E 134 h) = some (0, sA E 134 W) := by
  intro m
  induction m with
  | zero =>
    intro fuel k f hf k0 hk h
    obtain ⟨j, rfl⟩ : ∃ j, fuel = j + 1 := ⟨fuel - 1, by omega⟩
    rw [F_X12_shop_L93, ck_p (by omega), if_pos (by omega), show f = W from funext fun i => h i (by omega)]
  | succ m ih =>
    intro fuel k f hf k0 hk h
    obtain ⟨j, rfl⟩ : ∃ j, fuel = j + 1 := ⟨fuel - 1, by omega⟩
    have i := ih j (k + 1) (sI f k (W k)) (by omega) (by omega) (by omega) (fun i hi => by
      by_cases y : i = k
      · rw [y, sI_eq]
      · rw [sI_ne y]; exact h i (by omega))
    rw [F_X12_shop_L93, ck_p (by omega), if_neg (by omega), ck_p (by omega), ck_p (by omega), sA_ne (by decide), hW k (by omega) (by omega), pD_sA, i]
/-- a text that is not taken leaves all -/
theorem INV.text (I : INV n D) (h : ∀ a : Nat, a ≠ 0 → a ≠ 1 → ¬ (93 ≤ a ∧ a ≤ 108) → a ≠ 133 → a ≠ 136 → F a = D a) (h93 : F 93 1 = D 93 1 ∧ F 103 1 = D 103 1) (h0 : F 0 14 = D 0 14) (h1 : F 1 1 = 0) (h15 : F 0 15 = F 133 14) (h3 : F 133 6 = D 133 6 ∧ F 133 7 = D 133 7 ∧ F 133 9 = 0) : INV (n + 1) F := by
  obtain ⟨R, hi, im, t, fx⟩ := I
  obtain ⟨t1, t2, t3, t4⟩ := t
  obtain ⟨c1, c2, c3, c4, c5⟩ := R
  have e134 := h 134 (by decide) (by decide) (by decide) (by decide) (by decide)
  refine INV.mono (n := n) ⟨⟨?_, ?_, ?_, ?_, ?_⟩, ?_, ?_, ⟨?_, ?_, ?_, fun j j0 j1 => ?_⟩, ?_, ?_⟩ (by omega)
  · rw [e134]; exact c1
  · rw [e134]; exact c2.keep (fun a _ _ => h a (by omega) (by omega) (by omega) (by omega) (by omega))
  · rw [e134]; exact c3.keep (fun a _ _ => h a (by omega) (by omega) (by omega) (by omega) (by omega))
  · rw [e134]; exact c4.at (fun a _ _ => h a (by omega) (by omega) (by omega) (by omega) (by omega))
  · unfold Ca at c5 ⊢
    rw [e134, h 25 (by decide) (by decide) (by decide) (by decide) (by decide)]
    exact c5
  · exact hi.go (fun a _ _ => h a (by omega) (by omega) (by omega) (by omega) (by omega)) e134 (h 138 (by decide) (by decide) (by decide) (by decide) (by decide)) h3.2.1
  · exact im.go (fun a _ _ => h a (by omega) (by omega) (by omega) (by omega) (by omega)) h0 (h 135 (by decide) (by decide) (by decide) (by decide) (by decide)) h3.1
  · rw [h1, h3.2.2]
  · rw [h3.2.2]; omega
  · rw [h3.2.2]; omega
  · rw [h 139 (by decide) (by decide) (by decide) (by decide) (by decide), h 2 (by decide) (by decide) (by decide) (by decide) (by decide)]; exact t4 j j0 j1
  · exact h15
  · unfold Fx
    rw [h93.1, h93.2]
    exact fx.2
end PWb
