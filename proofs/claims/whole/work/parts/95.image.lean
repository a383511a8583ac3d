/-! THE IMAGE: worlds alike in all that counts -/
section PM0
variable {n : Int} {D E F G : mD} {w w' : Int → Int}
def EqN (w w' : Int → Int) : Prop := ∀ i, 0 ≤ i → i < 1324 → w' i = w i
theorem tyRun_eqn {b : Int} : ∀ (m : Nat) (i : Int) (st : List Bool), (∀ k, b + 2 * i ≤ k → k < b + 2 * (i + m) → w' k = w k) → tyRun w' b i m st = tyRun w b i m st := by
  intro m
  induction m with
  | zero => intro i st _; rfl
  | succ m ih =>
    intro i st h
    rw [tyRun, tyRun, h (b + 2 * i) (by omega) (by omega), h (b + 2 * i + 1) (by omega) (by omega)]
    split
    · split
      · exact ih _ _ (fun k h1 h2 => h k (by omega) (by omega))
      · rfl
    · rfl
theorem LawOk_eqn (e : EqN w w') (h : LawOk w 475) : LawOk w' 475 := by
  unfold LawOk at h ⊢
  rw [e 475 (by omega) (by omega)]
  refine ⟨h.1, h.2.1, fun k k0 k1 => ?_⟩
  have h12 := h.2.1
  have hk := h.2.2 k k0 k1
  rw [e (475 + 1 + 4 * k) (by omega) (by omega), e (475 + 1 + 4 * k + 1) (by omega) (by omega), e (475 + 1 + 4 * k + 2) (by omega) (by omega), e (475 + 1 + 4 * k + 3) (by omega) (by omega), tyRun_eqn _ _ _ (fun j j0 j1 => e j (by omega) (by omega))]
  refine ⟨hk.1, hk.2.1, hk.2.2.1, hk.2.2.2.1, hk.2.2.2.2.1, hk.2.2.2.2.2.1, ?_, hk.2.2.2.2.2.2.2⟩
  rw [hk.2.2.2.2.2.2.1]
  by_cases z : k = 0
  · rw [if_pos z, if_pos z]
  · rw [if_neg z, if_neg z, e (475 + 1 + 4 * (k - 1) + 3) (by omega) (by omega)]
theorem Wi.eqn (H : Wi n w) (e : EqN w w') : Wi n w' := by
  have hr := H.ra
  have e0 := e 0 (by omega) (by omega)
  have e1 := e 1 (by omega) (by omega)
  have e2 := e 2 (by omega) (by omega)
  have e3 := e 3 (by omega) (by omega)
  have e4 := e 4 (by omega) (by omega)
  have e5 := e 5 (by omega) (by omega)
  have e6 := e 6 (by omega) (by omega)
  have e7 := e 7 (by omega) (by omega)
  have e8 := e 8 (by omega) (by omega)
  have e9 := e 9 (by omega) (by omega)
  have e10 := e 10 (by omega) (by omega)
  have e11 := e 11 (by omega) (by omega)
  have e12 := e 12 (by omega) (by omega)
  have e13 := e 13 (by omega) (by omega)
  have e14 := e 14 (by omega) (by omega)
  have eS : ∀ s k, 0 ≤ s → s < 12 → 0 ≤ k → k < 12 → wS w' s k = wS w s k := fun s k h1 h2 h3 h4 => e _ (by omega) (by omega)
  have eL : ∀ l k, 0 ≤ l → l < 14 → 0 ≤ k → k < 4 → wL w' l k = wL w l k := fun s k h1 h2 h3 h4 => e _ (by omega) (by omega)
  refine ⟨?_, fun s h0 h1 => ?_, fun l h0 h1 => ?_, fun j h0 h1 => ?_, fun j h0 h1 => ?_, fun j h0 h1 => ?_, fun h0 => ?_, fun h10 => ?_⟩
  · unfold Wr; omega
  · have hs := H.sg h0 (by omega)
    unfold SgOk at hs ⊢
    rw [eS s 0 h0 (by omega) (by omega) (by omega), eS s 1 h0 (by omega) (by omega) (by omega)]
    refine ⟨hs.1, hs.2.1, hs.2.2.1, hs.2.2.2.1, fun r r0 r1 => ?_⟩
    rw [eS s (2 + r) h0 (by omega) (by omega) (by omega), eS s (7 + r) h0 (by omega) (by omega) (by omega)]
    exact hs.2.2.2.2 r r0 r1
  · have a := H.lta h0 (by omega)
    unfold LtOk
    rw [eL l 0 h0 (by omega) (by omega) (by omega), eL l 1 h0 (by omega) (by omega) (by omega), eL l 2 h0 (by omega) (by omega) (by omega), eL l 3 h0 (by omega) (by omega) (by omega), eS (wL w l 0) 1 (by omega) (by omega) (by omega) (by omega), e0]
    exact a
  · rw [e (215 + 2 * j) (by omega) (by omega), e (215 + 2 * j + 1) (by omega) (by omega)]; exact H.wt h0 (by omega)
  · rw [e (227 + j) (by omega) (by omega)]; exact H.lk h0 (by omega)
  · rw [e (235 + 4 * j) (by omega) (by omega), e (235 + 4 * j + 1) (by omega) (by omega), e (235 + 4 * j + 2) (by omega) (by omega), e (235 + 4 * j + 3) (by omega) (by omega)]; exact H.lg h0 (by omega)
  · rw [e12] at h0 ⊢
    rw [e1, eL (w 12) 2 h0 (by omega) (by omega) (by omega)]
    exact H.wet h0
  · exact LawOk_eqn e (H.law (by omega))
theorem ShopR.eqn {t : Nat} (H : Wi n w) (e : EqN w w') (h : ShopR t w D) : ShopR t w' D := by
  have hr := H.ra
  obtain ⟨a1, a2, a3, a4, a5, a6, a7, a8, a9, b1, b2, b3, b4⟩ := h
  have eS : ∀ s k, 0 ≤ s → s < 12 → 0 ≤ k → k < 12 → wS w' s k = wS w s k := fun s k h1 h2 h3 h4 => e _ (by omega) (by omega)
  unfold ShopR
  rw [e 0 (by omega) (by omega), e 1 (by omega) (by omega), e 2 (by omega) (by omega), e 3 (by omega) (by omega), e 4 (by omega) (by omega), e 6 (by omega) (by omega), e 7 (by omega) (by omega), e 8 (by omega) (by omega), e 9 (by omega) (by omega)]
  refine ⟨a1, a2, a3, a4, a5, a6, a7, a8, a9, fun s h0 h1 => ?_, fun l h0 h1 => ?_, fun j h0 h1 => ?_, fun j h0 h1 => ?_⟩
  · rw [eS s 0 h0 (by omega) (by omega) (by omega), eS s 1 h0 (by omega) (by omega) (by omega)]
    refine ⟨(b1 s h0 h1).1, (b1 s h0 h1).2.1, fun r r0 r1 => ?_⟩
    rw [eS s (2 + r) h0 (by omega) (by omega) (by omega), eS s (7 + r) h0 (by omega) (by omega) (by omega)]
    exact (b1 s h0 h1).2.2 r r0 r1
  · rw [show wL w' l 0 = wL w l 0 from e _ (by omega) (by omega)]; exact b2 l h0 h1
  · rw [e (215 + 2 * j) (by omega) (by omega), e (215 + 2 * j + 1) (by omega) (by omega)]; exact b3 j h0 h1
  · rw [e (227 + j) (by omega) (by omega)]; exact b4 j h0 h1
theorem LawR.eqn {t : Nat} (H : Wi n w) (e : EqN w w') (h : LawR t w D) : LawR t w' D := by
  obtain ⟨a, b⟩ := h
  unfold LawR
  rw [e 10 (by omega) (by omega), e 475 (by omega) (by omega)]
  refine ⟨a, fun h10 k k0 k1 => ?_⟩
  have h12 := (H.law h10).2.1
  have hk := (H.law h10).2.2 k k0 k1
  rw [e475] at hk
  have c := b h10 k k0 k1
  rw [e (476 + 4 * k) (by omega) (by omega), e (476 + 4 * k + 1) (by omega) (by omega), e (476 + 4 * k + 2) (by omega) (by omega), e (476 + 4 * k + 3) (by omega) (by omega)]
  refine ⟨c.1, c.2.1, c.2.2.1, fun i i0 i1 => ?_⟩
  rw [e (524 + 2 * i) (by omega) (by omega), e (524 + 2 * i + 1) (by omega) (by omega)]
  exact c.2.2.2 i i0 i1
theorem WorkR.eqn {t : Nat} (H : Wi n w) (e : EqN w w') (h : WorkR t w D) : WorkR t w' D := by
  have hr := H.ra
  have eL : ∀ l k, 0 ≤ l → l < 14 → 0 ≤ k → k < 4 → wL w' l k = wL w l k := fun s k h1 h2 h3 h4 => e _ (by omega) (by omega)
  obtain ⟨a1, a2, a3, a4, a5, a6, a7, a8, a9, b⟩ := h
  unfold WorkR
  rw [e 1 (by omega) (by omega), e 12 (by omega) (by omega), e 5 (by omega) (by omega), e 14 (by omega) (by omega), e 11 (by omega) (by omega), e 13 (by omega) (by omega)]
  refine ⟨?_, a2, a3, a4, a5, a6, a7, fun g g0 g1 => ?_, fun l l0 l1 => ?_, fun a k a0 a1 k0 k1 => ?_⟩
  · rw [a1]
    unfold wPainted
    rw [e 1 (by omega) (by omega)]
    congr 1
    exact bitN_congr _ (fun j hj => by rw [eL (j : Int) 2 (by omega) (by omega) (by omega) (by omega)])
  · rw [eL g 3 g0 (by omega) (by omega) (by omega)]; exact a8 g g0 g1
  · rw [eL l 1 l0 (by omega) (by omega) (by omega), eL l 2 l0 (by omega) (by omega) (by omega)]; exact a9 l l0 l1
  · rw [e (235 + 4 * a + k) (by omega) (by omega)]; exact b a k a0 a1 k0 k1
theorem r_image_L : ∀ (m fuel : Nat) (k : Int) (f : Int → Int), m < fuel → 0 ≤ k → k + m = 1324 → (∀ i, 0 ≤ i → i < k → f i = E 134 i) →
    ∃ g, F_X12_image_L7 fuel k (sA E 135 f) = some (0, pD (sA E 135 g) 133 6 1) ∧ EqN (E 134) g := by
  intro m
  induction m with
  | zero =>
    intro fuel k f hf k0 hk h
    obtain ⟨j, rfl⟩ : ∃ j, fuel = j + 1 := ⟨fuel - 1, by omega⟩
    exact ⟨f, by rw [F_X12_image_L7, ck_p (by omega), if_pos (by omega)], fun i i0 i1 => h i i0 (by omega)⟩
  | succ m ih =>
    intro fuel k f hf k0 hk h
    obtain ⟨j, rfl⟩ : ∃ j, fuel = j + 1 := ⟨fuel - 1, by omega⟩
    obtain ⟨g, g1, g2⟩ := ih j (k + 1) (sI f k (E 134 k)) (by omega) (by omega) (by omega) (fun i i0 i1 => by
      by_cases y : i = k
      · rw [y, sI_eq]
      · rw [sI_ne y]; exact h i i0 (by omega))
    refine ⟨g, ?_, g2⟩
    rw [F_X12_image_L7, ck_p (by omega), if_neg (by omega), ck_p (by omega), ck_p (by omega), sA_ne (by decide), ← g1]
    unfold pD
    rw [sA_eq, sA_sA]
theorem r_back_L : ∀ (m fuel : Nat) (k : Int) (f : Int → Int), m < fuel → 0 ≤ k → k + m = 1324 → (∀ i, 0 ≤ i → i < k → f i = E 135 i) →
    ∃ g, F_X12_back_L16 fuel k (sA E 134 f) = some (1, pD (sA E 134 g) 133 7 0) ∧ EqN (E 135) g := by
  intro m
  induction m with
  | zero =>
    intro fuel k f hf k0 hk h
    obtain ⟨j, rfl⟩ : ∃ j, fuel = j + 1 := ⟨fuel - 1, by omega⟩
    exact ⟨f, by rw [F_X12_back_L16, ck_p (by omega), if_pos (by omega)], fun i i0 i1 => h i i0 (by omega)⟩
  | succ m ih =>
    intro fuel k f hf k0 hk h
    obtain ⟨j, rfl⟩ : ∃ j, fuel = j + 1 := ⟨fuel - 1, by omega⟩
    obtain ⟨g, g1, g2⟩ := ih j (k + 1) (sI f k (E 135 k)) (by omega) (by omega) (by omega) (fun i i0 i1 => by
      by_cases y : i = k
      · rw [y, sI_eq]
      · rw [sI_ne y]; exact h i i0 (by omega))
    refine ⟨g, ?_, g2⟩
    rw [F_X12_back_L16, ck_p (by omega), if_neg (by omega), ck_p (by omega), ck_p (by omega), sA_ne (by decide), pD_sA, ← g1]
theorem a_image (I : INV n D) : ∃ E F, F_X11_image D = some (0, E) ∧ F_X12_image E = some (0, F) ∧ INV (n + 1) F := by
  have R := I.cr
  have hr := R.wi.ra
  have hN := fN
  obtain ⟨E, hE⟩ : ∃ E, E = pD (cW 128 17 (cL 123 12 (cS 114 3 D))) 0 14 1 := ⟨_, rfl⟩
  have eo : ∀ a : Nat, a ≠ 0 → ¬ (114 ≤ a ∧ a ≤ 132) → E a = D a := fun a h1 h2 => by rw [hE, pD_ne h1, cW_ne (by omega), cL_ne (by omega), cS_ne (by omega)]
  have s1 := R.2.1.copy (t0 := 114) hr (by omega)
  have s2 := (R.2.2.1.keep (D' := cS 114 3 D) (fun a _ _ => cS_ne (by omega))).copy (t0 := 123) (fun h => R.wi.law h) (by omega)
  have s3 := ((WorkR.cr R).at (E := cL 123 12 (cS 114 3 D)) (fun a _ _ => by rw [cL_ne (by omega), cS_ne (by omega)])).copy (t0 := 128) (by omega) (by omega)
  obtain ⟨g, g1, g2⟩ := r_image_L (E := pD E 133 0 0) 1324 fuelN 0 (E 135) (by omega) (by omega) (by omega) (fun i i0 i1 => by omega)
  rw [show sA (pD E 133 0 0) 135 (E 135) = pD E 133 0 0 by
    have := sA_self (pD E 133 0 0) 135
    rw [pD_ne (by decide)] at this
    exact this] at g1
  rw [pD_ne (by decide), eo 134 (by decide) (by omega)] at g2
  obtain ⟨F, hF⟩ : ∃ F, F = pD (sA (pD E 133 0 0) 135 g) 133 6 1 := ⟨_, rfl⟩
  have fo : ∀ a : Nat, a ≠ 133 → a ≠ 135 → F a = E a := fun a h1 h2 => by rw [hF, pD_ne h1, sA_ne h2, pD_ne h1]
  have fd : ∀ a : Nat, a ≠ 133 → a ≠ 135 → a ≠ 0 → ¬ (114 ≤ a ∧ a ≤ 132) → F a = D a := fun a h1 h2 h3 h4 => (fo a h1 h2).trans (eo a h3 h4)
  have f3 : ∀ i : Int, i ≠ 0 → i ≠ 6 → F 133 i = D 133 i := fun i h1 h2 => by rw [hF, pD_nj h2, sA_ne (by decide), pD_nj h1, eo 133 (by decide) (by omega)]
  have f5 : F 135 = g := by rw [hF, pD_ne (by decide), sA_eq]
  have f0 : ∀ i : Int, i ≠ 14 → F 0 i = D 0 i := fun i h => by rw [fo 0 (by decide) (by decide), hE, pD_nj h, cW_ne (by omega), cL_ne (by omega), cS_ne (by omega)]
  refine ⟨E, F, ?_, by rw [F_X12_image, g1, hF], INV.mono ⟨⟨?_, ?_, ?_, ?_, ?_⟩, ?_, ⟨?_, ?_, fun _ => ⟨?_, ?_, ?_, ?_⟩⟩, ?_, ?_⟩ (show n ≤ n + 1 by omega)⟩
  · rw [F_X11_image, c_copyS, bI_q, c_copyL, bI_q, c_copyW, bI_q, hE]
  · rw [fd 134 (by decide) (by decide) (by decide) (by omega)]; exact R.wi
  · rw [fd 134 (by decide) (by decide) (by decide) (by omega)]; exact R.2.1.keep (fun a _ _ => fd a (by omega) (by omega) (by omega) (by omega))
  · rw [fd 134 (by decide) (by decide) (by decide) (by omega)]; exact R.2.2.1.keep (fun a _ _ => fd a (by omega) (by omega) (by omega) (by omega))
  · rw [fd 134 (by decide) (by decide) (by decide) (by omega)]; exact (WorkR.cr R).at (fun a _ _ => fd a (by omega) (by omega) (by omega) (by omega))
  · have c := R.2.2.2.2
    unfold Ca at c ⊢
    rw [fd 134 (by decide) (by decide) (by decide) (by omega), fd 25 (by decide) (by decide) (by decide) (by omega)]
    exact c
  · exact I.2.1.go (fun a _ _ => fd a (by omega) (by omega) (by omega) (by omega)) (fd 134 (by decide) (by decide) (by decide) (by omega)) (fd 138 (by decide) (by decide) (by decide) (by omega)) (f3 7 (by decide) (by decide))
  · rw [fo 0 (by decide) (by decide), hE, pD_eq, hF, pD_eq]
  · exact Or.inr (by rw [hF, pD_eq])
  · rw [f5]; exact R.wi.eqn g2
  · rw [f5]; exact ShopR.eqn R.wi g2 (s1.keep (fun a _ _ => by rw [fo a (by omega) (by omega), hE, pD_ne (by omega), cW_ne (by omega), cL_ne (by omega)]))
  · rw [f5]; exact LawR.eqn R.wi g2 (s2.keep (fun a _ _ => by rw [fo a (by omega) (by omega), hE, pD_ne (by omega), cW_ne (by omega)]))
  · rw [f5]; exact WorkR.eqn R.wi g2 (s3.at (fun a _ _ => by rw [fo a (by omega) (by omega), hE, pD_ne (by omega)]))
  · exact I.2.2.2.1.go (by rw [fd 1 (by decide) (by decide) (by decide) (by omega)]) (fd 2 (by decide) (by decide) (by decide) (by omega)) (f3 9 (by decide) (by decide)) (fd 139 (by decide) (by decide) (by decide) (by omega))
  · exact ⟨by rw [f0 15 (by decide), f3 14 (by decide) (by decide)]; exact I.2.2.2.2.1, I.2.2.2.2.2.go (fd 93 (by decide) (by decide) (by decide) (by omega)) (fd 103 (by decide) (by decide) (by decide) (by omega))⟩
theorem a_back (I : INV n D) : StepI n D F_X11_back F_X12_back := by
  have R := I.cr
  have hr := R.wi.ra
  have hN := fN
  obtain ⟨i1, i2, i3⟩ := I.2.2.1
  by_cases z : D 133 6 = 0
  · refine AnsI.step I ⟨D, 0, pD D 133 0 0, ?_, Ke.rf R, ?_, (Qw.qt Qw.rf).1⟩
    · rw [F_X11_back, ck_p (by omega), if_pos (by omega)]
    · rw [F_X12_back, pD_nj (by decide), ck_p (by omega), if_pos z]
  · obtain ⟨H5, p1, p2, p3⟩ := i3 (by omega)
    have hr5 := H5.ra
    obtain ⟨E, hE⟩ : ∃ E, E = fillD (pD (cW 17 128 (cL 12 123 (cS 3 114 D))) 31 1 0) 25 403 (-1) := ⟨_, rfl⟩
    have eo : ∀ a : Nat, ¬ (3 ≤ a ∧ a ≤ 21) → a ≠ 25 → a ≠ 31 → E a = D a := fun a h1 h2 h3 => by rw [hE, fillD_ne h2, pD_ne h3, cW_ne (by omega), cL_ne (by omega), cS_ne (by omega)]
    have s1 := p1.copy (t0 := 3) hr5 (by omega)
    have s2 := (p2.keep (D' := cS 3 114 D) (fun a _ _ => cS_ne (by omega))).copy (t0 := 12) (fun h => H5.law h) (by omega)
    have s3 := (p3.at (E := cL 12 123 (cS 3 114 D)) (fun a _ _ => by rw [cL_ne (by omega), cS_ne (by omega)])).copy (t0 := 17) (by omega) (by omega)
    obtain ⟨g, g1, g2⟩ := r_back_L (E := pD E 133 0 0) 1324 fuelN 0 (E 134) (by omega) (by omega) (by omega) (fun i i0 i1 => by omega)
    rw [show sA (pD E 133 0 0) 134 (E 134) = pD E 133 0 0 by
      have := sA_self (pD E 133 0 0) 134
      rw [pD_ne (by decide)] at this
      exact this] at g1
    rw [pD_ne (by decide), eo 135 (by omega) (by decide) (by decide)] at g2
    obtain ⟨F, hF⟩ : ∃ F, F = pD (sA (pD E 133 0 0) 134 g) 133 7 0 := ⟨_, rfl⟩
    have fo : ∀ a : Nat, a ≠ 133 → a ≠ 134 → F a = E a := fun a h1 h2 => by rw [hF, pD_ne h1, sA_ne h2, pD_ne h1]
    have fd : ∀ a : Nat, a ≠ 133 → a ≠ 134 → ¬ (3 ≤ a ∧ a ≤ 21) → a ≠ 25 → a ≠ 31 → F a = D a := fun a h1 h2 h3 h4 h5 => (fo a h1 h2).trans (eo a h3 h4 h5)
    have f3 : ∀ i : Int, i ≠ 0 → i ≠ 7 → F 133 i = D 133 i := fun i h1 h2 => by rw [hF, pD_nj h2, sA_ne (by decide), pD_nj h1, eo 133 (by omega) (by decide) (by decide)]
    have f7 : F 133 7 = 0 := by rw [hF, pD_eq]
    have fw : F 134 = g := by rw [hF, pD_ne (by decide), sA_eq]
    have Hg := H5.eqn g2
    have f31 : F 31 1 = 0 ∧ F 31 2 = D 31 2 := by
      rw [fo 31 (by decide) (by decide), hE, fillD_ne (by decide)]
      exact ⟨pD_eq _ _ _ _, by rw [pD_nj (by decide), cW_ne (by omega), cL_ne (by omega), cS_ne (by omega)]⟩
    have hh := I.his
    refine ⟨E, 1, F, ?_, ?_, INV.mono ⟨⟨?_, ?_, ?_, ?_, ?_⟩, ⟨?_, ?_, ?_, ?_, ?_, fun j j0 j1 => ?_⟩, ?_, ?_, ?_⟩ (show n ≤ n + 1 by omega)⟩
    · rw [F_X11_back, ck_p (by omega), if_neg (by omega), c_copyS, bI_q, c_copyL, bI_q, c_copyW, bI_q, F_X11_forgetActs, F_X1_clear, bI_q, F_X0_forgetWhites, bI_q, bI_q, hE]
    · rw [F_X12_back, pD_nj (by decide), eo 133 (by omega) (by decide) (by decide), ck_p (by omega), if_neg z, g1, hF]
    · rw [fw]; exact Hg
    · rw [fw]; exact ShopR.eqn H5 g2 (s1.keep (fun a _ _ => by rw [fo a (by omega) (by omega), hE, fillD_ne (by omega), pD_ne (by omega), cW_ne (by omega), cL_ne (by omega)]))
    · rw [fw]; exact LawR.eqn H5 g2 (s2.keep (fun a _ _ => by rw [fo a (by omega) (by omega), hE, fillD_ne (by omega), pD_ne (by omega), cW_ne (by omega)]))
    · rw [fw]; exact WorkR.eqn H5 g2 (s3.at (fun a _ _ => by rw [fo a (by omega) (by omega), hE, fillD_ne (by omega), pD_ne (by omega)]))
    · exact Ca.no (fun j j0 j1 => by rw [fo 25 (by decide) (by decide), hE, fillD_in ⟨j0, j1⟩]) (by rw [fw]; have := Hg.ra; omega)
    · rw [f31.1, f7]
    · rw [f7]; omega
    · rw [f7]; omega
    · rw [f31.2]; omega
    · rw [f31.2]; omega
    · rw [f7] at j1; omega
    · exact I.2.2.1.go (fun a _ _ => fd a (by omega) (by omega) (by omega) (by omega) (by omega)) (by rw [fd 0 (by decide) (by decide) (by omega) (by decide) (by decide)]) (fd 135 (by decide) (by decide) (by omega) (by decide) (by decide)) (f3 6 (by decide) (by decide))
    · exact I.2.2.2.1.go (by rw [fd 1 (by decide) (by decide) (by omega) (by decide) (by decide)]) (fd 2 (by decide) (by decide) (by omega) (by decide) (by decide)) (f3 9 (by decide) (by decide)) (fd 139 (by decide) (by decide) (by omega) (by decide) (by decide))
    · exact ⟨by rw [fd 0 (by decide) (by decide) (by omega) (by decide) (by decide), f3 14 (by decide) (by decide)]; exact I.2.2.2.2.1, I.2.2.2.2.2.go (fd 93 (by decide) (by decide) (by omega) (by decide) (by decide)) (fd 103 (by decide) (by decide) (by omega) (by decide) (by decide))⟩
end PM0
