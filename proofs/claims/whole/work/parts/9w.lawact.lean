/-! THE LAW's text: the act -/
section PXj
variable {n : Int} {w f g : Int → Int} {C D E F R X : mD}
def lawC (D : mD) : mD := pD (pD D 104 0 0) 104 5 0
theorem lawC_ne {a : Nat} (h : a ≠ 104) : lawC D a = D a := by unfold lawC; rw [pD_ne h, pD_ne h]
theorem r_law_L {w : Int} {h0 : Int → Int} (hw : nR w) : ∀ (m fuel : Nat) (k : Int) (h : Int → Int), m < fuel → 0 ≤ k → k + m = 849 → (∀ j, 0 ≤ j → j < k → h (475 + j) = h0 (1324 + j)) → (∀ i, i < 475 ∨ 475 + k ≤ i → h i = h0 i) →
    ∃ h', F_X12_law_L52 w fuel k (sA E 134 h) = some (w, pD (pD (sA E 134 h') 134 10 1) 133 7 0) ∧ (∀ j, 0 ≤ j → j < 849 → h' (475 + j) = h0 (1324 + j)) ∧ ∀ i, i < 475 ∨ 1324 ≤ i → h' i = h0 i := by
  intro m
  induction m with
  | zero =>
    intro fuel k h hf k0 hk h1 h2
    obtain ⟨j, rfl⟩ : ∃ j, fuel = j + 1 := ⟨fuel - 1, by omega⟩
    exact ⟨h, by rw [F_X12_law_L52, ck_p (by omega), if_pos (by omega)], fun j j0 j1 => h1 j j0 (by omega), fun i hi => h2 i (by omega)⟩
  | succ m ih =>
    intro fuel k h hf k0 hk h1 h2
    obtain ⟨j, rfl⟩ : ∃ j, fuel = j + 1 := ⟨fuel - 1, by omega⟩
    obtain ⟨h', a1, a2, a3⟩ := ih j (k + 1) (sI h (475 + k) (h0 (1324 + k))) (by omega) (by omega) (by omega) (fun i i0 i1 => by
      by_cases y : i = k
      · rw [y, sI_eq]
      · rw [sI_ne (by omega)]; exact h1 i i0 (by omega)) (fun i hi => by rw [sI_ne (by omega)]; exact h2 i (by omega))
    refine ⟨h', ?_, a2, a3⟩
    rw [F_X12_law_L52, ck_p (by omega), if_neg (by omega), ck_p (by omega), ck_p (by omega), sA_eq, h2 (1324 + k) (by omega), pD_sA, a1]
theorem law_text (I : INV n D) {G : mD} (h1 : G 134 = D 134) (h2 : G 139 = D 139) (h3 : G 133 9 = D 133 9) :
    ∃ v w C' q' b' f' S' d', F_X9_readsText_L (lawC D) = some (v, C') ∧ F_X12_readAll 0 G = some (w, stR (rS (useD G) S' d') q' b' f') ∧ FrD (lawC D) C' ∧ (∀ i : Int, i < 1325 → f' i = D 134 i) ∧
      ((v = 0 ∧ w = -1 ∧ C' 1 3 = b') ∨ (v = 1 ∧ 0 ≤ w ∧ w ≤ 12 ∧ DL C' f' S' w)) := by
  obtain ⟨t1, t2, t3, t4⟩ := I.tp
  have := k_ltext (B := D 2) (L := D 133 9) (C := lawC D) (D := G) ⟨t2, t3, tape_B I⟩ (lawC_ne (by decide)) (by rw [lawC_ne (by decide)]; exact t1) (by unfold lawC; exact ⟨by rw [pD_nj (by decide), pD_eq], pD_eq _ _ _ _⟩) (by rw [lawC_ne (by decide)]; exact I.2.2.2.2.2.2) (by rw [h2]; exact t4) h3
  rw [h1] at this
  exact this
theorem r_law (I : INV n D) {v : Int} {C' : mD} (k1 : F_X9_readsText_L (lawC D) = some (v, C')) (hE : ∀ a : Nat, 133 ≤ a → E a = D a) :
    ∃ X w S', F_X12_law E = F_X12_law_j19 w (if 0 ≤ w then (-1 : Int) else X 133 12) X ∧ (∀ a : Nat, a ≠ 133 → a ≠ 134 → X a = E a) ∧ (∀ i : Int, i ≠ 0 → i ≠ 9 → i ≠ 10 → i ≠ 11 → i ≠ 12 → i ≠ 13 → i ≠ 16 → X 133 i = D 133 i) ∧ X 133 0 = 0 ∧ X 133 9 = 0 ∧
      (∀ i : Int, i < 1325 → X 134 i = D 134 i) ∧ ((v = 0 ∧ w = -1 ∧ C' 1 3 = X 133 12) ∨ (v = 1 ∧ 0 ≤ w ∧ w ≤ 12 ∧ DL C' (X 134) S' w)) := by
  obtain ⟨v2, w, C2, q, b, f, S', d', x1, x2, x3, x4, x5⟩ := law_text I (G := E) (hE 134 (by decide)) (hE 139 (by decide)) (by rw [hE 133 (by decide)])
  have e : (v, C') = (v2, C2) := Option.some.inj (k1.symm.trans x1)
  injection e with e1 e2
  subst e1
  subst e2
  obtain ⟨X, eX⟩ : ∃ X, X = stR (rS (useD E) S' d') q b f := ⟨_, rfl⟩
  have sf := st_f (rS (useD E) S' d') q b f
  have uv := useD_v (D := E)
  refine ⟨X, w, S', ?_, fun a h1 h2 => ?_, fun i i0 i9 i10 i11 i12 i13 i16 => ?_, ?_, ?_, fun i hi => ?_, ?_⟩
  · rw [F_X12_law, x2, bI_q, ck_p (by rcases x5 with x | x <;> omega), ← eX]
  · rw [eX, sf.2.2.2.1 a h1 h2]; unfold rS; rw [pD_ne h1, pD_ne h1, useD_ne h1]
  · rw [eX, sf.2.2.2.2 i i10 i12]; unfold rS; rw [pD_nj i13, pD_nj i16, useD_at i0 i9 i10 i11, hE 133 (by decide)]
  · rw [eX, sf.2.2.2.2 0 (by decide) (by decide)]; unfold rS; rw [pD_nj (by decide), pD_nj (by decide)]; exact uv.1
  · rw [eX, sf.2.2.2.2 9 (by decide) (by decide)]; unfold rS; rw [pD_nj (by decide), pD_nj (by decide)]; exact uv.2.1
  · rw [eX, sf.2.2.1]; exact x4 i hi
  · rw [eX, sf.2.1, sf.2.2.1]; exact x5
theorem a_law (I : INV n D) : Step n D [0] F_X11_law F_X12_law := by
  have R := I.cr
  have hN := fN
  have hr := R.wi.ra
  obtain ⟨v, w0, C', q0, b0, f0, S0, d0, k1, _, k3, _, k5⟩ := law_text I (G := D) rfl rfl rfl
  have hv : v = 0 ∨ v = 1 := by rcases k5 with k | k <;> omega
  have cC : ∀ a : Nat, a ≠ 1 → ¬ (104 ≤ a ∧ a ≤ 108) → C' a = D a := fun a h1 h2 => (k3 a h1 h2).trans (lawC_ne (by omega))
  obtain ⟨E3, eE3⟩ : ∃ E3, E3 = pD (pD C' 0 15 (if v = 0 then C' 1 3 else (-1 : Int))) 1 1 0 := ⟨_, rfl⟩
  have o3 : ∀ a : Nat, a ≠ 0 → a ≠ 1 → E3 a = C' a := fun a h1 h2 => by rw [eE3, pD_ne h2, pD_ne h1]
  have d3 : ∀ a : Nat, a ≠ 0 → a ≠ 1 → ¬ (104 ≤ a ∧ a ≤ 108) → E3 a = D a := fun a h1 h2 h3 => (o3 a h1 h2).trans (cC a h2 h3)
  have z3 : E3 0 15 = (if v = 0 then C' 1 3 else (-1 : Int)) ∧ E3 0 14 = D 0 14 ∧ E3 1 1 = 0 := by
    rw [eE3]
    exact ⟨by rw [pD_ne (by decide), pD_eq], by rw [pD_ne (by decide), pD_nj (by decide), cC 0 (by decide) (by omega)], pD_eq _ _ _ _⟩
  have hc : F_X11_law D = (if v = 0 then some (.inr 0, E3) else some (.inl ((fillD (pD (cL 12 104 E3) 31 1 0) 25 403 (-1)) 12 0), fillD (pD (cL 12 104 E3) 31 1 0) 25 403 (-1))) := by
    rw [F_X11_law, F_X2_begin, bI_q]
    change (bI (F_X9_readsText_L (lawC D)) fun v2 D2 => bI (F_X11_useUp v2 D2) fun _ D3 => _) = _
    rw [k1, bI_q, F_X11_useUp, ck_p (by omega), bI_q, ck_p (by omega), ← eE3, c_copyL, bI_q, F_X11_forgetActs, F_X1_clear, bI_q, F_X0_forgetWhites, bI_q, bI_q]
  by_cases yv : v = 0
  · obtain ⟨X, w, S', x1, x2, x3, x4, x5, x6, x7⟩ := r_law (E := E3) I k1 (fun a ha => d3 a (by omega) (by omega) (by omega))
    have hw : w = -1 ∧ C' 1 3 = X 133 12 := by rcases x7 with x | x; exact x.2; omega
    obtain ⟨F, eF⟩ : ∃ F, F = pD (pD X 133 14 (X 133 12)) 133 0 1 := ⟨_, rfl⟩
    have fo : ∀ a : Nat, a ≠ 133 → a ≠ 134 → F a = E3 a := fun a h1 h2 => by rw [eF, pD_ne h1, pD_ne h1, x2 a h1 h2]
    have f3 : ∀ i : Int, i ≠ 0 → i ≠ 14 → F 133 i = X 133 i := fun i h1 h2 => by rw [eF, pD_nj h1, pD_nj h2]
    refine ⟨.inr 0, E3, 0, F, ?_, ?_, ⟨0, ?_, rfl⟩, I.text2 (fun a h0 h1 h2 h3 h4 h5 => (fo a h3 h4).trans (d3 a h0 h1 (by omega))) (fun i i0 i1 => by rw [eF, pD_ne (by decide), pD_ne (by decide)]; exact x6 i (by omega)) ⟨?_, ?_⟩ ?_ ?_ ?_ ⟨?_, ?_, ?_⟩⟩
    · rw [hc, if_pos yv]
    · rw [x1, hw.1, F_X12_law_j19, ck_p (by decide), if_neg (by decide), if_neg (by decide), F_X12_law_j32, t_1, bI_q, ck_p (by decide), if_neg (by decide), eF]
    · rw [eF, pD_eq]; rfl
    · rw [fo 93 (by decide) (by decide), d3 93 (by decide) (by decide) (by omega)]
    · rw [fo 103 (by decide) (by decide), d3 103 (by decide) (by decide) (by omega)]
    · rw [fo 0 (by decide) (by decide)]; exact z3.2.1
    · rw [fo 1 (by decide) (by decide)]; exact z3.2.2
    · rw [fo 0 (by decide) (by decide), z3.1, if_pos yv, eF, pD_nj (by decide), pD_eq]; exact hw.2
    · rw [f3 6 (by decide) (by decide)]; exact x3 6 (by decide) (by decide) (by decide) (by decide) (by decide) (by decide) (by decide)
    · rw [f3 7 (by decide) (by decide)]; exact x3 7 (by decide) (by decide) (by decide) (by decide) (by decide) (by decide) (by decide)
    · rw [f3 9 (by decide) (by decide)]; exact x5
  · rw [if_neg yv] at hc
    obtain ⟨E, eE⟩ : ∃ E, E = fillD (pD (cL 12 104 E3) 31 1 0) 25 403 (-1) := ⟨_, rfl⟩
    rw [← eE] at hc
    have oE : ∀ a : Nat, a ≠ 25 → a ≠ 31 → E a = cL 12 104 E3 a := fun a h1 h2 => by rw [eE, fillD_ne h1, pD_ne h2]
    have dE : ∀ a : Nat, a ≠ 0 → a ≠ 1 → ¬ (12 ≤ a ∧ a ≤ 16) → a ≠ 25 → a ≠ 31 → ¬ (104 ≤ a ∧ a ≤ 108) → E a = D a := fun a h1 h2 h3 h4 h5 h6 => by rw [oE a h4 h5, cL_ne (by omega), d3 a h1 h2 h6]
    obtain ⟨X, w, S', x1, x2, x3, x4, x5, x6, x7⟩ := r_law (E := E) I k1 (fun a ha => dE a (by omega) (by omega) (by omega) (by omega) (by omega) (by omega))
    obtain ⟨_, w1, w2, dl⟩ : v = 1 ∧ 0 ≤ w ∧ w ≤ 12 ∧ DL C' (X 134) S' w := by rcases x7 with x | x; omega; exact x
    obtain ⟨Y, eY⟩ : ∃ Y, Y = pD (pD X 133 14 (-1)) 134 1324 w := ⟨_, rfl⟩
    have eYs : sA (pD X 133 14 (-1)) 134 (sI (X 134) 1324 w) = Y := by rw [eY]; unfold pD; rw [sA_ne (b := 134) (by decide)]
    obtain ⟨h, g1, g2, g3⟩ := r_law_L (E := pD X 133 14 (-1)) (w := w) (h0 := sI (X 134) 1324 w) (by omega) 849 fuelN 0 (sI (X 134) 1324 w) (by omega) (by omega) (by omega) (fun j j0 j1 => by omega) (fun i _ => rfl)
    rw [eYs] at g1
    obtain ⟨F, eF⟩ : ∃ F, F = pD (pD (sA (pD X 133 14 (-1)) 134 h) 134 10 1) 133 7 0 := ⟨_, rfl⟩
    obtain ⟨W, eW⟩ : ∃ W, W = sI h 10 1 := ⟨_, rfl⟩
    have fw : F 134 = W := by rw [eF, pD_ne (by decide), pD_sA, sA_eq, eW]
    have fo : ∀ a : Nat, a ≠ 133 → a ≠ 134 → F a = E a := fun a h1 h2 => by rw [eF, pD_ne h1, pD_ne h2, sA_ne h2, pD_ne h1, x2 a h1 h2]
    have fd : ∀ a : Nat, a ≠ 0 → a ≠ 1 → ¬ (12 ≤ a ∧ a ≤ 16) → a ≠ 25 → a ≠ 31 → ¬ (104 ≤ a ∧ a ≤ 108) → a ≠ 133 → a ≠ 134 → F a = D a := fun a h1 h2 h3 h4 h5 h6 h7 h8 => (fo a h7 h8).trans (dE a h1 h2 h3 h4 h5 h6)
    have f3 : ∀ i : Int, i ≠ 7 → i ≠ 14 → F 133 i = X 133 i := fun i h1 h2 => by rw [eF, pD_nj h1, pD_ne (by decide), sA_ne (by decide), pD_nj h2]
    have W10 : W 10 = 1 := by rw [eW, sI_eq]
    have Wlo : ∀ i, i < 475 → i ≠ 10 → W i = D 134 i := fun i h1 h2 => by rw [eW, sI_ne h2, g3 i (by omega), sI_ne (by omega)]; exact x6 i (by omega)
    have Whi : ∀ j, 1 ≤ j → j < 849 → W (475 + j) = X 134 (1324 + j) := fun j h1 h2 => by rw [eW, sI_ne (by omega), g2 j (by omega) h2, sI_ne (by omega)]
    have W475 : W 475 = w := by
      have := g2 0 (by omega) (by omega)
      rw [Int.add_zero, Int.add_zero, sI_eq] at this
      rw [eW, sI_ne (by omega)]; exact this
    obtain ⟨L1, L2⟩ := draft_law ⟨w1, w2⟩ dl Whi W475 W10
    have HW := Wi.newLaw R.wi Wlo W10 L1
    have L3 : LawR 12 W (cL 12 104 E3) := (L2.keep (D' := E3) (fun a _ _ => o3 a (by omega) (by omega))).copy (t0 := 12) (fun _ => L1) (by omega)
    have L4 : LawR 12 W F := L3.keep (fun a _ _ => by rw [fo a (by omega) (by omega), oE a (by omega) (by omega)])
    have hi := I.his
    obtain ⟨t1, t2, t3, t4⟩ := I.tp
    have f31 : F 31 1 = 0 ∧ F 31 2 = D 31 2 := by
      rw [fo 31 (by decide) (by decide), eE, fillD_ne (by decide)]
      exact ⟨pD_eq _ _ _ _, by rw [pD_nj (by decide), cL_ne (by omega), d3 31 (by decide) (by decide) (by omega)]⟩
    have f7 : F 133 7 = 0 := by rw [eF, pD_eq]
    have fz0 : F 0 = E3 0 := by rw [fo 0 (by decide) (by decide), oE 0 (by decide) (by decide), cL_ne (by omega)]
    have fz1 : F 1 = E3 1 := by rw [fo 1 (by decide) (by decide), oE 1 (by decide) (by decide), cL_ne (by omega)]
    refine ⟨.inl (E 12 0), E, w, F, hc, ?_, ⟨?_, ?_⟩, INV.mono ⟨⟨?_, ?_, ?_, ?_, ?_⟩, ⟨?_, ?_, ?_, ?_, ?_, fun j j0 j1 => ?_⟩, ?_, ⟨?_, ?_, ?_, fun j j0 j1 => ?_⟩, ?_, ?_⟩ (show n ≤ n + 1 by omega)⟩
    · rw [x1, F_X12_law_j19, ck_p (by omega), if_pos w1, if_pos w1, F_X12_law_j32, t_0, bI_q, ck_p (by decide), if_pos rfl, ← eY, g1, eF]
    · rw [f3 0 (by decide) (by decide)]; exact x4
    · have := L3.1
      rw [if_pos W10, W475] at this
      rw [oE 12 (by decide) (by decide)]; exact this.symm
    · rw [fw]; exact HW
    · rw [fw]; exact ShopR.lo R.wi Wlo (R.2.1.keep (fun a _ _ => fd a (by omega) (by omega) (by omega) (by omega) (by omega) (by omega) (by omega) (by omega)))
    · rw [fw]; exact L4
    · rw [fw]; exact WorkR.part (w := D 134) (by omega) (by omega) (fun i hi => Wlo i (by omega) (by omega)) ((WorkR.cr R).at (fun a _ _ => fd a (by omega) (by omega) (by omega) (by omega) (by omega) (by omega) (by omega) (by omega)))
    · have hwr := HW.ra
      exact Ca.no (fun j j0 j1 => by rw [fo 25 (by decide) (by decide), eE, fillD_in ⟨j0, j1⟩]) (by rw [fw]; omega)
    · rw [f31.1, f7]
    · rw [f7]; omega
    · rw [f7]; omega
    · rw [f31.2]; omega
    · rw [f31.2]; omega
    · rw [f7] at j1; omega
    · exact I.2.2.1.go (fun a _ _ => fd a (by omega) (by omega) (by omega) (by omega) (by omega) (by omega) (by omega) (by omega)) (by rw [fz0]; exact z3.2.1) (fd 135 (by decide) (by decide) (by omega) (by decide) (by decide) (by omega) (by decide) (by decide)) (by rw [f3 6 (by decide) (by decide)]; exact x3 6 (by decide) (by decide) (by decide) (by decide) (by decide) (by decide) (by decide))
    · rw [fz1, z3.2.2, f3 9 (by decide) (by decide), x5]
    · rw [f3 9 (by decide) (by decide), x5]; omega
    · rw [f3 9 (by decide) (by decide), x5]; omega
    · rw [fd 139 (by decide) (by decide) (by omega) (by decide) (by decide) (by omega) (by decide) (by decide), fd 2 (by decide) (by decide) (by omega) (by decide) (by decide) (by omega) (by decide) (by decide)]; exact t4 j j0 j1
    · rw [fz0, z3.1, if_neg yv, eF, pD_nj (by decide), pD_ne (by decide), sA_ne (by decide), pD_eq]
    · exact I.2.2.2.2.2.go (fd 93 (by decide) (by decide) (by omega) (by decide) (by decide) (by omega) (by decide) (by decide)) (fd 103 (by decide) (by decide) (by omega) (by decide) (by decide) (by omega) (by decide) (by decide))
end PXj
