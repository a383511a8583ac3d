/-! THE SHOP's text: the act -/
section PWc
variable {n : Int} {B W0 f f0 g w : Int → Int} {L p q b s : Int} {C D E F R X : mD}
/-- the class's draft at the start -/
def shopC (D : mD) : mD := pD (cS 94 3 D) 93 3 0
theorem shopC_f (D : mD) : (∀ a : Nat, ¬ (93 ≤ a ∧ a ≤ 102) → shopC D a = D a) ∧ (∀ i : Int, i ≠ 3 → shopC D 93 i = D 93 i) ∧ shopC D 93 3 = 0 := by
  unfold shopC
  exact ⟨fun a h => by rw [pD_ne (by omega), cS_ne (by omega)], fun i h => by rw [pD_nj h, cS_ne (by omega)], pD_eq _ _ _ _⟩
theorem DR.start (I : INV n D) : DR n (D 134) (shopC D) (D 134) := by
  have R := I.cr
  refine ⟨R.wi, ?_, fun _ _ => rfl, Or.inl ⟨(shopC_f D).2.2, fun _ _ => rfl⟩⟩
  have := R.2.1.copy (t0 := 94) R.wi.ra (by omega)
  exact this.keep (fun a _ _ => by unfold shopC; rw [pD_ne (by omega)])
theorem shop_text (I : INV n D) {G : mD} (h1 : G 134 = D 134) (h2 : G 139 = D 139) (h3 : G 133 9 = D 133 9) :
    ∃ v w C' q' b' f', F_X9_readsText_S (shopC D) = some (v, C') ∧ F_X12_readAll 1 G = some (w, stR (pD (useD G) 133 16 0) q' b' f') ∧ FrC (shopC D) C' ∧ (∀ i : Int, i < 0 ∨ 475 ≤ i → f' i = D 134 i) ∧
      ((v = 0 ∧ w = -1 ∧ C' 1 3 = b') ∨ (v = 1 ∧ 0 ≤ w ∧ w ≤ 14 ∧ DR n (D 134) C' f')) := by
  obtain ⟨t1, t2, t3, t4⟩ := I.tp
  have sc := shopC_f D
  have := k_text (n := n) (W0 := D 134) (B := D 2) (L := D 133 9) (C := shopC D) (D := G) ⟨t2, t3, tape_B I⟩ (sc.1 2 (by omega)) (by rw [sc.1 1 (by omega)]; exact t1) (by rw [h1]; exact DR.start I) (by rw [sc.2.1 1 (by decide)]; exact I.2.2.2.2.2.1) (by rw [h2]; exact t4) h3
  rw [h1] at this
  exact this
theorem r_shop (I : INV n D) {v : Int} {C' : mD} (k1 : F_X9_readsText_S (shopC D) = some (v, C')) (hE : ∀ a : Nat, 133 ≤ a → E a = D a) :
    ∃ X w, F_X12_shop E = F_X12_shop_j46 w (if 0 ≤ w then (-1 : Int) else X 133 12) X ∧ (∀ a : Nat, a ≠ 133 → a ≠ 134 → a ≠ 136 → X a = E a) ∧ (∀ i : Int, i ≠ 0 → i ≠ 9 → i ≠ 10 → i ≠ 11 → i ≠ 12 → i ≠ 16 → X 133 i = D 133 i) ∧ X 133 0 = 0 ∧ X 133 9 = 0 ∧
      (∀ i : Int, 0 ≤ i → i < 1324 → X 136 i = D 134 i) ∧ (∀ i : Int, i < 0 ∨ 475 ≤ i → X 134 i = D 134 i) ∧ ((v = 0 ∧ w = -1 ∧ C' 1 3 = X 133 12) ∨ (v = 1 ∧ 0 ≤ w ∧ w ≤ 14 ∧ DR n (D 134) C' (X 134))) := by
  have hN := fN
  obtain ⟨g, g1, g2⟩ := r_shop_L2 (E := E) 1324 fuelN 0 (E 136) (by omega) (by omega) (by omega) (fun i i0 i1 => by omega)
  rw [sA_self] at g1
  obtain ⟨G, eG⟩ : ∃ G, G = sA E 136 g := ⟨_, rfl⟩
  have Go : ∀ a : Nat, a ≠ 136 → G a = E a := fun a h => by rw [eG, sA_ne h]
  obtain ⟨v2, w, C2, q, b, f, x1, x2, x3, x4, x5⟩ := shop_text I (G := G) (by rw [Go 134 (by decide), hE 134 (by decide)]) (by rw [Go 139 (by decide), hE 139 (by decide)]) (by rw [Go 133 (by decide), hE 133 (by decide)])
  have e : (v, C') = (v2, C2) := Option.some.inj (k1.symm.trans x1)
  injection e with e1 e2
  subst e1
  subst e2
  obtain ⟨X, eX⟩ : ∃ X, X = stR (pD (useD G) 133 16 0) q b f := ⟨_, rfl⟩
  have sf := st_f (pD (useD G) 133 16 0) q b f
  have uv := useD_v (D := G)
  refine ⟨X, w, ?_, fun a h1 h2 h3 => ?_, fun i i0 i9 i10 i11 i12 i16 => ?_, ?_, ?_, fun i i0 i1 => ?_, fun i hi => ?_, ?_⟩
  · rw [F_X12_shop, g1, ← eG, x2, bI_q, ck_p (by rcases x5 with x | x <;> omega), ← eX]
  · rw [eX, sf.2.2.2.1 a h1 h2, pD_ne h1, useD_ne h1, Go a h3]
  · rw [eX, sf.2.2.2.2 i i10 i12, pD_nj i16, useD_at i0 i9 i10 i11, Go 133 (by decide), hE 133 (by decide)]
  · rw [eX, sf.2.2.2.2 0 (by decide) (by decide), pD_nj (by decide)]; exact uv.1
  · rw [eX, sf.2.2.2.2 9 (by decide) (by decide), pD_nj (by decide)]; exact uv.2.1
  · rw [eX, sf.2.2.2.1 136 (by decide) (by decide), pD_ne (by decide), useD_ne (by decide), eG, sA_eq, g2 i i0 i1, hE 134 (by decide)]
  · rw [eX, sf.2.2.1]; exact x4 i hi
  · rw [eX, sf.2.1, sf.2.2.1]; exact x5
/-- the reference takes its world back -/
theorem r_back136 {W : Int → Int} (h1 : ∀ i : Int, 0 ≤ i → i < 1324 → X 136 i = W i) (h2 : ∀ i : Int, i < 0 ∨ 475 ≤ i → X 134 i = W i) : F_X12_shop_L93 fuelN 0 X = some (0, sA X 134 W) := by
  have hN := fN
  have := r_shop_L93 (E := X) h1 1324 fuelN 0 (X 134) (by omega) (by omega) (by omega) (fun i hi => h2 i (by omega))
  rw [sA_self] at this
  exact this
theorem ShopR.nine {t : Nat} (h : ShopR t f C) {v : Int} : ShopR t (sI f 9 v) (pD C t 16 v) := by
  obtain ⟨a1, a2, a3, a4, a5, a6, a7, a8, a9, b1, b2, b3, b4⟩ := h
  have e : ∀ i, i ≠ 9 → sI f 9 v i = f i := fun i hi => sI_ne hi
  have eL : ∀ l k, 0 ≤ l → 0 ≤ k → wL (sI f 9 v) l k = wL f l k := fun l k h1 h2 => e _ (by omega)
  have eS : ∀ s k, 0 ≤ s → 0 ≤ k → wS (sI f 9 v) s k = wS f s k := fun s k h1 h2 => e _ (by omega)
  unfold ShopR
  rw [e 0 (by omega), e 1 (by omega), e 2 (by omega), e 3 (by omega), e 4 (by omega), e 6 (by omega), e 7 (by omega), e 8 (by omega), sI_eq, pD_nj (by decide), pD_nj (by decide), pD_nj (by decide), pD_nj (by decide), pD_nj (by decide), pD_nj (by decide), pD_nj (by decide), pD_nj (by decide), pD_eq]
  refine ⟨a1, a2, a3, a4, a5, a6, a7, a8, rfl, fun s h0 h1 => ?_, fun l h0 h1 => ?_, fun j' h0 h1 => ?_, fun j' h0 h1 => ?_⟩
  · rw [eS s 0 h0 (by omega), eS s 1 h0 (by omega), pD_ne (by omega), pD_ne (by omega), pD_ne (by omega), pD_ne (by omega)]
    refine ⟨(b1 s h0 h1).1, (b1 s h0 h1).2.1, fun r r0 r1 => ?_⟩
    rw [eS s (2 + r) h0 (by omega), eS s (7 + r) h0 (by omega)]
    exact (b1 s h0 h1).2.2 r r0 r1
  · rw [eL l 0 h0 (by omega), pD_ne (by omega)]; exact b2 l h0 h1
  · rw [e (215 + 2 * j') (by omega), e (215 + 2 * j' + 1) (by omega), pD_ne (by omega), pD_ne (by omega)]; exact b3 j' h0 h1
  · rw [e (227 + j') (by omega), pD_ne (by omega)]; exact b4 j' h0 h1
theorem a_shop (I : INV n D) : Step n D [0, 3] F_X11_shop F_X12_shop := by
  have R := I.cr
  have hr := R.wi.ra
  have e316 : D 3 16 = D 134 9 := R.ca.2.2.2.2.2.2.2.2.1
  have sc := shopC_f D
  obtain ⟨v, w0, C', q0, b0, f0, k1, _, k3, _, k5⟩ := shop_text I (G := D) rfl rfl rfl
  have hv : v = 0 ∨ v = 1 := by rcases k5 with k | k <;> omega
  have cC : ∀ a : Nat, a ≠ 1 → ¬ (93 ≤ a ∧ a ≤ 102) → C' a = D a := fun a h1 h2 => (k3.1 a h1 h2).trans (sc.1 a h2)
  have c93 : ∀ i : Int, i ≠ 3 → C' 93 i = D 93 i := fun i hi => (k3.2 i hi).trans (sc.2.1 i hi)
  obtain ⟨E3, eE3⟩ : ∃ E3, E3 = pD (pD C' 0 15 (if v = 0 then C' 1 3 else (-1 : Int))) 1 1 0 := ⟨_, rfl⟩
  have o3 : ∀ a : Nat, a ≠ 0 → a ≠ 1 → E3 a = C' a := fun a h1 h2 => by rw [eE3, pD_ne h2, pD_ne h1]
  have d3 : ∀ a : Nat, a ≠ 0 → a ≠ 1 → ¬ (93 ≤ a ∧ a ≤ 102) → E3 a = D a := fun a h1 h2 h3 => (o3 a h1 h2).trans (cC a h2 h3)
  have z3 : E3 0 15 = (if v = 0 then C' 1 3 else (-1 : Int)) ∧ E3 0 14 = D 0 14 ∧ E3 1 1 = 0 := by
    rw [eE3]
    exact ⟨by rw [pD_ne (by decide), pD_eq], by rw [pD_ne (by decide), pD_nj (by decide), cC 0 (by decide) (by omega)], pD_eq _ _ _ _⟩
  have hc : F_X11_shop D = (if v = 0 then some (.inr 0, E3) else ck (nR (E3 3 16)) <| if (E3 3 16) < 12 then
      bI (F_X6_copyFrom 3 94 E3) fun _ D4 =>
      ck (nR ((pD D4 3 16 ((D4 3 16) + 1)) 93 3)) <|
      if ((pD D4 3 16 ((D4 3 16) + 1)) 93 3) = 0 then
        F_X11_shop_j104 (pD D4 3 16 ((D4 3 16) + 1))
      else
        bI (F_X10_beginWord 17 (pD D4 3 16 ((D4 3 16) + 1))) fun _ D5 =>
        F_X11_shop_j104 D5
    else
      some (.inr 3, E3)) := by
    rw [F_X11_shop, F_X7_beginFrom, c_copyS, bI_q, bI_q]
    change (bI (F_X9_readsText_S (shopC D)) fun v2 D2 => bI (F_X11_useUp v2 D2) fun _ D3 => _) = _
    rw [k1, bI_q, F_X11_useUp, ck_p (by omega), bI_q, ck_p (by omega), ← eE3]
  /- not taken -/
  have no : ∀ (X : mD) (s1 c : Int) (E : mD), E = E3 → (∀ a : Nat, a ≠ 133 → a ≠ 134 → a ≠ 136 → X a = E a) → (∀ i : Int, i ≠ 0 → i ≠ 9 → i ≠ 10 → i ≠ 11 → i ≠ 12 → i ≠ 16 → X 133 i = D 133 i) → X 133 9 = 0 → E3 0 15 = s1 → INV (n + 1) (sA (pD (pD X 133 14 s1) 133 0 c) 134 (D 134)) := by
    intro X s1 c E hE x1 x2 x3 x4
    subst hE
    refine I.text (fun a h0 h1 h2 h3 h4 => ?_) ⟨?_, ?_⟩ ?_ ?_ ?_ ⟨?_, ?_, ?_⟩
    · by_cases y : a = 134
      · rw [y, sA_eq]
      · rw [sA_ne y, pD_ne h3, pD_ne h3, x1 a h3 y h4, d3 a h0 h1 (by omega)]
    · rw [sA_ne (by decide), pD_ne (by decide), pD_ne (by decide), x1 93 (by decide) (by decide) (by decide), o3 93 (by decide) (by decide), c93 1 (by decide)]
    · rw [sA_ne (by decide), pD_ne (by decide), pD_ne (by decide), x1 103 (by decide) (by decide) (by decide), d3 103 (by decide) (by decide) (by omega)]
    · rw [sA_ne (by decide), pD_ne (by decide), pD_ne (by decide), x1 0 (by decide) (by decide) (by decide)]; exact z3.2.1
    · rw [sA_ne (by decide), pD_ne (by decide), pD_ne (by decide), x1 1 (by decide) (by decide) (by decide)]; exact z3.2.2
    · rw [sA_ne (by decide), pD_ne (by decide), pD_ne (by decide), x1 0 (by decide) (by decide) (by decide), sA_ne (by decide), pD_nj (by decide), pD_eq]; exact x4
    · rw [sA_ne (by decide), pD_nj (by decide), pD_nj (by decide)]; exact x2 6 (by decide) (by decide) (by decide) (by decide) (by decide) (by decide)
    · rw [sA_ne (by decide), pD_nj (by decide), pD_nj (by decide)]; exact x2 7 (by decide) (by decide) (by decide) (by decide) (by decide) (by decide)
    · rw [sA_ne (by decide), pD_nj (by decide), pD_nj (by decide)]; exact x3
  have hE3 : ∀ a : Nat, 133 ≤ a → E3 a = D a := fun a ha => d3 a (by omega) (by omega) (by omega)
  by_cases yv : v = 0
  · obtain ⟨X, w, x1, x2, x3, x4, x5, x6, x7, x8⟩ := r_shop I k1 hE3
    have hw : w = -1 ∧ C' 1 3 = X 133 12 := by rcases x8 with x | x; exact x.2; omega
    have xr : nR (X 133 12) ∨ True := Or.inr trivial
    refine ⟨.inr 0, E3, 0, sA (pD (pD X 133 14 (X 133 12)) 133 0 1) 134 (D 134), ?_, ?_, ⟨0, ?_, rfl⟩, no X (X 133 12) 1 E3 rfl x2 x3 x5 (by rw [z3.1, if_pos yv]; exact hw.2)⟩
    · rw [hc, if_pos yv]
    · rw [x1, hw.1, F_X12_shop_j46, ck_p (by decide), if_neg (by decide), if_neg (by decide), F_X12_shop_j59, t_1, bI_q, ck_p (by decide), if_neg (by decide)]
      exact r_back136 (fun i i0 i1 => by rw [pD_ne (by decide), pD_ne (by decide)]; exact x6 i i0 i1) (fun i hi => by rw [pD_ne (by decide), pD_ne (by decide)]; exact x7 i hi)
    · rw [sA_ne (by decide), pD_eq]; rfl
  · have e3 : E3 3 16 = D 134 9 := by rw [d3 3 (by decide) (by decide) (by omega)]; exact e316
    rw [if_neg yv, e3, ck_p (by omega)] at hc
    by_cases y9 : D 134 9 = 12
    · obtain ⟨X, w, x1, x2, x3, x4, x5, x6, x7, x8⟩ := r_shop I k1 hE3
      obtain ⟨_, w1, w2, dr⟩ : v = 1 ∧ 0 ≤ w ∧ w ≤ 14 ∧ DR n (D 134) C' (X 134) := by rcases x8 with x | x; omega; exact x
      have f9 := dr.2.2.1 9 (by omega)
      refine ⟨.inr 3, E3, 0, sA (pD (pD X 133 14 (-1)) 133 0 2) 134 (D 134), ?_, ?_, ⟨1, ?_, rfl⟩, no X (-1) 2 E3 rfl x2 x3 x5 (by rw [z3.1, if_neg yv])⟩
      · rw [hc, if_neg (by omega)]
      · rw [x1, F_X12_shop_j46, ck_p (by omega), if_pos w1, if_pos w1, F_X12_shop_j59, t_0, bI_q, ck_p (by decide), if_pos rfl, pD_ne (by decide), f9, ck_p (by omega), if_pos y9, F_X12_shop_j84, t_1, bI_q, ck_p (by decide), if_neg (by decide)]
        exact r_back136 (fun i i0 i1 => by rw [pD_ne (by decide), pD_ne (by decide)]; exact x6 i i0 i1) (fun i hi => by rw [pD_ne (by decide), pD_ne (by decide)]; exact x7 i hi)
      · rw [sA_ne (by decide), pD_eq]; rfl
    · obtain ⟨_, _, _, dr0⟩ : v = 1 ∧ 0 ≤ w0 ∧ w0 ≤ 14 ∧ DR n (D 134) C' f0 := by rcases k5 with x | x; omega; exact x
      have shE : ∀ g, DR n (D 134) C' g → ShopR 3 g (cS 3 94 E3) := fun g dr => (dr.2.1.keep (D' := E3) (fun a _ _ => o3 a (by omega) (by omega))).copy (t0 := 3) dr.1.ra (by omega)
      have e4 : cS 3 94 E3 3 16 = D 134 9 := by
        have := (shE f0 dr0).2.2.2.2.2.2.2.2.1
        rw [this]; exact dr0.2.2.1 9 (by omega)
      obtain ⟨E5, eE5⟩ : ∃ E5, E5 = pD (cS 3 94 E3) 3 16 (D 134 9 + 1) := ⟨_, rfl⟩
      have o5 : ∀ a : Nat, ¬ (3 ≤ a ∧ a ≤ 11) → E5 a = E3 a := fun a h => by rw [eE5, pD_ne (by omega), cS_ne (by omega)]
      have e93 : E5 93 3 = C' 93 3 := by rw [o5 93 (by omega), o3 93 (by decide) (by decide)]
      have r93 : nR (E5 93 3) := by rw [e93]; rcases dr0.2.2.2 with x | x; rw [x.1]; decide; rw [x.1]; decide
      rw [if_pos (by omega), c_copyS, bI_q, e4, ← eE5, ck_p r93] at hc
      have fin : ∀ E6 : mD, (∀ a : Nat, ¬ (17 ≤ a ∧ a ≤ 20) → E6 a = E5 a) → F_X11_shop D = F_X11_shop_j104 E6 → (∀ g, DR n (D 134) C' g → WorkR 17 g E6) → Step n D [0, 3] F_X11_shop F_X12_shop := by
        intro E6 o6 hj hW
        obtain ⟨E, eE⟩ : ∃ E, E = fillD (pD E6 31 1 0) 25 403 (-1) := ⟨_, rfl⟩
        have oE : ∀ a : Nat, a ≠ 25 → a ≠ 31 → E a = E6 a := fun a h1 h2 => by rw [eE, fillD_ne h1, pD_ne h2]
        have dE : ∀ a : Nat, a ≠ 0 → a ≠ 1 → ¬ (3 ≤ a ∧ a ≤ 11) → ¬ (17 ≤ a ∧ a ≤ 20) → a ≠ 25 → a ≠ 31 → ¬ (93 ≤ a ∧ a ≤ 102) → E a = D a := fun a h1 h2 h3 h4 h5 h6 h7 => by rw [oE a h5 h6, o6 a h4, o5 a h3, d3 a h1 h2 h7]
        obtain ⟨X, w, x1, x2, x3, x4, x5, x6, x7, x8⟩ := r_shop (E := E) I k1 (fun a ha => dE a (by omega) (by omega) (by omega) (by omega) (by omega) (by omega) (by omega))
        obtain ⟨_, w1, w2, dr⟩ : v = 1 ∧ 0 ≤ w ∧ w ≤ 14 ∧ DR n (D 134) C' (X 134) := by rcases x8 with x | x; omega; exact x
        have f9 := dr.2.2.1 9 (by omega)
        obtain ⟨F, eF⟩ : ∃ F, F = pD (pD (pD X 133 14 (-1)) 134 9 (D 134 9 + 1)) 133 7 0 := ⟨_, rfl⟩
        have fo : ∀ a : Nat, a ≠ 133 → a ≠ 134 → a ≠ 136 → F a = E a := fun a h1 h2 h3 => by rw [eF, pD_ne h1, pD_ne h2, pD_ne h1, x2 a h1 h2 h3]
        have fd : ∀ a : Nat, a ≠ 0 → a ≠ 1 → ¬ (3 ≤ a ∧ a ≤ 11) → ¬ (17 ≤ a ∧ a ≤ 20) → a ≠ 25 → a ≠ 31 → ¬ (93 ≤ a ∧ a ≤ 102) → a ≠ 133 → a ≠ 134 → a ≠ 136 → F a = D a := fun a h1 h2 h3 h4 h5 h6 h7 h8 h9 h10 => (fo a h8 h9 h10).trans (dE a h1 h2 h3 h4 h5 h6 h7)
        have f3 : ∀ i : Int, i ≠ 7 → i ≠ 14 → F 133 i = X 133 i := fun i h1 h2 => by rw [eF, pD_nj h1, pD_ne (by decide), pD_nj h2]
        have fw : F 134 = sI (X 134) 9 (D 134 9 + 1) := by
          rw [eF, pD_ne (by decide)]
          unfold pD
          rw [sA_eq, sA_ne (by decide)]
        have hi := I.his
        have f31 : F 31 1 = 0 ∧ F 31 2 = D 31 2 := by
          rw [fo 31 (by decide) (by decide) (by decide), eE, fillD_ne (by decide)]
          exact ⟨pD_eq _ _ _ _, by rw [pD_nj (by decide), o6 31 (by omega), o5 31 (by omega), d3 31 (by decide) (by decide) (by omega)]⟩
        have f7 : F 133 7 = 0 := by rw [eF, pD_eq]
        have f0 : F 0 = E3 0 := by rw [fo 0 (by decide) (by decide) (by decide), oE 0 (by decide) (by decide), o6 0 (by omega), o5 0 (by omega)]
        have f1 : F 1 = E3 1 := by rw [fo 1 (by decide) (by decide) (by decide), oE 1 (by decide) (by decide), o6 1 (by omega), o5 1 (by omega)]
        have f93 : F 93 1 = D 93 1 := by rw [fo 93 (by decide) (by decide) (by decide), oE 93 (by decide) (by decide), o6 93 (by omega), o5 93 (by omega), o3 93 (by decide) (by decide), c93 1 (by decide)]
        obtain ⟨t1, t2, t3, t4⟩ := I.tp
        have s5 : ShopR 3 (sI (X 134) 9 (D 134 9 + 1)) E5 := by rw [eE5]; exact (shE _ dr).nine
        have gi : ∀ i : Int, i ≠ 9 → sI (X 134) 9 (D 134 9 + 1) i = X 134 i := fun i h => sI_ne h
        refine ⟨.inl (D 134 9 + 1), E, D 134 9 + 1, F, ?_, ?_, ⟨?_, rfl⟩, INV.mono ⟨⟨?_, ?_, ?_, ?_, ?_⟩, ⟨?_, ?_, ?_, ?_, ?_, fun j j0 j1 => ?_⟩, ?_, ⟨?_, ?_, ?_, fun j j0 j1 => ?_⟩, ?_, ?_⟩ (show n ≤ n + 1 by omega)⟩
        · have eo : E 3 16 = D 134 9 + 1 := by rw [oE 3 (by decide) (by decide), o6 3 (by omega), eE5, pD_eq]
          rw [hj, F_X11_shop_j104, F_X11_forgetActs, F_X1_clear, bI_q, F_X0_forgetWhites, bI_q, bI_q, ← eE, eo]
        · have e9 : (pD (pD (pD X 133 14 (-1)) 134 9 (D 134 9 + 1)) 133 7 0) 134 9 = D 134 9 + 1 := by rw [pD_ne (by decide), pD_eq]
          have eX9 : (pD X 133 14 (-1)) 134 9 = D 134 9 := by rw [pD_ne (by decide)]; exact f9
          rw [x1, F_X12_shop_j46, ck_p (by omega), if_pos w1, if_pos w1, F_X12_shop_j59, t_0, bI_q, ck_p (by decide), if_pos rfl, eX9, ck_p (by omega), if_neg y9, F_X12_shop_j84, t_0, bI_q, ck_p (by decide), if_pos rfl, eX9, e9, eF]
        · rw [f3 0 (by decide) (by decide)]; exact x4
        · rw [fw]; exact dr.1.nine (by omega)
        · rw [fw]; exact s5.keep (fun a _ _ => by rw [fo a (by omega) (by omega) (by omega), oE a (by omega) (by omega), o6 a (by omega)])
        · rw [fw]
          refine LawR.hi (w := D 134) R.wi (by rw [gi 10 (by omega)]; exact dr.2.2.1 10 (by omega)) (fun i hi => by rw [gi i (by omega)]; exact x7 i (Or.inr hi)) (R.2.2.1.keep (fun a _ _ => fd a (by omega) (by omega) (by omega) (by omega) (by omega) (by omega) (by omega) (by omega) (by omega) (by omega)))
        · rw [fw]
          have drr := dr.1.ra
          exact (WorkR.part (w := X 134) (by omega) (by omega) (fun i hi => gi i (by omega)) (hW _ dr)).at (fun a _ _ => by rw [fo a (by omega) (by omega) (by omega), oE a (by omega) (by omega)])
        · have drr := (dr.1.nine (v := D 134 9 + 1) (by omega)).ra
          exact Ca.no (fun j j0 j1 => by rw [fo 25 (by decide) (by decide) (by decide), eE, fillD_in ⟨j0, j1⟩]) (by rw [fw]; omega)
        · rw [f31.1, f7]
        · rw [f7]; omega
        · rw [f7]; omega
        · rw [f31.2]; omega
        · rw [f31.2]; omega
        · rw [f7] at j1; omega
        · exact I.2.2.1.go (fun a _ _ => fd a (by omega) (by omega) (by omega) (by omega) (by omega) (by omega) (by omega) (by omega) (by omega) (by omega)) (by rw [f0]; exact z3.2.1) (fd 135 (by decide) (by decide) (by omega) (by omega) (by decide) (by decide) (by omega) (by decide) (by decide) (by decide)) (by rw [f3 6 (by decide) (by decide)]; exact x3 6 (by decide) (by decide) (by decide) (by decide) (by decide) (by decide))
        · rw [f1, z3.2.2, f3 9 (by decide) (by decide), x5]
        · rw [f3 9 (by decide) (by decide), x5]; omega
        · rw [f3 9 (by decide) (by decide), x5]; omega
        · rw [fd 139 (by decide) (by decide) (by omega) (by omega) (by decide) (by decide) (by omega) (by decide) (by decide) (by decide), fd 2 (by decide) (by decide) (by omega) (by omega) (by decide) (by decide) (by omega) (by decide) (by decide) (by decide)]; exact t4 j j0 j1
        · rw [f0, z3.1, if_neg yv, eF, pD_nj (by decide), pD_ne (by decide), pD_eq]
        · unfold Fx
          rw [f93, fd 103 (by decide) (by decide) (by omega) (by omega) (by decide) (by decide) (by omega) (by decide) (by decide) (by decide)]
          exact I.2.2.2.2.2
      have W5 : WorkR 17 (D 134) E5 := (WorkR.cr R).at (fun a _ _ => by rw [o5 a (by omega), d3 a (by omega) (by omega) (by omega)])
      by_cases z : C' 93 3 = 0
      · refine fin E5 (fun _ _ => rfl) (by rw [hc, if_pos (by omega)]) (fun g dr => ?_)
        have h4 : ∀ i : Int, i = 1 ∨ i = 12 ∨ (159 ≤ i ∧ i < 215) → g i = D 134 i := by
          rcases dr.2.2.2 with x | x
          · exact x.2
          · omega
        refine WorkR.part (w := D 134) (by omega) (by omega) (fun i hi => ?_) W5
        by_cases u : i = 1 ∨ i = 12 ∨ (159 ≤ i ∧ i < 215)
        · exact h4 i u
        · exact dr.2.2.1 i (by omega)
      · have nw : ∀ g, DR n (D 134) C' g → ∃ E, F_X10_beginWord 17 E5 = some (0, E) ∧ WorkR 17 g E ∧ ∀ a : Nat, ¬ (17 ≤ a ∧ a ≤ 17 + 3) → E a = E5 a := fun g dr => by
          have gr := dr.1.ra
          obtain ⟨x1, x2, x3, x4⟩ : C' 93 3 = 1 ∧ g 12 = -1 ∧ 1 ≤ g 1 ∧ ∀ l, 0 ≤ l → l < g 1 → wL g l 1 = 0 ∧ wL g l 2 = -1 ∧ wL g l 3 = 3 := by
            rcases dr.2.2.2 with x | x
            · exact absurd x.1 z
            · exact x
          exact WorkR.word rfl (by omega) (by omega) (fun i hi => dr.2.2.1 i (by omega)) x2 x4 W5
        obtain ⟨E6, n1, _, n3⟩ := nw f0 dr0
        refine fin E6 (fun a h => n3 a (by omega)) (by rw [hc, if_neg (by omega), n1, bI_q]) (fun g dr => ?_)
        obtain ⟨E7, m1, m2, _⟩ := nw g dr
        have e : ((0 : Int), E6) = (0, E7) := Option.some.inj (n1.symm.trans m1)
        injection e with _ e2
        rw [e2]; exact m2
end PWc
