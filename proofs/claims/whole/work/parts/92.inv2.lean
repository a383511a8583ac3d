/-! WHAT HOLDS between calls: works behind acts, the image, the tape, the first wrong byte -/
section PI1
variable {n : Int} {D E F : mD} {w : Int → Int}
def actW (D : mD) (r j : Int) : Int → Int := fun i => if 0 ≤ i ∧ i < 475 then D 138 (475 * (r - 1 - j) + i) else D 134 i
def hT (D : mD) (j : Int) : Nat := 33 + 5 * ((D 31 2 - 1 - j) % 12).toNat
def Hist (n : Int) (D : mD) : Prop := D 31 1 = D 133 7 ∧ 0 ≤ D 133 7 ∧ D 133 7 ≤ 12 ∧ 0 ≤ D 31 2 ∧ D 31 2 < 12 ∧
  ∀ j, 0 ≤ j → j < D 133 7 → SameS (D 134) (actW D (D 133 7) j) ∧ Wi n (actW D (D 133 7) j) ∧ WorkR (hT D j) (actW D (D 133 7) j) D
def Img (n : Int) (D : mD) : Prop := D 0 14 = D 133 6 ∧ (D 133 6 = 0 ∨ D 133 6 = 1) ∧ (D 133 6 = 1 → Wi n (D 135) ∧ ShopR 114 (D 135) D ∧ LawR 123 (D 135) D ∧ WorkR 128 (D 135) D)
def TapeR (D : mD) : Prop := D 1 1 = D 133 9 ∧ 0 ≤ D 133 9 ∧ D 133 9 ≤ 400 ∧ ∀ j, 0 ≤ j → j < 400 → -128 ≤ D 139 j ∧ D 139 j ≤ 127 ∧ D 2 j = D 139 j % 256
/-- how many lines a text may have -/
def Fx (D : mD) : Prop := D 93 1 = 14 ∧ D 103 1 = 12
theorem Fx.go {D F : mD} (h : Fx D) (h1 : F 93 = D 93) (h2 : F 103 = D 103) : Fx F := by
  unfold Fx at h ⊢
  rw [h1, h2]
  exact h
def INV (n : Int) (D : mD) : Prop := CR n D ∧ Hist n D ∧ Img n D ∧ TapeR D ∧ D 0 15 = D 133 14 ∧ Fx D
theorem WorkR.at {t : Nat} (h : WorkR t w D) (k : ∀ a : Nat, t ≤ a → a ≤ t + 4 → E a = D a) : WorkR t w E := h.keep k
theorem CR.eqc (R : CR n E) (h : ∀ a : Nat, a < 133 → F a = E a) (hw : F 134 = E 134) : CR n F := by
  obtain ⟨h1, h2, h3, h4, h5⟩ := R
  unfold CR
  rw [hw]
  refine ⟨h1, h2.keep (fun a _ _ => h a (by omega)), h3.keep (fun a _ _ => h a (by omega)), h4.keep (fun a _ _ => h a (by omega)), ?_⟩
  unfold Ca at h5 ⊢
  rw [hw, h 25 (by decide)]
  exact h5
theorem CR.mono {n' : Int} (R : CR n D) (h : n ≤ n') : CR n' D := ⟨R.1.mono h, R.2⟩
theorem Hist.mono {n' : Int} (h : Hist n D) (hn : n ≤ n') : Hist n' D := by
  obtain ⟨a, b, c, d, e, f⟩ := h
  exact ⟨a, b, c, d, e, fun j j0 j1 => ⟨(f j j0 j1).1, (f j j0 j1).2.1.mono hn, (f j j0 j1).2.2⟩⟩
theorem Img.mono {n' : Int} (h : Img n D) (hn : n ≤ n') : Img n' D := ⟨h.1, h.2.1, fun z => ⟨(h.2.2 z).1.mono hn, (h.2.2 z).2⟩⟩
theorem INV.mono {n' : Int} (h : INV n D) (hn : n ≤ n') : INV n' D := ⟨h.1.mono hn, h.2.1.mono hn, h.2.2.1.mono hn, h.2.2.2⟩
theorem hT_r (D : mD) (j : Int) : 33 ≤ hT D j ∧ hT D j ≤ 88 := by
  unfold hT
  omega
theorem Hist.go (h : Hist n D) (hc : ∀ a : Nat, 31 ≤ a → a ≤ 92 → F a = D a) (hw : F 134 = D 134) (h8 : F 138 = D 138) (h7 : F 133 7 = D 133 7) : Hist n F := by
  obtain ⟨a, b, c, d, e, f⟩ := h
  unfold Hist
  have e31 : F 31 = D 31 := hc 31 (by omega) (by omega)
  rw [e31, h7]
  refine ⟨a, b, c, d, e, fun j j0 j1 => ?_⟩
  have ea : actW F (D 133 7) j = actW D (D 133 7) j := by unfold actW; rw [hw, h8]
  have et : hT F j = hT D j := by unfold hT; rw [e31]
  have r := hT_r D j
  rw [ea, et, hw]
  exact ⟨(f j j0 j1).1, (f j j0 j1).2.1, (f j j0 j1).2.2.at (fun a a0 a1 => hc a (by omega) (by omega))⟩
theorem Img.go (h : Img n D) (hc : ∀ a : Nat, 114 ≤ a → a ≤ 132 → F a = D a) (h0 : F 0 14 = D 0 14) (h5 : F 135 = D 135) (h6 : F 133 6 = D 133 6) : Img n F := by
  obtain ⟨a, b, c⟩ := h
  unfold Img
  rw [h0, h6, h5]
  refine ⟨a, b, fun z => ?_⟩
  obtain ⟨c1, c2, c3, c4⟩ := c z
  exact ⟨c1, c2.keep (fun a _ _ => hc a (by omega) (by omega)), c3.keep (fun a _ _ => hc a (by omega) (by omega)), c4.keep (fun a _ _ => hc a (by omega) (by omega))⟩
theorem TapeR.go (h : TapeR D) (h1 : F 1 1 = D 1 1) (h2 : F 2 = D 2) (h9 : F 133 9 = D 133 9) (h3 : F 139 = D 139) : TapeR F := by
  unfold TapeR at h ⊢
  rw [h1, h2, h9, h3]
  exact h
/-- a call: both ends agree, and what holds holds behind it -/
def Step (n : Int) (D : mD) (ex : List Nat) (fc : mD → RX) (fr : mD → RI) : Prop :=
  ∃ r E v F, fc D = some (r, E) ∧ fr E = some (v, F) ∧ Agr ex r v (F 133 0) ∧ INV (n + 1) F
def StepI (n : Int) (D : mD) (fc : mD → RI) (fr : mD → RI) : Prop :=
  ∃ E v F, fc D = some (v, E) ∧ fr E = some (v, F) ∧ INV (n + 1) F
theorem INV.ask (I : INV n D) (K : Ke n D E) (q : Qt E F) : INV n F := by
  obtain ⟨R, h, i, t, f⟩ := I
  have hc : ∀ a : Nat, a < 133 → F a = E a := fun a ha => q.1 a (by omega) (by omega) (by omega)
  have h3 : ∀ i : Int, ¬ (18 ≤ i ∧ i ≤ 21) → i ≠ 0 → F 133 i = D 133 i := fun i hi h0 => (q.2 i hi h0).trans (by rw [K.1 133 (by decide) (by decide)])
  have hd : ∀ a : Nat, a < 133 → ¬ (23 ≤ a ∧ a ≤ 30) → ¬ (109 ≤ a ∧ a ≤ 113) → F a = D a := fun a h1 h2 h3 => (hc a h1).trans (K.1 a h2 h3)
  have hR : ∀ a : Nat, a = 134 ∨ a = 135 ∨ a = 138 ∨ a = 139 → F a = D a := fun a ha => (q.1 a (by omega) (by omega) (by omega)).trans (K.1 a (by omega) (by omega))
  refine ⟨K.2.eqc hc q.w, h.go (fun a a0 a1 => hd a (by omega) (by omega) (by omega)) (hR 134 (by omega)) (hR 138 (by omega)) (h3 7 (by omega) (by omega)), i.go (fun a a0 a1 => hd a (by omega) (by omega) (by omega)) ?_ (hR 135 (by omega)) (h3 6 (by omega) (by omega)), t.go ?_ (hd 2 (by omega) (by omega) (by omega)) (h3 9 (by omega) (by omega)) (hR 139 (by omega)), ?_⟩
  · rw [hd 0 (by omega) (by omega) (by omega)]
  · rw [hd 1 (by omega) (by omega) (by omega)]
  · exact ⟨by rw [hd 0 (by omega) (by omega) (by omega), h3 14 (by omega) (by omega)]; exact f.1, f.2.go (hd 93 (by omega) (by omega) (by omega)) (hd 103 (by omega) (by omega) (by omega))⟩
theorem Ans.step {ex : List Nat} {fc : mD → RX} {fr : mD → RI} (I : INV n D) (h : Ans n D ex fc fr) : Step n D ex fc fr := by
  obtain ⟨r, E, v, F, h1, h2, h3, h4, h5⟩ := h
  exact ⟨r, E, v, F, h1, h3, h5, (I.ask h2 h4).mono (by omega)⟩
theorem AnsI.step {fc : mD → RI} {fr : mD → RI} (I : INV n D) (h : AnsI n D fc fr) : StepI n D fc fr := by
  obtain ⟨E, v, F, h1, h2, h3, h4⟩ := h
  exact ⟨E, v, F, h1, h3, (I.ask h2 h4).mono (by omega)⟩
/-! remembering -/
def RemC (D E : mD) : Prop := (∀ a : Nat, a ≠ 31 → ¬ (33 + 5 * (D 31 2).toNat ≤ a ∧ a ≤ 33 + 5 * (D 31 2).toNat + 4) → E a = D a) ∧ E 31 1 = min 12 (D 31 1 + 1) ∧ E 31 2 = (D 31 2 + 1) % 12
theorem c_remember (h2 : 0 ≤ D 31 2 ∧ D 31 2 < 12) (h1 : 0 ≤ D 31 1 ∧ D 31 1 ≤ 12) (hw : w 1 ≤ 14) (hW : WorkR 17 w D) : ∃ E, F_X1_remember 17 D = some (0, E) ∧ RemC D E ∧ WorkR (33 + 5 * (D 31 2).toNat) w E := by
  have e : ∀ i, cW (33 + 5 * (D 31 2).toNat) 17 D 31 i = D 31 i := fun i => by rw [cW_ne (by omega)]
  have cp := hW.copy (t0 := 33 + 5 * (D 31 2).toNat) hw (by omega)
  rw [F_X1_remember, ck_p h2, c_copyW, bI_q, e 2, ck_p (by omega), ck_p (by omega), pD_nj (by decide), e 1, ck_p (by omega)]
  refine ⟨_, rfl, ⟨fun a h3 h4 => ?_, ?_, ?_⟩, ?_⟩
  · rw [pD_ne h3, pD_ne h3, cW_ne h4]
  · rw [pD_eq]
  · rw [pD_nj (by decide), pD_eq]
  · exact cp.at (fun a a0 a1 => by rw [pD_ne (by omega), pD_ne (by omega)])
def RemR (D E : mD) : Prop := (∀ a : Nat, a ≠ 133 → a ≠ 138 → E a = D a) ∧ (∀ i : Int, i ≠ 7 → E 133 i = D 133 i) ∧ E 133 7 = min 12 (D 133 7 + 1) ∧
  (∀ k, 0 ≤ k → k < 475 → E 138 (475 * (E 133 7 - 1) + k) = D 134 k) ∧ ∀ j k, 1 ≤ j → j < E 133 7 → 0 ≤ k → k < 475 → E 138 (475 * (E 133 7 - 1 - j) + k) = D 138 (475 * (D 133 7 - 1 - (j - 1)) + k)
theorem rem_tail {r : Int} (hr : 1 ≤ r ∧ r ≤ 12) : ∀ (m fuel : Nat) (k : Int) (f : Int → Int), m < fuel → 0 ≤ k → k + m = 475 → E 133 7 = r → (∀ i, 0 ≤ i → i < k → f (475 * (r - 1) + i) = E 134 i) →
    ∃ g : Int → Int, F_X12_remembers_L55 fuel k (sA E 138 f) = some (0, sA E 138 g) ∧ (∀ i, 0 ≤ i → i < 475 → g (475 * (r - 1) + i) = E 134 i) ∧ ∀ i, i < 475 * (r - 1) → g i = f i := by
  intro m
  induction m with
  | zero =>
    intro fuel k f hf k0 hk h7 h
    obtain ⟨j, rfl⟩ : ∃ j, fuel = j + 1 := ⟨fuel - 1, by omega⟩
    exact ⟨f, by rw [F_X12_remembers_L55, ck_p (by omega), if_pos (by omega)], fun i i0 i1 => h i i0 (by omega), fun i _ => rfl⟩
  | succ m ih =>
    intro fuel k f hf k0 hk h7 h
    obtain ⟨j, rfl⟩ : ∃ j, fuel = j + 1 := ⟨fuel - 1, by omega⟩
    obtain ⟨g, g1, g2, g3⟩ := ih j (k + 1) (sI f (475 * (r - 1) + k) (E 134 k)) (by omega) (by omega) (by omega) h7 (fun i i0 i1 => by
      by_cases y : i = k
      · rw [y, sI_eq]
      · rw [sI_ne (by omega)]; exact h i i0 (by omega))
    refine ⟨g, ?_, g2, fun i hi => by rw [g3 i hi, sI_ne (by omega)]⟩
    have e7 : (sA E 138 f) 133 7 = r := by rw [sA_ne (by decide)]; exact h7
    rw [F_X12_remembers_L55, ck_p (by omega), if_neg (by omega), ck_p (by omega), e7, ck_p (by omega), sA_ne (by decide), ← g1]
    unfold pD
    rw [sA_eq, sA_sA]
theorem rem_shift : ∀ (m fuel : Nat) (k : Int) (f : Int → Int), m < fuel → 0 ≤ k → k + m = 5225 → (∀ i, 0 ≤ i → i < k → f i = E 138 (i + 475)) → (∀ i, k ≤ i → f i = E 138 i) →
    ∃ g : Int → Int, F_X12_remembers_L11 fuel k (sA E 138 f) = F_X12_remembers_L55 fuelN 0 (sA E 138 g) ∧ ∀ i, 0 ≤ i → i < 5225 → g i = E 138 (i + 475) := by
  intro m
  induction m with
  | zero =>
    intro fuel k f hf k0 hk h h2
    obtain ⟨j, rfl⟩ : ∃ j, fuel = j + 1 := ⟨fuel - 1, by omega⟩
    exact ⟨f, by rw [F_X12_remembers_L11, ck_p (by omega), if_pos (by omega)], fun i i0 i1 => h i i0 (by omega)⟩
  | succ m ih =>
    intro fuel k f hf k0 hk h h2
    obtain ⟨j, rfl⟩ : ∃ j, fuel = j + 1 := ⟨fuel - 1, by omega⟩
    obtain ⟨g, g1, g2⟩ := ih j (k + 1) (sI f k (E 138 (k + 475))) (by omega) (by omega) (by omega) (fun i i0 i1 => by
      by_cases y : i = k
      · rw [y, sI_eq]
      · rw [sI_ne y]; exact h i i0 (by omega)) (fun i hi => by rw [sI_ne (by omega)]; exact h2 i (by omega))
    refine ⟨g, ?_, g2⟩
    rw [F_X12_remembers_L11, ck_p (by omega), if_neg (by omega), ck_p (by omega), ck_p (by omega), ← g1]
    unfold pD
    rw [sA_eq, sA_sA, h2 (k + 475) (by omega)]
theorem r_remembers (h : 0 ≤ D 133 7 ∧ D 133 7 ≤ 12) : ∃ E, F_X12_remembers D = some (0, E) ∧ RemR D E := by
  have hN := fN
  rw [F_X12_remembers, ck_p (by omega)]
  by_cases z : D 133 7 = 12
  · rw [if_pos z]
    obtain ⟨g, g1, g2⟩ := rem_shift (E := D) 5225 fuelN 0 (D 138) (by omega) (by omega) (by omega) (fun i i0 i1 => by omega) (fun i _ => rfl)
    rw [sA_self] at g1
    obtain ⟨k, k1, k2, k3⟩ := rem_tail (E := D) (r := 12) (by omega) 475 fuelN 0 g (by omega) (by omega) (by omega) z (fun i i0 i1 => by omega)
    refine ⟨sA D 138 k, by rw [g1, k1], fun a h1 h2 => sA_ne h2, fun i hi => by rw [sA_ne (by decide)], ?_, ?_, ?_⟩
    · rw [sA_ne (by decide), z]; decide
    · intro i i0 i1
      rw [sA_eq, sA_ne (b := 133) (by decide), z]; exact k2 i i0 i1
    · intro j i j0 j1 i0 i1
      rw [sA_ne (by decide), z] at j1
      rw [sA_eq, sA_ne (b := 133) (by decide), z, k3 _ (by omega), g2 _ (by omega) (by omega)]
      exact congrArg (D 138) (by omega)
  · rw [if_neg z]
    have e7 : (pD D 133 7 (D 133 7 + 1)) 133 7 = D 133 7 + 1 := pD_eq _ _ _ _
    obtain ⟨k, k1, k2, k3⟩ := rem_tail (E := pD D 133 7 (D 133 7 + 1)) (r := D 133 7 + 1) (by omega) 475 fuelN 0 (D 138) (by omega) (by omega) (by omega) e7 (fun i i0 i1 => by omega)
    have e8 : sA (pD D 133 7 (D 133 7 + 1)) 138 (D 138) = pD D 133 7 (D 133 7 + 1) := by
      have := sA_self (pD D 133 7 (D 133 7 + 1)) 138
      rw [pD_ne (by decide)] at this
      exact this
    rw [e8] at k1
    rw [pD_ne (by decide)] at k2
    refine ⟨_, k1, fun a h1 h2 => by rw [sA_ne h2, pD_ne h1], fun i hi => by rw [sA_ne (by decide), pD_nj hi], ?_, ?_, ?_⟩
    · rw [sA_ne (by decide), e7]; omega
    · intro i i0 i1
      rw [sA_eq, sA_ne (b := 133) (by decide), e7]; exact k2 i i0 i1
    · intro j i j0 j1 i0 i1
      rw [sA_ne (by decide), e7] at j1
      rw [sA_eq, sA_ne (b := 133) (by decide), e7, k3 _ (by omega)]
      exact congrArg (D 138) (by omega)
/-- behind an act all holds -/
theorem act_end {n' : Int} (I : INV n D) (hn : n ≤ n')
    (h1 : ∀ a : Nat, a < 133 → ¬ (17 ≤ a ∧ a ≤ 21) → ¬ (23 ≤ a ∧ a ≤ 31) → ¬ (33 + 5 * (D 31 2).toNat ≤ a ∧ a ≤ 33 + 5 * (D 31 2).toNat + 4) → ¬ (109 ≤ a ∧ a ≤ 113) → F a = D a)
    (h2 : F 31 1 = min 12 (D 31 1 + 1) ∧ F 31 2 = (D 31 2 + 1) % 12) (h3 : WorkR (33 + 5 * (D 31 2).toNat) (D 134) F) (h4 : WorkR 17 (F 134) F) (S : SameS (D 134) (F 134)) (H : Wi n' (F 134)) (h5 : Ca F)
    (h6 : F 135 = D 135 ∧ F 139 = D 139 ∧ F 133 6 = D 133 6 ∧ F 133 9 = D 133 9 ∧ F 133 14 = D 133 14) (h7 : F 133 7 = min 12 (D 133 7 + 1))
    (h8 : ∀ k, 0 ≤ k → k < 475 → F 138 (475 * (F 133 7 - 1) + k) = D 134 k) (h9 : ∀ j k, 1 ≤ j → j < F 133 7 → 0 ≤ k → k < 475 → F 138 (475 * (F 133 7 - 1 - j) + k) = D 138 (475 * (D 133 7 - 1 - (j - 1)) + k)) : INV n' F := by
  obtain ⟨R, h, i, t, f⟩ := I
  obtain ⟨a1, a2, a3, a4, a5, a6⟩ := h
  have Hd := R.wi
  refine ⟨⟨H, ?_, ?_, h4, h5⟩, ⟨?_, ?_, ?_, ?_, ?_, fun j j0 j1 => ?_⟩, ?_, ?_, ?_⟩
  · exact ShopR_same Hd S (R.2.1.keep (fun a _ _ => h1 a (by omega) (by omega) (by omega) (by omega) (by omega)))
  · exact LawR_same Hd S (R.2.2.1.keep (fun a _ _ => h1 a (by omega) (by omega) (by omega) (by omega) (by omega)))
  · rw [h2.1, h7, a1]
  · rw [h7]; omega
  · rw [h7]; omega
  · rw [h2.2]; omega
  · rw [h2.2]; omega
  · by_cases z : j = 0
    · subst z
      have ea : actW F (F 133 7) 0 = D 134 := by
        funext i
        unfold actW
        by_cases y : 0 ≤ i ∧ i < 475
        · rw [if_pos y, Int.sub_zero]; exact h8 i y.1 y.2
        · rw [if_neg y]; exact S i (by unfold keptC; omega)
      have et : hT F 0 = 33 + 5 * (D 31 2).toNat := by unfold hT; rw [h2.2]; omega
      rw [ea, et]
      exact ⟨S.sy, Hd.mono hn, h3⟩
    · have ea : actW F (F 133 7) j = actW D (D 133 7) (j - 1) := by
        funext i
        unfold actW
        by_cases y : 0 ≤ i ∧ i < 475
        · rw [if_pos y, if_pos y]; exact h9 j i (by omega) j1 y.1 y.2
        · rw [if_neg y, if_neg y]; exact S i (by unfold keptC; omega)
      have et : hT F j = hT D (j - 1) := by unfold hT; rw [h2.2]; omega
      have g := a6 (j - 1) (by omega) (by omega)
      have r := hT_r D (j - 1)
      have rne : hT D (j - 1) ≠ 33 + 5 * (D 31 2).toNat := by unfold hT; omega
      have rm : (hT D (j - 1) - 33) % 5 = 0 := by unfold hT; omega
      rw [ea, et]
      exact ⟨S.sy.tr g.1, g.2.1.mono hn, g.2.2.at (fun a b0 b1 => h1 a (by omega) (by omega) (by omega) (by omega) (by omega))⟩
  · exact (i.go (fun a _ _ => h1 a (by omega) (by omega) (by omega) (by omega) (by omega)) (by rw [h1 0 (by omega) (by omega) (by omega) (by omega) (by omega)]) h6.1 h6.2.2.1).mono hn
  · exact t.go (by rw [h1 1 (by omega) (by omega) (by omega) (by omega) (by omega)]) (h1 2 (by omega) (by omega) (by omega) (by omega) (by omega)) h6.2.2.2.1 h6.2.1
  · exact ⟨by rw [h1 0 (by omega) (by omega) (by omega) (by omega) (by omega), h6.2.2.2.2]; exact f.1, f.2.go (h1 93 (by omega) (by omega) (by omega) (by omega) (by omega)) (h1 103 (by omega) (by omega) (by omega) (by omega) (by omega))⟩
end PI1
