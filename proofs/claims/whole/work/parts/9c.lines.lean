/-! LINES of the shop: both ends in step -/
section PW2
variable {n : Int} {B W0 f g : Int → Int} {L p q b : Int} {C D E R : mD}
def stR (R : mD) (q b : Int) (f : Int → Int) : mD := sA (posD R q b) 134 f
theorem st_f (R : mD) (q b : Int) (f : Int → Int) : stR R q b f 133 10 = q ∧ stR R q b f 133 12 = b ∧ stR R q b f 134 = f ∧ (∀ a : Nat, a ≠ 133 → a ≠ 134 → stR R q b f a = R a) ∧ ∀ i : Int, i ≠ 10 → i ≠ 12 → stR R q b f 133 i = R 133 i := by
  have h := pos_f R q b
  unfold stR
  exact ⟨by rw [sA_ne (by decide)]; exact h.1, by rw [sA_ne (by decide)]; exact h.2.1, sA_eq _ _ _, fun a h1 h2 => by rw [sA_ne h2]; exact h.2.2.1 a h1, fun i h1 h2 => by rw [sA_ne (by decide)]; exact h.2.2.2 i h1 h2⟩
theorem st_pos (R : mD) (q b q' b' : Int) (f : Int → Int) : posD (stR R q b f) q' b' = stR R q' b' f := by
  have e : posD (stR R q b f) q' b' = sA (posD (posD R q b) q' b') 134 f := by
    unfold stR posD
    funext a j
    unfold pD sA
    by_cases h : a = 134
    · subst h; simp
    · simp only [h, if_false]
      by_cases h2 : a = 133
      · subst h2; simp
      · simp [h2]
  rw [e, pos_pos]
  rfl
theorem st_set (R : mD) (q b : Int) (f : Int → Int) (i v : Int) : pD (stR R q b f) 134 i v = stR R q b (sI f i v) := by
  unfold stR
  rw [pD_sA]
theorem st_0 (R : mD) (q b : Int) : posD R q b = stR R q b (R 134) := by
  unfold stR
  have := sA_self (posD R q b) 134
  rw [(pos_f R q b).2.2.1 134 (by decide)] at this
  exact this.symm
theorem st_RT (h : RT B L R) (q b : Int) (f : Int → Int) : RT B L (stR R q b f) := h.go ((st_f R q b f).2.2.2.2 11 (by decide) (by decide)) ((st_f R q b f).2.2.2.1 139 (by decide) (by decide))
theorem st_letters (hB : CB B L) (h : RT B L R) (p0 : 0 ≤ q) (p1 : q ≤ L) : F_X12_lettersPass (stR R q b f) = some (0, stR R (wd B L q) (sk B L q) f) := by
  rw [r_lettersPass hB (st_RT h q b f) (st_f R q b f).1 p0 p1, st_pos]
theorem st_word (hB : CB B L) (h : RT B L R) (p0 : 0 ≤ q) (p1 : q ≤ L) {i : Nat} (hi : 54 ≤ i ∧ i < 81) : F_X12_isWord i (stR R (wd B L q) (sk B L q) f) = some (bi (isW B L (sTx i) q), stR R (wd B L q) (sk B L q) f) := by
  have := r_isWord (R := stR R 0 0 f) hB (st_RT h 0 0 f) p0 p1 hi
  rw [st_pos] at this
  exact this
theorem st_number (hB : CB B L) (h : RT B L R) (p0 : 0 ≤ q) (p1 : q ≤ L) {lo hi : Int} (hlo : nR lo) (hhi : nR hi) : F_X12_number lo hi (stR R q b f) = some (numV B L lo hi q, stR R (nd B L q) (sk B L q) f) := by
  rw [r_number hB (st_RT h q b f) (st_f R q b f).1 p0 p1 hlo hhi, st_pos]
theorem st_after (hB : CB B L) (h : RT B L R) (p0 : 0 ≤ q) (p1 : q ≤ L) {i : Nat} (hi : 54 ≤ i ∧ i < 81) {lo hi' : Int} (hlo : nR lo) (hhi : nR hi') : F_X12_after i lo hi' (stR R q b f) = if isW B L (sTx i) q = true then some (numV B L lo hi' (wd B L q), stR R (nd B L (wd B L q)) (sk B L (wd B L q)) f) else some (-1, stR R (wd B L q) (sk B L q) f) := by
  rw [r_after hB (st_RT h q b f) (st_f R q b f).1 p0 p1 hi hlo hhi, st_pos, st_pos]
theorem st_blanks (hB : CB B L) (h : RT B L R) (p0 : 0 ≤ q) (p1 : q ≤ L) : F_X12_blanks (stR R q b f) = some (0, stR R (sk B L q) (sk B L q) f) := by
  rw [r_blanks hB (st_RT h q b f) (st_f R q b f).1 p0 p1, st_pos]
theorem st_figure (hB : CB B L) (h : RT B L R) (p0 : 0 ≤ q) (p1 : q ≤ L) : F_X12_isFigure (stR R q b f) = some (bi (decide (tk B L (sk B L q) = 2)), stR R (sk B L q) (sk B L q) f) := by
  rw [r_isFigure hB (st_RT h q b f) (st_f R q b f).1 p0 p1, st_pos]
theorem tx_eq : (sTx 54 = sTx 15 ∧ sTx 55 = sTx 16 ∧ sTx 56 = sTx 17 ∧ sTx 57 = sTx 18 ∧ sTx 58 = sTx 19 ∧ sTx 59 = sTx 20 ∧ sTx 60 = sTx 21 ∧ sTx 61 = sTx 22 ∧ sTx 62 = sTx 27 ∧ sTx 63 = sTx 28 ∧ sTx 64 = sTx 29) ∧ (sTx 65 = sTx 30 ∧ sTx 66 = sTx 31 ∧ sTx 67 = sTx 23 ∧ sTx 68 = sTx 24 ∧ sTx 69 = sTx 25 ∧ sTx 70 = sTx 26) := by decide +kernel
def FrC (C C' : mD) : Prop := (∀ a : Nat, a ≠ 1 → ¬ (93 ≤ a ∧ a ≤ 102) → C' a = C a) ∧ ∀ i : Int, i ≠ 3 → C' 93 i = C 93 i
def FrR (R R' : mD) : Prop := (∀ a : Nat, a ≠ 133 → a ≠ 134 → R' a = R a) ∧ (∀ i : Int, i ≠ 10 → i ≠ 12 → R' 133 i = R 133 i) ∧ ∀ i : Int, i < 0 ∨ 475 ≤ i → R' 134 i = R 134 i
theorem FrC.rf : FrC C C := ⟨fun _ _ _ => rfl, fun _ _ => rfl⟩
theorem FrC.tr {C1 C2 : mD} (h : FrC C C1) (k : FrC C1 C2) : FrC C C2 := ⟨fun a h1 h2 => (k.1 a h1 h2).trans (h.1 a h1 h2), fun i hi => (k.2 i hi).trans (h.2 i hi)⟩
theorem Fr1.c (h : Fr1 C D) : FrC C D := ⟨fun a h1 _ => h a h1, fun i _ => by rw [h 93 (by decide)]⟩
theorem FrC.put {a : Nat} {i v : Int} (h : 94 ≤ a ∧ a ≤ 102) : FrC C (pD C a i v) := ⟨fun x h1 h2 => pD_ne (by omega), fun j _ => by rw [pD_ne (by omega)]⟩
theorem FrR.st (hf : ∀ i : Int, i < 0 ∨ 475 ≤ i → f i = R 134 i) : FrR R (stR R q b f) := ⟨(st_f R q b f).2.2.2.1, (st_f R q b f).2.2.2.2, fun i hi => by rw [(st_f R q b f).2.2.1]; exact hf i hi⟩
/-- the draft of the class stands for the reference's world f -/
def DR (n : Int) (W0 : Int → Int) (C : mD) (f : Int → Int) : Prop := Wi n f ∧ ShopR 94 f C ∧ (∀ i : Int, (i = 5 ∨ i = 9 ∨ i = 10 ∨ i = 11 ∨ i = 13 ∨ i = 14 ∨ 235 ≤ i ∨ i < 0) → f i = W0 i) ∧
  ((C 93 3 = 0 ∧ ∀ i : Int, (i = 1 ∨ i = 12 ∨ (159 ≤ i ∧ i < 215)) → f i = W0 i) ∨ (C 93 3 = 1 ∧ f 12 = -1 ∧ 1 ≤ f 1 ∧ ∀ l, 0 ≤ l → l < f 1 → wL f l 1 = 0 ∧ wL f l 2 = -1 ∧ wL f l 3 = 3))
/-- in step: class's end, reference's end -/
def Lock (B : Int → Int) (L n : Int) (W0 : Int → Int) (C R : mD) (fc fr : RI) : Prop := ∃ v C' q b f, fc = some (v, C') ∧ fr = some (v, stR R q b f) ∧ FrC C C' ∧ (∀ i : Int, i < 0 ∨ 475 ≤ i → f i = R 134 i) ∧
  ((v = 0 ∧ C' 1 3 = b) ∨ (v = 1 ∧ 0 ≤ q ∧ q ≤ L ∧ CT B L q C' ∧ DR n W0 C' f))
theorem Wi.num (H : Wi n f) {j v : Int} (h : (j = 2 ∧ 10 ≤ v ∧ v ≤ 120) ∨ (j = 3 ∧ 0 ≤ v ∧ v ≤ 9) ∨ (j = 4 ∧ 1 ≤ v ∧ v ≤ 99) ∨ (j = 6 ∧ 1 ≤ v ∧ v ≤ 99)) : Wi n (sI f j v) := by
  have hr := H.ra
  have e : ∀ i, i ≠ j → sI f j v i = f i := fun i hi => sI_ne hi
  have eL : ∀ l k, 0 ≤ l → 0 ≤ k → wL (sI f j v) l k = wL f l k := fun l k h1 h2 => e _ (by omega)
  have eS : ∀ s k, 0 ≤ s → 0 ≤ k → wS (sI f j v) s k = wS f s k := fun s k h1 h2 => e _ (by omega)
  have e0 := e 0 (by omega)
  have e1 := e 1 (by omega)
  have e7 := e 7 (by omega)
  have e8 := e 8 (by omega)
  have e12 := e 12 (by omega)
  have e13 := e 13 (by omega)
  refine ⟨?_, fun s h0 h1 => ?_, fun l h0 h1 => ?_, fun j' h0 h1 => ?_, fun j' h0 h1 => ?_, fun j' h0 h1 => ?_, fun h0 => ?_, fun h10 => ?_⟩
  · have e5 := e 5 (by omega)
    have e9 := e 9 (by omega)
    have e10 := e 10 (by omega)
    have e11 := e 11 (by omega)
    have e14 := e 14 (by omega)
    have o2 := sI_or f j v 2
    have o3 := sI_or f j v 3
    have o4 := sI_or f j v 4
    have o6 := sI_or f j v 6
    unfold Wr
    omega
  · have hs := H.sg h0 (by omega)
    unfold SgOk at hs ⊢
    rw [eS s 0 h0 (by omega), eS s 1 h0 (by omega)]
    refine ⟨hs.1, hs.2.1, hs.2.2.1, hs.2.2.2.1, fun r r0 r1 => ?_⟩
    rw [eS s (2 + r) h0 (by omega), eS s (7 + r) h0 (by omega)]
    exact hs.2.2.2.2 r r0 r1
  · have a := H.lta h0 (by omega)
    unfold LtOk
    rw [eL l 0 h0 (by omega), eL l 1 h0 (by omega), eL l 2 h0 (by omega), eL l 3 h0 (by omega), eS (wL f l 0) 1 (by omega) (by omega), e0]
    exact a
  · rw [e (215 + 2 * j') (by omega), e (215 + 2 * j' + 1) (by omega)]; exact H.wt h0 (by omega)
  · rw [e (227 + j') (by omega)]; exact H.lk h0 (by omega)
  · rw [e (235 + 4 * j') (by omega), e (235 + 4 * j' + 1) (by omega), e (235 + 4 * j' + 2) (by omega), e (235 + 4 * j' + 3) (by omega)]; exact H.lg h0 (by omega)
  · rw [e12] at h0 ⊢
    rw [e1, eL (f 12) 2 h0 (by omega)]
    exact H.wet h0
  · rw [e 10 (by omega)] at h10
    exact LawOk_same (fun i hi => e i (by omega)) (H.law h10)
theorem ShopR.num {t : Nat} (h : ShopR t f C) {j v : Int} {k : Int} (hj : (j = 2 ∧ k = 7) ∨ (j = 3 ∧ k = 8) ∨ (j = 4 ∧ k = 9) ∨ (j = 6 ∧ k = 10)) : ShopR t (sI f j v) (pD C t k v) := by
  obtain ⟨a1, a2, a3, a4, a5, a6, a7, a8, a9, b1, b2, b3, b4⟩ := h
  have e : ∀ i, i ≠ j → sI f j v i = f i := fun i hi => sI_ne hi
  have eL : ∀ l k, 0 ≤ l → 0 ≤ k → wL (sI f j v) l k = wL f l k := fun l k h1 h2 => e _ (by omega)
  have eS : ∀ s k, 0 ≤ s → 0 ≤ k → wS (sI f j v) s k = wS f s k := fun s k h1 h2 => e _ (by omega)
  unfold ShopR
  rw [e 0 (by omega), e 1 (by omega), e 7 (by omega), e 8 (by omega), e 9 (by omega)]
  refine ⟨?_, ?_, ?_, ?_, ?_, ?_, ?_, ?_, ?_, fun s h0 h1 => ?_, fun l h0 h1 => ?_, fun j' h0 h1 => ?_, fun j' h0 h1 => ?_⟩
  · rw [pD_nj (by omega)]; exact a1
  · rw [pD_nj (by omega)]; exact a2
  · by_cases y : j = 2
    · subst y; rw [show k = 7 by omega, pD_eq, sI_eq]
    · rw [pD_nj (by omega), e 2 (by omega)]; exact a3
  · by_cases y : j = 3
    · subst y; rw [show k = 8 by omega, pD_eq, sI_eq]
    · rw [pD_nj (by omega), e 3 (by omega)]; exact a4
  · by_cases y : j = 4
    · subst y; rw [show k = 9 by omega, pD_eq, sI_eq]
    · rw [pD_nj (by omega), e 4 (by omega)]; exact a5
  · by_cases y : j = 6
    · subst y; rw [show k = 10 by omega, pD_eq, sI_eq]
    · rw [pD_nj (by omega), e 6 (by omega)]; exact a6
  · rw [pD_nj (by omega)]; exact a7
  · rw [pD_nj (by omega)]; exact a8
  · rw [pD_nj (by omega)]; exact a9
  · rw [eS s 0 h0 (by omega), eS s 1 h0 (by omega), pD_ne (by omega), pD_ne (by omega), pD_ne (by omega), pD_ne (by omega)]
    refine ⟨(b1 s h0 h1).1, (b1 s h0 h1).2.1, fun r r0 r1 => ?_⟩
    rw [eS s (2 + r) h0 (by omega), eS s (7 + r) h0 (by omega)]
    exact (b1 s h0 h1).2.2 r r0 r1
  · rw [eL l 0 h0 (by omega), pD_ne (by omega)]; exact b2 l h0 h1
  · rw [e (215 + 2 * j') (by omega), e (215 + 2 * j' + 1) (by omega), pD_ne (by omega), pD_ne (by omega)]; exact b3 j' h0 h1
  · rw [e (227 + j') (by omega), pD_ne (by omega)]; exact b4 j' h0 h1
theorem DR.num (h : DR n W0 C f) {j v k : Int} (hj : (j = 2 ∧ k = 7 ∧ 10 ≤ v ∧ v ≤ 120) ∨ (j = 3 ∧ k = 8 ∧ 0 ≤ v ∧ v ≤ 9) ∨ (j = 4 ∧ k = 9 ∧ 1 ≤ v ∧ v ≤ 99) ∨ (j = 6 ∧ k = 10 ∧ 1 ≤ v ∧ v ≤ 99)) : DR n W0 (pD C 94 k v) (sI f j v) := by
  obtain ⟨h1, h2, h3, h4⟩ := h
  have e : ∀ i, i ≠ j → sI f j v i = f i := fun i hi => sI_ne hi
  refine ⟨h1.num (by omega), h2.num (by omega), fun i hi => by rw [e i (by omega)]; exact h3 i hi, ?_⟩
  rw [pD_ne (by decide)]
  rcases h4 with ⟨a, c⟩ | ⟨a, c1, c2, c3⟩
  · exact Or.inl ⟨a, fun i hi => by rw [e i (by omega)]; exact c i hi⟩
  · refine Or.inr ⟨a, by rw [e 12 (by omega)]; exact c1, by rw [e 1 (by omega)]; exact c2, fun l l0 l1 => ?_⟩
    rw [e 1 (by omega)] at l1
    unfold wL at c3 ⊢
    rw [e _ (by omega), e _ (by omega), e _ (by omega)]
    exact c3 l l0 l1
theorem DR.cls (h : DR n W0 C f) (e : ∀ a : Nat, 93 ≤ a → a ≤ 102 → E a = C a) : DR n W0 E f := by
  obtain ⟨h1, h2, h3, h4⟩ := h
  exact ⟨h1, h2.keep (fun a _ _ => e a (by omega) (by omega)), h3, by rw [e 93 (by decide) (by decide)]; exact h4⟩
theorem CT.skp (h : CT B L p C) : C 1 3 = sk B L p := h.2.2.1
theorem CT.put (h : CT B L p C) {a : Nat} {i v : Int} (ha : 94 ≤ a) : CT B L p (pD C a i v) := h.go (pD_ne (by omega)) (pD_ne (by omega))
/-- a single number -/
theorem k_num (hB : CB B L) (rt : RT B L R) (c : CT B L p C) (p0 : 0 ≤ p) (p1 : p ≤ L) (dr : DR n W0 C (R 134)) {j k : Int} (hj : (j = 4 ∧ k = 9) ∨ (j = 6 ∧ k = 10)) : Lock B L n W0 C R (bI (F_X9_readNumber_S 1 99 C) fun v9 D9 =>
              ck (nR ((pD D9 94 k v9) 94 k)) <|
              ck (((if ((pD D9 94 k v9) 94 k) = (-1) then (0 : Int) else (1 : Int)) = 0 ∨ (if ((pD D9 94 k v9) 94 k) = (-1) then (0 : Int) else (1 : Int)) = 1)) <|
              some ((if ((pD D9 94 k v9) 94 k) = (-1) then (0 : Int) else (1 : Int)), (pD D9 94 k v9))) (F_X12_readNumber j (stR R p b (R 134))) := by
  obtain ⟨E, e1, e2, e3, e4⟩ := c_readNumber hB c p0 p1 (lo := 1) (hi := 99) (by omega) (by omega)
  have nr := numV_r B L 1 99 p
  rw [e1, bI_q, pD_eq, ck_p (by omega), F_X12_readNumber, st_number hB rt p0 p1 (by decide) (by decide), bI_q, ck_p (by omega), ck_p (by omega), st_set]
  by_cases y : numV B L 1 99 p = -1
  · rw [if_pos y, if_pos (by omega), ck_p (Or.inl rfl), ck_p (by omega)]
    have ee := e3 y
    refine ⟨0, _, _, _, _, rfl, rfl, (e2.c).tr (FrC.put (by omega)), fun i hi => sI_ne (by omega), Or.inl ⟨rfl, ?_⟩⟩
    rw [pD_ne (by decide), ee]
    exact c.skp
  · rw [if_neg y, if_neg (by omega), ck_p (Or.inr rfl), ck_p (by omega)]
    have nx2 := nd_yes (B := B) (L := L) (p := p) (by omega)
    have nr2 := nd_r (B := B) p1
    refine ⟨1, _, _, _, _, rfl, rfl, (e2.c).tr (FrC.put (by omega)), fun i hi => sI_ne (by omega), Or.inr ⟨rfl, by omega, by omega, ?_, ?_⟩⟩
    · rw [← nx2]; exact (e4 y).put (by omega)
    · exact (dr.cls (E := E) (fun a h1 _ => e2 a (by omega))).num (by omega)
theorem k_board (hB : CB B L) (rt : RT B L R) (c : CT B L p C) (p0 : 0 ≤ p) (p1 : p ≤ L) (dr : DR n W0 C (R 134)) : Lock B L n W0 C R (F_X7_readsBoard C) (F_X12_readBoard (stR R p b (R 134))) := by
  obtain ⟨E, e1, e2, e3, e4⟩ := c_readNumber hB c p0 p1 (lo := 10) (hi := 120) (by omega) (by omega)
  have nr := numV_r B L 10 120 p
  have nr2 := nd_r (B := B) p1
  rw [F_X7_readsBoard, e1, bI_q, pD_eq, ck_p (by omega), F_X12_readBoard, st_number hB rt p0 p1 (by decide) (by decide), bI_q, ck_p (by omega)]
  by_cases y : numV B L 10 120 p = -1
  · rw [if_pos y, if_neg (by omega), F_X12_readBoard_j26, ck_p (by decide), if_neg (by decide)]
    refine ⟨0, _, _, _, _, rfl, rfl, (e2.c).tr (FrC.put (by omega)), fun i hi => rfl, Or.inl ⟨rfl, ?_⟩⟩
    rw [pD_ne (by decide), e3 y]
    exact c.skp
  · have nx2 := nd_yes (B := B) (L := L) (p := p) (by omega)
    have c1 := (e4 y).put (a := 94) (i := 7) (v := numV B L 10 120 p) (by omega)
    rw [nx2] at c1
    have dr1 := (dr.cls (E := E) (fun a h1 _ => e2 a (by omega))).num (j := 2) (k := 7) (v := numV B L 10 120 p) (by omega)
    obtain ⟨E2, t1, t2, t3, t4⟩ := c_takesWord hB c1 (by omega) (by omega) (i := 28) (by decide)
    have wr2 := wd_r (B := B) (p := nd B L p) (L := L) (by omega)
    rw [if_neg y, if_pos (by omega), t1, bI_q, ck_p (by cases isW B L (sTx 28) (nd B L p) <;> decide), st_after hB rt (by omega) (by omega) (by decide) (by decide) (by decide), tx_eq.1.2.2.2.2.2.2.2.2.2.1]
    cases hw : isW B L (sTx 28) (nd B L p) with
    | false =>
      rw [bi_f, if_pos rfl, if_neg (by decide), bI_q, F_X12_readBoard_j26, ck_p (by decide), if_neg (by decide)]
      refine ⟨0, _, _, _, _, rfl, rfl, (e2.c).tr ((FrC.put (by omega)).tr t2.c), fun i hi => rfl, Or.inl ⟨rfl, ?_⟩⟩
      rw [t3 hw]
      exact c1.skp
    | true =>
      have iw := isW_yes (tx_ok 28 (by decide) (by decide)).1 hw
      have c2 := t4 hw
      rw [iw.2.1] at c2
      obtain ⟨E3, u1, u2, u3, u4⟩ := c_readNumber hB c2 (by omega) (by omega) (lo := 0) (hi := 9) (by omega) (by omega)
      have nr3 := numV_r B L 0 9 (wd B L (nd B L p))
      have nr4 := nd_r (B := B) (p := wd B L (nd B L p)) (L := L) (by omega)
      rw [bi_t, if_neg (by decide), u1, bI_q, pD_eq, ck_p (by omega), if_pos rfl, bI_q, F_X12_readBoard_j26, ck_p (by omega)]
      by_cases z : numV B L 0 9 (wd B L (nd B L p)) = -1
      · rw [if_pos z, ck_p (by omega), if_neg (by omega)]
        refine ⟨0, _, _, _, _, rfl, rfl, (e2.c).tr ((FrC.put (by omega)).tr (t2.c.tr (u2.c.tr (FrC.put (by omega))))), fun i hi => rfl, Or.inl ⟨rfl, ?_⟩⟩
        rw [pD_ne (by decide), u3 z]
        exact c2.skp
      · have nx3 := nd_yes (B := B) (L := L) (p := wd B L (nd B L p)) (by omega)
        rw [if_neg z, ck_p (by omega), if_pos (by omega), st_set, st_set]
        refine ⟨1, _, _, _, _, rfl, rfl, (e2.c).tr ((FrC.put (by omega)).tr (t2.c.tr (u2.c.tr (FrC.put (by omega))))), fun i hi => by rw [sI_ne (by omega), sI_ne (by omega)], Or.inr ⟨rfl, by omega, by omega, ?_, ?_⟩⟩
        · rw [← nx3]; exact (u4 z).put (by omega)
        · exact (dr1.cls (E := E3) (fun a h1 _ => by rw [u2 a (by omega), t2 a (by omega)])).num (by omega)
end PW2
