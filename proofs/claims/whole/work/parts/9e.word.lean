/-! LINES of the shop: words -/
section PW4
variable {n : Int} {B W0 f f0 g : Int → Int} {L p q b : Int} {C D E R : mD}
theorem skF_end : ∀ (m : Nat) (p : Int), skF B p m = p + m ∨ B (skF B p m) ≠ 32 := by
  intro m
  induction m with
  | zero => intro p; left; rw [skF]; omega
  | succ m ih =>
    intro p
    rw [skF]
    by_cases y : B p = 32
    · rw [if_pos y]
      rcases ih (p + 1) with h | h
      · left; omega
      · right; exact h
    · rw [if_neg y]; right; exact y
theorem sk_stop (h : L ≤ p ∨ B p ≠ 32) : sk B L p = p := by
  unfold sk
  by_cases y : L ≤ p
  · rw [show (L - p).toNat = 0 by omega]; rfl
  · rw [show (L - p).toNat = (L - (p + 1)).toNat + 1 by omega, skF, if_neg (by omega)]
theorem sk_sk (h : p ≤ L) : sk B L (sk B L p) = sk B L p := by
  refine sk_stop ?_
  unfold sk
  rcases skF_end (B := B) (L - p).toNat p with h | h
  · left; omega
  · right; exact h
theorem CT.sk (h : CT B L p C) (p1 : p ≤ L) : CT B L (sk B L p) C := by
  unfold CT at h ⊢
  rw [sk_sk p1]
  exact h
theorem Wi.word (H : Wi n f) (e : ∀ i : Int, i ≠ 1 → i ≠ 12 → ¬ (159 ≤ i ∧ i < 215) → g i = f i) (h1 : 0 ≤ g 1 ∧ g 1 ≤ 14) (h12 : g 12 = -1)
    (hl : ∀ l, 0 ≤ l → l < g 1 → 0 ≤ wL g l 0 ∧ wL g l 0 < f 0 ∧ wL g l 1 = 0 ∧ wL g l 2 = -1 ∧ wL g l 3 = 3) : Wi n g := by
  have hr := H.ra
  have eS : ∀ s k, 0 ≤ s → s < 12 → 0 ≤ k → k < 12 → wS g s k = wS f s k := fun s k h1 h2 h3 h4 => e _ (by omega) (by omega) (by omega)
  have e0 := e 0 (by omega) (by omega) (by omega)
  have e7 := e 7 (by omega) (by omega) (by omega)
  have e8 := e 8 (by omega) (by omega) (by omega)
  have e13 := e 13 (by omega) (by omega) (by omega)
  refine ⟨?_, fun s h0 h1 => ?_, fun l l0 l1 => ?_, fun j' h0 h1 => ?_, fun j' h0 h1 => ?_, fun j' h0 h1 => ?_, fun h0 => by omega, fun h10 => ?_⟩
  · have e2 := e 2 (by omega) (by omega) (by omega)
    have e3 := e 3 (by omega) (by omega) (by omega)
    have e4 := e 4 (by omega) (by omega) (by omega)
    have e5 := e 5 (by omega) (by omega) (by omega)
    have e6 := e 6 (by omega) (by omega) (by omega)
    have e9 := e 9 (by omega) (by omega) (by omega)
    have e10 := e 10 (by omega) (by omega) (by omega)
    have e11 := e 11 (by omega) (by omega) (by omega)
    have e14 := e 14 (by omega) (by omega) (by omega)
    unfold Wr
    omega
  · have hs := H.sg h0 (by omega)
    unfold SgOk at hs ⊢
    rw [eS s 0 h0 (by omega) (by omega) (by omega), eS s 1 h0 (by omega) (by omega) (by omega)]
    refine ⟨hs.1, hs.2.1, hs.2.2.1, hs.2.2.2.1, fun r r0 r1 => ?_⟩
    rw [eS s (2 + r) h0 (by omega) (by omega) (by omega), eS s (7 + r) h0 (by omega) (by omega) (by omega)]
    exact hs.2.2.2.2 r r0 r1
  · have a := hl l l0 l1
    have hs := (H.sg (s := wL g l 0) a.1 a.2.1).2.2.1
    unfold LtOk
    rw [eS (wL g l 0) 1 (by omega) (by omega) (by omega) (by omega), e0]
    omega
  · rw [e (215 + 2 * j') (by omega) (by omega) (by omega), e (215 + 2 * j' + 1) (by omega) (by omega) (by omega)]; exact H.wt h0 (by omega)
  · rw [e (227 + j') (by omega) (by omega) (by omega)]; exact H.lk h0 (by omega)
  · rw [e (235 + 4 * j') (by omega) (by omega) (by omega), e (235 + 4 * j' + 1) (by omega) (by omega) (by omega), e (235 + 4 * j' + 2) (by omega) (by omega) (by omega), e (235 + 4 * j' + 3) (by omega) (by omega) (by omega)]; exact H.lg h0 (by omega)
  · rw [e 10 (by omega) (by omega) (by omega)] at h10
    exact LawOk_same (fun i hi => e i (by omega) (by omega) (by omega)) (H.law h10)
theorem DR.word (h : DR n W0 C f) (e : ∀ i : Int, i ≠ 1 → i ≠ 12 → ¬ (159 ≤ i ∧ i < 215) → g i = f i) (h1 : 1 ≤ g 1 ∧ g 1 ≤ 14) (h12 : g 12 = -1)
    (hl : ∀ l, 0 ≤ l → l < g 1 → 0 ≤ wL g l 0 ∧ wL g l 0 < f 0 ∧ wL g l 1 = 0 ∧ wL g l 2 = -1 ∧ wL g l 3 = 3 ∧ E 99 l = wL g l 0)
    (c1 : ∀ a : Nat, 95 ≤ a → a ≤ 102 → a ≠ 99 → E a = C a) (c2 : ∀ i : Int, i ≠ 5 → E 94 i = C 94 i) (c3 : E 94 5 = g 1) (c4 : E 93 3 = 1) : DR n W0 E g := by
  obtain ⟨H, ⟨a1, a2, a3, a4, a5, a6, a7, a8, a9, b1, b2, b3, b4⟩, h3, h4⟩ := h
  have hr := H.ra
  have eS : ∀ s k, 0 ≤ s → s < 12 → 0 ≤ k → k < 12 → wS g s k = wS f s k := fun s k h1 h2 h3 h4 => e _ (by omega) (by omega) (by omega)
  have e0 := e 0 (by omega) (by omega) (by omega)
  have e7 := e 7 (by omega) (by omega) (by omega)
  have e8 := e 8 (by omega) (by omega) (by omega)
  refine ⟨H.word e (by omega) h12 (fun l l0 l1 => by have := hl l l0 l1; omega), ⟨?_, c3, ?_, ?_, ?_, ?_, ?_, ?_, ?_, fun s s0 s1 => ?_, fun l l0 l1 => (hl l l0 l1).2.2.2.2.2, fun j j0 j1 => ?_, fun j j0 j1 => ?_⟩, fun i hi => by rw [e i (by omega) (by omega) (by omega)]; exact h3 i hi, Or.inr ⟨c4, h12, h1.1, fun l l0 l1 => by have := hl l l0 l1; exact ⟨by omega, by omega, by omega⟩⟩⟩
  · rw [c2 0 (by omega), e0]; exact a1
  · rw [c2 7 (by omega), e 2 (by omega) (by omega) (by omega)]; exact a3
  · rw [c2 8 (by omega), e 3 (by omega) (by omega) (by omega)]; exact a4
  · rw [c2 9 (by omega), e 4 (by omega) (by omega) (by omega)]; exact a5
  · rw [c2 10 (by omega), e 6 (by omega) (by omega) (by omega)]; exact a6
  · rw [c2 11 (by omega), e7]; exact a7
  · rw [c2 14 (by omega), e8]; exact a8
  · rw [c2 16 (by omega), e 9 (by omega) (by omega) (by omega)]; exact a9
  · rw [e0] at s1
    rw [eS s 0 s0 (by omega) (by omega) (by omega), eS s 1 s0 (by omega) (by omega) (by omega), c1 95 (by omega) (by omega) (by omega), c1 96 (by omega) (by omega) (by omega), c1 97 (by omega) (by omega) (by omega), c1 98 (by omega) (by omega) (by omega)]
    refine ⟨(b1 s s0 s1).1, (b1 s s0 s1).2.1, fun r r0 r1 => ?_⟩
    rw [eS s (2 + r) s0 (by omega) (by omega) (by omega), eS s (7 + r) s0 (by omega) (by omega) (by omega)]
    exact (b1 s s0 s1).2.2 r r0 r1
  · rw [e7] at j1
    rw [c1 100 (by omega) (by omega) (by omega), c1 101 (by omega) (by omega) (by omega), e (215 + 2 * j) (by omega) (by omega) (by omega), e (215 + 2 * j + 1) (by omega) (by omega) (by omega)]; exact b3 j j0 j1
  · rw [e8] at j1
    rw [c1 102 (by omega) (by omega) (by omega), e (227 + j) (by omega) (by omega) (by omega)]; exact b4 j j0 j1
/-- x letters read -/
def WDm (C E : mD) (f0 f : Int → Int) (x : Int) : Prop := (∀ i : Int, ¬ (159 ≤ i ∧ i < 215) → f i = f0 i) ∧ (∀ l, 0 ≤ l → l < x → 0 ≤ wL f l 0 ∧ wL f l 0 < f0 0 ∧ wL f l 1 = 0 ∧ wL f l 2 = -1 ∧ wL f l 3 = 3 ∧ E 99 l = wL f l 0) ∧
  (∀ a : Nat, 95 ≤ a → a ≤ 102 → a ≠ 99 → E a = C a) ∧ (∀ i : Int, i ≠ 5 → E 94 i = C 94 i) ∧ E 94 5 = x ∧ E 93 3 = 1
theorem k_word_L (hB : CB B L) (rt : RT B L R) (dr : DR n W0 C f0) : ∀ (m fuel : Nat) (x q b : Int) (f : Int → Int) (E : mD), m < fuel → x + m = 14 → 0 ≤ x → 0 ≤ q → q ≤ L → CT B L q E → WDm C E f0 f x →
    ∃ v C' q' b' f', F_X7_readsWord_L15 fuel x E = some (v, C') ∧ F_X12_readWord_L2 fuel x (stR R q b f) = some (v, stR R q' b' f') ∧ FrC E C' ∧ (∀ i : Int, i < 0 ∨ 475 ≤ i → f' i = f i) ∧
      ((v = 0 ∧ C' 1 3 = b') ∨ (v = 1 ∧ 0 ≤ q' ∧ q' ≤ L ∧ CT B L q' C' ∧ DR n W0 C' f')) := by
  have hr := dr.1.ra
  intro m
  induction m with
  | zero =>
    intro fuel x q b f E hf hx x0 q0 q1 c w
    obtain ⟨j, rfl⟩ : ∃ j, fuel = j + 1 := ⟨fuel - 1, by omega⟩
    rw [F_X7_readsWord_L15, ck_p (by omega), if_pos (by omega), F_X12_readWord_L2, ck_p (by omega), if_pos (by omega), F_X12_readWord_j23, ck_p (by omega), if_pos (by omega), st_blanks hB rt q0 q1, bI_q, F_X12_readWord_j34, ck_p (by decide), if_neg (by decide)]
    exact ⟨0, E, _, _, _, rfl, rfl, FrC.rf, fun _ _ => rfl, Or.inl ⟨rfl, c.skp⟩⟩
  | succ m ih =>
    intro fuel x q b f E hf hx x0 q0 q1 c w
    obtain ⟨j, rfl⟩ : ∃ j, fuel = j + 1 := ⟨fuel - 1, by omega⟩
    obtain ⟨w1, w2, w3, w4, w5, w6⟩ := w
    have f0e := w1 0 (by omega)
    have e94 : E 94 0 = f0 0 := (w4 0 (by omega)).trans dr.2.1.1
    obtain ⟨E1, e1, e2, e3, e4⟩ := c_readNumber hB c q0 q1 (lo := 0) (hi := f0 0 - 1) (by omega) (by omega)
    have nr := numV_r B L 0 (f0 0 - 1) q
    have nr2 := nd_r (B := B) q1
    have sf := st_f R q b f
    have hR : F_X12_readWord_L2 (j + 1) x (stR R q b f) = F_X12_readWord_j34 (F_X12_readWord_L2 j) x (numV B L 0 (f0 0 - 1) q) (stR R (nd B L q) (sk B L q) f) := by
      rw [F_X12_readWord_L2, ck_p (by omega), if_neg (by omega), F_X12_signs, bI_q, sf.2.2.1, f0e, st_number hB rt q0 q1 (by decide) (by omega), bI_q, F_X12_readWord_j23, ck_p (by omega), if_neg (by omega)]
    rw [hR, F_X7_readsWord_L15, ck_p (by omega), if_neg (show ¬ 14 ≤ x by omega), e94, e1, bI_q, ck_p (by omega)]
    by_cases y : numV B L 0 (f0 0 - 1) q = -1
    · rw [if_pos y, F_X12_readWord_j34, ck_p (by omega), if_neg (by omega)]
      refine ⟨0, _, _, _, _, rfl, rfl, e2.c, fun _ _ => rfl, Or.inl ⟨rfl, ?_⟩⟩
      rw [e3 y]; exact c.skp
    · have nx2 := nd_yes (B := B) (L := L) (p := q) (by omega)
      have c1 := e4 y
      rw [nx2] at c1
      obtain ⟨V, eV⟩ : ∃ V, V = numV B L 0 (f0 0 - 1) q := ⟨_, rfl⟩
      rw [← eV] at nr y ⊢
      have g1 : ∀ i : Int, i ≠ 159 + 4 * x + 0 → i ≠ 159 + 4 * x + 1 → i ≠ 159 + 4 * x + 2 → i ≠ 159 + 4 * x + 3 → sI (sI (sI (sI f (159 + 4 * x + 0) V) (159 + 4 * x + 1) 0) (159 + 4 * x + 2) (-1)) (159 + 4 * x + 3) 3 i = f i := fun i h1 h2 h3 h4 => by rw [sI_ne h4, sI_ne h3, sI_ne h2, sI_ne h1]
      have g2 : sI (sI (sI (sI f (159 + 4 * x + 0) V) (159 + 4 * x + 1) 0) (159 + 4 * x + 2) (-1)) (159 + 4 * x + 3) 3 (159 + 4 * x + 0) = V ∧ sI (sI (sI (sI f (159 + 4 * x + 0) V) (159 + 4 * x + 1) 0) (159 + 4 * x + 2) (-1)) (159 + 4 * x + 3) 3 (159 + 4 * x + 1) = 0 ∧ sI (sI (sI (sI f (159 + 4 * x + 0) V) (159 + 4 * x + 1) 0) (159 + 4 * x + 2) (-1)) (159 + 4 * x + 3) 3 (159 + 4 * x + 2) = -1 ∧ sI (sI (sI (sI f (159 + 4 * x + 0) V) (159 + 4 * x + 1) 0) (159 + 4 * x + 2) (-1)) (159 + 4 * x + 3) 3 (159 + 4 * x + 3) = 3 :=
        ⟨by rw [sI_ne (by omega), sI_ne (by omega), sI_ne (by omega), sI_eq], by rw [sI_ne (by omega), sI_ne (by omega), sI_eq], by rw [sI_ne (by omega), sI_eq], sI_eq _ _ _⟩
      have hJ : ∀ (K : Int → mD → RI) (q b : Int), F_X12_readWord_j34 K x V (stR R q b f) = bI (F_X12_isFigure (stR R q b (sI (sI (sI (sI f (159 + 4 * x + 0) V) (159 + 4 * x + 1) 0) (159 + 4 * x + 2) (-1)) (159 + 4 * x + 3) 3))) fun v5 D5 => ck (nR v5) <| if v5 = 0 then some (1, (pD (pD D5 134 1 (x + 1)) 134 12 (-1))) else K (x + 1) D5 := fun K q b => by
        rw [F_X12_readWord_j34, ck_p (by omega), if_pos (by omega), F_X12_sets, ck_p (by omega), bI_q, st_set, F_X12_sets, ck_p (by omega), bI_q, st_set, F_X12_sets, ck_p (by omega), bI_q, st_set, F_X12_sets, ck_p (by omega), bI_q, st_set]
      rw [if_neg y, hJ]
      obtain ⟨G, eG⟩ : ∃ G, G = sI (sI (sI (sI f (159 + 4 * x + 0) V) (159 + 4 * x + 1) 0) (159 + 4 * x + 2) (-1)) (159 + 4 * x + 3) 3 := ⟨_, rfl⟩
      rw [← eG] at g1 g2 ⊢
      obtain ⟨F, eF⟩ : ∃ F, F = pD (pD E1 99 x V) 94 5 (((pD E1 99 x V) 94 5) + 1) := ⟨_, rfl⟩
      rw [← eF]
      have cF : CT B L (nd B L q) F := by rw [eF]; exact (c1.put (by omega)).put (by omega)
      have frF : FrC E F := by rw [eF]; exact e2.c.tr ((FrC.put (by omega)).tr (FrC.put (by omega)))
      have wF : WDm C F f0 G (x + 1) := by
        rw [eF]
        refine ⟨fun i hi => (g1 i (by omega) (by omega) (by omega) (by omega)).trans (w1 i hi), fun l l0 l1 => ?_, fun a h1 h2 h3 => ?_, fun i hi => ?_, ?_, ?_⟩
        · rw [pD_ne (by decide), pD_at, e2 99 (by decide)]
          unfold wL at w2 ⊢
          by_cases z : l = x
          · rw [z, if_pos rfl]
            omega
          · have := w2 l l0 (by omega)
            rw [if_neg z, g1 _ (by omega) (by omega) (by omega) (by omega), g1 _ (by omega) (by omega) (by omega) (by omega), g1 _ (by omega) (by omega) (by omega) (by omega), g1 _ (by omega) (by omega) (by omega) (by omega)]
            exact this
        · rw [pD_ne (by omega), pD_ne (by omega), e2 a (by omega)]; exact w3 a h1 h2 h3
        · rw [pD_nj hi, pD_ne (by decide), e2 94 (by decide)]; exact w4 i hi
        · rw [pD_eq, pD_ne (by decide), e2 94 (by decide), w5]
        · rw [pD_ne (by decide), pD_ne (by decide), e2 93 (by decide)]; exact w6
      have tkr := tk_r B L (sk B L (nd B L q))
      have skr := sk_r (B := B) (p := nd B L q) nr2.2.2
      have cS := cF.sk nr2.2.2
      rw [ck_p (by omega), cF.2.2.2.1, ck_p (by omega), st_figure hB rt (by omega) nr2.2.2, bI_q, ck_p (by have := bi_r (decide (tk B L (sk B L (nd B L q)) = 2)); omega)]
      by_cases z : tk B L (sk B L (nd B L q)) = 2
      · obtain ⟨v, C', q', b', f', i1, i2, i3, i4, i5⟩ := ih j (x + 1) (sk B L (nd B L q)) (sk B L (nd B L q)) G F (by omega) (by omega) (by omega) (by omega) (by omega) cS wF
        rw [if_pos z, decide_eq_true z, bi_t, if_neg (by decide)]
        exact ⟨v, C', q', b', f', i1, i2, frF.tr i3, fun i hi => (i4 i hi).trans (g1 i (by omega) (by omega) (by omega) (by omega)), i5⟩
      · rw [if_neg z, decide_eq_false z, bi_f, if_pos rfl, st_set, st_set]
        obtain ⟨v1, v2, v3, v4, v5, v6⟩ := wF
        refine ⟨1, F, _, _, _, rfl, rfl, frF, fun i hi => by rw [sI_ne (by omega), sI_ne (by omega)]; exact g1 i (by omega) (by omega) (by omega) (by omega), Or.inr ⟨rfl, by omega, by omega, cS, ?_⟩⟩
        have eg : ∀ i : Int, i ≠ 1 → i ≠ 12 → sI (sI G 1 (x + 1)) 12 (-1) i = G i := fun i h1 h2 => by rw [sI_ne h2, sI_ne h1]
        have eg1 : sI (sI G 1 (x + 1)) 12 (-1) 1 = x + 1 := by rw [sI_ne (by omega), sI_eq]
        refine dr.word (fun i h1 h2 h3 => (eg i h1 h2).trans (v1 i h3)) (by omega) (sI_eq _ _ _) (fun l l0 l1 => ?_) v3 v4 (by omega) v6
        rw [eg1] at l1
        have := v2 l l0 l1
        unfold wL at this ⊢
        rw [eg _ (by omega) (by omega), eg _ (by omega) (by omega), eg _ (by omega) (by omega), eg _ (by omega) (by omega)]
        exact this
theorem k_word (hB : CB B L) (rt : RT B L R) (c : CT B L p C) (p0 : 0 ≤ p) (p1 : p ≤ L) (dr : DR n W0 C (R 134)) : Lock B L n W0 C R (F_X7_readsWord C) (F_X12_readWord (stR R p b (R 134))) := by
  have hN := fN
  obtain ⟨v, C', q', b', f', i1, i2, i3, i4, i5⟩ := k_word_L (E := pD (pD C 93 3 1) 94 5 0) hB rt dr 14 fuelN 0 p b (R 134) (by omega) (by omega) (by omega) p0 p1 ((c.go (pD_ne (by decide)) (pD_ne (by decide))).put (by omega))
    ⟨fun _ _ => rfl, fun l l0 l1 => by omega, fun a h1 h2 h3 => by rw [pD_ne (by omega), pD_ne (by omega)], fun i hi => by rw [pD_nj hi, pD_ne (by decide)], pD_eq _ _ _ _, by rw [pD_ne (by decide), pD_eq]⟩
  rw [F_X7_readsWord, F_X12_readWord]
  exact ⟨v, C', q', b', f', i1, i2, FrC.tr ⟨fun a h1 h2 => by rw [pD_ne (by omega), pD_ne (by omega)], fun i hi => by rw [pD_ne (by decide), pD_nj hi]⟩ i3, i4, i5⟩
end PW4
