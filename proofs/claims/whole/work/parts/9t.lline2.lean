/-! LAW's text: a line, both ends -/
section PXg
variable {n : Int} {B f g w : Int → Int} {L p q b s S d x : Int} {C D E F R : mD} {st st' : List Bool} {fc fr : RI}
theorem k_lineB {kx : Int} (hB : CB B L) (rt : RT B L R) (hx : 0 ≤ x ∧ x < 12) (hk : kx = 0 ∨ kx = 1) (c : CT B L p E) (dl : DL E f S x) (p0 : 0 ≤ p) (p1 : p ≤ L) (hS : S ≤ p) (iw : nx B L p = wd B L p ∧ sk B L p < L) :
    LLn B L S x E f R (F_X3_readsLine_j28 kx E) (F_X12_readLawLine_j32 (1325 + 4 * x) kx (stR (rS R S d) (wd B L p) (sk B L p) f)) := by
  have l4 := hB.2.1
  have c8 := dl.2.1
  have S0 := c8.2.1
  have wr := wd_r (B := B) p1
  have wpos := (nx_r (B := B) (p := p) p1).2.2.2 iw.2
  obtain ⟨E1, s1, s2, s3⟩ := c_stepT hB c p0 p1
  change CT B L (nx B L p) E1 at s2
  rw [iw.1] at s2 wpos
  obtain ⟨hi, ehi⟩ : ∃ hi : Int, hi = if kx = 0 then 9 else 99 := ⟨_, rfl⟩
  have hir : hi = 9 ∨ hi = 99 := by rcases hk with h | h; rw [ehi, if_pos h]; exact Or.inl rfl; rw [ehi, if_neg (by omega)]; exact Or.inr rfl
  obtain ⟨kd', ekd⟩ : ∃ k : Int, k = if kx = 0 then 0 else 1 := ⟨_, rfl⟩
  obtain ⟨E2, e1, e2, e3, e4⟩ := c_readNumber2 hB s2 (by omega) wr.2.2 (lo := 0) (hi := hi) (by omega) (by omega)
  have nr := numV_r B L 0 hi (wd B L p)
  have nr2 := nd_r (B := B) (p := wd B L p) (L := L) wr.2.2
  obtain ⟨V, eV⟩ : ∃ V, V = numV B L 0 hi (wd B L p) := ⟨_, rfl⟩
  rw [← eV] at e1 e3 e4 nr
  have hrt : ∀ S d, RT B L (rS R S d) := fun S d => rS_RT rt S d
  have e1k : kx = 0 ∨ ¬ kx = 0 := by omega
  have hr : F_X12_readLawLine_j32 (1325 + 4 * x) kx (stR (rS R S d) (wd B L p) (sk B L p) f) = F_X12_readLawLine_j67 (1325 + 4 * x) (1325 + 4 * x + 1) 0 hi (stR (rS R S d) (wd B L p) (sk B L p) (sI f (1325 + 4 * x) kd')) := by
    rw [F_X12_readLawLine_j32, ck_p (by omega), F_X12_readLawLine_j46, ck_p (by omega), ck_p (by omega), st_set, ← ehi, ← ekd]
  have hr2 := hr
  rw [F_X12_readLawLine_j67, st_number hB (hrt _ _) (by omega) wr.2.2 (by decide) (by omega), bI_q, ← eV, ck_p (by omega), ck_p (by omega), st_set, (st_f _ _ _ _).2.2.1, sI_eq, ck_p (by omega)] at hr2
  have hc : F_X3_readsLine_j28 kx E = (ck (nR V) <| if V = -1 then some (0, E2) else bI (F_X8_takesWord 2 E2) fun v2 D2 => ck (nR v2) <| if v2 = 0 then F_X3_readsLine_j81 kx V D2 else bI (G_X3_readsCondition 0 D2) fun v3 D3 => ck (nR v3) <| if v3 = 0 then some (0, D3) else F_X3_readsLine_j81 kx V D3) := by
    rw [F_X3_readsLine_j28, s1, bI_q, ck_p (by omega), ← ehi, F_X3_readsLine_j48, e1, bI_q]
  rw [hc, hr2, ck_p (by omega)]
  by_cases y : V = -1
  · rw [if_pos y, if_neg (by omega)]
    refine ⟨0, _, _, _, _, _, _, rfl, rfl, (s3.l.tr e2.l).far, fun i hi => ?_, Or.inl ⟨rfl, by rw [e3 y]; exact s2.skp⟩⟩
    rw [sI_ne (by omega), sI_ne (by omega)]
  · have nx2 := nd_yes (B := B) (L := L) (p := wd B L p) (by omega)
    have c2 := e4 y
    rw [nx2] at c2
    obtain ⟨Q, eQ⟩ : ∃ Q, Q = nd B L (wd B L p) := ⟨_, rfl⟩
    rw [← eQ] at c2 nr2 ⊢
    obtain ⟨f1, ef1⟩ : ∃ f1, f1 = sI (sI (sI f (1325 + 4 * x) kd') (1325 + 4 * x + 1) V) (1325 + 4 * x + 2) S := ⟨_, rfl⟩
    have fe : ∀ i, i ≠ 1325 + 4 * x → i ≠ 1325 + 4 * x + 1 → i ≠ 1325 + 4 * x + 2 → f1 i = f i := fun i h1 h2 h3 => by rw [ef1, sI_ne h3, sI_ne h2, sI_ne h1]
    have f0 : f1 (1325 + 4 * x) = kd' := by rw [ef1, sI_ne (by omega), sI_ne (by omega), sI_eq]
    have f1v : f1 (1325 + 4 * x + 1) = V := by rw [ef1, sI_ne (by omega), sI_eq]
    have f2v : f1 (1325 + 4 * x + 2) = S := by rw [ef1, sI_eq]
    have c81 : CR8 E2 f1 S := by
      have := (c8.go s3).go e2
      obtain ⟨z1, z2, z3⟩ := this
      exact ⟨z1, z2, fun i i0 i1 => by rw [z3 i i0 i1, fe _ (by omega) (by omega) (by omega), fe _ (by omega) (by omega) (by omega)]⟩
    have hkd : (kd' = 0 ∧ V ≤ 9) ∨ kd' = 1 := by
      rcases hk with h | h
      · rw [if_pos h] at ehi ekd; exact Or.inl ⟨ekd, by omega⟩
      · rw [if_neg (by omega)] at ekd; exact Or.inr ekd
    have fr2 : FrL E E2 := s3.l.tr e2.l
    have j81 : ∀ D : mD, F_X3_readsLine_j81 kx V D = bI (F_X2_endLine 104 kd' V D) fun _ D1 => some (1, D1) := fun D => by
      rw [F_X3_readsLine_j81, ck_p (by omega), F_X3_readsLine_j94, ← ekd]
    have j120 : ∀ (S' d' q b : Int) (g : Int → Int), F_X12_readLawLine_j120 (1325 + 4 * x) (stR (rS R S' d') q b g) = some (1, stR (rS R S' d') q b (sI g (1325 + 4 * x + 3) S')) := fun S' d' q b g => by
      rw [F_X12_readLawLine_j120, ck_p (by omega), (rS_f _ _ _ _ _ _).1, st_set]
    have skQ := sk_r (B := B) (p := Q) (L := L) nr2.2.2
    rw [if_neg y, if_pos (by omega), ck_p (by omega), (rS_f _ _ _ _ _ _).1, st_set, ← ef1, rS_13, st_passes hB (hrt _ _) (by omega) nr2.2.2 (by decide), txl_eq.2.1.2.2.1]
    cases hw : isW B L (sTx 2) Q with
    | false =>
      obtain ⟨F', z1, z2, z3, z4⟩ := k_end (kind := kd') (num := V) (S' := S) hx dl E2 fr2 f1 (fun i _ h1 h2 h3 => fe i h1 h2 h3) f0 f1v f2v hkd (by omega) (by omega) c81 (Or.inl rfl)
      rw [tW_f hB c2 (by omega) nr2.2.2 (by decide) hw, bI_q, ck_p (by decide), if_pos rfl, j81, z1, bI_q, if_neg Bool.false_ne_true, bI_q, ck_p (by decide), if_pos rfl, j120]
      refine ⟨1, F', _, _, _, _, _, rfl, rfl, fr2.far.tr z2, fun i hi => by rw [sI_ne (by omega), fe i (by omega) (by omega) (by omega)], Or.inr ⟨rfl, by omega, skQ.2, by omega, (c2.sk nr2.2.2).go (z3 1 (Or.inl rfl)) (z3 2 (Or.inr rfl)), z4⟩⟩
    | true =>
      have iw2 := isW_yes (tx_ok 2 (by decide) (by decide)).1 hw
      have wq := wd_r (B := B) (p := Q) (L := L) nr2.2.2
      obtain ⟨E3, t1, t2, t3⟩ := tW_t hB c2 (by omega) nr2.2.2 (i := 2) (by decide) hw
      obtain ⟨v, E4, q, b1, f4, S1, d1, a1, a2, a3, a4, a5⟩ := k_G hB rt t3 (c81.go t2) (by omega) wq.2.2 (by omega) (sk B L Q)
      rw [if_pos rfl, bI_q, ck_p (by decide), if_neg (by decide), a2, bI_q, t1, bI_q, ck_p (by decide), if_neg (by decide), a1, bI_q]
      rcases a5 with ⟨u1, u2, u3⟩ | ⟨u1, u2, u3, u4, u5, u6, u7, u8⟩
      · rw [u1, ck_p (by decide), if_pos rfl, ck_p (by decide), if_pos rfl]
        exact ⟨0, E4, _, _, _, _, _, rfl, rfl, (fr2.tr (t2.l.tr a3)).far, fun i hi => by rw [a4 i (by omega), fe i (by omega) (by omega) (by omega)], Or.inl ⟨rfl, u2⟩⟩
      · obtain ⟨F', z1, z2, z3, z4⟩ := k_end (kind := kd') (num := V) (S' := S1) hx dl E4 (fr2.tr (t2.l.tr a3)) f4 (fun i h0 h1 h2 h3 => by rw [a4 i h0]; exact fe i h1 h2 h3) (by rw [a4 _ (by omega)]; exact f0) (by rw [a4 _ (by omega)]; exact f1v) (by rw [a4 _ (by omega)]; exact f2v) hkd (by omega) (by have := u8.1; omega) u7 (Or.inr u8.2)
        rw [u1, ck_p (by decide), if_neg (by decide), ck_p (by decide), if_neg (by decide), j81, z1, bI_q, j120]
        exact ⟨1, F', _, _, _, _, _, rfl, rfl, ((fr2.tr (t2.l.tr a3)).far).tr z2, fun i hi => by rw [sI_ne (by omega), a4 i (by omega), fe i (by omega) (by omega) (by omega)], Or.inr ⟨rfl, by omega, u4, by omega, u6.go (z3 1 (Or.inl rfl)) (z3 2 (Or.inr rfl)), z4⟩⟩
theorem k_lline (hB : CB B L) (rt : RT B L R) (hx : 0 ≤ x ∧ x < 12) (c : CT B L p E) (dl : DL E f S x) (p0 : 0 ≤ p) (p1 : p ≤ L) (hS : S ≤ p) :
    LLn B L S x E f R (F_X3_readsLine E) (F_X12_readLawLine x (stR (rS R S d) (wd B L p) (sk B L p) f)) := by
  have rtS := rS_RT rt S d
  have n1 : ¬ ((1 : Int) = 0) := by decide
  obtain ⟨x71, x72, _⟩ := txl_eq.2.1
  cases h0 : isW B L (sTx 0) p with
  | true =>
    have iw := isW_yes (tx_ok 0 (by decide) (by decide)).1 h0
    rw [F_X3_readsLine, iW_t hB c p0 p1 (by decide) h0, bI_q, ck_p (by decide), if_neg n1, F_X12_readLawLine, rW_t hB rtS p0 p1 (by decide) x71 h0, bI_q, ck_p (by decide), if_neg n1]
    exact k_lineB hB rt hx (Or.inr rfl) c dl p0 p1 hS iw.2
  | false =>
  cases h1 : isW B L (sTx 1) p with
  | true =>
    have iw := isW_yes (tx_ok 1 (by decide) (by decide)).1 h1
    rw [F_X3_readsLine, iW_f hB c p0 p1 (by decide) h0, bI_q, ck_p (by decide), if_pos rfl, iW_t hB c p0 p1 (by decide) h1, bI_q, ck_p (by decide), if_neg n1, F_X12_readLawLine, rW_f hB rtS p0 p1 (by decide) x71 h0, bI_q, ck_p (by decide), if_pos rfl, rW_t hB rtS p0 p1 (by decide) x72 h1, bI_q, ck_p (by decide), if_neg n1]
    exact k_lineB hB rt hx (Or.inl rfl) c dl p0 p1 hS iw.2
  | false =>
    rw [F_X3_readsLine, iW_f hB c p0 p1 (by decide) h0, bI_q, ck_p (by decide), if_pos rfl, iW_f hB c p0 p1 (by decide) h1, bI_q, ck_p (by decide), if_pos rfl, F_X12_readLawLine, rW_f hB rtS p0 p1 (by decide) x71 h0, bI_q, ck_p (by decide), if_pos rfl, rW_f hB rtS p0 p1 (by decide) x72 h1, bI_q, ck_p (by decide), if_pos rfl]
    exact ⟨0, E, _, _, f, S, d, rfl, rfl, FrD.rf, fun _ _ => rfl, Or.inl ⟨rfl, c.skp⟩⟩
end PXg
