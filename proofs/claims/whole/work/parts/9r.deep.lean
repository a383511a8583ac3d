/-! LAW's text: atoms, whole; depth -/
section PXe
variable {n : Int} {B f g w : Int → Int} {L p q b s S d : Int} {C D E F R : mD} {st st' : List Bool} {fc fr : RI}
theorem c_put0 (h : 0 ≤ E 104 5 ∧ E 104 5 ≤ 400) (x : Int) : ∃ E', F_X2_put 104 x E = some (0, E') ∧ FrL E E' ∧ E' 1 = E 1 ∧ 0 ≤ E' 104 5 ∧ E' 104 5 ≤ 400 := by
  by_cases y : 400 ≤ E 104 5
  · exact ⟨E, by rw [F_X2_put, ck_p (by omega), if_pos y], FrL.rf, rfl, h⟩
  · refine ⟨pD (pD E 108 (E 104 5) x) 104 5 (E 104 5 + 1), ?_, ⟨fun a _ b1 b2 => by rw [pD_ne b1, pD_ne b2], fun i hi => by rw [pD_nj hi, pD_ne (by decide)]⟩, by rw [pD_ne (by decide), pD_ne (by decide)], ?_, ?_⟩
    · rw [F_X2_put, ck_p (by omega), if_neg y, ck_p (by omega), pD_ne (a := 108) (b := 104) (by decide)]
    · rw [pD_eq]; omega
    · rw [pD_eq]; omega
theorem k_cond {A : Int → mD → RI} {aR : mD → RI} (hB : CB B L) (rt : RT B L R) (hA : ∀ (E : mD) (f : Int → Int) (S p b : Int) (st' : List Bool), CT B L p E → CR8 E f S → 0 ≤ p → p ≤ L → S < p → st'.length ≤ st.length + 2 → LK B L st' (true :: st') p S d E f R (A d E) (aR (stR (rS R S d) p b f)))
    (hst : st.length ≤ 17) (p0 : 0 ≤ p) (p1 : p ≤ L) (hS : S < p) (c : CT B L p E) (c8 : CR8 E f S) (b : Int) : LK B L st (true :: st) p S d E f R (F_X3_readsCondition A d E) (F_X12_readCond (F_X12_readAllOf aR) (stR (rS R S d) p b f)) := by
  have hN := fN
  have l4 := hB.2.1
  have n01 : ¬ ((0 : Int) = 1) := by decide
  have K := k_cond_L (d := d) (st := st) hB rt hA hst (L - p).toNat fuelN fuelN fuelN 0 0 0 p S b f E (by omega) (by omega) (by omega) (by omega) (by omega) (Or.inl rfl) (Or.inl rfl) (by omega) (by have := c8.2.1; omega) (by omega) p0 p1 c c8
  have e0 : stk 0 (stk 0 st) = st := by unfold stk; rw [if_neg n01, if_neg n01]
  unfold refA at K
  simp only [if_neg n01] at K
  rw [e0, Int.sub_zero, Int.sub_zero] at K
  rw [F_X3_readsCondition, F_X12_readCond, F_X12_readAllOf]
  exact K
theorem LK.to {p' : Int} (h : LK B L st st' p S d E f R fc fr) (hp : p' ≤ p) : LK B L st st' p' S d E f R fc fr := h.pre FrL.rf (fun _ _ => rfl) Ty.rf hp (by omega)
theorem k_atom {gA gC : Int → mD → RI} {aR cR : mD → RI} (hB : CB B L) (rt : RT B L R) (d0 : 0 ≤ d) (d6 : d ≤ 6)
    (hAt : d < 6 → ∀ (E : mD) (f : Int → Int) (S p b : Int) (st' : List Bool), CT B L p E → CR8 E f S → 0 ≤ p → p ≤ L → S < p → (st'.length : Int) ≤ 2 * d + 4 → LK B L st' (true :: st') p S (d + 1) E f R (gA (d + 1) E) (aR (stR (rS R S (d + 1)) p b f)))
    (hC : d < 6 → ∀ (E : mD) (f : Int → Int) (S p b : Int) (st' : List Bool), CT B L p E → CR8 E f S → 0 ≤ p → p ≤ L → S < p → (st'.length : Int) ≤ 2 * d + 2 → LK B L st' (true :: st') p S (d + 1) E f R (gC (d + 1) E) (cR (stR (rS R S (d + 1)) p b f)))
    (hst : (st.length : Int) ≤ 2 * d + 2) (p0 : 0 ≤ p) (p1 : p ≤ L) (hS : S < p) (c : CT B L p E) (c8 : CR8 E f S) (b : Int) : LK B L st (true :: st) p S d E f R (F_X3_readsAtom (F_X3_readsDeeper gA gC) d E) (F_X12_readAtom aR cR (stR (rS R S d) p b f)) := by
  have l4 := hB.2.1
  have n1 : ¬ ((1 : Int) = 0) := by decide
  have S0 := c8.2.1
  have skp := sk_r (B := B) p1
  have cs := c.sk p1
  have ss := sk_sk (B := B) p1
  have e74 : sTx 74 = sTx 3 := txl_eq.2.1.2.2.2.1
  cases hw : isW B L (sTx 3) p with
  | true =>
    have iw := isW_yes (tx_ok 3 (by decide) (by decide)).1 hw
    have wq := wd_r (B := B) p1
    have hM : isM B L 40 p = false := by
      cases z : isM B L 40 p with
      | false => rfl
      | true => have := (isM_yes (by decide) z).1; omega
    have hr : F_X12_readAtom aR cR (stR (rS R S d) p b f) = (if d = 6 then some (0, stR (rS R S d) (wd B L p) (sk B L p) f) else bI (aR (stR (rS R S (d + 1)) (wd B L p) (sk B L p) f)) fun v7 D7 =>
        ck (nR v7) <|
        if v7 = 0 then
          some (0, D7)
        else
          bI (F_X12_emits 11 0 (pD D7 133 13 ((D7 133 13) - 1))) fun _ D8 =>
          some (1, D8)) := by
      rw [F_X12_readAtom, st_sign hB (rS_RT rt _ _) p0 p1 (by decide), hM, if_neg Bool.false_ne_true, bI_q, ck_p (by decide), if_pos rfl, st_passes hB (rS_RT rt _ _) (by omega) skp.2 (by decide), e74, isW_sk p1, hw, if_pos rfl, bI_q, ck_p (by decide), if_neg n1, (rS_f _ _ _ _ _ _).2, ck_p (by omega), rS_13, wd_sk p1, ss]
    rw [hr, F_X3_readsAtom, c_isWord hB c p0 p1 (by decide), bI_q, hw, bi_t, ck_p (by decide), if_neg n1, F_X3_readsAtom_j26, ck_p (by omega)]
    by_cases y : d = 6
    · rw [if_pos (by omega), if_pos y]
      exact LK.no rfl rfl FrL.rf (fun _ _ => rfl) c.skp (c8.le (by omega))
    · obtain ⟨E1, s1, s2, s3⟩ := c_stepT hB c p0 p1
      change CT B L (nx B L p) E1 at s2
      rw [iw.2.1] at s2
      have nxr := (nx_r (B := B) p1).2.2.2 iw.2.2
      rw [iw.2.1] at nxr
      obtain ⟨v, E2, q, b1, f1, S1, d1, a1, a2, a3, a4, a5⟩ := hAt (by omega) E1 f S (wd B L p) (sk B L p) st s2 (c8.go s3) (by omega) (by omega) (by omega) (by omega)
      rw [if_neg (by omega), if_neg y, F_X3_readsDeeper, s1, bI_q, ck_p (by decide), if_neg n1, a1, bI_q, a2, bI_q]
      rcases a5 with ⟨u1, u2, u3, u4⟩ | ⟨u1, u2, u3, u4, u5, u6, u7, u8⟩
      · obtain ⟨E3, t1, t2, t3, t4⟩ := c_put0 ⟨u3, u4⟩ 1014
        rw [u1, t1, bI_q, ck_p (Or.inl rfl), bI_q, ck_p (by decide), if_pos rfl, ck_p (Or.inl rfl), ck_p (by decide), if_pos rfl]
        exact LK.no rfl rfl (s3.l.tr (a3.tr t2)) a4 (by rw [t3]; exact u2) t4
      · subst u2
        have S10 := u7.2.1
        have SS1 := u8.1
        obtain ⟨E3, t1, t2, t3, t4⟩ := c_put (x := 1014) (s := 11) (m := 0) u7 (by omega) (by decide)
        have ef := emit_f f1 S1 11 0
        rw [u1, t1, bI_q, ck_p (Or.inr rfl), bI_q, ck_p (by decide), if_neg n1, ck_p (Or.inr rfl), ck_p (by decide), if_neg n1, (rS_f _ _ _ _ _ _).2, rS_13, show d + 1 - 1 = d by omega, r_emits (by omega), bI_q]
        exact LK.yes rfl rfl (s3.l.tr (a3.tr t3)) (fun i hi => by rw [ef.1 i (by omega) (by omega)]; exact a4 i hi) (by omega) u4 (by omega) (u6.go (t4 1 (by decide) (by decide)) (t4 2 (by decide) (by decide))) t2 (Ty.emit u8 (ty_11 st) (by simp only [List.length_cons]; omega))
  | false =>
  cases hM : isM B L 40 p with
  | true =>
    have iy := isM_yes (by decide) hM
    have hr : F_X12_readAtom aR cR (stR (rS R S d) p b f) = (if d = 6 then some (0, stR (rS R S d) (sk B L p + 1) (sk B L p) f) else bI (cR (stR (rS R S (d + 1)) (sk B L p + 1) (sk B L p) f)) fun v9 D9 =>
        ck (nR v9) <|
        if v9 = 0 then
          some (0, D9)
        else
          bI (F_X12_isSign 41 (pD D9 133 13 ((D9 133 13) - 1))) fun v10 D10 =>
          ck ((v10 = 0 ∨ v10 = 1)) <|
          some (v10, D10)) := by
      rw [F_X12_readAtom, st_sign hB (rS_RT rt _ _) p0 p1 (by decide), hM, if_pos rfl, bI_q, ck_p (by decide), if_neg n1, (rS_f _ _ _ _ _ _).2, ck_p (by omega), rS_13]
    rw [hr, F_X3_readsAtom, c_isWord hB c p0 p1 (by decide), bI_q, hw, bi_f, ck_p (by decide), if_pos rfl, c_isMark hB c p0 p1 (by decide) (by decide), bI_q, hM, bi_t, ck_p (by decide), if_neg n1, F_X3_readsAtom_j26, ck_p (by omega)]
    by_cases y : d = 6
    · rw [if_pos (by omega), if_pos y]
      exact LK.no rfl rfl FrL.rf (fun _ _ => rfl) c.skp (c8.le (by omega))
    · obtain ⟨E1, s1, s2, s3⟩ := c_stepT hB c p0 p1
      change CT B L (nx B L p) E1 at s2
      rw [iy.2.1] at s2
      obtain ⟨v, E2, q, b1, f1, S1, d1, a1, a2, a3, a4, a5⟩ := hC (by omega) E1 f S (sk B L p + 1) (sk B L p) st s2 (c8.go s3) (by omega) (by omega) (by omega) hst
      rw [if_neg (by omega), if_neg y, F_X3_readsDeeper, s1, bI_q, ck_p (by decide), if_pos rfl, a1, bI_q, a2, bI_q]
      rcases a5 with ⟨u1, u2, u3, u4⟩ | ⟨u1, u2, u3, u4, u5, u6, u7, u8⟩
      · rw [u1, ck_p (by decide), if_pos rfl, bI_q, ck_p (by decide), if_pos rfl, ck_p (Or.inl rfl), ck_p (by decide), if_pos rfl]
        exact LK.no rfl rfl (s3.l.tr a3) a4 u2 ⟨u3, u4⟩
      · subst u2
        have S10 := u7.2.1
        have SS1 := u8.1
        have skq := sk_r (B := B) u4
        rw [u1, ck_p (by decide), if_neg n1, ck_p (by decide), if_neg n1, c_isMark hB u6 (by omega) u4 (by decide) (by decide), bI_q, (rS_f _ _ _ _ _ _).2, rS_13, show d + 1 - 1 = d by omega, st_sign hB (rS_RT rt _ _) (by omega) u4 (by decide)]
        cases hN : isM B L 41 q with
        | false =>
          rw [bi_f, ck_p (by decide), if_pos rfl, bI_q, ck_p (by decide), if_pos rfl, ck_p (Or.inl rfl), if_neg Bool.false_ne_true, bI_q, ck_p (Or.inl rfl)]
          exact LK.no rfl rfl (s3.l.tr a3) a4 u6.skp (u7.le (by omega))
        | true =>
          have iz := isM_yes (by decide) hN
          obtain ⟨E3, t1, t2, t3⟩ := c_stepT hB u6 (by omega) u4
          change CT B L (nx B L q) E3 at t2
          rw [iz.2.1] at t2
          rw [bi_t, ck_p (by decide), if_neg n1, t1, bI_q, bI_q, ck_p (by decide), if_neg n1, ck_p (Or.inr rfl), if_pos rfl, bI_q, ck_p (Or.inr rfl)]
          exact LK.yes rfl rfl (s3.l.tr (a3.tr t3.l)) a4 (by omega) (by omega) (by omega) t2 (u7.go t3) u8
  | false =>
    have sv := sortV_r B L p
    have hr : F_X12_readAtom aR cR (stR (rS R S d) p b f) = bI (F_X12_readTag (stR (rS R S d) (sk B L p) (sk B L p) f)) fun v3 D3 =>
      ck (nR v3) <|
      if v3 = 0 then
        bI (F_X12_readSum D3) fun v4 D4 =>
        ck (nR v4) <|
        if v4 = 0 then
          some (0, D4)
        else
          bI (F_X12_isSign 60 D4) fun v5 D5 =>
          ck (nR v5) <|
          if v5 = 0 then
            bI (F_X12_isSign 62 D5) fun v6 D6 =>
            ck (nR v6) <|
            if v6 = 0 then
              some (0, D6)
            else
              F_X12_readAtom_j152 aR cR v5 D6
          else
            F_X12_readAtom_j152 aR cR v5 D5
      else
        some (1, D3) := by
      rw [F_X12_readAtom, st_sign hB (rS_RT rt _ _) p0 p1 (by decide), hM, if_neg Bool.false_ne_true, bI_q, ck_p (by decide), if_pos rfl, st_passes hB (rS_RT rt _ _) (by omega) skp.2 (by decide), e74, isW_sk p1, hw, if_neg Bool.false_ne_true, bI_q, ck_p (by decide), if_pos rfl, ss]
    have svk : sortV B L (sk B L p) = sortV B L p := by unfold sortV; rw [isW_sk p1, isW_sk p1, isW_sk p1, isW_sk p1]
    rw [hr, r_tag hB rt (by omega) (by omega) skp.2, svk, ss, wd_sk p1, F_X3_readsAtom, c_isWord hB c p0 p1 (by decide), bI_q, hw, bi_f, ck_p (by decide), if_pos rfl, c_isMark hB c p0 p1 (by decide) (by decide), bI_q, hM, bi_f, ck_p (by decide), if_pos rfl, c_sortL hB c p0 p1, bI_q]
    by_cases y : 1 ≤ sortV B L p
    · obtain ⟨E2, t1, t2, t3, t4⟩ := c_put (x := 1000 + (5 + sortV B L p)) (s := 6) (m := sortV B L p) c8 (by omega) (by unfold cItem; rw [if_neg (by decide), if_pos rfl]; omega)
      have ef := emit_f f S 6 (sortV B L p)
      have iw := sv.2.2 (by omega)
      obtain ⟨E3, s1, s2, s3⟩ := c_stepT hB (c.go (t4 1 (by decide) (by decide)) (t4 2 (by decide) (by decide))) p0 p1
      change CT B L (nx B L p) E3 at s2
      have nxr := nx_r (B := B) (p := p) p1
      have skL : sk B L p < L := by
        refine Classical.byContradiction fun z => ?_
        have t0 : tk B L (sk B L p) = 0 := by unfold tk; rw [if_neg z]
        have := wd_no (B := B) (L := L) (p := p) (by omega)
        unfold sortV isW at y
        rw [this] at y
        simp only [Int.sub_self] at y
        have e : ∀ i : Nat, i < 32 → (decide ((0 : Int) = ((sTx i).length : Int)) && matchF B (sk B L p) (sTx i)) = false := fun i hi => by
          have := List.length_pos_iff.mpr (tx_ok i (by omega) (Or.inl hi)).1
          rw [decide_eq_false (by omega)]; rfl
        rw [e 16 (by decide), e 17 (by decide), e 18 (by decide), e 19 (by decide)] at y
        simp at y
      have wpos := nxr.2.2.2 skL
      rw [iw] at s2 nxr wpos
      rw [if_pos y, if_pos y, ck_p (by omega), if_neg (by omega), t1, bI_q, s1, bI_q, bI_q, ck_p (by decide), if_neg n1]
      exact LK.yes rfl rfl (t3.tr s3.l) (fun i hi => ef.1 i (by omega) (by omega)) (by omega) nxr.2.1 (by omega) s2 (t2.go s3) (Ty.one (ty_6 ⟨y, sv.2.1⟩ st) (by simp only [List.length_cons]; omega))
    · rw [if_neg y, if_neg y, ck_p (by decide), if_pos rfl, bI_q, ck_p (by decide), if_pos rfl]
      exact (k_cmp (F_X3_readsDeeper gA gC) aR cR (st := st) (d := d) hB rt (by omega) (by omega) skp.2 (by omega) cs c8 (sk B L p)).to skp.1
end PXe
