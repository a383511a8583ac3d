/-! LAW's text: atoms -/
section PXc
variable {n : Int} {B f g w : Int → Int} {L p q b s S d : Int} {C D E F R : mD} {st st' : List Bool} {fc fr : RI}
theorem st_passes (hB : CB B L) (rt : RT B L R) (p0 : 0 ≤ p) (p1 : p ≤ L) {i : Nat} (hi : 54 ≤ i ∧ i < 81) : F_X12_passes i (stR R p b f) = if isW B L (sTx i) p = true then some (1, stR R (wd B L p) (sk B L p) f) else some (0, stR R (sk B L p) (sk B L p) f) := by
  rw [r_passes hB (st_RT rt _ _ _) (st_f R p b f).1 p0 p1 hi, st_pos, st_pos]
theorem isM_sk {c : Int} (h : p ≤ L) : isM B L c (sk B L p) = isM B L c p := by unfold isM; rw [sk_sk h]
theorem wd_sk (h : p ≤ L) : wd B L (sk B L p) = wd B L p := by unfold wd; rw [sk_sk h]
theorem isW_sk {t : List Int} (h : p ≤ L) : isW B L t (sk B L p) = isW B L t p := by unfold isW; rw [wd_sk h, sk_sk h]
theorem c_sortL (hB : CB B L) (c : CT B L p D) (p0 : 0 ≤ p) (p1 : p ≤ L) : F_X3_sortHere D = some (if 1 ≤ sortV B L p then 5 + sortV B L p else -1, D) := by
  obtain ⟨_, x4, x5, x6⟩ := txl_eq.2.2
  have e16 : isW B L (sTx 16) p = true → isW B L (sTx 4) p = false ∧ isW B L (sTx 5) p = false ∧ isW B L (sTx 6) p = false := fun h => ⟨isW_one h (by decide +kernel), isW_one h (by decide +kernel), isW_one h (by decide +kernel)⟩
  unfold sortV
  rw [x4, x5, x6, F_X3_sortHere, c_isWord hB c p0 p1 (by decide), bI_q]
  cases h0 : isW B L (sTx 16) p with
  | true =>
    obtain ⟨a1, a2, a3⟩ := e16 h0
    rw [a1, bi_f, ck_p (by decide), if_pos rfl, c_isWord hB c p0 p1 (by decide), bI_q, a2, bi_f, ck_p (by decide), if_pos rfl, c_isWord hB c p0 p1 (by decide), bI_q, a3, bi_f, ck_p (by decide)]
    rfl
  | false =>
  cases h1 : isW B L (sTx 4) p with
  | true => rw [bi_t, ck_p (by decide), if_neg (by decide)]; rfl
  | false =>
    rw [bi_f, ck_p (by decide), if_pos rfl, c_isWord hB c p0 p1 (by decide), bI_q]
    cases h2 : isW B L (sTx 5) p with
    | true => rw [bi_t, ck_p (by decide), if_neg (by decide)]; rfl
    | false =>
      rw [bi_f, ck_p (by decide), if_pos rfl, c_isWord hB c p0 p1 (by decide), bI_q]
      cases h3 : isW B L (sTx 6) p with
      | true => rw [bi_t, ck_p (by decide)]; rfl
      | false => rw [bi_f, ck_p (by decide)]; rfl
theorem r_tag (hB : CB B L) (rt : RT B L R) (hS : 0 ≤ S ∧ S ≤ 399) (p0 : 0 ≤ p) (p1 : p ≤ L) (b : Int) : F_X12_readTag (stR (rS R S d) p b f) = if 1 ≤ sortV B L p then some (1, stR (rS R (S + 1) d) (wd B L p) (sk B L p) (emit f S 6 (sortV B L p))) else some (0, stR (rS R S d) (sk B L p) (sk B L p) f) := by
  have rtS := rS_RT (d := d) (S := S) rt
  have sv := sortV_r B L p
  rw [F_X12_readTag, st_letters hB rtS p0 p1, bI_q, r_sort hB rtS p0 p1, bI_q, ck_p (by omega)]
  by_cases y : 1 ≤ sortV B L p
  · rw [if_neg (by omega), if_pos y, r_emits hS, bI_q, F_X12_readTag_j31, ck_p (by omega), if_neg (by omega), ck_p (by decide)]
  · rw [if_pos (by omega), if_neg y, F_X12_readTag_j31, ck_p (by omega), if_pos (by omega), ck_p (by decide), (st_f _ _ _ _).2.1, st_10]
theorem ty_9 (st : List Bool) : tyStep 9 0 (false :: false :: st) = some (true :: st) ∧ tyStep 10 0 (false :: false :: st) = some (true :: st) := by
  unfold tyStep
  exact ⟨by rw [if_neg (by decide), if_neg (by decide), if_neg (by decide), if_neg (by decide), if_pos (by decide)], by rw [if_neg (by decide), if_neg (by decide), if_neg (by decide), if_neg (by decide), if_pos (by decide)]⟩
theorem ty_11 (st : List Bool) : tyStep 11 0 (true :: st) = some (true :: st) := by
  unfold tyStep
  rw [if_neg (by decide), if_neg (by decide), if_neg (by decide), if_neg (by decide), if_neg (by decide), if_pos rfl]
theorem ty_12 (st : List Bool) : tyStep 12 0 (true :: true :: st) = some (true :: st) ∧ tyStep 13 0 (true :: true :: st) = some (true :: st) := by
  unfold tyStep
  exact ⟨by rw [if_neg (by decide), if_neg (by decide), if_neg (by decide), if_neg (by decide), if_neg (by decide), if_neg (by decide), if_pos (by decide)], by rw [if_neg (by decide), if_neg (by decide), if_neg (by decide), if_neg (by decide), if_neg (by decide), if_neg (by decide), if_pos (by decide)]⟩
theorem ty_6 {v : Int} (h : 1 ≤ v ∧ v ≤ 3) (st : List Bool) : tyStep 6 v st = some (true :: st) := by
  unfold tyStep
  rw [if_neg (by decide), if_pos rfl, if_pos h]
theorem CR8.le (h : CR8 E f S) (hS : S ≤ 400) : 0 ≤ E 104 5 ∧ E 104 5 ≤ 400 := by have := h.1; have := h.2.1; omega
/-- two sums and what stands between them -/
theorem k_cmp (fd : Int → Int → mD → RI) (fa fo : mD → RI) (hB : CB B L) (rt : RT B L R) (hst : st.length ≤ 16) (p0 : 0 ≤ p) (p1 : p ≤ L) (hS : S < p) (c : CT B L p E) (c8 : CR8 E f S) (b : Int) : LK B L st (true :: st) p S d E f R
    (bI (F_X3_readsSum E) fun v4 D4 =>
        ck (nR v4) <|
        if v4 = 0 then
          some (0, D4)
        else
          bI (F_X8_isMark 60 D4) fun v5 D5 =>
          ck (nR v5) <|
          if v5 = 0 then
            bI (F_X8_isMark 62 D5) fun v6 D6 =>
            ck (nR v6) <|
            if v6 = 0 then
              some (0, D6)
            else
              F_X3_readsAtom_j119 fd v5 D6
          else
            F_X3_readsAtom_j119 fd v5 D5)
    (bI (F_X12_readSum (stR (rS R S d) p b f)) fun v4 D4 =>
        ck (nR v4) <|
        if v4 = 0 then
          some (0, D4)
        else
          bI (F_X12_isSign 60 D4) fun v5 D5 =>
          ck (nR v5) <|
          if v5 = 0 then
            bI (F_X12_isSign 62 D5) fun v6 D6 =>
            ck (nR v6) <|
            if v6 = 0 then
              some (0, D6)
            else
              F_X12_readAtom_j152 fa fo v5 D6
          else
            F_X12_readAtom_j152 fa fo v5 D5) := by
  have l4 := hB.2.1
  obtain ⟨v, E1, q, b1, f1, S1, d1, h1, h2, h3, h4, h5⟩ := k_sum (st := st) (d := d) hB rt (by omega) p0 p1 hS c c8 b
  rw [h1, bI_q, h2, bI_q]
  rcases h5 with ⟨a1, a2, a3⟩ | ⟨a1, a2, a3, a4, a5, a6, a7, a8⟩
  · rw [a1, ck_p (by decide), if_pos rfl, ck_p (by decide), if_pos rfl]
    exact LK.no rfl rfl h3 h4 a2 a3
  · subst a2
    have S10 := a7.2.1
    have skq := sk_r (B := B) a4
    have cs := a6.sk a4
    /- behind the mark -/
    have go : ∀ (v5 c5 : Int) (s5 : Int), isM B L c5 q = true → kd c5 = 3 → (v5 = 1 ∧ s5 = 9 ∨ v5 = 0 ∧ s5 = 10) → LK B L st (true :: st) p S d1 E f R (F_X3_readsAtom_j119 fd v5 E1) (F_X12_readAtom_j152 fa fo v5 (stR (rS R S1 d1) (sk B L q + 1) (sk B L q) f1)) := by
      intro v5 c5 s5 hM hk hv
      have iy := isM_yes hk hM
      obtain ⟨E2, s1, s2, s3⟩ := c_stepT hB a6 (by omega) a4
      change CT B L (nx B L q) E2 at s2
      rw [iy.2.1] at s2
      have e3 : F_X3_readsAtom_j119 fd v5 E1 = (bI (F_X3_readsSum E2) fun v2 D2 => ck (nR v2) <| if v2 = 0 then some (0, D2) else ck (nR v5) <| F_X3_readsAtom_j153 fd (if v5 = 0 then (1011 : Int) else (1010 : Int)) D2) := by rw [F_X3_readsAtom_j119, s1, bI_q]
      obtain ⟨v', E3, q2, b2, f2, S2, d2, g1, g2, g3, g4, g5⟩ := k_sum (st := false :: st) (d := d1) hB rt (by simp only [List.length_cons]; omega) (p := sk B L q + 1) (by omega) (by omega) (by omega) s2 (a7.go s3) (sk B L q)
      rw [e3, g1, bI_q, F_X12_readAtom_j152, g2, bI_q]
      have fr4 : ∀ i, i < 1373 + 2 * S → f2 i = f i := fun i hi => (g4 i (by have := a8.1; omega)).trans (h4 i hi)
      rcases g5 with ⟨k1, k2, k3⟩ | ⟨k1, k2, k3, k4, k5, k6, k7, k8⟩
      · rw [k1, ck_p (by decide), if_pos rfl, ck_p (by decide), if_pos rfl]
        exact LK.no rfl rfl (h3.tr (s3.l.tr g3)) fr4 k2 k3
      · subst k2
        have S20 := k7.2.1
        obtain ⟨E4, t1, t2, t3, t4⟩ := c_put (x := if v5 = 0 then (1011 : Int) else 1010) (s := s5) (m := 0) k7 (by omega) (by rcases hv with ⟨x, y⟩ | ⟨x, y⟩; rw [x, y]; decide; rw [x, y]; decide)
        have ef := emit_f f2 S2 s5 0
        have es : (if v5 = 0 then (10 : Int) else 9) = s5 := by rcases hv with ⟨x, y⟩ | ⟨x, y⟩; rw [x, y]; decide; rw [x, y]; decide
        rw [k1, ck_p (by decide), if_neg (by decide), ck_p (by omega), F_X3_readsAtom_j153, t1, bI_q, ck_p (by decide), if_neg (by decide), ck_p (by omega), es, F_X12_readAtom_j173, r_emits (by omega), bI_q]
        refine LK.yes rfl rfl (h3.tr (s3.l.tr (g3.tr t3))) (fun i hi => ?_) (by omega) k4 (by omega) (k6.go (t4 1 (by decide) (by decide)) (t4 2 (by decide) (by decide))) t2 ?_
        · have := k8.1
          have := a8.1
          rw [ef.1 i (by omega) (by omega)]; exact fr4 i hi
        · refine Ty.emit (a8.tr k8 g4) ?_ (by simp only [List.length_cons]; omega)
          rcases hv with ⟨x, y⟩ | ⟨x, y⟩
          · rw [y]; exact (ty_9 st).1
          · rw [y]; exact (ty_9 st).2
    rw [a1, ck_p (by decide), if_neg (by decide), ck_p (by decide), if_neg (by decide), c_isMark hB a6 (by omega) a4 (by decide) (by decide), bI_q, st_sign hB (rS_RT rt _ _) (by omega) a4 (by decide)]
    cases hM : isM B L 60 q with
    | true =>
      rw [bi_t, ck_p (by decide), if_neg (by decide), if_pos rfl, bI_q, ck_p (by decide), if_neg (by decide)]
      exact go 1 60 9 hM (by decide) (Or.inl ⟨rfl, rfl⟩)
    | false =>
      rw [bi_f, ck_p (by decide), if_pos rfl, if_neg Bool.false_ne_true, bI_q, ck_p (by decide), if_pos rfl, c_isMark hB a6 (by omega) a4 (by decide) (by decide), bI_q, st_sign hB (rS_RT rt _ _) (by omega) skq.2 (by decide), isM_sk a4, sk_sk a4]
      cases hM2 : isM B L 62 q with
      | true =>
        rw [bi_t, ck_p (by decide), if_neg (by decide), if_pos rfl, bI_q, ck_p (by decide), if_neg (by decide)]
        exact go 0 62 10 hM2 (by decide) (Or.inr ⟨rfl, rfl⟩)
      | false =>
        rw [bi_f, ck_p (by decide), if_pos rfl, if_neg Bool.false_ne_true, bI_q, ck_p (by decide), if_pos rfl]
        exact LK.no rfl rfl h3 h4 a6.skp (a7.le (by omega))
end PXc
