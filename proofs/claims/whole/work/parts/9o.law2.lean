/-! LAW's text: sums -/
section PXb
variable {n : Int} {B f g w : Int → Int} {L p q b s S d : Int} {C D E F R : mD} {st st' : List Bool} {fc fr : RI}
/-- both ends read on: from place p (S steps) -/
def LK (B : Int → Int) (L : Int) (st st' : List Bool) (p S d : Int) (E : mD) (f : Int → Int) (R : mD) (fc fr : RI) : Prop :=
  ∃ v E' q b' f' S' d', fc = some (v, E') ∧ fr = some (v, stR (rS R S' d') q b' f') ∧ FrL E E' ∧ (∀ i, i < 1373 + 2 * S → f' i = f i) ∧
    ((v = 0 ∧ E' 1 3 = b' ∧ 0 ≤ E' 104 5 ∧ E' 104 5 ≤ 400) ∨ (v = 1 ∧ d' = d ∧ p ≤ q ∧ q ≤ L ∧ S' - S ≤ q - p ∧ CT B L q E' ∧ CR8 E' f' S' ∧ Ty f' S S' st st'))
theorem LK.no {E' : mD} {q b' S' d' : Int} {f' : Int → Int} (h1 : fc = some (0, E')) (h2 : fr = some (0, stR (rS R S' d') q b' f')) (h3 : FrL E E') (h4 : ∀ i, i < 1373 + 2 * S → f' i = f i) (h5 : E' 1 3 = b') (h6 : 0 ≤ E' 104 5 ∧ E' 104 5 ≤ 400) : LK B L st st' p S d E f R fc fr :=
  ⟨0, E', q, b', f', S', d', h1, h2, h3, h4, Or.inl ⟨rfl, h5, h6⟩⟩
theorem LK.yes {E' : mD} {q b' S' : Int} {f' : Int → Int} (h1 : fc = some (1, E')) (h2 : fr = some (1, stR (rS R S' d) q b' f')) (h3 : FrL E E') (h4 : ∀ i, i < 1373 + 2 * S → f' i = f i) (h5 : p ≤ q) (h6 : q ≤ L) (h7 : S' - S ≤ q - p) (h8 : CT B L q E') (h9 : CR8 E' f' S') (h10 : Ty f' S S' st st') : LK B L st st' p S d E f R fc fr :=
  ⟨1, E', q, b', f', S', d, h1, h2, h3, h4, Or.inr ⟨rfl, rfl, h5, h6, h7, h8, h9, h10⟩⟩
/-- what came before -/
theorem LK.pre {st0 : List Bool} {p0 S0 : Int} {E0 : mD} {f0 : Int → Int} (h : LK B L st st' p S d E f R fc fr) (k1 : FrL E0 E) (k2 : ∀ i, i < 1373 + 2 * S0 → f i = f0 i) (k3 : Ty f S0 S st0 st) (k4 : p0 ≤ p) (k5 : S - S0 ≤ p - p0) : LK B L st0 st' p0 S0 d E0 f0 R fc fr := by
  obtain ⟨v, E', q, b', f', S', d', h1, h2, h3, h4, h5⟩ := h
  have hs := k3.1
  refine ⟨v, E', q, b', f', S', d', h1, h2, k1.tr h3, fun i hi => (h4 i (by omega)).trans (k2 i hi), ?_⟩
  rcases h5 with h | ⟨a1, a2, a3, a4, a5, a6, a7, a8⟩
  · exact Or.inl h
  · exact Or.inr ⟨a1, a2, by omega, a4, by omega, a6, a7, k3.tr a8 h4⟩
theorem st_sign (hB : CB B L) (rt : RT B L R) (p0 : 0 ≤ p) (p1 : p ≤ L) {c : Int} (hc : 0 ≤ c ∧ c ≤ 127) : F_X12_isSign c (stR R p b f) = if isM B L c p = true then some (1, stR R (sk B L p + 1) (sk B L p) f) else some (0, stR R (sk B L p) (sk B L p) f) := by
  rw [r_isSign hB (st_RT rt _ _ _) (st_f R p b f).1 p0 p1 hc, st_pos, st_pos]
theorem ty_8 (st : List Bool) : tyStep 8 0 (false :: false :: st) = some (false :: st) := by
  unfold tyStep
  rw [if_neg (by decide), if_neg (by decide), if_neg (by decide), if_pos rfl]
theorem it_8 : cItem 8 0 = 1009 := by decide
theorem partV_r (B : Int → Int) (L p : Int) : nR (partV B L p) := by
  unfold partV
  have := numV_r B L 0 999 p
  split
  · decide
  · split
    · decide
    · split
      · decide
      · split
        · decide
        · split
          · decide
          · split
            · decide
            · omega
theorem k_sum_T (hB : CB B L) (rt : RT B L R) (hst : st.length ≤ 17) : ∀ (m fuel fuel' : Nat) (x q S b : Int) (f : Int → Int) (E : mD), m < fuel → m < fuel' → L - q ≤ m → 0 ≤ x → x < q → S < q → 0 ≤ q → q ≤ L → CT B L q E → CR8 E f S →
    LK B L (false :: st) (false :: st) q S d E f R (bI (F_X8_isMark 43 E) fun v2 D2 => ck (nR v2) <| if v2 = 0 then some (1, D2) else bI (F_X8_step D2) fun _ D3 => F_X3_readsSum_L2 fuel (x + 1) D3) (F_X12_readSum_L9 fuel' (stR (rS R S d) q b f)) := by
  have l4 := hB.2.1
  intro m
  induction m with
  | zero =>
    intro fuel fuel' x q S b f E hf hf' hm x0 xq Sq q0 q1 c c8
    obtain ⟨j', rfl⟩ : ∃ j', fuel' = j' + 1 := ⟨fuel' - 1, by omega⟩
    have s0 := c8.2.1
    have sr := sk_r (B := B) q1
    have hM : isM B L 43 q = false := by unfold isM; exact decide_eq_false (by omega)
    rw [c_isMark hB c q0 q1 (by decide) (by decide), bI_q, hM, bi_f, ck_p (by decide), if_pos rfl, F_X12_readSum_L9, st_sign hB (rS_RT rt _ _) q0 q1 (by decide), hM, if_neg Bool.false_ne_true, bI_q, ck_p (by decide), if_pos rfl]
    exact LK.yes rfl rfl FrL.rf (fun _ _ => rfl) sr.1 sr.2 (by omega) (c.sk q1) c8 Ty.rf
  | succ m ih =>
    intro fuel fuel' x q S b f E hf hf' hm x0 xq Sq q0 q1 c c8
    obtain ⟨j, rfl⟩ : ∃ j, fuel = j + 1 := ⟨fuel - 1, by omega⟩
    obtain ⟨j', rfl⟩ : ∃ j', fuel' = j' + 1 := ⟨fuel' - 1, by omega⟩
    have s0 := c8.2.1
    have sr := sk_r (B := B) q1
    rw [c_isMark hB c q0 q1 (by decide) (by decide), bI_q]
    cases hM : isM B L 43 q with
    | false =>
      rw [bi_f, ck_p (by decide), if_pos rfl, F_X12_readSum_L9, st_sign hB (rS_RT rt _ _) q0 q1 (by decide), hM, if_neg Bool.false_ne_true, bI_q, ck_p (by decide), if_pos rfl]
      exact LK.yes rfl rfl FrL.rf (fun _ _ => rfl) sr.1 sr.2 (by omega) (c.sk q1) c8 Ty.rf
    | true =>
      have iy := isM_yes (by decide) hM
      obtain ⟨E1, s1, s2, s3⟩ := c_stepT hB c q0 q1
      change CT B L (nx B L q) E1 at s2
      rw [iy.2.1] at s2
      obtain ⟨P, eP⟩ : ∃ P, P = sk B L q + 1 := ⟨_, rfl⟩
      rw [← eP] at s2
      have c81 := c8.go s3
      have pr := r_part (S := S) (d := d) (f := f) hB rt (by omega) (p := P) (by omega) (by omega) (sk B L q)
      obtain ⟨sx, mx, r1, r2⟩ := pr
      have hr : F_X12_readSum_L9 (j' + 1) (stR (rS R S d) q b f) = (ck (nR (if partV B L P = -1 then 0 else 1)) <| if (if partV B L P = -1 then (0 : Int) else 1) = 0 then some (0, stR (rS R (S + 1) d) (if tk B L (sk B L P) = 1 then wd B L P else nd B L P) (sk B L P) (emit f S sx mx)) else bI (F_X12_emits 8 0 (stR (rS R (S + 1) d) (if tk B L (sk B L P) = 1 then wd B L P else nd B L P) (sk B L P) (emit f S sx mx))) fun _ D3 => F_X12_readSum_L9 j' D3) := by
        rw [F_X12_readSum_L9, st_sign hB (rS_RT rt _ _) q0 q1 (by decide), if_pos hM, bI_q, ck_p (by decide), if_neg (by decide), ← eP, r1, bI_q]
      have ef := emit_f f S sx mx
      by_cases y : partV B L P = -1
      · rw [if_pos y, ck_p (by decide), if_pos rfl] at hr
        rw [hr, bi_t, ck_p (by decide), if_neg (by decide), s1, bI_q, F_X3_readsSum_L2, ck_p (by omega), if_neg (show ¬ 400 ≤ x + 1 by omega), c_partHere hB s2 (by omega) (by omega), bI_q, ck_p (by omega), if_pos y]
        exact LK.no rfl rfl s3.l (fun i hi => ef.1 i (by omega) (by omega)) s2.skp (by have := c81.1; omega)
      · obtain ⟨u1, u2, u3, u4⟩ := r2 y
        have nxr := nx_r (B := B) (p := P) (L := L) (by omega)
        have nxp := nxr.2.2.2 u4
        obtain ⟨E2, t1, t2, t3, t4⟩ := c_put c81 (by omega) u1
        obtain ⟨E3, v1, v2, v3, v4⟩ := c_put t2 (by omega) it_8.symm
        obtain ⟨E4, w1, w2, w3⟩ := c_stepT hB (s2.go ((v4 1 (by decide) (by decide)).trans (t4 1 (by decide) (by decide))) ((v4 2 (by decide) (by decide)).trans (t4 2 (by decide) (by decide)))) (by omega) (by omega)
        change CT B L (nx B L P) E4 at w2
        have pvr := partV_r B L P
        rw [if_neg y, ck_p (by decide), if_neg (by decide), r_emits (by omega), bI_q, ← u3] at hr
        rw [hr, bi_t, ck_p (by decide), if_neg (by decide), s1, bI_q, F_X3_readsSum_L2, ck_p (by omega), if_neg (show ¬ 400 ≤ x + 1 by omega), c_partHere hB s2 (by omega) (by omega), bI_q, ck_p pvr, if_neg y, t1, bI_q, if_neg (show ¬ x + 1 ≤ 0 by omega), v1, bI_q, F_X3_readsSum_j43, w1, bI_q]
        have K := ih j j' (x + 1) (nx B L P) (S + 1 + 1) (sk B L P) (emit (emit f S sx mx) (S + 1) 8 0) E4 (by omega) (by omega) (by omega) (by omega) (by omega) (by omega) (by omega) nxr.2.1 w2 (v2.go w3)
        have ef2 := emit_f (emit f S sx mx) (S + 1) 8 0
        refine K.pre (s3.l.tr (t3.tr (v3.tr w3.l))) (fun i hi => by rw [ef2.1 i (by omega) (by omega), ef.1 i (by omega) (by omega)]) ?_ (by omega) (by omega)
        refine Ty.emit (Ty.one (u2 (false :: st)) (by simp only [List.length_cons]; omega)) (ty_8 st) (by simp only [List.length_cons]; omega)
theorem k_sum (hB : CB B L) (rt : RT B L R) (hst : st.length ≤ 17) (p0 : 0 ≤ p) (p1 : p ≤ L) (hS : S < p) (c : CT B L p E) (c8 : CR8 E f S) (b : Int) : LK B L st (false :: st) p S d E f R (F_X3_readsSum E) (F_X12_readSum (stR (rS R S d) p b f)) := by
  have l4 := hB.2.1
  have hN := fN
  have s0 := c8.2.1
  obtain ⟨sx, mx, r1, r2⟩ := r_part (S := S) (d := d) (f := f) hB rt (by omega) (p := p) p0 p1 b
  obtain ⟨J, hJ⟩ : ∃ J, fuelN = J + 1 := ⟨999999, rfl⟩
  have ef := emit_f f S sx mx
  have hc : F_X3_readsSum E = F_X3_readsSum_L2 (J + 1) 0 E := by rw [F_X3_readsSum, hJ]
  have hr : F_X12_readSum (stR (rS R S d) p b f) = (ck (nR (if partV B L p = -1 then 0 else 1)) <| if (if partV B L p = -1 then (0 : Int) else 1) = 0 then some (0, stR (rS R (S + 1) d) (if tk B L (sk B L p) = 1 then wd B L p else nd B L p) (sk B L p) (emit f S sx mx)) else F_X12_readSum_L9 fuelN (stR (rS R (S + 1) d) (if tk B L (sk B L p) = 1 then wd B L p else nd B L p) (sk B L p) (emit f S sx mx))) := by
    rw [F_X12_readSum, r1, bI_q]
  by_cases y : partV B L p = -1
  · rw [if_pos y, ck_p (by decide), if_pos rfl] at hr
    rw [hr, hc, F_X3_readsSum_L2, ck_p (by decide), if_neg (by decide), c_partHere hB c p0 p1, bI_q, ck_p (by omega), if_pos y]
    exact LK.no rfl rfl FrL.rf (fun i hi => ef.1 i (by omega) (by omega)) c.skp (by have := c8.1; omega)
  · obtain ⟨u1, u2, u3, u4⟩ := r2 y
    have nxr := nx_r (B := B) (p := p) (L := L) p1
    have nxp := nxr.2.2.2 u4
    obtain ⟨E2, t1, t2, t3, t4⟩ := c_put c8 (by omega) u1
    obtain ⟨E4, w1, w2, w3⟩ := c_stepT hB (c.go (t4 1 (by decide) (by decide)) (t4 2 (by decide) (by decide))) p0 p1
    change CT B L (nx B L p) E4 at w2
    rw [if_neg y, ck_p (by decide), if_neg (by decide), ← u3] at hr
    rw [hr, hc, F_X3_readsSum_L2, ck_p (by decide), if_neg (by decide), c_partHere hB c p0 p1, bI_q, ck_p (partV_r B L p), if_neg y, t1, bI_q, if_pos (by decide), F_X3_readsSum_j43, w1, bI_q]
    have K := k_sum_T (st := st) (d := d) hB rt hst (L - nx B L p).toNat J fuelN 0 (nx B L p) (S + 1) (sk B L p) (emit f S sx mx) E4 (by omega) (by omega) (by omega) (by omega) (by omega) (by omega) (by omega) nxr.2.1 w2 (t2.go w3)
    exact K.pre (t3.tr w3.l) (fun i hi => ef.1 i (by omega) (by omega)) (Ty.one (u2 st) (by simp only [List.length_cons]; omega)) (by omega) (by omega)
end PXb
