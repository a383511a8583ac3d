/-! TEXT of a shop: line by line -/
section PW9
variable {n : Int} {B W0 f f0 g : Int → Int} {L p q b s : Int} {C D E R : mD} {fc fr : RI}
theorem Lock.v (h : Lock B L n W0 C R fc fr) : ∃ v C' D', fc = some (v, C') ∧ fr = some (v, D') ∧ (v = 0 ∨ v = 1) := by
  obtain ⟨v, C', q, b, f, h1, h2, h3, h4, h5⟩ := h
  exact ⟨v, C', _, h1, h2, by rcases h5 with h | h <;> omega⟩
theorem w1_id {r : RI} {v : Int} {D : mD} (h : r = some (v, D)) (hv : v = 0 ∨ v = 1) : (bI r fun v D => ck ((v = 0 ∨ v = 1)) <| some (v, D)) = r := by
  rw [h, bI_q, ck_p hv]
theorem w2_id {r : RI} {v : Int} {D : mD} (h : r = some (v, D)) (hv : v = 0 ∨ v = 1) : (bI r fun v D => ck (nR v) <| ck (((if v = 0 then (0 : Int) else (1 : Int)) = 0 ∨ (if v = 0 then (0 : Int) else (1 : Int)) = 1)) <| some ((if v = 0 then (0 : Int) else (1 : Int)), D)) = r := by
  rw [h, bI_q]
  rcases hv with hv | hv
  · rw [hv, if_pos rfl, ck_p (by decide), ck_p (Or.inl rfl)]
  · rw [hv, if_neg (by decide), ck_p (by decide), ck_p (Or.inr rfl)]
theorem Lock.c1 (h : Lock B L n W0 C R fc fr) : (bI fc fun v D => ck ((v = 0 ∨ v = 1)) <| some (v, D)) = fc := by
  obtain ⟨v, C', D', h1, h2, h3⟩ := h.v
  exact w1_id h1 h3
theorem Lock.c2 (h : Lock B L n W0 C R fc fr) : (bI fc fun v D => ck (nR v) <| ck (((if v = 0 then (0 : Int) else (1 : Int)) = 0 ∨ (if v = 0 then (0 : Int) else (1 : Int)) = 1)) <| some ((if v = 0 then (0 : Int) else (1 : Int)), D)) = fc := by
  obtain ⟨v, C', D', h1, h2, h3⟩ := h.v
  exact w2_id h1 h3
theorem Lock.r1 (h : Lock B L n W0 C R fc fr) : (bI fr fun v D => ck ((v = 0 ∨ v = 1)) <| some (v, D)) = fr := by
  obtain ⟨v, C', D', h1, h2, h3⟩ := h.v
  exact w1_id h2 h3
theorem Lock.r2 (h : Lock B L n W0 C R fc fr) : (bI fr fun v D => ck (nR v) <| ck (((if v = 0 then (0 : Int) else (1 : Int)) = 0 ∨ (if v = 0 then (0 : Int) else (1 : Int)) = 1)) <| some ((if v = 0 then (0 : Int) else (1 : Int)), D)) = fr := by
  obtain ⟨v, C', D', h1, h2, h3⟩ := h.v
  exact w2_id h2 h3
theorem Lock.far (h : Lock B L n W0 E R fc fr) (k : Fr1 C E) : Lock B L n W0 C R fc fr := by
  obtain ⟨v, C', q, b, f, h1, h2, h3, h4, h5⟩ := h
  exact ⟨v, C', q, b, f, h1, h2, k.c.tr h3, h4, h5⟩
theorem tW_f (hB : CB B L) (c : CT B L p C) (p0 : 0 ≤ p) (p1 : p ≤ L) {i : Nat} (hi : i < 32) (h : isW B L (sTx i) p = false) : F_X8_takesWord i C = some (0, C) := by
  obtain ⟨E, e1, e2, e3, e4⟩ := c_takesWord hB c p0 p1 hi
  rw [e1, h, e3 h]; rfl
theorem tW_t (hB : CB B L) (c : CT B L p C) (p0 : 0 ≤ p) (p1 : p ≤ L) {i : Nat} (hi : i < 32) (h : isW B L (sTx i) p = true) : ∃ E, F_X8_takesWord i C = some (1, E) ∧ Fr1 C E ∧ CT B L (wd B L p) E := by
  obtain ⟨E, e1, e2, e3, e4⟩ := c_takesWord hB c p0 p1 hi
  have iw := isW_yes (tx_ok i (by omega) (Or.inl hi)).1 h
  refine ⟨E, by rw [e1, h]; rfl, e2, ?_⟩
  rw [← iw.2.1]; exact e4 h
theorem iW_f (hB : CB B L) (c : CT B L p C) (p0 : 0 ≤ p) (p1 : p ≤ L) {i : Nat} (hi : i < 32) (h : isW B L (sTx i) p = false) : F_X8_isWord i C = some (0, C) := by
  rw [c_isWord hB c p0 p1 hi, h]; rfl
theorem iW_t (hB : CB B L) (c : CT B L p C) (p0 : 0 ≤ p) (p1 : p ≤ L) {i : Nat} (hi : i < 32) (h : isW B L (sTx i) p = true) : F_X8_isWord i C = some (1, C) := by
  rw [c_isWord hB c p0 p1 hi, h]; rfl
theorem rW_f (hB : CB B L) (rt : RT B L R) (p0 : 0 ≤ p) (p1 : p ≤ L) {i : Nat} (hi : 54 ≤ i ∧ i < 81) {t : List Int} (e : sTx i = t) (h : isW B L t p = false) : F_X12_isWord i (stR R (wd B L p) (sk B L p) f) = some (0, stR R (wd B L p) (sk B L p) f) := by
  rw [st_word hB rt p0 p1 hi, e, h]; rfl
theorem rW_t (hB : CB B L) (rt : RT B L R) (p0 : 0 ≤ p) (p1 : p ≤ L) {i : Nat} (hi : 54 ≤ i ∧ i < 81) {t : List Int} (e : sTx i = t) (h : isW B L t p = true) : F_X12_isWord i (stR R (wd B L p) (sk B L p) f) = some (1, stR R (wd B L p) (sk B L p) f) := by
  rw [st_word hB rt p0 p1 hi, e, h]; rfl
theorem k_line (hB : CB B L) (rt : RT B L R) (c : CT B L p C) (p0 : 0 ≤ p) (p1 : p ≤ L) (dr : DR n W0 C (R 134)) : Lock B L n W0 C R (F_X7_readsLine C) (F_X12_readShopLine (stR R (wd B L p) (sk B L p) (R 134))) := by
  have w2 := wd_r (B := B) p1
  have n0 : ¬ ((1 : Int) = 0) := by decide
  have r0 : nR 0 := by decide
  have r1 : nR 1 := by decide
  obtain ⟨⟨x0, x1, x2, x3, x4, x5, x6, x7, x8, x9, x10⟩, y1, y2, y3, y4, y5, y6⟩ := tx_eq
  have one : ∀ {i j : Nat}, isW B L (sTx i) p = true → sTx i ≠ sTx j → isW B L (sTx j) p = false := fun h k => isW_one h k
  cases h15 : isW B L (sTx 15) p with
  | true =>
    have K := k_sign hB rt c p0 p1 dr h15
    rw [F_X7_readsLine, iW_t hB c p0 p1 (by decide) h15, bI_q, ck_p r1, if_neg n0, K.c1, F_X12_readShopLine, rW_t hB rt p0 p1 (by decide) x0 h15, bI_q, ck_p r1, if_neg n0, K.r1]
    exact K
  | false =>
  cases h23 : isW B L (sTx 23) p with
  | true =>
    have K := k_writer hB rt c p0 p1 dr h23
    rw [F_X7_readsLine, iW_f hB c p0 p1 (by decide) h15, bI_q, ck_p r0, if_pos rfl, iW_t hB c p0 p1 (by decide) h23, bI_q, ck_p r1, if_neg n0, K.c1,
      F_X12_readShopLine, rW_f hB rt p0 p1 (by decide) x0 h15, bI_q, ck_p r0, if_pos rfl, rW_f hB rt p0 p1 (by decide) x8 (one h23 (by decide)), bI_q, ck_p r0, if_pos rfl, rW_f hB rt p0 p1 (by decide) x10 (one h23 (by decide)), bI_q, ck_p r0, if_pos rfl,
      rW_f hB rt p0 p1 (by decide) y1 (one h23 (by decide)), bI_q, ck_p r0, if_pos rfl, rW_f hB rt p0 p1 (by decide) y2 (one h23 (by decide)), bI_q, ck_p r0, if_pos rfl, rW_t hB rt p0 p1 (by decide) y3 h23, bI_q, ck_p r1, if_neg n0, K.r1]
    exact K
  | false =>
  cases h26 : isW B L (sTx 26) p with
  | true =>
    have K := k_looker hB rt c p0 p1 dr h26
    rw [F_X7_readsLine, iW_f hB c p0 p1 (by decide) h15, bI_q, ck_p r0, if_pos rfl, iW_f hB c p0 p1 (by decide) h23, bI_q, ck_p r0, if_pos rfl, iW_t hB c p0 p1 (by decide) h26, bI_q, ck_p r1, if_neg n0, K.c1,
      F_X12_readShopLine, rW_f hB rt p0 p1 (by decide) x0 h15, bI_q, ck_p r0, if_pos rfl, rW_f hB rt p0 p1 (by decide) x8 (one h26 (by decide)), bI_q, ck_p r0, if_pos rfl, rW_f hB rt p0 p1 (by decide) x10 (one h26 (by decide)), bI_q, ck_p r0, if_pos rfl,
      rW_f hB rt p0 p1 (by decide) y1 (one h26 (by decide)), bI_q, ck_p r0, if_pos rfl, rW_f hB rt p0 p1 (by decide) y2 (one h26 (by decide)), bI_q, ck_p r0, if_pos rfl, rW_f hB rt p0 p1 (by decide) y3 h23, bI_q, ck_p r0, if_pos rfl, rW_t hB rt p0 p1 (by decide) y6 h26, bI_q, ck_p r1, if_neg n0, K.r2]
    exact K
  | false =>
  cases h27 : isW B L (sTx 27) p with
  | true =>
    obtain ⟨E, e1, e2, e3⟩ := tW_t hB c p0 p1 (i := 27) (by decide) h27
    have K := k_board (b := sk B L p) hB rt e3 (by omega) w2.2.2 (dr.cls (fun a h1 _ => e2 a (by omega)))
    rw [F_X7_readsLine, iW_f hB c p0 p1 (by decide) h15, bI_q, ck_p r0, if_pos rfl, iW_f hB c p0 p1 (by decide) h23, bI_q, ck_p r0, if_pos rfl, iW_f hB c p0 p1 (by decide) h26, bI_q, ck_p r0, if_pos rfl, e1, bI_q, ck_p r1, if_neg n0, K.c1,
      F_X12_readShopLine, rW_f hB rt p0 p1 (by decide) x0 h15, bI_q, ck_p r0, if_pos rfl, rW_t hB rt p0 p1 (by decide) x8 h27, bI_q, ck_p r1, if_neg n0, K.r1]
    exact K.far e2
  | false =>
  cases h29 : isW B L (sTx 29) p with
  | true =>
    obtain ⟨E, e1, e2, e3⟩ := tW_t hB c p0 p1 (i := 29) (by decide) h29
    have K := k_num (b := sk B L p) hB rt e3 (by omega) w2.2.2 (dr.cls (fun a h1 _ => e2 a (by omega))) (j := 4) (k := 9) (Or.inl ⟨rfl, rfl⟩)
    rw [F_X7_readsLine, iW_f hB c p0 p1 (by decide) h15, bI_q, ck_p r0, if_pos rfl, iW_f hB c p0 p1 (by decide) h23, bI_q, ck_p r0, if_pos rfl, iW_f hB c p0 p1 (by decide) h26, bI_q, ck_p r0, if_pos rfl, tW_f hB c p0 p1 (by decide) h27, bI_q, ck_p r0, if_pos rfl, e1, bI_q, ck_p r1, if_neg n0,
      F_X12_readShopLine, rW_f hB rt p0 p1 (by decide) x0 h15, bI_q, ck_p r0, if_pos rfl, rW_f hB rt p0 p1 (by decide) x8 h27, bI_q, ck_p r0, if_pos rfl, rW_t hB rt p0 p1 (by decide) x10 h29, bI_q, ck_p r1, if_neg n0, K.r1]
    exact K.far e2
  | false =>
  cases h30 : isW B L (sTx 30) p with
  | true =>
    obtain ⟨E, e1, e2, e3⟩ := tW_t hB c p0 p1 (i := 30) (by decide) h30
    have K := k_num (b := sk B L p) hB rt e3 (by omega) w2.2.2 (dr.cls (fun a h1 _ => e2 a (by omega))) (j := 6) (k := 10) (Or.inr ⟨rfl, rfl⟩)
    rw [F_X7_readsLine, iW_f hB c p0 p1 (by decide) h15, bI_q, ck_p r0, if_pos rfl, iW_f hB c p0 p1 (by decide) h23, bI_q, ck_p r0, if_pos rfl, iW_f hB c p0 p1 (by decide) h26, bI_q, ck_p r0, if_pos rfl, tW_f hB c p0 p1 (by decide) h27, bI_q, ck_p r0, if_pos rfl, tW_f hB c p0 p1 (by decide) h29, bI_q, ck_p r0, if_pos rfl, e1, bI_q, ck_p r1, if_neg n0,
      F_X12_readShopLine, rW_f hB rt p0 p1 (by decide) x0 h15, bI_q, ck_p r0, if_pos rfl, rW_f hB rt p0 p1 (by decide) x8 h27, bI_q, ck_p r0, if_pos rfl, rW_f hB rt p0 p1 (by decide) x10 h29, bI_q, ck_p r0, if_pos rfl, rW_t hB rt p0 p1 (by decide) y1 h30, bI_q, ck_p r1, if_neg n0, K.r1]
    exact K.far e2
  | false =>
  cases h31 : isW B L (sTx 31) p with
  | true =>
    obtain ⟨E, e1, e2, e3⟩ := tW_t hB c p0 p1 (i := 31) (by decide) h31
    have K := k_word (b := sk B L p) hB rt e3 (by omega) w2.2.2 (dr.cls (fun a h1 _ => e2 a (by omega)))
    rw [F_X7_readsLine, iW_f hB c p0 p1 (by decide) h15, bI_q, ck_p r0, if_pos rfl, iW_f hB c p0 p1 (by decide) h23, bI_q, ck_p r0, if_pos rfl, iW_f hB c p0 p1 (by decide) h26, bI_q, ck_p r0, if_pos rfl, tW_f hB c p0 p1 (by decide) h27, bI_q, ck_p r0, if_pos rfl, tW_f hB c p0 p1 (by decide) h29, bI_q, ck_p r0, if_pos rfl, tW_f hB c p0 p1 (by decide) h30, bI_q, ck_p r0, if_pos rfl, e1, bI_q, ck_p r1, if_neg n0, K.c2,
      F_X12_readShopLine, rW_f hB rt p0 p1 (by decide) x0 h15, bI_q, ck_p r0, if_pos rfl, rW_f hB rt p0 p1 (by decide) x8 h27, bI_q, ck_p r0, if_pos rfl, rW_f hB rt p0 p1 (by decide) x10 h29, bI_q, ck_p r0, if_pos rfl, rW_f hB rt p0 p1 (by decide) y1 h30, bI_q, ck_p r0, if_pos rfl, rW_t hB rt p0 p1 (by decide) y2 h31, bI_q, ck_p r1, if_neg n0, K.r1]
    exact K.far e2
  | false =>
    rw [F_X7_readsLine, iW_f hB c p0 p1 (by decide) h15, bI_q, ck_p r0, if_pos rfl, iW_f hB c p0 p1 (by decide) h23, bI_q, ck_p r0, if_pos rfl, iW_f hB c p0 p1 (by decide) h26, bI_q, ck_p r0, if_pos rfl, tW_f hB c p0 p1 (by decide) h27, bI_q, ck_p r0, if_pos rfl, tW_f hB c p0 p1 (by decide) h29, bI_q, ck_p r0, if_pos rfl, tW_f hB c p0 p1 (by decide) h30, bI_q, ck_p r0, if_pos rfl, tW_f hB c p0 p1 (by decide) h31, bI_q, ck_p r0, if_pos rfl,
      F_X12_readShopLine, rW_f hB rt p0 p1 (by decide) x0 h15, bI_q, ck_p r0, if_pos rfl, rW_f hB rt p0 p1 (by decide) x8 h27, bI_q, ck_p r0, if_pos rfl, rW_f hB rt p0 p1 (by decide) x10 h29, bI_q, ck_p r0, if_pos rfl, rW_f hB rt p0 p1 (by decide) y1 h30, bI_q, ck_p r0, if_pos rfl, rW_f hB rt p0 p1 (by decide) y2 h31, bI_q, ck_p r0, if_pos rfl, rW_f hB rt p0 p1 (by decide) y3 h23, bI_q, ck_p r0, if_pos rfl, rW_f hB rt p0 p1 (by decide) y6 h26, bI_q, ck_p r0, if_pos rfl]
    exact ⟨0, C, _, _, _, rfl, rfl, FrC.rf, fun _ _ => rfl, Or.inl ⟨rfl, c.skp⟩⟩
end PW9
