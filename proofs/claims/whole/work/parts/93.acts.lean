/-! ACTS -/
section PX0
variable {n : Int} {D E F G : mD} {w : Int → Int}
def ClsAct (D E : mD) : Prop := (∀ a : Nat, ¬ (17 ≤ a ∧ a ≤ 21) → ¬ (23 ≤ a ∧ a ≤ 31) → ¬ (33 + 5 * (D 31 2).toNat ≤ a ∧ a ≤ 33 + 5 * (D 31 2).toNat + 4) → ¬ (109 ≤ a ∧ a ≤ 113) → E a = D a) ∧ E 31 1 = min 12 (D 31 1 + 1) ∧ E 31 2 = (D 31 2 + 1) % 12 ∧ WorkR (33 + 5 * (D 31 2).toNat) (D 134) E
def RefAct (E F : mD) : Prop := (∀ a : Nat, a ≠ 133 → a ≠ 134 → a ≠ 137 → a ≠ 138 → ¬ (141 ≤ a ∧ a ≤ 147) → F a = E a) ∧ (∀ i : Int, ¬ (18 ≤ i ∧ i ≤ 21) → i ≠ 0 → i ≠ 7 → F 133 i = E 133 i) ∧ F 133 0 = 0 ∧ F 133 7 = min 12 (E 133 7 + 1) ∧
  (∀ k, 0 ≤ k → k < 475 → F 138 (475 * (F 133 7 - 1) + k) = E 134 k) ∧ ∀ j k, 1 ≤ j → j < F 133 7 → 0 ≤ k → k < 475 → F 138 (475 * (F 133 7 - 1 - j) + k) = E 138 (475 * (E 133 7 - 1 - (j - 1)) + k)
theorem RefAct.of {G1 G2 G3 : mD} (q1 : Qw (pD E 133 0 0) G1) (q2 : RemR G1 G2) (q3 : Qw G2 G3) (f : Int → Int) : RefAct E (sA G3 134 f) := by
  obtain ⟨r1, r2, r3, r4, r5⟩ := q2
  have e7 : G1 133 7 = E 133 7 := by rw [q1.2 7 (by omega), pD_nj (by decide)]
  have f7 : G3 133 7 = G2 133 7 := q3.2 7 (by omega)
  have e8 : G1 138 = E 138 := by rw [q1.1 138 (by decide) (by decide) (by decide), pD_ne (by decide)]
  have f8 : G3 138 = G2 138 := q3.1 138 (by decide) (by decide) (by decide)
  have ew : G1 134 = E 134 := by rw [q1.w, pD_ne (by decide)]
  rw [e7] at r3 r5
  rw [e8] at r5
  rw [ew] at r4
  refine ⟨fun a h1 h2 h3 h4 h5 => ?_, fun i h1 h2 h3 => ?_, ?_, ?_, ?_, ?_⟩
  · rw [sA_ne h2, q3.1 a h1 h3 h5, r1 a h1 h4, q1.1 a h1 h3 h5, pD_ne h1]
  · rw [sA_ne (by decide), q3.2 i h1, r2 i h3, q1.2 i h1, pD_nj h2]
  · rw [sA_ne (by decide), q3.2 0 (by omega), r2 0 (by decide), q1.2 0 (by omega), pD_eq]
  · rw [sA_ne (by decide), f7, r3]
  · rw [sA_ne (by decide), sA_ne (by decide), f7, f8]; exact r4
  · rw [sA_ne (by decide), sA_ne (by decide), f7, f8]; exact r5
theorem Ca.same (H : Wi n (D 134)) (c : Ca D) (e : F 25 = D 25) (S : SameS (D 134) (F 134)) (h5 : F 134 5 = D 134 5) : Ca F := by
  intro g d g0 g1 d0 d1
  rw [(same_n S).2.1] at g1
  rw [e, wWhite_same H S h5 ⟨g0, g1⟩]
  exact c g d g0 g1 d0 d1
theorem act_do {n' : Int} (I : INV n D) (hn : n ≤ n') (c : ClsAct D E) (r : RefAct E F) (W : WorkR 17 (F 134) E) (S : SameS (D 134) (F 134)) (H : Wi n' (F 134)) (h5 : Ca F) : INV n' F := by
  obtain ⟨c1, c2, c3, c4⟩ := c
  obtain ⟨r1, r2, r3, r4, r5, r6⟩ := r
  have hb : D 31 2 < 12 := I.2.1.2.2.2.2.1
  have ec : ∀ a : Nat, a < 133 → F a = E a := fun a ha => r1 a (by omega) (by omega) (by omega) (by omega) (by omega)
  have e1 : ∀ a : Nat, 133 ≤ a → E a = D a := fun a ha => c1 a (by omega) (by omega) (by omega) (by omega)
  rw [e1 133 (by omega)] at r2 r4 r6
  rw [e1 134 (by omega)] at r5
  rw [e1 138 (by omega)] at r6
  refine act_end I hn (fun a h1 h2 h3 h4 h5 => (ec a h1).trans (c1 a h2 h3 h4 h5)) ⟨by rw [ec 31 (by omega)]; exact c2, by rw [ec 31 (by omega)]; exact c3⟩ (c4.at (fun a _ _ => ec a (by omega))) (W.at (fun a _ _ => ec a (by omega))) S H h5 ⟨?_, ?_, r2 6 (by omega) (by omega) (by omega), r2 9 (by omega) (by omega) (by omega), r2 14 (by omega) (by omega) (by omega)⟩ r4 r5 r6
  · rw [r1 135 (by decide) (by decide) (by decide) (by decide) (by decide), e1 135 (by omega)]
  · rw [r1 139 (by decide) (by decide) (by decide) (by decide) (by decide), e1 139 (by omega)]
theorem ClsAct.of {E1 : mD} (r : RemC D E1) (W : WorkR (33 + 5 * (D 31 2).toNat) (D 134) E1) (h : ∀ a : Nat, ¬ (17 ≤ a ∧ a ≤ 21) → ¬ (23 ≤ a ∧ a ≤ 30) → E a = E1 a) : ClsAct D E := by
  obtain ⟨r1, r2, r3⟩ := r
  refine ⟨fun a h1 h2 h3 _ => ?_, ?_, ?_, W.at (fun a _ _ => h a (by omega) (by omega))⟩
  · rw [h a h1 (by omega)]; exact r1 a (by omega) h3
  · rw [h 31 (by omega) (by omega)]; exact r2
  · rw [h 31 (by omega) (by omega)]; exact r3
theorem INV.cr (I : INV n D) : CR n D := I.1
theorem INV.his (I : INV n D) : (0 ≤ D 31 2 ∧ D 31 2 < 12) ∧ (0 ≤ D 31 1 ∧ D 31 1 ≤ 12) ∧ (0 ≤ D 133 7 ∧ D 133 7 ≤ 12) ∧ D 31 1 = D 133 7 := by
  obtain ⟨a, b, c, d, e, -⟩ := I.2.1
  omega
theorem WorkR.cr (R : CR n D) : WorkR 17 (D 134) D := R.2.2.2.1
/-- an act that goes wrong -/
theorem Step.no {ex : List Nat} {fc : mD → RX} {fr : mD → RI} {i : Nat} (I : INV n D) (k : Nat) (hk : ex[k]? = some i) (hc : fc D = some (.inr i, D)) (hz : ∀ E, fr E = fr (pD E 133 0 0))
    (hr : ∀ G, G 134 = D 134 → pD G 133 0 0 = G → RefNo G fr ((k : Int) + 1)) : Step n D ex fc fr := (Ans.no k hk hc (Ke.rf I.cr) hz hr).step I
theorem a_shift (I : INV n D) {x d : Int} (hx : nR x) (hd : nR d) : Step n D [2, 0] (F_X11_shift x d) (F_X12_shift x d) := by
  have R := I.cr
  have hr := R.wi.ra
  obtain ⟨i1, i2, i3, i4⟩ := I.his
  have hz : ∀ E, F_X12_shift x d E = F_X12_shift x d (pD E 133 0 0) := (fun E => by simp only [F_X12_shift, pD_pD])
  by_cases a : 0 ≤ x ∧ x ≤ max 0 (D 134 1 - 1) - 1
  · by_cases b : 0 ≤ d ∧ d ≤ 30
    · obtain ⟨E1, h1, h2, h3⟩ := c_remember i1 i2 (w := D 134) (by omega) (WorkR.cr R)
      have ew : E1 134 = D 134 := h2.1 134 (by omega) (by omega)
      have e3 : E1 133 = D 133 := h2.1 133 (by omega) (by omega)
      have e18 : E1 18 x = wL (D 134) x 3 := by rw [h2.1 18 (by omega) (by omega)]; exact R.ds a.1 (by omega)
      have W1 : WorkR 17 (D 134) E1 := (WorkR.cr R).at (fun a _ _ => h2.1 a (by omega) (by omega))
      have W2 := W1.dist (by omega) (g := x) (v := d) (by omega)
      have w2 := R.wi.dist (g := x) (v := d) (by omega) b
      obtain ⟨G2, g1, g2⟩ := r_remembers (D := pD (pD E1 18 x d) 133 0 0) (by rw [pD_nj (by decide), pD_ne (by decide), e3]; exact i3)
      have gw : G2 134 = D 134 := by rw [g2.1 134 (by decide) (by decide), pD_ne (by decide), pD_ne (by decide), ew]
      have Hg : Wi n ((pD (pD E1 18 x d) 133 0 0) 134) := by rw [pD_ne (by decide), pD_ne (by decide), ew]; exact R.wi
      have ag : 0 ≤ x ∧ x ≤ max 0 ((pD (pD E1 18 x d) 133 0 0) 134 1 - 1) - 1 := by rw [pD_ne (by decide), pD_ne (by decide), ew]; exact a
      have r := RefAct.of (E := pD E1 18 x d) Qw.rf g2 Qw.rf (sI (D 134) (159 + 4 * x + 3) d)
      have fw : (sA G2 134 (sI (D 134) (159 + 4 * x + 3) d)) 134 = sI (D 134) (159 + 4 * x + 3) d := sA_eq _ _ _
      refine ⟨.inl (wL (D 134) x 3), pD E1 18 x d, wL (D 134) x 3, sA G2 134 (sI (D 134) (159 + 4 * x + 3) d), ?_, ?_, ⟨r.2.2.1, rfl⟩, ?_⟩
      · rw [F_X11_shift, n_gap_t R hx a, bX_q, n_distance_t hd b, bX_q, h1, bI_q, ck_p (by omega), e18]
      · rw [hz, F_X12_shift, pD_pD, noGap_t Hg hx ag, bI_q, t_0, bI_q, ck_p (by decide), if_pos rfl, in_t hd (by decide) (by decide) b, bI_q, ck_p (by decide), if_neg (by decide), F_X12_shift_j34, t_0, bI_q, ck_p (by decide), if_pos rfl, g1, bI_q, e_distance (by omega) (by omega), bI_q, F_X12_sets, ck_p (by omega), bI_q, gw]
        unfold pD
        rw [gw]
      · refine act_do I (by omega) (ClsAct.of h2 h3 (fun a _ _ => pD_ne (by omega))) r (by rw [fw]; exact W2) (by rw [fw]; exact w2.2) (by rw [fw]; exact w2.1.mono (by omega)) (Ca.same R.wi R.2.2.2.2 ?_ (by rw [fw]; exact w2.2) (by rw [fw]; exact sI_ne (by omega)))
        rw [r.1 25 (by decide) (by decide) (by decide) (by decide) (by decide), pD_ne (by decide), h2.1 25 (by omega) (by omega)]
    · refine Step.no I 1 rfl (i := 0) (by rw [F_X11_shift, n_gap_t R hx a, bX_q, n_distance_f hd b, bX_r]) hz ?_
      intro G e z
      have H : Wi n (G 134) := by rw [e]; exact R.wi
      rw [← e] at a
      exact ⟨0, G, by simp (disch := omega) only [F_X12_shift, F_X12_shift_j34, z, noGap_t H hx a, bI_q, bX_q, bX_r, t_0, t_1, in_t, in_f, ck_p, if_pos, if_neg, if_true]; rfl, Qw.rf⟩
  · refine Step.no I 0 rfl (i := 2) (by rw [F_X11_shift, n_gap_f R hx a, bX_r]) hz ?_
    intro G e z
    have H : Wi n (G 134) := by rw [e]; exact R.wi
    rw [← e] at a
    exact ⟨0, G, by simp (disch := omega) only [F_X12_shift, z, noGap_f H hx a, bI_q, bX_q, bX_r, t_0, t_1, in_t, in_f, ck_p, if_pos, if_neg, if_true]; rfl, Qw.rf⟩
theorem a_squeezed (I : INV n D) {x d : Int} (hx : nR x) (hd : nR d) : Step n D [2, 0] (F_X11_squeezed x d) (F_X12_squeezed x d) := by
  have R := I.cr
  have hr := R.wi.ra
  obtain ⟨i1, i2, i3, i4⟩ := I.his
  have hz : ∀ E, F_X12_squeezed x d E = F_X12_squeezed x d (pD E 133 0 0) := (fun E => by simp only [F_X12_squeezed, pD_pD])
  by_cases a : 0 ≤ x ∧ x ≤ D 134 1 - 1
  · have hl := R.wi.lta (l := x) a.1 (by omega)
    have hs := R.wi.sg (s := wL (D 134) x 0) (by omega) (by omega)
    unfold SgOk at hs
    have wd := R.wd (l := x) a.1 (by omega)
    have sg := R.sg (s := wL (D 134) x 0) (by omega) (by omega)
    have ei : wI (D 134) x 1 = wS (D 134) (wL (D 134) x 0) 1 := rfl
    by_cases b : 0 ≤ d ∧ d ≤ 3
    · by_cases c : 1 ≤ wI (D 134) x 1 - d
      · obtain ⟨E1, h1, h2, h3⟩ := c_remember i1 i2 (w := D 134) (by omega) (WorkR.cr R)
        have ew : E1 134 = D 134 := h2.1 134 (by omega) (by omega)
        have e3 : E1 133 = D 133 := h2.1 133 (by omega) (by omega)
        have e19 : E1 19 x = wL (D 134) x 1 := by rw [h2.1 19 (by omega) (by omega)]; exact (R.sq a.1 (by omega)).1
        have W1 : WorkR 17 (D 134) E1 := (WorkR.cr R).at (fun a _ _ => h2.1 a (by omega) (by omega))
        have W2 := W1.sqz (by omega) (g := x) (v := d) (by omega)
        have w2 := R.wi.sqz (g := x) (v := d) (by omega) (by omega)
        obtain ⟨G2, g1, g2⟩ := r_remembers (D := pD (pD E1 19 x d) 133 0 0) (by rw [pD_nj (by decide), pD_ne (by decide), e3]; exact i3)
        have gw : G2 134 = D 134 := by rw [g2.1 134 (by decide) (by decide), pD_ne (by decide), pD_ne (by decide), ew]
        have Gw : (pD (pD E1 19 x d) 133 0 0) 134 = D 134 := by rw [pD_ne (by decide), pD_ne (by decide), ew]
        have its := e_its (D := pD (pD E1 19 x d) 133 0 0) (n := n) (by rw [Gw]; exact R.wi) a.1 (by rw [Gw]; omega) (k := 1) (by decide) (by decide)
        rw [Gw] at its
        have r := RefAct.of (E := pD E1 19 x d) Qw.rf g2 Qw.rf (sI (D 134) (159 + 4 * x + 1) d)
        have fw : (sA G2 134 (sI (D 134) (159 + 4 * x + 1) d)) 134 = sI (D 134) (159 + 4 * x + 1) d := sA_eq _ _ _
        refine ⟨.inl (wL (D 134) x 1), pD E1 19 x d, wL (D 134) x 1, sA G2 134 (sI (D 134) (159 + 4 * x + 1) d), ?_, ?_, ⟨r.2.2.1, rfl⟩, ?_⟩
        · rw [F_X11_squeezed, n_letter_t R hx a, bX_q, ck_p hd, if_neg (by omega), if_neg (by omega), ck_p (by omega), wd, ck_p (by omega), sg.2, ck_p (by omega), if_pos (by omega), h1, bI_q, e19]
        · rw [hz, F_X12_squeezed, pD_pD, noLetter_t (n := n) (by rw [Gw]; exact R.wi) hx (by rw [Gw]; exact a), bI_q, t_0, bI_q, ck_p (by decide), if_pos rfl, in_t hd (by decide) (by decide) b, bI_q, ck_p (by decide), if_neg (by decide), its, bI_q, ck_p (by omega), if_pos c, F_X12_squeezed_j45, t_0, bI_q, ck_p (by decide), if_pos rfl, g1, bI_q, e_of (by omega) (by omega), bI_q, F_X12_sets, ck_p (by omega), bI_q, gw]
          unfold pD
          rw [gw]
        · refine act_do I (by omega) (ClsAct.of h2 h3 (fun a _ _ => pD_ne (by omega))) r (by rw [fw]; exact W2) (by rw [fw]; exact w2.2) (by rw [fw]; exact w2.1.mono (by omega)) (Ca.same R.wi R.2.2.2.2 ?_ (by rw [fw]; exact w2.2) (by rw [fw]; exact sI_ne (by omega)))
          rw [r.1 25 (by decide) (by decide) (by decide) (by decide) (by decide), pD_ne (by decide), h2.1 25 (by omega) (by omega)]
      · refine Step.no I 1 rfl (i := 0) (by rw [F_X11_squeezed, n_letter_t R hx a, bX_q, ck_p hd, if_neg (by omega), if_neg (by omega), ck_p (by omega), wd, ck_p (by omega), sg.2, ck_p (by omega), if_neg (by omega), F_X11_squeezed_j37]) hz ?_
        intro G e z
        have H : Wi n (G 134) := by rw [e]; exact R.wi
        rw [← e] at a c ei hs hl
        exact ⟨0, G, by rw [F_X12_squeezed, z, noLetter_t H hx a, bI_q, t_0, bI_q, ck_p (by decide), if_pos rfl, in_t hd (by decide) (by decide) b, bI_q, ck_p (by decide), if_neg (by decide), e_its H a.1 (by omega) (by decide) (by decide), bI_q, ck_p (by omega), if_neg c, F_X12_squeezed_j45, t_1, bI_q, ck_p (by decide), if_neg (by decide)]; rfl, Qw.rf⟩
    · refine Step.no I 1 rfl (i := 0) ?_ hz ?_
      · by_cases s : d < 0
        · rw [F_X11_squeezed, n_letter_t R hx a, bX_q, ck_p hd, if_pos s, F_X11_squeezed_j37]
        · rw [F_X11_squeezed, n_letter_t R hx a, bX_q, ck_p hd, if_neg s, if_pos (by omega), F_X11_squeezed_j37]
      intro G e z
      have H : Wi n (G 134) := by rw [e]; exact R.wi
      rw [← e] at a
      exact ⟨0, G, by simp (disch := omega) only [F_X12_squeezed, F_X12_squeezed_j40, F_X12_squeezed_j45, z, noLetter_t H hx a, bI_q, bX_q, bX_r, t_0, t_1, in_t, in_f, ck_p, if_pos, if_neg, if_true]; rfl, Qw.rf⟩
  · refine Step.no I 0 rfl (i := 2) (by rw [F_X11_squeezed, n_letter_f R hx a, bX_r]) hz ?_
    intro G e z
    have H : Wi n (G 134) := by rw [e]; exact R.wi
    rw [← e] at a
    exact ⟨0, G, by simp (disch := omega) only [F_X12_squeezed, z, noLetter_f H hx a, bI_q, bX_q, bX_r, t_0, t_1, in_t, in_f, ck_p, if_pos, if_neg, if_true]; rfl, Qw.rf⟩
theorem Ca.no (h : ∀ j, 0 ≤ j → j < 403 → F 25 j = -1) (hw : F 134 1 ≤ 14) : Ca F := by
  intro g d g0 g1 d0 d1
  exact Or.inl (h _ (by omega) (by omega))
theorem fillD_ne {a b : Nat} {m v : Int} (h : b ≠ a) : fillD D a m v b = D b := sA_ne h
theorem fillD_in {a : Nat} {m v j : Int} (h : 0 ≤ j ∧ j < m) : fillD D a m v a j = v := by unfold fillD; rw [sA_eq, if_pos h]
theorem a_shadow (I : INV n D) {d : Int} (hd : nR d) : Step n D [0] (F_X11_shadow d) (F_X12_shadow d) := by
  have R := I.cr
  have hr := R.wi.ra
  obtain ⟨i1, i2, i3, i4⟩ := I.his
  have hz : ∀ E, F_X12_shadow d E = F_X12_shadow d (pD E 133 0 0) := (fun E => by simp only [F_X12_shadow, pD_pD])
  by_cases b : 0 ≤ d ∧ d ≤ 9
  · obtain ⟨E1, h1, h2, h3⟩ := c_remember i1 i2 (w := D 134) (by omega) (WorkR.cr R)
    have ew : E1 134 = D 134 := h2.1 134 (by omega) (by omega)
    have e3 : E1 133 = D 133 := h2.1 133 (by omega) (by omega)
    have e17 : E1 17 5 = D 134 5 := by rw [h2.1 17 (by omega) (by omega)]; exact (WorkR.cr R).2.2.1
    have W1 : WorkR 17 (D 134) E1 := (WorkR.cr R).at (fun a _ _ => h2.1 a (by omega) (by omega))
    have W2 := W1.shad (by omega) d
    have w2 := R.wi.sh (k := d) b
    obtain ⟨E, hE⟩ : ∃ E, E = fillD (pD E1 17 5 d) 25 403 (-1) := ⟨_, rfl⟩
    have eE : ∀ a : Nat, a ≠ 17 → a ≠ 25 → E a = E1 a := fun a h4 h5 => by rw [hE, fillD_ne h5, pD_ne h4]
    obtain ⟨G2, g1, g2⟩ := r_remembers (D := pD E 133 0 0) (by rw [pD_nj (by decide), eE 133 (by decide) (by decide), e3]; exact i3)
    have gw : G2 134 = D 134 := by rw [g2.1 134 (by decide) (by decide), pD_ne (by decide), eE 134 (by decide) (by decide), ew]
    have r := RefAct.of (E := E) Qw.rf g2 Qw.rf (sI (D 134) 5 d)
    have fw : (sA G2 134 (sI (D 134) 5 d)) 134 = sI (D 134) 5 d := sA_eq _ _ _
    refine ⟨.inl (D 134 5), E, D 134 5, sA G2 134 (sI (D 134) 5 d), ?_, ?_, ⟨r.2.2.1, rfl⟩, ?_⟩
    · rw [F_X11_shadow, ck_p hd, if_neg (by omega), if_pos (by omega), h1, bI_q, F_X0_forgetWhites, bI_q, e17, hE]
    · rw [hz, F_X12_shadow, pD_pD, in_t hd (by decide) (by decide) b, bI_q, ck_p (by decide), if_neg (by decide), F_X12_shadow_j21, t_0, bI_q, ck_p (by decide), if_pos rfl, g1, bI_q, gw]
      unfold pD
      rw [gw]
    · refine act_do I (by omega) (ClsAct.of h2 h3 (fun a _ _ => eE a (by omega) (by omega))) r (by rw [fw]; exact W2.at (fun a _ _ => by rw [hE, fillD_ne (by omega)])) (by rw [fw]; exact w2.2) (by rw [fw]; exact w2.1.mono (by omega)) (Ca.no (fun j j0 j1 => ?_) (by rw [fw, sI_ne (by decide)]; omega))
      rw [r.1 25 (by decide) (by decide) (by decide) (by decide) (by decide), hE, fillD_in ⟨j0, j1⟩]
  · refine Step.no I 0 rfl (i := 0) ?_ hz ?_
    · by_cases s : d < 0
      · rw [F_X11_shadow, ck_p hd, if_pos s, F_X11_shadow_j10]
      · rw [F_X11_shadow, ck_p hd, if_neg s, if_neg (by omega), F_X11_shadow_j10]
    intro G e z
    exact ⟨0, G, by simp (disch := omega) only [F_X12_shadow, F_X12_shadow_j21, z, bI_q, bX_q, bX_r, t_0, t_1, in_t, in_f, ck_p, if_pos, if_neg, if_true]; rfl, Qw.rf⟩
theorem a_paint (I : INV n D) (hn : n ≤ 90000) {x : Int} (hx : nR x) : Step n D [2] (F_X11_paint x) (F_X12_paint x) := by
  have R := I.cr
  have hr := R.wi.ra
  obtain ⟨i1, i2, i3, i4⟩ := I.his
  have hz : ∀ E, F_X12_paint x E = F_X12_paint x (pD E 133 0 0) := (fun E => by simp only [F_X12_paint, pD_pD])
  by_cases a : 0 ≤ x ∧ x ≤ D 134 7 - 1
  · have hx7 : 0 ≤ x ∧ x < D 134 7 := by omega
    obtain ⟨E1, h1, h2, h3⟩ := c_remember i1 i2 (w := D 134) (by omega) (WorkR.cr R)
    have ew : E1 134 = D 134 := h2.1 134 (by omega) (by omega)
    have e3 : E1 133 = D 133 := h2.1 133 (by omega) (by omega)
    have W1 : WorkR 17 (D 134) E1 := (WorkR.cr R).at (fun a _ _ => h2.1 a (by omega) (by omega))
    obtain ⟨E, p1, p2, p3⟩ := c_paintDay R.wi W1 hx7
    have e10 : E1 10 x = D 134 (215 + 2 * x + 1) := by rw [h2.1 10 (by omega) (by omega)]; exact (R.wt hx7.1 hx7.2).2
    have e5 : E1 3 5 = D 134 1 := by rw [h2.1 3 (by omega) (by omega)]; exact R.ca.2.1
    have w2 := wPaint_r R.wi hx7
    have Ew : E 134 = D 134 := (p3 134 (by omega)).trans ew
    obtain ⟨G2, g1, g2⟩ := r_remembers (D := pD E 133 0 0) (by rw [pD_nj (by decide), p3 133 (by omega), e3]; exact i3)
    have gw : G2 134 = D 134 := by rw [g2.1 134 (by decide) (by decide), pD_ne (by decide), Ew]
    have Gw : (pD E 133 0 0) 134 = D 134 := by rw [pD_ne (by decide), Ew]
    have rp := r_paints (D := G2) (n := n) (by rw [gw]; exact R.wi) (by omega) (x := x) (by rw [gw]; exact hx7)
    rw [gw] at rp
    have r := RefAct.of (E := E) Qw.rf g2 Qw.rf (wPaint (D 134) x)
    have fw : (sA G2 134 (wPaint (D 134) x)) 134 = wPaint (D 134) x := sA_eq _ _ _
    refine ⟨.inl (wNext (D 134)), E, wNext (D 134), sA G2 134 (wPaint (D 134) x), ?_, ?_, ⟨r.2.2.1, rfl⟩, ?_⟩
    · rw [F_X11_paint, n_writer_t R hx a, bX_q, h1, bI_q, ck_p (by omega), e10, e5, p1, bI_q]
    · rw [hz, F_X12_paint, pD_pD, noWriter_t (n := n) (by rw [Gw]; exact R.wi) hx (by rw [Gw]; exact a), bI_q, t_0, bI_q, ck_p (by decide), if_pos rfl, g1, bI_q, rp, bI_q]
    · refine act_do I (by omega) (ClsAct.of h2 h3 (fun a h _ => p3 a h)) r (by rw [fw]; exact p2) (by rw [fw]; exact w2.2.1) (by rw [fw]; exact w2.1) (Ca.same R.wi R.2.2.2.2 ?_ (by rw [fw]; exact w2.2.1) (by rw [fw]; exact w2.2.2))
      rw [r.1 25 (by decide) (by decide) (by decide) (by decide) (by decide), p3 25 (by omega), h2.1 25 (by omega) (by omega)]
  · refine Step.no I 0 rfl (i := 2) (by rw [F_X11_paint, n_writer_f R hx a, bX_r]) hz ?_
    intro G e z
    have H : Wi n (G 134) := by rw [e]; exact R.wi
    rw [← e] at a
    exact ⟨0, G, by simp (disch := omega) only [F_X12_paint, z, noWriter_f H hx a, bI_q, bX_q, bX_r, t_0, t_1, in_t, in_f, ck_p, if_pos, if_neg, if_true]; rfl, Qw.rf⟩
end PX0
