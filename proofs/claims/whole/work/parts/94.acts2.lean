/-! ACTS: lays, seed, undo, image, back -/
section PX1
variable {n : Int} {D E F G : mD} {w : Int → Int}
def wLay (w : Int → Int) (L : Nat → Int) : Nat → Int → Int
  | 0 => w
  | k + 1 => sI (wLay w L k) (159 + 4 * (k : Int) + 3) (L k)
theorem wLay_ne {L : Nat → Int} {i : Int} : ∀ m : Nat, (∀ k : Nat, k < m → i ≠ 159 + 4 * (k : Int) + 3) → wLay w L m i = w i := by
  intro m
  induction m with
  | zero => intro _; rfl
  | succ m ih =>
    intro h
    rw [wLay, sI_ne (h m (by omega)), ih (fun k hk => h k (by omega))]
theorem wLay_in {L : Nat → Int} : ∀ m k : Nat, k < m → wLay w L m (159 + 4 * (k : Int) + 3) = L k := by
  intro m
  induction m with
  | zero => intro k h; omega
  | succ m ih =>
    intro k h
    rw [wLay]
    by_cases z : k = m
    · rw [z, sI_eq]
    · rw [sI_ne (by omega), ih k (by omega)]
theorem wLay_r (H : Wi n w) {L : Nat → Int} : ∀ m : Nat, (m : Int) ≤ w 1 → (∀ k : Nat, k < m → 0 ≤ L k ∧ L k ≤ 30) → Wi n (wLay w L m) ∧ SameS w (wLay w L m) := by
  intro m
  induction m with
  | zero => intro _ _; exact ⟨H, SameS.rf⟩
  | succ m ih =>
    intro hm hL
    obtain ⟨a, b⟩ := ih (by omega) (fun k hk => hL k (by omega))
    have c := a.dist (g := (m : Int)) (v := L m) (by rw [(same_n b).2.1]; omega) (hL m (by omega))
    rw [wLay]
    exact ⟨c.1, b.tr c.2⟩
theorem WorkR.lay {t : Nat} (hw : 0 ≤ w 1 ∧ w 1 ≤ 14) (h : WorkR t w D) {L : Nat → Int} (e : ∀ a : Nat, t ≤ a → a ≤ t + 4 → a ≠ t + 1 → E a = D a) (hL : ∀ k : Nat, k < (max 0 (w 1 - 1)).toNat → E (t + 1) (k : Int) = L k) : WorkR t (wLay w L (max 0 (w 1 - 1)).toNat) E := by
  obtain ⟨a1, a2, a3, a4, a5, a6, a7, a8, a9, b⟩ := h
  have el : ∀ i, i < 162 ∨ (∀ k : Nat, k < (max 0 (w 1 - 1)).toNat → i ≠ 159 + 4 * (k : Int) + 3) → wLay w L (max 0 (w 1 - 1)).toNat i = w i := fun i hi => wLay_ne _ (fun k hk => by
    rcases hi with hi | hi
    · omega
    · exact hi k hk)
  unfold WorkR
  rw [e t (by omega) (by omega) (by omega), e (t + 2) (by omega) (by omega) (by omega), e (t + 3) (by omega) (by omega) (by omega), e (t + 4) (by omega) (by omega) (by omega), el 1 (by omega), el 12 (by omega), el 5 (by omega), el 14 (by omega), el 11 (by omega), el 13 (by omega)]
  refine ⟨?_, a2, a3, a4, a5, a6, a7, fun g g0 g1 => ?_, fun l l0 l1 => ?_, fun a k a0 a1 k0 k1 => ?_⟩
  · rw [a1]
    unfold wPainted
    rw [el 1 (by omega)]
    congr 1
    exact bitN_congr _ (fun j hj => by rw [show wL (wLay w L (max 0 (w 1 - 1)).toNat) (j : Int) 2 = wL w (j : Int) 2 from el _ (Or.inr (fun k hk => by omega))])
  · obtain ⟨k, rfl⟩ : ∃ k : Nat, g = k := ⟨g.toNat, by omega⟩
    rw [hL k (by omega)]
    exact (wLay_in _ k (by omega)).symm
  · rw [show wL (wLay w L (max 0 (w 1 - 1)).toNat) l 1 = wL w l 1 from el _ (Or.inr (fun k hk => by omega)), show wL (wLay w L (max 0 (w 1 - 1)).toNat) l 2 = wL w l 2 from el _ (Or.inr (fun k hk => by omega))]
    exact a9 l l0 l1
  · rw [el (235 + 4 * a + k) (Or.inr (fun k hk => by omega))]
    exact b a k a0 a1 k0 k1
theorem r_lays_L {v : Int} {L : Nat → Int} (hw : 0 ≤ w 1 ∧ w 1 ≤ 14) (hL : ∀ k : Nat, k < (max 0 (w 1 - 1)).toNat → E 144 (k : Int) = L k) : ∀ (m fuel k : Nat), m < fuel → k + m = (max 0 (w 1 - 1)).toNat →
    F_X12_lays_L63 v fuel (k : Int) (sA E 134 (wLay w L k)) = some (v, sA E 134 (wLay w L (max 0 (w 1 - 1)).toNat)) := by
  intro m
  induction m with
  | zero =>
    intro fuel k hf hk
    obtain ⟨j, rfl⟩ : ∃ j, fuel = j + 1 := ⟨fuel - 1, by omega⟩
    have e1 : (sA E 134 (wLay w L k)) 134 1 = w 1 := by rw [sA_eq]; exact wLay_ne _ (fun k _ => by omega)
    rw [F_X12_lays_L63, g_gaps (by rw [e1]; exact hw), bI_q, e1, ck_p (by omega), ck_p (by omega), if_pos (by omega), show k = (max 0 (w 1 - 1)).toNat by omega]
  | succ m ih =>
    intro fuel k hf hk
    obtain ⟨j, rfl⟩ : ∃ j, fuel = j + 1 := ⟨fuel - 1, by omega⟩
    have e1 : (sA E 134 (wLay w L k)) 134 1 = w 1 := by rw [sA_eq]; exact wLay_ne _ (fun k _ => by omega)
    have i := ih j (k + 1) (by omega) (by omega)
    rw [F_X12_lays_L63, g_gaps (by rw [e1]; exact hw), bI_q, e1, ck_p (by omega), ck_p (by omega), if_neg (by omega), ck_p (by omega), F_X12_sets, ck_p (by omega), bI_q, sA_ne (by decide), hL k (by omega), pD_sA, show (k : Int) + 1 = ((k + 1 : Nat) : Int) by omega, ← i]
    rfl
theorem a_lays (I : INV n D) {x : Int} (hx : nR x) : Step n D [0, 1] (F_X11_lays x) (F_X12_lays x) := by
  have R := I.cr
  have hr := R.wi.ra
  have hN := fN
  obtain ⟨i1, i2, i3, i4⟩ := I.his
  have hz : ∀ E, F_X12_lays x E = F_X12_lays x (pD E 133 0 0) := (fun E => by simp only [F_X12_lays, pD_pD])
  by_cases a : 0 ≤ x ∧ x ≤ 2000
  · obtain ⟨E0, h0, K0, T0⟩ := c_leastOff (Ke.rf R) (x := x) (more := 0) a (by omega)
    have ho := wOff_r R.wi a 0
    by_cases b : wOff (D 134) x 0 = 1000000
    · rw [if_pos b] at h0
      refine (Ans.no 1 rfl (i := 1) (by rw [F_X11_lays, n_white_t hx a, bX_q, h0, bI_q, ck_p (by decide), if_pos rfl]) K0 hz ?_).step I
      intro G e z
      have H : Wi n (G 134) := by rw [e]; exact R.wi
      rw [← e] at b
      obtain ⟨F1, f1, q1, u1⟩ := r_laysWhites H Qw.rf
      obtain ⟨F2, f2, q2, u2, -⟩ := r_laysBy H q1 u1 (x := x) (more := 0) a (by omega)
      exact ⟨0, F2, by rw [F_X12_lays, z, noWhite_t hx a, bI_q, t_0, bI_q, ck_p (by decide), if_pos rfl, f1, bI_q, f2, bI_q, b, ck_p (by decide), if_pos rfl, F_X12_lays_j43, t_1, bI_q, ck_p (by decide), if_neg (by decide)]; rfl, q2⟩
    · rw [if_neg b] at h0
      have hc : wCan (D 134) 0 := Classical.byContradiction fun y => b (wOff_cannot y)
      obtain ⟨t4, t5, T⟩ := T0 hc
      have hc2 := hc
      unfold wCan at hc2
      have hrm := wRoom_r R.wi (more := 0) (by omega)
      have e31 : E0 31 = D 31 := K0.1 31 (by decide) (by decide)
      obtain ⟨E1, h1, h2, h3⟩ := c_remember (D := E0) (by rw [e31]; exact i1) (by rw [e31]; exact i2) (w := D 134) (by omega) (by have := WorkR.cr K0.2; rw [K0.w] at this; exact this)
      have h2' := h2
      unfold RemC at h2
      rw [e31] at h2 h3
      have ew : E1 134 = D 134 := (h2.1 134 (by omega) (by omega)).trans K0.w
      have W0 : WorkR 17 (D 134) E0 := by have := WorkR.cr K0.2; rw [K0.w] at this; exact this
      have W1 : WorkR 17 (D 134) E1 := W0.at (fun a _ _ => h2.1 a (by omega) (by omega))
      have C1 : CW n E1 := by
        have c := K0.2.cw
        obtain ⟨y1, y2, y3, y4, y5⟩ := c
        unfold CW
        rw [ew]
        rw [K0.w] at y1 y2 y3 y4
        refine ⟨y1, y2.keep (fun a _ _ => h2.1 a (by omega) (by omega)), y3.keep (fun a _ _ => h2.1 a (by omega) (by omega)), by rw [h2.1 17 (by omega) (by omega)]; exact y4, ?_⟩
        unfold Ca at y5 ⊢
        rw [h2.1 25 (by omega) (by omega), ew]
        rw [K0.w] at y5
        exact y5
      have e26 : E1 26 = E0 26 := h2.1 26 (by omega) (by omega)
      obtain ⟨E2, p1, p2, p3, p4⟩ := c_putDistances_L R.wi (x := x) (hairs := wRoom (D 134) 0) (G := (max 0 (D 134 1 - 1)).toNat) (by omega) a (by omega) (by omega) (max 0 (D 134 1 - 1)).toNat fuelN 0 E1 (by omega) (by omega) (fun i hi => by omega) C1 ew (by rw [e26]; exact t4) (T.keep (h2.1 27 (by omega) (by omega)))
      have p1' : F_X4_putDistances 18 E1 = some (0, E2) := by rw [F_X4_putDistances, e26, t5]; exact p1
      obtain ⟨L, hL⟩ : ∃ L : Nat → Int, L = fun k => layW (wCost (D 134) x) (max 0 (D 134 1 - 1)).toNat (wRoom (D 134) 0) k := ⟨_, rfl⟩
      have Lr : ∀ k : Nat, k < (max 0 (D 134 1 - 1)).toNat → 0 ≤ L k ∧ L k ≤ 30 := fun k hk => by
        rw [hL]
        exact layW_r (wCost_0 (D 134) x) (fun g d g0 g1 d0 d1 => wCost_r R.wi a g0 (by omega) d0 d1) (by omega) (by omega) (by omega) hk
      obtain ⟨w1, w2⟩ := wLay_r R.wi (L := L) (max 0 (D 134 1 - 1)).toNat (by omega) Lr
      have w5 : wLay (D 134) L (max 0 (D 134 1 - 1)).toNat 5 = D 134 5 := wLay_ne _ (fun k _ => by omega)
      have W2 := W1.lay (E := E2) (L := L) (by omega) (fun a a0 a1 a2 => p2 a (by omega) (by omega)) (fun k hk => by rw [hL]; exact p4 k hk)
      have E2w : E2 134 = D 134 := (p2 134 (by decide) (by decide)).trans ew
      have gE : ∀ a : Nat, 133 ≤ a → E2 a = D a := fun a ha => (p2 a (by omega) (by omega)).trans ((h2.1 a (by omega) (by omega)).trans (K0.1 a (by omega) (by omega)))
      have Hg : Wi n ((pD E2 133 0 0) 134) := by rw [pD_ne (by decide), E2w]; exact R.wi
      have ewg : (pD E2 133 0 0) 134 = D 134 := by rw [pD_ne (by decide), E2w]
      obtain ⟨F1, f1, q1, u1⟩ := r_laysWhites Hg Qw.rf
      obtain ⟨F2, f2, q2, u2, T2⟩ := r_laysBy Hg q1 u1 (x := x) (more := 0) a (by omega)
      rw [ewg] at f2 u2 T2
      have F2w : F2 134 = D 134 := by rw [q2.w, ewg]
      obtain ⟨G2, g1, g2⟩ := r_remembers (D := F2) (by rw [q2.2 7 (by omega), pD_nj (by decide), gE 133 (by omega)]; exact i3)
      have G2w : G2 134 = D 134 := by rw [g2.1 134 (by decide) (by decide), F2w]
      obtain ⟨F3, f3, q3, v3⟩ := r_firstWay (D := G2) (by rw [G2w]; exact R.wi) Qw.rf a (by rw [G2w]; exact hc) (by rw [G2w]; exact u2.keep (g2.1 142 (by decide) (by decide))) (by rw [G2w]; exact (T2 hc).keep (g2.1 143 (by decide) (by decide)))
      rw [G2w] at v3
      have F3w : F3 134 = D 134 := by rw [q3.w, G2w]
      have rl := r_lays_L (E := F3) (w := D 134) (L := L) (v := wOff (D 134) x 0) (by omega) (fun k hk => by rw [hL]; exact v3 k hk) (max 0 (D 134 1 - 1)).toNat fuelN 0 (by omega) (by omega)
      rw [show sA F3 134 (wLay (D 134) L 0) = F3 by rw [show wLay (D 134) L 0 = F3 134 from F3w.symm]; exact sA_self _ _] at rl
      have r := RefAct.of (E := E2) q2 g2 q3 (wLay (D 134) L (max 0 (D 134 1 - 1)).toNat)
      have fw : (sA F3 134 (wLay (D 134) L (max 0 (D 134 1 - 1)).toNat)) 134 = wLay (D 134) L (max 0 (D 134 1 - 1)).toNat := sA_eq _ _ _
      refine ⟨.inl (wOff (D 134) x 0), E2, wOff (D 134) x 0, _, ?_, ?_, ⟨r.2.2.1, rfl⟩, ?_⟩
      · rw [F_X11_lays, n_white_t hx a, bX_q, h0, bI_q, ck_p (by omega), if_neg (by omega), h1, bI_q, p1', bI_q]
      · rw [hz, F_X12_lays, pD_pD, noWhite_t hx a, bI_q, t_0, bI_q, ck_p (by decide), if_pos rfl, f1, bI_q, f2, bI_q, ck_p (by omega), if_neg b, F_X12_lays_j43, t_0, bI_q, ck_p (by decide), if_pos rfl, g1, bI_q, f3, bI_q]
        exact rl
      · refine act_do I (by omega) ⟨fun c c1 c2 c3 c4 => ?_, ?_, ?_, ?_⟩ r (by rw [fw]; exact W2) (by rw [fw]; exact w2) (by rw [fw]; exact w1.mono (by omega)) (Ca.same p3.1 p3.2.2.2.2 ?_ (by rw [fw, E2w]; exact w2) (by rw [fw, E2w]; exact w5))
        · rw [p2 c (by omega) (by omega), h2.1 c (by omega) c3, K0.1 c (by omega) c4]
        · rw [p2 31 (by decide) (by decide)]; exact h2.2.1
        · rw [p2 31 (by decide) (by decide)]; exact h2.2.2
        · exact h3.at (fun a _ _ => p2 a (by omega) (by omega))
        · exact r.1 25 (by decide) (by decide) (by decide) (by decide) (by decide)
  · exact (no_white R (by rw [F_X11_lays, n_white_f hx a, bX_r]) hz 0 rfl (fun G e z => by simp (disch := omega) only [F_X12_lays, z, noWhite_f hx a, bI_q, bX_q, bX_r, t_0, t_1, in_t, in_f, ck_p, if_pos, if_neg, if_true]; rfl)).step I
/-! seed, undo -/
theorem Hist.sub (h : Hist n D) (s : Int) (hs : s = 0 ∨ (s = 1 ∧ 1 ≤ D 133 7)) (h1 : F 31 1 = D 31 1 - s) (h2 : F 31 2 = (D 31 2 - s) % 12) (h7 : F 133 7 = D 133 7 - s) (h8 : F 138 = D 138) (hc : ∀ a : Nat, 33 ≤ a → a ≤ 92 → F a = D a) (S : SameS (D 134) (F 134)) : Hist n F := by
  obtain ⟨a, b, c, d, e, f⟩ := h
  unfold Hist
  rw [h1, h2, h7]
  refine ⟨by omega, by omega, by omega, by omega, by omega, fun j j0 j1 => ?_⟩
  have ea : actW F (D 133 7 - s) j = actW D (D 133 7) (j + s) := by
    funext i
    unfold actW
    by_cases y : 0 ≤ i ∧ i < 475
    · rw [if_pos y, if_pos y, h8]
      exact congrArg (D 138) (by omega)
    · rw [if_neg y, if_neg y]; exact S i (by unfold keptC; omega)
  have et : hT F j = hT D (j + s) := by unfold hT; rw [h2]; omega
  have g := f (j + s) (by omega) (by omega)
  have r := hT_r D (j + s)
  rw [ea, et]
  exact ⟨S.sy.tr g.1, g.2.1, g.2.2.at (fun a b0 b1 => hc a (by omega) (by omega))⟩
theorem a_seed (I : INV n D) {x : Int} (hx : nR x) : StepI n D (F_X11_seed x) (F_X12_seed x) := by
  have R := I.cr
  have hr := R.wi.ra
  have w := R.wi.seed x hx
  have W := (WorkR.cr R).seed (by omega) x
  have e6 : D 17 6 = D 134 14 := (WorkR.cr R).2.2.2.1
  obtain ⟨F, hF⟩ : ∃ F, F = pD (pD (pD D 17 6 x) 133 0 0) 134 14 x := ⟨_, rfl⟩
  have fw : F 134 = sI (D 134) 14 x := by rw [hF]; unfold pD; rw [sA_eq, sA_ne (by decide), sA_ne (by decide)]
  have fa : ∀ a : Nat, a ≠ 17 → a ≠ 133 → a ≠ 134 → F a = D a := fun a h1 h2 h3 => by rw [hF, pD_ne h3, pD_ne h2, pD_ne h1]
  have f3 : ∀ i : Int, i ≠ 0 → F 133 i = D 133 i := fun i hi => by rw [hF, pD_ne (by decide), pD_nj hi, pD_ne (by decide)]
  refine ⟨pD D 17 6 x, D 134 14, F, by rw [F_X11_seed, e6], ?_, INV.mono ⟨⟨?_, ?_, ?_, ?_, ?_⟩, ?_, ?_, ?_, ?_⟩ (show n ≤ n + 1 by omega)⟩
  · rw [F_X12_seed, hF, pD_ne (by decide), pD_ne (by decide)]
  · rw [fw]; exact w.1
  · rw [fw]; exact ShopR_same R.wi w.2 (R.2.1.keep (fun a _ _ => fa a (by omega) (by omega) (by omega)))
  · rw [fw]; exact LawR_same R.wi w.2 (R.2.2.1.keep (fun a _ _ => fa a (by omega) (by omega) (by omega)))
  · rw [fw]; exact W.at (fun a _ _ => by rw [hF, pD_ne (by omega), pD_ne (by omega)])
  · exact Ca.same R.wi R.2.2.2.2 (fa 25 (by decide) (by decide) (by decide)) (by rw [fw]; exact w.2) (by rw [fw]; exact sI_ne (by decide))
  · have hi := I.his
    exact I.2.1.sub 0 (Or.inl rfl) (by rw [fa 31 (by decide) (by decide) (by decide), Int.sub_zero]) (by rw [fa 31 (by decide) (by decide) (by decide)]; omega) (by rw [f3 7 (by decide), Int.sub_zero]) (fa 138 (by decide) (by decide) (by decide)) (fun a _ _ => fa a (by omega) (by omega) (by omega)) (by rw [fw]; exact w.2)
  · exact I.2.2.1.go (fun a _ _ => fa a (by omega) (by omega) (by omega)) (by rw [fa 0 (by decide) (by decide) (by decide)]) (fa 135 (by decide) (by decide) (by decide)) (f3 6 (by decide))
  · exact I.2.2.2.1.go (by rw [fa 1 (by decide) (by decide) (by decide)]) (fa 2 (by decide) (by decide) (by decide)) (f3 9 (by decide)) (fa 139 (by decide) (by decide) (by decide))
  · exact ⟨by rw [fa 0 (by decide) (by decide) (by decide), f3 14 (by decide)]; exact I.2.2.2.2.1, I.2.2.2.2.2.go (fa 93 (by decide) (by decide) (by decide)) (fa 103 (by decide) (by decide) (by decide))⟩
theorem r_undo_L {r : Int} (hr : 1 ≤ r ∧ r ≤ 12) (h7 : E 133 7 = r - 1) {W : Int → Int} : ∀ (m fuel : Nat) (k : Int) (g : Int → Int), m < fuel → 0 ≤ k → k + m = 475 → (∀ i, i < k ∨ 475 ≤ i → g i = W i) → (∀ i, 0 ≤ i → i < 475 → W i = E 138 (475 * (r - 1) + i)) →
    F_X12_undo_L26 fuel k (sA E 134 g) = some (1, sA E 134 W) := by
  intro m
  induction m with
  | zero =>
    intro fuel k g hf k0 hk h hW
    obtain ⟨j, rfl⟩ : ∃ j, fuel = j + 1 := ⟨fuel - 1, by omega⟩
    have : g = W := funext fun i => h i (by omega)
    rw [F_X12_undo_L26, ck_p (by omega), if_pos (by omega), this]
  | succ m ih =>
    intro fuel k g hf k0 hk hg hW
    obtain ⟨j, rfl⟩ : ∃ j, fuel = j + 1 := ⟨fuel - 1, by omega⟩
    rw [F_X12_undo_L26, ck_p (by omega), if_neg (by omega), sA_ne (b := 133) (by decide), h7, ck_p (by omega), ck_p (by omega), sA_ne (b := 138) (by decide), pD_sA]
    refine ih j (k + 1) _ (by omega) (by omega) (by omega) (fun i hi => ?_) hW
    by_cases y : i = k
    · rw [y, sI_eq]; exact (hW k k0 (by omega)).symm
    · rw [sI_ne y]; exact hg i (by omega)
theorem a_undo (I : INV n D) : StepI n D F_X11_undo F_X12_undo := by
  have R := I.cr
  have hr := R.wi.ra
  have hN := fN
  obtain ⟨i1, i2, i3, i4⟩ := I.his
  by_cases z : D 133 7 = 0
  · refine AnsI.step I ⟨D, 0, pD D 133 0 0, ?_, Ke.rf R, ?_, (Qw.qt Qw.rf).1⟩
    · rw [F_X11_undo, F_X1_recall, ck_p (by omega), if_pos (by omega), bI_q, ck_p (by decide), if_pos rfl]
    · rw [F_X12_undo, pD_nj (by decide), ck_p (by omega), if_pos z]
  · obtain ⟨S0, H0, W0⟩ := I.2.1.2.2.2.2.2 0 (by omega) (by omega)
    obtain ⟨D1, hD1⟩ : ∃ D1, D1 = pD (pD D 31 2 ((D 31 2 + 12 - 1) % 12)) 31 1 (D 31 1 - 1) := ⟨_, rfl⟩
    have a1 : ∀ a : Nat, a ≠ 31 → D1 a = D a := fun a h => by rw [hD1, pD_ne h, pD_ne h]
    have b1 : D1 31 1 = D 31 1 - 1 := by rw [hD1, pD_eq]
    have b2 : D1 31 2 = (D 31 2 + 12 - 1) % 12 := by rw [hD1, pD_nj (by decide), pD_eq]
    have et : 33 + 5 * ((D 31 2 + 12 - 1) % 12).toNat = hT D 0 := by unfold hT; omega
    have rt := hT_r D 0
    have S5 := (same_n S0).2.1
    have W1 := (W0.at (E := D1) (fun a _ _ => a1 a (by omega))).copy (t0 := 17) (by rw [S5]; omega) (by omega)
    obtain ⟨E, hE⟩ : ∃ E, E = fillD (cW 17 (hT D 0) D1) 25 403 (-1) := ⟨_, rfl⟩
    have e1 : ∀ a : Nat, ¬ (17 ≤ a ∧ a ≤ 21) → a ≠ 25 → E a = D1 a := fun a h1 h2 => by rw [hE, fillD_ne h2, cW_ne h1]
    obtain ⟨F, hF⟩ : ∃ F, F = sA (pD (pD E 133 0 0) 133 7 (D 133 7 - 1)) 134 (actW D (D 133 7) 0) := ⟨_, rfl⟩
    have E3 : E 133 = D 133 := (e1 133 (by omega) (by decide)).trans (a1 133 (by decide))
    have E4 : E 134 = D 134 := (e1 134 (by omega) (by decide)).trans (a1 134 (by decide))
    have E8 : E 138 = D 138 := (e1 138 (by omega) (by decide)).trans (a1 138 (by decide))
    have fw : F 134 = actW D (D 133 7) 0 := by rw [hF, sA_eq]
    have fa : ∀ a : Nat, a ≠ 133 → a ≠ 134 → F a = E a := fun a h1 h2 => by rw [hF, sA_ne h2, pD_ne h1, pD_ne h1]
    have fd : ∀ a : Nat, a ≠ 133 → a ≠ 134 → a ≠ 31 → ¬ (17 ≤ a ∧ a ≤ 21) → a ≠ 25 → F a = D a := fun a h1 h2 h3 h4 h5 => (fa a h1 h2).trans ((e1 a h4 h5).trans (a1 a h3))
    have f3 : ∀ i : Int, i ≠ 0 → i ≠ 7 → F 133 i = D 133 i := fun i h1 h2 => by rw [hF, sA_ne (by decide), pD_nj h2, pD_nj h1, E3]
    have f7 : F 133 7 = D 133 7 - 1 := by rw [hF, sA_ne (by decide), pD_eq]
    have f31 : F 31 = D1 31 := (fa 31 (by decide) (by decide)).trans (e1 31 (by omega) (by decide))
    refine ⟨E, 1, F, ?_, ?_, INV.mono ⟨⟨?_, ?_, ?_, ?_, ?_⟩, ?_, ?_, ?_, ?_⟩ (show n ≤ n + 1 by omega)⟩
    · have erec : F_X1_recall 17 D = some (1, cW 17 (hT D 0) D1) := by
        rw [F_X1_recall, ck_p (by omega), if_neg (by omega), ck_p (by omega), ck_p (by omega)]
        rw [show (pD D 31 2 ((D 31 2 + 12 - 1) % 12)) 31 1 = D 31 1 from pD_nj (by decide), ← hD1, b2, ck_p (by omega), et, c_copyW, bI_q]
      rw [F_X11_undo, erec, bI_q, ck_p (by decide), if_neg (by decide), F_X0_forgetWhites, bI_q, hE]
    · have l := r_undo_L (E := pD (pD E 133 0 0) 133 7 (D 133 7 - 1)) (r := D 133 7) (by omega) (pD_eq _ _ _ _) (W := actW D (D 133 7) 0) 475 fuelN 0 (D 134) (by omega) (by omega) (by omega) (fun i hi => by unfold actW; rw [if_neg (by omega)]) (fun i h0 h1 => by unfold actW; rw [if_pos ⟨h0, h1⟩, pD_ne (by decide), pD_ne (by decide), E8, Int.sub_zero])
      rw [show sA (pD (pD E 133 0 0) 133 7 (D 133 7 - 1)) 134 (D 134) = pD (pD E 133 0 0) 133 7 (D 133 7 - 1) by
        have := sA_self (pD (pD E 133 0 0) 133 7 (D 133 7 - 1)) 134
        rw [pD_ne (by decide), pD_ne (by decide), E4] at this
        exact this] at l
      rw [F_X12_undo, pD_nj (by decide), E3, ck_p (by omega), if_neg z, hF]
      exact l
    · rw [fw]; exact H0
    · rw [fw]; exact ShopR_same R.wi S0 (R.2.1.keep (fun a _ _ => fd a (by omega) (by omega) (by omega) (by omega) (by omega)))
    · rw [fw]; exact LawR_same R.wi S0 (R.2.2.1.keep (fun a _ _ => fd a (by omega) (by omega) (by omega) (by omega) (by omega)))
    · rw [fw]; exact W1.at (fun a _ _ => by rw [fa a (by omega) (by omega), hE, fillD_ne (by omega)])
    · exact Ca.no (fun j j0 j1 => by rw [fa 25 (by decide) (by decide), hE, fillD_in ⟨j0, j1⟩]) (by rw [fw, S5]; omega)
    · exact I.2.1.sub 1 (Or.inr ⟨rfl, by omega⟩) (by rw [f31, b1]) (by rw [f31, b2]; omega) f7 ((fa 138 (by decide) (by decide)).trans E8) (fun a _ _ => fd a (by omega) (by omega) (by omega) (by omega) (by omega)) (by rw [fw]; exact S0)
    · exact I.2.2.1.go (fun a _ _ => fd a (by omega) (by omega) (by omega) (by omega) (by omega)) (by rw [fd 0 (by decide) (by decide) (by decide) (by omega) (by decide)]) (fd 135 (by decide) (by decide) (by decide) (by omega) (by decide)) (f3 6 (by decide) (by decide))
    · exact I.2.2.2.1.go (by rw [fd 1 (by decide) (by decide) (by decide) (by omega) (by decide)]) (fd 2 (by decide) (by decide) (by decide) (by omega) (by decide)) (f3 9 (by decide) (by decide)) (fd 139 (by decide) (by decide) (by decide) (by omega) (by decide))
    · exact ⟨by rw [fd 0 (by decide) (by decide) (by decide) (by omega) (by decide), f3 14 (by decide) (by decide)]; exact I.2.2.2.2.1, I.2.2.2.2.2.go (fd 93 (by decide) (by decide) (by decide) (by omega) (by decide)) (fd 103 (by decide) (by decide) (by decide) (by omega) (by decide))⟩
end PX1
