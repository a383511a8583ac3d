/-! TRIALS and spans -/
section PT0
variable {n : Int} {D E : mD} {w : Int → Int}
def wTry (x : Int) : (Int → Int) → Nat → Int → Int
  | w, 0 => w
  | w, m + 1 => wTry x (wPaint w x) m
theorem wTry_r {x : Int} : ∀ (m : Nat) (n : Int) (w : Int → Int), Wi n w → 0 ≤ x ∧ x < w 7 → Wi (n + m) (wTry x w m) ∧ SameS w (wTry x w m) ∧ wTry x w m 5 = w 5 := by
  intro m
  induction m with
  | zero => intro n w H hx; exact ⟨by rw [show n + ((0 : Nat) : Int) = n by omega]; exact H, SameS.rf, rfl⟩
  | succ m ih =>
    intro n w H hx
    obtain ⟨a, b, c⟩ := wPaint_r H hx
    obtain ⟨d, e, f⟩ := ih (n + 1) (wPaint w x) a (by rw [(same_n b).2.2.2.2.2.2.1]; exact hx)
    rw [wTry]
    exact ⟨by rw [show n + ((m + 1 : Nat) : Int) = n + 1 + m by omega]; exact d, b.tr e, f.trans c⟩
theorem r_tries_L {x N : Int} (hN : 0 ≤ N ∧ N ≤ 40) : ∀ (m fuel : Nat) (k n : Int) (f : Int → Int), m < fuel → 0 ≤ k → k + m = N → Wi n f → n + m ≤ 100000 → 0 ≤ x ∧ x < f 7 →
    F_X12_tries_L2 x N fuel k (sA E 134 f) = some (0, sA E 134 (wTry x f m)) := by
  intro m
  induction m with
  | zero =>
    intro fuel k n f hf k0 hk H hn hx
    obtain ⟨j, rfl⟩ : ∃ j, fuel = j + 1 := ⟨fuel - 1, by omega⟩
    rw [F_X12_tries_L2, ck_p (by omega), ck_p (by omega), if_pos (by omega), wTry]
  | succ m ih =>
    intro fuel k n f hf k0 hk H hn hx
    obtain ⟨j, rfl⟩ : ∃ j, fuel = j + 1 := ⟨fuel - 1, by omega⟩
    obtain ⟨a, b, c⟩ := wPaint_r H hx
    have p := r_paints (D := sA E 134 f) (n := n) (by rw [sA_eq]; exact H) (by omega) (x := x) (by rw [sA_eq]; exact hx)
    rw [sA_eq, sA_sA] at p
    rw [F_X12_tries_L2, ck_p (by omega), ck_p (by omega), if_neg (by omega), p, bI_q, wTry]
    exact ih j (k + 1) (n + 1) (wPaint f x) (by omega) (by omega) (by omega) a (by omega) (by rw [(same_n b).2.2.2.2.2.2.1]; exact hx)
theorem c_tries_L {x N : Int} {w : Int → Int} (hN : 0 ≤ N ∧ N ≤ 40) (e10 : D 10 x = w (215 + 2 * x + 1)) (e5 : D 3 5 = w 1) (hx6 : 0 ≤ x ∧ x < 6) : ∀ (m fuel : Nat) (k n : Int) (f : Int → Int) (F : mD), m < fuel → 0 ≤ k → k + m = N → Wi n f → SameS w f → 0 ≤ x ∧ x < f 7 →
    WorkR 109 f F → (∀ a : Nat, ¬ (109 ≤ a ∧ a ≤ 113) → F a = D a) → ∃ F', F_X11_tryDays_L22 x N fuel k F = some (0, F') ∧ WorkR 109 (wTry x f m) F' ∧ ∀ a : Nat, ¬ (109 ≤ a ∧ a ≤ 113) → F' a = D a := by
  intro m
  induction m with
  | zero =>
    intro fuel k n f F hf k0 hk H S hx hR hF
    obtain ⟨j, rfl⟩ : ∃ j, fuel = j + 1 := ⟨fuel - 1, by omega⟩
    exact ⟨F, by rw [F_X11_tryDays_L22, ck_p (by omega), ck_p (by omega), if_pos (by omega)], hR, hF⟩
  | succ m ih =>
    intro fuel k n f F hf k0 hk H S hx hR hF
    obtain ⟨j, rfl⟩ : ∃ j, fuel = j + 1 := ⟨fuel - 1, by omega⟩
    obtain ⟨a, b, c⟩ := wPaint_r H hx
    obtain ⟨F1, p1, p2, p3⟩ := c_paintDay H hR hx
    have s7 := (same_n b).2.2.2.2.2.2.1
    obtain ⟨F', i1, i2, i3⟩ := ih j (k + 1) (n + 1) (wPaint f x) F1 (by omega) (by omega) (by omega) a (S.tr b) (by rw [s7]; exact hx) p2 (fun a ha => (p3 a (by omega)).trans (hF a ha))
    refine ⟨F', ?_, i2, i3⟩
    have hr := H.ra
    have q1 : F 10 x = f (215 + 2 * x + 1) := by rw [hF 10 (by omega), e10, S (215 + 2 * x + 1) (by unfold keptC; omega)]
    have q2 : F 3 5 = f 1 := by rw [hF 3 (by omega), e5, (same_n S).2.1]
    rw [F_X11_tryDays_L22, ck_p (by omega), ck_p (by omega), if_neg (by omega), ck_p (by omega), q1, q2, p1, bI_q, i1]
theorem c_tryDays (K : Ke n D E) {x N s : Int} (hN : 0 ≤ N ∧ N ≤ 40) (hx : 0 ≤ x ∧ x < D 134 7) (hs : nR s) : ∃ F, F_X11_tryDays x N s E = some (0, F) ∧ WorkR 109 (wTry x (sI (D 134) 14 s) N.toNat) F ∧ Ke n D F := by
  have H := K.wi
  have hr := H.ra
  have hc := K.ca
  have hfn := fN
  have e10 : E 10 x = D 134 (215 + 2 * x + 1) := by rw [(K.2.wt (j := x) hx.1 (by rw [K.w]; exact hx.2)).2, K.w]
  have hW : WorkR 17 (D 134) E := by have := K.2.2.2.2.1; rw [K.w] at this; exact this
  have a := (hW.copy (t0 := 109) (by omega) (by omega)).seed (by omega) s
  have b := H.seed s hs
  obtain ⟨F, h1, h2, h3⟩ := c_tries_L (D := E) (w := D 134) hN e10 hc.2.1 (by omega) N.toNat fuelN 0 n (sI (D 134) 14 s) (pD (cW 109 17 E) 109 6 s) (by omega) (by omega) (by omega) b.1 b.2 (by rw [sI_ne (by decide)]; exact hx) a (fun c hc => by rw [pD_ne (by omega), cW_ne (by omega)])
  have q : Qd E F := fun c h4 h5 => h3 c (by omega)
  exact ⟨F, by rw [F_X11_tryDays, c_copyW, bI_q, h1], h2, K.1.tr q, K.2.god25 q (h3 25 (by omega))⟩
theorem maxF_le {f : Int → Int} : ∀ (m : Nat) (a j : Int), a ≤ maxF f a j m := by
  intro m
  induction m with
  | zero => intro a j; exact Int.le_refl _
  | succ m ih => intro a j; rw [maxF]; have := ih (max a (f j)) (j + 1); omega
theorem minF_ge {f : Int → Int} : ∀ (m : Nat) (a j : Int), minF f a j m ≤ a := by
  intro m
  induction m with
  | zero => intro a j; exact Int.le_refl _
  | succ m ih => intro a j; rw [minF]; have := ih (min a (f j)) (j + 1); omega
theorem unF_0 (W : Int → Int) (G : Int) : 0 ≤ unF W G := by
  unfold unF
  by_cases q : G < 2
  · rw [if_pos q]; omega
  · rw [if_neg q, show G.toNat = (G - 1).toNat + 1 by omega, minF, maxF]
    have a := maxF_le (f := W) (G - 1).toNat (max 0 (W 0)) (0 + 1)
    have b := minF_ge (f := W) (G - 1).toNat (min 1000000 (W 0)) (0 + 1)
    omega
theorem wUn_same {w' : Int → Int} (H : Wi n w) (S : SameS w w') (h5 : w' 5 = w 5) : wUn w' = unF (fun g => wWhite w g (wL w' g 3)) (max 0 (w 1 - 1)) := by
  unfold wUn
  rw [(same_n S).2.1]
  exact unF_congr (fun g g0 g1 => wWhite_same H S h5 (by omega))
/-- unevenness of the work that was tried -/
theorem c_unTried (K : Ke n D E) {f : Int → Int} {n' : Int} (hf : Wi n' f) (S : SameS (D 134) f) (h5 : f 5 = D 134 5) (hW : WorkR 109 f E) : ∃ F, F_X0_unevenBy 110 0 E = some (wUn f, F) ∧ Ke n D F ∧ Qc E F := by
  have s1 := (same_n S).2.1
  obtain ⟨F, h1, K1⟩ := c_unevenBy (Kq.rf K.2) (a1 := 110) (dist := fun g => wL f g 3) (a := 0) (by decide) (by omega) (fun g g0 g1 => by
    rw [K.w] at g1
    have a := hf.lta (l := g) g0 (by omega)
    have b := hW.2.2.2.2.2.2.2.1 g g0 (by omega)
    exact ⟨b, by omega, by omega⟩)
  refine ⟨F, ?_, ⟨K.1.tr K1.1.qd, K1.2⟩, K1.1⟩
  rw [h1, K.w, wUn_same K.wi S h5]
  congr 2
  refine unF_congr (fun g g0 g1 => ?_)
  have a := hf.lta (l := g) g0 (by omega)
  show wWhite (D 134) g (seen 0 g (wL f g 3)) = _
  rw [seen_0 _ _ (by omega)]
theorem u_unevenNow_L (H : Wi n (D 134)) : ∀ (m fuel : Nat) (g lo hi : Int) (E : mD), m < fuel → 0 ≤ g → g + m = max 0 (D 134 1 - 1) → Qr D E → 0 ≤ lo → lo ≤ 1000000 → 0 ≤ hi → hi ≤ 1000000 →
    ∃ E', F_X12_unevenNow_L8 fuel hi lo g E = some (if 2 ≤ max 0 (D 134 1 - 1) then maxF (fun g => wWhite (D 134) g (wL (D 134) g 3)) hi g m - minF (fun g => wWhite (D 134) g (wL (D 134) g 3)) lo g m else 0, E') ∧ Qr D E' := by
  have hr := H.ra
  intro m
  induction m with
  | zero =>
    intro fuel g lo hi E hf hd hm K l0 l1 i0 i1
    obtain ⟨j, rfl⟩ : ∃ j, fuel = j + 1 := ⟨fuel - 1, by omega⟩
    exact ⟨E, by simp (disch := omega) only [F_X12_unevenNow_L8, s_gaps H K.qw, minF, maxF, bI_q, bX_q, bX_r, t_0, t_1, in_t, in_f, ck_p, if_pos, if_neg, if_true], K⟩
  | succ m ih =>
    intro fuel g lo hi E hf hg hm K l0 l1 i0 i1
    obtain ⟨j, rfl⟩ : ∃ j, fuel = j + 1 := ⟨fuel - 1, by omega⟩
    have hl := H.lta (l := g) (by omega) (by omega)
    have hw := wWhite_r H (g := g) (d := wL (D 134) g 3) (by omega) (by omega)
    obtain ⟨E1, h1, K1⟩ := r_white (D := E) (by rw [K.w]; exact H) (g := g) (by rw [K.w]; omega)
    rw [K.w] at h1
    have K1 := K.tr K1
    obtain ⟨E2, h2, K2⟩ := r_white (D := E1) (by rw [K1.w]; exact H) (g := g) (by rw [K1.w]; omega)
    rw [K1.w] at h2
    have K2 := K1.tr K2
    obtain ⟨E', h', K'⟩ := ih j (g + 1) (min lo (wWhite (D 134) g (wL (D 134) g 3))) (max hi (wWhite (D 134) g (wL (D 134) g 3))) E2 (by omega) (by omega) (by omega) K2 (by omega) (by omega) (by omega) (by omega)
    refine ⟨E', ?_, K'⟩
    simp (disch := omega) only [F_X12_unevenNow_L8, s_gaps H K.qw, h1, h2, h', minF, maxF, bI_q, bX_q, bX_r, t_0, t_1, in_t, in_f, ck_p, if_pos, if_neg, if_true]
theorem u_unevenNow (H : Wi n (D 134)) : ∃ E', F_X12_unevenNow D = some (wUn (D 134), E') ∧ Qr D E' := by
  have hr := H.ra
  have hN := fN
  obtain ⟨E', h', K'⟩ := u_unevenNow_L H (max 0 (D 134 1 - 1)).toNat fuelN 0 1000000 0 D (by omega) (by omega) (by omega) Qr.rf (by omega) (by omega) (by omega) (by omega)
  refine ⟨E', ?_, K'⟩
  rw [F_X12_unevenNow, h']
  unfold wUn unF
  by_cases z : max 0 (D 134 1 - 1) < 2
  · rw [if_neg (by omega), if_pos z]
  · rw [if_pos (by omega), if_neg z]
/-- behind a try all is brought back -/
theorem back_q {G F : mD} {f g : Int → Int} (hg : ∀ i, 0 ≤ i → i < 475 → g i = G 134 i) (S : SameS (G 134) f) (q : Qr (sA (sA G 137 g) 134 f) F) : F_X12_bringsBack F = some (0, sA F 134 (G 134)) ∧ Qw G (sA F 134 (G 134)) := by
  have w1 : F 134 = f := by rw [q.w, sA_eq]
  have w2 : F 137 = g := by rw [q.1 137 (by decide) (by decide), sA_ne (by decide), sA_eq]
  have b := r_bringsBack (E := F) (W := G 134) (fun i i0 i1 => by rw [w2]; exact hg i i0 i1) f S
  rw [show sA F 134 f = F by rw [← w1]; exact sA_self _ _] at b
  refine ⟨b, fun a h1 h2 h3 => ?_, fun i h1 => ?_⟩
  · by_cases y : a = 134
    · rw [y, sA_eq]
    · rw [sA_ne y, q.1 a h1 (by omega), sA_ne y, sA_ne h2]
  · rw [sA_ne (by decide), q.2 i h1, sA_ne (by decide), sA_ne (by decide)]
theorem sI_self (f : Int → Int) (i : Int) : sI f i (f i) = f := by
  funext j
  unfold sI
  by_cases q : j = i
  · rw [if_pos q, q]
  · rw [if_neg q]
theorem q_trial (R : CR n D) (hn : 0 ≤ n ∧ n ≤ 90000) {x N o : Int} (hx : nR x) (hN : nR N) (ho : nR o) : Ans n D [2, 0] (F_X11_trial x N o) (F_X12_trial x N o) := by
  have hr := R.wi.ra
  have hfn := fN
  have hz : ∀ E, F_X12_trial x N o E = F_X12_trial x N o (pD E 133 0 0) := (fun E => by simp only [F_X12_trial, pD_pD])
  by_cases a : 0 ≤ x ∧ x ≤ D 134 7 - 1
  · by_cases b : 0 ≤ N ∧ N ≤ 40
    · have hx7 : 0 ≤ x ∧ x < D 134 7 := by omega
      obtain ⟨F, f1, f2, f3⟩ := c_tryDays (Ke.rf R) b hx7 (s := D 134 14) (by omega)
      rw [sI_self] at f2
      obtain ⟨t1, t2, t3⟩ := wTry_r N.toNat n (D 134) R.wi hx7
      have e6 : D 17 6 = D 134 14 := R.work.2.2.2.1
      have rf : ∀ G : mD, G 134 = D 134 → pD G 133 0 0 = G → ∃ g : Int → Int, F_X12_trial x N o G = bI (some (0, sA (sA G 137 g) 134 (wTry x (D 134) N.toNat))) (fun _ D3 => ck (nR o) <| if o = 0 then bI (F_X12_unevenNow D3) fun v4 D4 => F_X12_trial_j71 v4 D4 else bI (F_X12_painted D3) fun v5 D5 => ck (nR v5) <| F_X12_trial_j71 (bC v5) D5) ∧ ∀ i, 0 ≤ i → i < 475 → g i = D 134 i := by
        intro G e z
        have H : Wi n (G 134) := by rw [e]; exact R.wi
        obtain ⟨g, g1, g2⟩ := r_keepsAll (D := G)
        have g3 : (sA G 137 g) 134 = D 134 := by rw [sA_ne (by decide), e]
        have tr := r_tries_L (E := sA G 137 g) (x := x) b N.toNat fuelN 0 n (D 134) (by omega) (by omega) (by omega) R.wi (by omega) hx7
        rw [show sA (sA G 137 g) 134 (D 134) = sA G 137 g by rw [← g3]; exact sA_self _ _] at tr
        refine ⟨g, ?_, fun i i0 i1 => by rw [g2 i i0 i1, e]⟩
        rw [← e] at a
        rw [F_X12_trial, z, noWriter_t H hx a, bI_q, t_0, bI_q, ck_p (by decide), if_pos rfl, in_t hN (by decide) (by decide) b, bI_q, ck_p (by decide), if_neg (by decide), F_X12_trial_j34, t_0, bI_q, ck_p (by decide), if_pos rfl, g1, bI_q, F_X12_tries, tr]
      by_cases c : o = 0
      · obtain ⟨F2, h1, h2, -⟩ := c_unTried f3 t1 t2 t3 f2
        refine Ans.ok (v := wUn (wTry x (D 134) N.toNat)) (by rw [F_X11_trial, n_writer_t R hx a, bX_q, n_days_t hN b, bX_q, e6, f1, bI_q, ck_p ho, if_pos c, h1, bI_q]) h2 hz ?_
        intro G e z
        obtain ⟨g, k1, k2⟩ := rf G e z
        obtain ⟨F3, u1, u2⟩ := u_unevenNow (D := sA (sA G 137 g) 134 (wTry x (D 134) N.toNat)) (n := n + N.toNat) (by rw [sA_eq]; exact t1)
        rw [sA_eq] at u1
        obtain ⟨b1, b2⟩ := back_q (fun i i0 i1 => by rw [k2 i i0 i1, e]) (by rw [e]; exact t2) u2
        exact ⟨_, by rw [k1, bI_q, ck_p ho, if_pos c, u1, bI_q, F_X12_trial_j71, b1, bI_q], b2⟩
      · have p1 : F 109 3 = wPainted (wTry x (D 134) N.toNat) := f2.1
        have pr := wPainted_r (w := wTry x (D 134) N.toNat) (by have := t1.ra; omega)
        refine Ans.ok (v := bC (wPainted (wTry x (D 134) N.toNat))) (by rw [F_X11_trial, n_writer_t R hx a, bX_q, n_days_t hN b, bX_q, e6, f1, bI_q, ck_p ho, if_neg c, p1, ck_p (by omega)]) f3 hz ?_
        intro G e z
        obtain ⟨g, k1, k2⟩ := rf G e z
        have u1 := e_painted (D := sA (sA G 137 g) 134 (wTry x (D 134) N.toNat)) (n := n + N.toNat) (by rw [sA_eq]; exact t1) (by omega)
        rw [sA_eq] at u1
        obtain ⟨b1, b2⟩ := back_q (G := G) (g := g) (f := wTry x (D 134) N.toNat) (fun i i0 i1 => by rw [k2 i i0 i1, e]) (by rw [e]; exact t2) Qr.rf
        exact ⟨_, by rw [k1, bI_q, ck_p ho, if_neg c, u1, bI_q, ck_p (by omega), F_X12_trial_j71, b1, bI_q], b2⟩
    · refine Ans.no 1 rfl (i := 0) (by rw [F_X11_trial, n_writer_t R hx a, bX_q, n_days_f hN b, bX_r]) (Ke.rf R) hz ?_
      intro G e z
      have H : Wi n (G 134) := by rw [e]; exact R.wi
      rw [← e] at a
      exact ⟨0, G, by rw [F_X12_trial, z, noWriter_t H hx a, bI_q, t_0, bI_q, ck_p (by decide), if_pos rfl, in_f hN (by decide) (by decide) b, bI_q, ck_p (by decide), if_pos rfl, F_X12_trial_j34, t_1, bI_q, ck_p (by decide), if_neg (by decide)]; rfl, Qw.rf⟩
  · refine Ans.no 0 rfl (i := 2) (by rw [F_X11_trial, n_writer_f R hx a, bX_r]) (Ke.rf R) hz ?_
    intro G e z
    have H : Wi n (G 134) := by rw [e]; exact R.wi
    rw [← e] at a
    exact ⟨0, G, by rw [F_X12_trial, z, noWriter_f H hx a, bI_q, t_1, bI_q, ck_p (by decide), if_neg (by decide)]; rfl, Qw.rf⟩
/-- over seeds: the most or the least -/
def spF (o : Int) (u : Int → Int) : Int → Int → Nat → Int
  | b, _, 0 => b
  | b, s, m + 1 => spF o u (if b = -1 then u s else if o = 0 then min b (u s) else max b (u s)) (s + 1) m
def wSp (w : Int → Int) (x N s : Int) : Int := wUn (wTry x (sI w 14 s) N.toNat)
theorem wSp_r (H : Wi n w) {x N s : Int} (hx : 0 ≤ x ∧ x < w 7) (hs : nR s) : 0 ≤ wSp w x N s ∧ wSp w x N s ≤ 1000000 := by
  have b := H.seed s hs
  obtain ⟨t1, t2, t3⟩ := wTry_r N.toNat n (sI w 14 s) b.1 (by rw [sI_ne (by decide)]; exact hx)
  exact ⟨unF_0 _ _, (wUn_r t1).2⟩
theorem c_span_L {x N o : Int} (hN : 0 ≤ N ∧ N ≤ 40) (ho : nR o) (hx : 0 ≤ x ∧ x < D 134 7) : ∀ (m fuel : Nat) (b s : Int) (E : mD), m < fuel → 0 ≤ s → s + m = 7 → -1 ≤ b → b ≤ 1000000 → Ke n D E →
    ∃ F, F_X11_span_L16 x N o fuel b s E = some (.inl (spF o (wSp (D 134) x N) b s m), F) ∧ Ke n D F := by
  intro m
  induction m with
  | zero =>
    intro fuel b s E hf s0 hs b0 b1 K
    obtain ⟨j, rfl⟩ : ∃ j, fuel = j + 1 := ⟨fuel - 1, by omega⟩
    exact ⟨E, by rw [F_X11_span_L16, ck_p (by omega), if_pos (by omega), spF], K⟩
  | succ m ih =>
    intro fuel b s E hf s0 hs b0 b1 K
    obtain ⟨j, rfl⟩ : ∃ j, fuel = j + 1 := ⟨fuel - 1, by omega⟩
    obtain ⟨F1, f1, f2, f3⟩ := c_tryDays K hN hx (s := s) (by omega)
    have sb := K.wi.seed s (by omega)
    obtain ⟨t1, t2, t3⟩ := wTry_r N.toNat n (sI (D 134) 14 s) sb.1 (by rw [sI_ne (by decide)]; exact hx)
    obtain ⟨F2, h1, h2, -⟩ := c_unTried f3 t1 (sb.2.tr t2) (by rw [t3]; exact sI_ne (by decide)) f2
    have r := wSp_r K.wi (N := N) (s := s) hx (by omega)
    change F_X0_unevenBy 110 0 F1 = some (wSp (D 134) x N s, F2) at h1
    obtain ⟨v, ev⟩ : ∃ v, v = (if b = -1 then wSp (D 134) x N s else if o = 0 then min b (wSp (D 134) x N s) else max b (wSp (D 134) x N s)) := ⟨_, rfl⟩
    have ev2 : (if b = -1 then wSp (D 134) x N s else if o = 0 then (if b ≤ wSp (D 134) x N s then b else wSp (D 134) x N s) else (if wSp (D 134) x N s ≤ b then b else wSp (D 134) x N s)) = v := by
      rw [ev]
      by_cases y : b = -1
      · rw [if_pos y, if_pos y]
      · rw [if_neg y, if_neg y]
        by_cases z : o = 0
        · rw [if_pos z, if_pos z]; split <;> omega
        · rw [if_neg z, if_neg z]; split <;> omega
    have vr : -1 ≤ v ∧ v ≤ 1000000 := by
      rw [ev]
      by_cases y : b = -1
      · rw [if_pos y]; omega
      · rw [if_neg y]
        by_cases z : o = 0
        · rw [if_pos z]; omega
        · rw [if_neg z]; omega
    obtain ⟨F, i1, i2⟩ := ih j v (s + 1) F2 (by omega) (by omega) (by omega) (by omega) (by omega) h2
    refine ⟨F, ?_, i2⟩
    rw [F_X11_span_L16, ck_p (by omega), if_neg (by omega), f1, bI_q, h1, bI_q, ck_p (by omega), ck_p (fun _ => ho), ck_p (fun _ _ => by omega), ck_p (fun _ _ => by omega), ev2, i1, spF, ← ev]
theorem r_span_L {G : mD} (H : Wi n (G 134)) (hn : 0 ≤ n ∧ n ≤ 90000) {x N o : Int} (hN : 0 ≤ N ∧ N ≤ 40) (ho : nR o) (hx : 0 ≤ x ∧ x < G 134 7) : ∀ (m fuel : Nat) (b s : Int) (E : mD), m < fuel → 0 ≤ s → s + m = 7 → -1 ≤ b → b ≤ 1000000 → Qw G E → (∀ i, 0 ≤ i → i < 475 → E 137 i = G 134 i) →
    ∃ F, F_X12_span_L53 x N o fuel b s E = some (spF o (wSp (G 134) x N) b s m, F) ∧ Qw G F := by
  have hfn := fN
  intro m
  induction m with
  | zero =>
    intro fuel b s E hf s0 hs b0 b1 q h137
    obtain ⟨j, rfl⟩ : ∃ j, fuel = j + 1 := ⟨fuel - 1, by omega⟩
    exact ⟨E, by rw [F_X12_span_L53, ck_p (by omega), if_pos (by omega), spF], q⟩
  | succ m ih =>
    intro fuel b s E hf s0 hs b0 b1 q h137
    obtain ⟨j, rfl⟩ : ∃ j, fuel = j + 1 := ⟨fuel - 1, by omega⟩
    have sb := H.seed s (by omega)
    have hx' : 0 ≤ x ∧ x < sI (G 134) 14 s 7 := by rw [sI_ne (by decide)]; exact hx
    obtain ⟨t1, t2, t3⟩ := wTry_r N.toNat n (sI (G 134) 14 s) sb.1 hx'
    have tr := r_tries_L (E := E) (x := x) hN N.toNat fuelN 0 n (sI (G 134) 14 s) (by omega) (by omega) (by omega) sb.1 (by omega) hx'
    have eS : pD E 134 14 s = sA E 134 (sI (G 134) 14 s) := by unfold pD; rw [q.w]
    have r := wSp_r H (N := N) (s := s) hx (by omega)
    obtain ⟨F3, u1, u2⟩ := u_unevenNow (D := sA E 134 (wTry x (sI (G 134) 14 s) N.toNat)) (n := n + N.toNat) (by rw [sA_eq]; exact t1)
    rw [sA_eq] at u1
    change F_X12_unevenNow _ = some (wSp (G 134) x N s, F3) at u1
    have w1 : F3 134 = wTry x (sI (G 134) 14 s) N.toNat := by rw [u2.w, sA_eq]
    have w2 : F3 137 = E 137 := by rw [u2.1 137 (by decide) (by decide), sA_ne (by decide)]
    have bb := r_bringsBack (E := F3) (W := G 134) (fun i i0 i1 => by rw [w2]; exact h137 i i0 i1) _ (sb.2.tr t2)
    rw [show sA F3 134 (wTry x (sI (G 134) 14 s) N.toNat) = F3 by rw [← w1]; exact sA_self _ _] at bb
    have q2 : Qw G (sA F3 134 (G 134)) := by
      refine ⟨fun a h1 h2 h3 => ?_, fun i h1 => ?_⟩
      · by_cases y : a = 134
        · rw [y, sA_eq]
        · rw [sA_ne y, u2.1 a h1 (by omega), sA_ne y]
          exact q.1 a h1 h2 h3
      · rw [sA_ne (by decide), u2.2 i h1, sA_ne (by decide)]
        exact q.2 i h1
    obtain ⟨v, ev⟩ : ∃ v, v = (if b = -1 then wSp (G 134) x N s else if o = 0 then min b (wSp (G 134) x N s) else max b (wSp (G 134) x N s)) := ⟨_, rfl⟩
    have ev2 : (if 0 ≤ b then (if o = 0 then min b (wSp (G 134) x N s) else max b (wSp (G 134) x N s)) else wSp (G 134) x N s) = v := by
      rw [ev]
      by_cases y : b = -1
      · rw [if_pos y, if_neg (by omega)]
      · rw [if_neg y, if_pos (by omega)]
    have vr : -1 ≤ v ∧ v ≤ 1000000 := by
      rw [ev]
      by_cases y : b = -1
      · rw [if_pos y]; omega
      · rw [if_neg y]
        by_cases z : o = 0
        · rw [if_pos z]; omega
        · rw [if_neg z]; omega
    obtain ⟨F, i1, i2⟩ := ih j v (s + 1) (sA F3 134 (G 134)) (by omega) (by omega) (by omega) (by omega) (by omega) q2 (fun i i0 i1 => by rw [sA_ne (by decide), w2]; exact h137 i i0 i1)
    refine ⟨F, ?_, i2⟩
    rw [F_X12_span_L53, ck_p (by omega), if_neg (by omega), eS, F_X12_tries, tr, bI_q, u1, bI_q, bb, bI_q, ck_p (by omega), ck_p (fun _ => ho), ck_p (fun _ _ => by omega), ck_p (fun _ _ => by omega), ev2, i1, spF, ← ev]
theorem q_span (R : CR n D) (hn : 0 ≤ n ∧ n ≤ 90000) {x N o : Int} (hx : nR x) (hN : nR N) (ho : nR o) : Ans n D [2, 0] (F_X11_span x N o) (F_X12_span x N o) := by
  have hr := R.wi.ra
  have hfn := fN
  have hz : ∀ E, F_X12_span x N o E = F_X12_span x N o (pD E 133 0 0) := (fun E => by simp only [F_X12_span, pD_pD])
  by_cases a : 0 ≤ x ∧ x ≤ D 134 7 - 1
  · by_cases b : 0 ≤ N ∧ N ≤ 40
    · obtain ⟨F, f1, f2⟩ := c_span_L (n := n) (D := D) (x := x) b ho (by omega) 6 fuelN (-1) 1 D (by omega) (by omega) (by omega) (by omega) (by omega) (Ke.rf R)
      refine Ans.ok (v := spF o (wSp (D 134) x N) (-1) 1 6) (by rw [F_X11_span, n_writer_t R hx a, bX_q, n_days_t hN b, bX_q, f1]) f2 hz ?_
      intro G e z
      have H : Wi n (G 134) := by rw [e]; exact R.wi
      rw [← e] at a ⊢
      obtain ⟨g, g1, g2⟩ := r_keepsAll (D := G)
      obtain ⟨F2, h1, h2⟩ := r_span_L H hn (x := x) b ho (by omega) 6 fuelN (-1) 1 (sA G 137 g) (by omega) (by omega) (by omega) (by omega) (by omega) (Qw.puts (Or.inl rfl)) (fun i i0 i1 => by rw [sA_eq]; exact g2 i i0 i1)
      exact ⟨F2, by rw [F_X12_span, z, noWriter_t H hx a, bI_q, t_0, bI_q, ck_p (by decide), if_pos rfl, in_t hN (by decide) (by decide) b, bI_q, ck_p (by decide), if_neg (by decide), F_X12_span_j34, t_0, bI_q, ck_p (by decide), if_pos rfl, g1, bI_q, h1], h2⟩
    · refine Ans.no 1 rfl (i := 0) (by rw [F_X11_span, n_writer_t R hx a, bX_q, n_days_f hN b, bX_r]) (Ke.rf R) hz ?_
      intro G e z
      have H : Wi n (G 134) := by rw [e]; exact R.wi
      rw [← e] at a
      exact ⟨0, G, by rw [F_X12_span, z, noWriter_t H hx a, bI_q, t_0, bI_q, ck_p (by decide), if_pos rfl, in_f hN (by decide) (by decide) b, bI_q, ck_p (by decide), if_pos rfl, F_X12_span_j34, t_1, bI_q, ck_p (by decide), if_neg (by decide)]; rfl, Qw.rf⟩
  · refine Ans.no 0 rfl (i := 2) (by rw [F_X11_span, n_writer_f R hx a, bX_r]) (Ke.rf R) hz ?_
    intro G e z
    have H : Wi n (G 134) := by rw [e]; exact R.wi
    rw [← e] at a
    exact ⟨0, G, by rw [F_X12_span, z, noWriter_f H hx a, bI_q, t_1, bI_q, ck_p (by decide), if_neg (by decide)]; rfl, Qw.rf⟩
end PT0
