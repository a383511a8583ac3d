/-! THE ORDER of painting -/
section PO0
variable {n : Int} {D E : mD} {w : Int → Int}
theorem sumF_one {f g : Int → Int} {l : Int} : ∀ (m : Nat) (j : Int), j ≤ l → l < j + m → f l = g l + 1 → (∀ k, k ≠ l → f k = g k) → sumF f j m = sumF g j m + 1 := by
  intro m
  induction m with
  | zero => intro j h1 h2; omega
  | succ m ih =>
    intro j h1 h2 h3 h4
    rw [sumF, sumF]
    by_cases z : j = l
    · subst z
      rw [h3, sumF_congr m (j + 1) (fun k k0 k1 => h4 k (by omega))]
      omega
    · rw [h4 j z, ih (j + 1) (by omega) (by omega) h3 h4]
      omega
def unP (w : Int → Int) (l : Int) : Int := if wL w l 2 < 0 then 1 else 0
def muO (w : Int → Int) : Int := 2 * sumF (unP w) 0 (w 1).toNat + (if 0 ≤ w 12 then 1 else 0)
theorem unS_r (w : Int → Int) : ∀ m : Nat, 0 ≤ sumF (unP w) 0 m ∧ sumF (unP w) 0 m ≤ m := by
  intro m
  have := sumF_bounds (f := unP w) (lo := 0) (hi := 1) m 0 (fun j _ _ => by unfold unP; split <;> omega)
  omega
theorem unS_0 : ∀ (m : Nat) (j : Int), sumF (unP w) j m ≤ 0 → ∀ l, j ≤ l → l < j + m → 0 ≤ wL w l 2 := by
  intro m
  induction m with
  | zero => intro j _ l a b; omega
  | succ m ih =>
    intro j h l a b
    rw [sumF] at h
    have h2 := sumF_bounds (f := unP w) (lo := 0) (hi := 1) m (j + 1) (fun j _ _ => by unfold unP; split <;> omega)
    have h3 : 0 ≤ unP w j := by unfold unP; split <;> omega
    by_cases z : l = j
    · subst z
      by_cases y : wL w l 2 < 0
      · have : unP w l = 1 := if_pos y
        omega
      · omega
    · exact ih (j + 1) (by omega) l (by omega) (by omega)
theorem bitN_full {p : Nat → Bool} : ∀ m : Nat, (∀ j, j < m → p j = true) → bitN p m + 1 = 2 ^ m := by
  intro m
  induction m with
  | zero => intro _; rfl
  | succ m ih =>
    intro h
    have := ih (fun j hj => h j (by omega))
    rw [bitN, h m (by omega), if_pos rfl, Nat.pow_succ]
    omega
def wAll (w : Int → Int) : Int := bShl 1 (w 1) - 1
theorem wAll_r (hw : 0 ≤ w 1 ∧ w 1 ≤ 14) : wAll w = ((2 ^ (w 1).toNat : Nat) : Int) - 1 ∧ 0 ≤ wAll w ∧ wAll w ≤ 16383 := by
  have h2 : 2 ^ (w 1).toNat ≤ 2 ^ 14 := Nat.pow_le_pow_right (by decide) (by omega)
  have h3 := Nat.two_pow_pos (w 1).toNat
  have e := bShl_n (a := 1) (k := (w 1).toNat) (by omega) (by omega)
  rw [show ((1 : Nat) : Int) = 1 from rfl, Nat.one_mul, show (((w 1).toNat : Nat) : Int) = w 1 by omega] at e
  unfold wAll
  rw [e]
  omega
theorem wPainted_r (hw : 0 ≤ w 1 ∧ w 1 ≤ 14) : 0 ≤ wPainted w ∧ wPainted w ≤ 16383 := by
  have := bitN_nR (fun l => decide (0 ≤ wL w (l : Int) 2)) (m := (w 1).toNat) (by omega)
  unfold wPainted
  omega
theorem wPainted_full (hw : 0 ≤ w 1 ∧ w 1 ≤ 14) (h : ∀ l, 0 ≤ l → l < w 1 → 0 ≤ wL w l 2) : wPainted w = wAll w := by
  rw [(wAll_r hw).1]
  have := bitN_full (p := fun l => decide (0 ≤ wL w (l : Int) 2)) (w 1).toNat (fun j hj => decide_eq_true (h j (by omega) (by omega)))
  unfold wPainted
  omega
def wOrd (w : Int → Int) : Int → Int := if wNext w < 0 then sI w 12 (wNext w) else sI (sI w (159 + 4 * wNext w + 2) 0) 12 (wNext w)
theorem wOrd_r (H : Wi n w) (hn : 0 ≤ n) : Wi n (wOrd w) ∧ SameS w (wOrd w) ∧ wOrd w 12 = wNext w ∧ wPainted (wOrd w) = (if wNext w = -1 then wPainted w else bOr (wPainted w) (bShl 1 (wNext w))) := by
  have hr := H.ra
  unfold wOrd
  rcases wNext_r H with h | ⟨h0, h1, h2, -⟩
  · have a := H.wets (v := -1) (by omega) (fun z => by omega)
    rw [if_pos (by omega), if_pos h, h]
    exact ⟨a.1, a.2, sI_eq _ _ _, wPainted_ne (by decide) (fun l _ _ => by omega)⟩
  · rw [if_neg (by omega), if_neg (by omega)]
    generalize wNext w = l at *
    have a := H.pnt ⟨h0, h1⟩ (v := 0) (by omega)
    have e1 : (sI w (159 + 4 * l + 2) 0) 1 = w 1 := sI_ne (by omega)
    have b := a.1.wets (v := l) (by omega) (fun _ => ⟨by rw [e1]; exact h1, by rw [show wL (sI w (159 + 4 * l + 2) 0) l 2 = 0 from sI_eq _ _ _]; omega⟩)
    refine ⟨b.1, a.2.tr b.2, sI_eq _ _ _, ?_⟩
    rw [wPainted_ne (by decide) (fun l _ _ => by omega), wPainted_in (d := 0) (by omega) ⟨h0, h1⟩ (by omega)]
theorem wOrd_mu (H : Wi n w) (hp : wPainted w ≠ wAll w) : muO (wOrd w) < muO w := by
  have hr := H.ra
  have hu := unS_r w (w 1).toNat
  unfold muO wOrd
  rcases wNext_r H with h | ⟨h0, h1, h2, -⟩
  · have hno := nxF_no w (w 1).toNat 0 (by omega) h
    rw [if_pos (by omega), h, sI_ne (i := 12) (j := 1) (by decide), sI_eq]
    have e : sumF (unP (sI w 12 (-1))) 0 (w 1).toNat = sumF (unP w) 0 (w 1).toNat := sumF_congr _ _ (fun k k0 k1 => by
      unfold unP
      rw [show wL (sI w 12 (-1)) k 2 = wL w k 2 from sI_ne (by omega)])
    rw [e]
    have : 0 ≤ w 12 := by
      refine Classical.byContradiction fun y => hp (wPainted_full (by omega) (fun l l0 l1 => ?_))
      have hm := hno l (by omega) (by omega)
      unfold mayP at hm
      have hm := of_decide_eq_false hm
      omega
    rw [if_neg (by decide), if_pos this]
    omega
  · rw [if_neg (by omega)]
    generalize wNext w = l at *
    rw [sI_eq, sI_ne (i := 12) (j := 1) (by decide), sI_ne (i := 159 + 4 * l + 2) (j := 1) (by omega), if_pos h0]
    have e := sumF_one (f := unP w) (g := unP (sI (sI w (159 + 4 * l + 2) 0) 12 l)) (l := l) (w 1).toNat 0 h0 (by omega) (by
      unfold unP
      rw [if_pos h2, show wL (sI (sI w (159 + 4 * l + 2) 0) 12 l) l 2 = 0 from by show sI (sI w _ 0) 12 l (159 + 4 * l + 2) = 0; rw [sI_ne (by omega), sI_eq]]
      rfl) (fun k hk => by
      unfold unP
      by_cases y : 159 + 4 * k + 2 = 12
      · omega
      · rw [show wL (sI (sI w (159 + 4 * l + 2) 0) 12 l) k 2 = wL w k 2 from by show sI (sI w _ 0) 12 l (159 + 4 * k + 2) = _; rw [sI_ne y, sI_ne (by omega)]; rfl])
    have hb : (if 0 ≤ w 12 then (1 : Int) else 0) ≥ 0 := by split <;> omega
    omega
def ordF (k : Int) : Nat → (Int → Int) → Int → Int → Int × Int
  | 0, _, d, due => (d, due)
  | m + 1, w, d, due => if wPainted w = wAll w then (d, due) else ordF k m (wOrd w) (d + 1) (if d = k then wNext w else due)
theorem mu_0 (H : Wi n w) (h : muO w ≤ 0) : wPainted w = wAll w := by
  have hr := H.ra
  have hu := unS_r w (w 1).toNat
  have hb : (if 0 ≤ w 12 then (1 : Int) else 0) ≥ 0 := by split <;> omega
  unfold muO at h
  exact wPainted_full (by omega) (fun l l0 l1 => unS_0 (w := w) (w 1).toNat 0 (by omega) l l0 (by omega))
theorem c_order_L {k : Int} (hk : nR k) (hn : 0 ≤ n) : ∀ (m fuel : Nat) (w : Int → Int) (d due : Int), m < fuel → Wi n w → muO w ≤ m → 0 ≤ d → d + m ≤ 29 →
    F_X10_orderOf_L24 17 k (w 1) (wAll w) fuel (wPainted w) (w 12) due d D = some (if k = -1 then (ordF k m w d due).1 else (ordF k m w d due).2, D) := by
  intro m
  induction m with
  | zero =>
    intro fuel w d due hf H hm d0 d1
    obtain ⟨j, rfl⟩ : ∃ j, fuel = j + 1 := ⟨fuel - 1, by omega⟩
    have hr := H.ra
    have a := wAll_r (w := w) (by omega)
    have b := wPainted_r (w := w) (by omega)
    rw [F_X10_orderOf_L24, ck_p (by omega), ck_p (by omega), if_pos (mu_0 H hm), F_X10_orderOf_j78, ck_p hk, ordF]
  | succ m ih =>
    intro fuel w d due hf H hm d0 d1
    obtain ⟨j, rfl⟩ : ∃ j, fuel = j + 1 := ⟨fuel - 1, by omega⟩
    have hr := H.ra
    have a := wAll_r (w := w) (by omega)
    have b := wPainted_r (w := w) (by omega)
    rw [F_X10_orderOf_L24, ck_p (by omega), ck_p (by omega), ordF]
    by_cases z : wPainted w = wAll w
    · rw [if_pos z, if_pos z, F_X10_orderOf_j78, ck_p hk]
    · have o := wOrd_r H hn
      have mu := wOrd_mu H z
      have nx := wNext_r H
      have i := ih j (wOrd w) (d + 1) (if d = k then wNext w else due) (by omega) o.1 (by omega) (by omega) (by omega)
      have e1 : (wOrd w) 1 = w 1 := (same_n o.2.1).2.1
      have ea : wAll (wOrd w) = wAll w := by unfold wAll; rw [e1]
      rw [e1, ea, o.2.2.1, o.2.2.2] at i
      rw [if_neg z, if_neg z, ck_p (by omega), if_neg (by omega), c_nextLetter H, bI_q, ck_p (by omega), F_X10_orderOf_j62, ck_p (by omega), ck_p hk, i]
theorem r_order_L {k : Int} (hk : nR k) (hn : 0 ≤ n ∧ n ≤ 100000) {W : Int → Int} (h137 : ∀ i, 0 ≤ i → i < 475 → E 137 i = W i)
    (hbb : ∀ f : Int → Int, SameS W f → F_X12_bringsBack (sA E 134 f) = some (0, sA E 134 W)) : ∀ (m fuel : Nat) (w : Int → Int) (d due : Int), m < fuel → Wi n w → SameS W w → muO w ≤ m → 0 ≤ d → d + m ≤ 29 →
    F_X12_order_L13 k fuel d due (sA E 134 w) = some (if k = -1 then (ordF k m w d due).1 else (ordF k m w d due).2, sA E 134 W) := by
  intro m
  induction m with
  | zero =>
    intro fuel w d due hf H S hm d0 d1
    obtain ⟨j, rfl⟩ : ∃ j, fuel = j + 1 := ⟨fuel - 1, by omega⟩
    have hr := H.ra
    have a := wAll_r (w := w) (by omega)
    have b := wPainted_r (w := w) (by omega)
    have p := e_painted (D := sA E 134 w) (n := n) (by rw [sA_eq]; exact H) hn.2
    rw [sA_eq] at p
    have q : F_X12_allLetters (sA E 134 w) = some (wAll w, sA E 134 w) := by rw [F_X12_allLetters, F_X12_letters, bI_q, sA_eq]; rfl
    rw [F_X12_order_L13, p, bI_q, q, bI_q, ck_p (by omega), ck_p (by omega), if_pos (mu_0 H hm), hbb w S, bI_q, ck_p hk, ordF]
  | succ m ih =>
    intro fuel w d due hf H S hm d0 d1
    obtain ⟨j, rfl⟩ : ∃ j, fuel = j + 1 := ⟨fuel - 1, by omega⟩
    have hr := H.ra
    have a := wAll_r (w := w) (by omega)
    have b := wPainted_r (w := w) (by omega)
    have p := e_painted (D := sA E 134 w) (n := n) (by rw [sA_eq]; exact H) hn.2
    rw [sA_eq] at p
    have q : F_X12_allLetters (sA E 134 w) = some (wAll w, sA E 134 w) := by rw [F_X12_allLetters, F_X12_letters, bI_q, sA_eq]; rfl
    rw [F_X12_order_L13, p, bI_q, q, bI_q, ck_p (by omega), ck_p (by omega), ordF]
    by_cases z : wPainted w = wAll w
    · rw [if_pos z, if_pos z, hbb w S, bI_q, ck_p hk]
    · have o := wOrd_r H hn.1
      have mu := wOrd_mu H z
      have nx := wNext_r H
      have nl := e_nextLetter (D := sA E 134 w) (n := n) (by rw [sA_eq]; exact H) hn.2
      rw [sA_eq] at nl
      have i := ih j (wOrd w) (d + 1) (if d = k then wNext w else due) (by omega) o.1 (S.tr o.2.1) (by omega) (by omega) (by omega)
      rw [if_neg z, if_neg z, nl, bI_q, ck_p (by omega), ← i]
      unfold wOrd
      by_cases y : wNext w < 0
      · rw [if_pos y, if_pos y, F_X12_order_j43, ck_p (by omega), ck_p hk, pD_sA]
      · rw [if_neg y, if_neg y, F_X12_sets, ck_p (by omega), bI_q, F_X12_order_j43, ck_p (by omega), ck_p hk, pD_sA, pD_sA]
theorem r_keepsAll : ∃ g : Int → Int, F_X12_keepsAll D = some (0, sA D 137 g) ∧ ∀ i, 0 ≤ i → i < 475 → g i = D 134 i := by
  have hN := fN
  have L : ∀ (m fuel : Nat) (k : Int) (f : Int → Int), m < fuel → 0 ≤ k → k + m = 475 → (∀ i, 0 ≤ i → i < k → f i = D 134 i) → ∃ g : Int → Int, F_X12_keepsAll_L2 fuel k (sA D 137 f) = some (0, sA D 137 g) ∧ ∀ i, 0 ≤ i → i < 475 → g i = D 134 i := by
    intro m
    induction m with
    | zero =>
      intro fuel k f hf k0 hk h
      obtain ⟨j, rfl⟩ : ∃ j, fuel = j + 1 := ⟨fuel - 1, by omega⟩
      exact ⟨f, by rw [F_X12_keepsAll_L2, ck_p (by omega), if_pos (by omega)], fun i i0 i1 => h i i0 (by omega)⟩
    | succ m ih =>
      intro fuel k f hf k0 hk h
      obtain ⟨j, rfl⟩ : ∃ j, fuel = j + 1 := ⟨fuel - 1, by omega⟩
      obtain ⟨g, g1, g2⟩ := ih j (k + 1) (sI f k (D 134 k)) (by omega) (by omega) (by omega) (fun i i0 i1 => by
        by_cases y : i = k
        · rw [y, sI_eq]
        · rw [sI_ne y]; exact h i i0 (by omega))
      refine ⟨g, ?_, g2⟩
      rw [F_X12_keepsAll_L2, ck_p (by omega), if_neg (by omega), ck_p (by omega), ck_p (by omega), sA_ne (by decide), ← g1]
      unfold pD
      rw [sA_eq, sA_sA]
  obtain ⟨g, g1, g2⟩ := L 475 fuelN 0 (D 137) (by omega) (by omega) (by omega) (fun i i0 i1 => by omega)
  have e0 : sA D 137 (D 137) = D := by
    funext a
    unfold sA
    by_cases q : a = 137
    · rw [if_pos q, q]
    · rw [if_neg q]
  rw [e0] at g1
  exact ⟨g, g1, g2⟩
theorem r_bringsBack {W : Int → Int} (h : ∀ i, 0 ≤ i → i < 475 → E 137 i = W i) : ∀ f : Int → Int, SameS W f → F_X12_bringsBack (sA E 134 f) = some (0, sA E 134 W) := by
  intro f S
  have hN := fN
  have L : ∀ (m fuel : Nat) (k : Int) (g : Int → Int), m < fuel → 0 ≤ k → k + m = 475 → (∀ i, (i < k ∨ 475 ≤ i) → g i = W i) → F_X12_bringsBack_L2 fuel k (sA E 134 g) = some (0, sA E 134 W) := by
    intro m
    induction m with
    | zero =>
      intro fuel k g hf k0 hk h
      obtain ⟨j, rfl⟩ : ∃ j, fuel = j + 1 := ⟨fuel - 1, by omega⟩
      have : g = W := funext fun i => h i (by omega)
      rw [F_X12_bringsBack_L2, ck_p (by omega), if_pos (by omega), this]
    | succ m ih =>
      intro fuel k g hf k0 hk hg
      obtain ⟨j, rfl⟩ : ∃ j, fuel = j + 1 := ⟨fuel - 1, by omega⟩
      rw [F_X12_bringsBack_L2, ck_p (by omega), if_neg (by omega), ck_p (by omega), ck_p (by omega), sA_ne (by decide), pD_sA]
      refine ih j (k + 1) _ (by omega) (by omega) (by omega) (fun i hi => ?_)
      by_cases y : i = k
      · rw [y, sI_eq]; exact h k k0 (by omega)
      · rw [sI_ne y]; exact hg i (by omega)
  exact L 475 fuelN 0 f (by omega) (by omega) (by omega) (fun i hi => S i (by unfold keptC; omega))
theorem sA_self (D : mD) (a : Nat) : sA D a (D a) = D := by
  funext b
  unfold sA
  by_cases q : b = a
  · rw [if_pos q, q]
  · rw [if_neg q]
theorem q_order (R : CR n D) (hn : 0 ≤ n ∧ n ≤ 100000) {k : Int} (hk : nR k) : AnsI n D (F_X11_order k) (F_X12_order k) := by
  have hr := R.wi.ra
  have hc := R.ca
  have hN := fN
  have hz : ∀ E, F_X12_order k E = F_X12_order k (pD E 133 0 0) := (fun E => by simp only [F_X12_order, pD_pD])
  have hu := unS_r (D 134) (D 134 1).toNat
  have hmu : muO (D 134) ≤ 29 := by
    unfold muO
    have hb : (if 0 ≤ D 134 12 then (1 : Int) else 0) ≤ 1 := by split <;> omega
    omega
  have h1 := c_order_L (D := D) hk hn.1 29 fuelN (D 134) 0 (-1) (by omega) R.wi hmu (by omega) (by omega)
  refine AnsI.ok (by rw [F_X11_order, F_X10_orderOf, hc.2.1, R.work.1, R.work.2.1]; unfold wAll at h1; rw [h1, bI_q]) (Ke.rf R) hz ?_
  intro G e z
  have H : Wi n (G 134) := by rw [e]; exact R.wi
  rw [← e] at hmu ⊢
  obtain ⟨g, g1, g2⟩ := r_keepsAll (D := G)
  have g3 : (sA G 137 g) 134 = G 134 := sA_ne (by decide)
  have hb := r_bringsBack (E := sA G 137 g) (W := G 134) (fun i i0 i1 => by rw [sA_eq]; exact g2 i i0 i1)
  have h2 := r_order_L (E := sA G 137 g) (W := G 134) hk hn (fun i i0 i1 => by rw [sA_eq]; exact g2 i i0 i1) hb 29 fuelN (G 134) 0 (-1) (by omega) H SameS.rf hmu (by omega) (by omega)
  rw [show sA (sA G 137 g) 134 (G 134) = sA G 137 g by rw [← g3]; exact sA_self _ _] at h2
  exact ⟨sA G 137 g, by rw [F_X12_order, z, g1, bI_q, h2], Qw.puts (Or.inl rfl)⟩
end PO0
