/-! THE CLASS reckons the law -/
section PC1
variable {n : Int} {D : mD}
theorem and01 {a b : Int} (ha : a = 0 ∨ a = 1) (hb : b = 0 ∨ b = 1) : bAnd a b = b01 (a + b = 2) ∧ bOr a b = b01 (0 < a + b) := by
  rcases ha with rfl | rfl <;> rcases hb with rfl | rfl <;> exact ⟨by decide, by decide⟩
/-- what the class noted of the facts -/
def FactsR (D : mD) (f : Int → Int → Int) : Prop := (∀ s, 0 ≤ s → s ≤ 5 → ∀ k, D 23 s = f s k) ∧ ∀ k, 1 ≤ k → k ≤ 3 → D 23 (5 + k) = f 6 k
theorem cItem_r {s x : Int} {ts ts' : List Bool} (h : tyStep s x ts = some ts') : 0 ≤ cItem s x ∧ cItem s x ≤ 1014 ∧ (s ≤ 7 ↔ cItem s x < 1009) ∧ (s = 11 ↔ cItem s x = 1014) := by
  unfold cItem
  rcases tyStep_cases h with ⟨a, b, -⟩ | ⟨hs, a, b, -⟩ | ⟨hs, a, b, -⟩ | ⟨hs, -⟩ | ⟨hs, -⟩ | ⟨hs, -⟩ | ⟨hs, -⟩
  · rw [if_pos b]; omega
  · subst hs; simp; omega
  · subst hs; simp; omega
  · subst hs; simp
  · rcases hs with rfl | rfl <;> simp
  · subst hs; simp
  · rcases hs with rfl | rfl <;> simp
theorem c_push {f : Int → Int → Int} (hF : FactsR D f) (hf : FctOk f) {s x : Int} {ts ts' : List Bool} (h : tyStep s x ts = some ts') (h7 : s ≤ 7) :
    (1000 ≤ cItem s x → 0 ≤ cItem s x - 1000 ∧ cItem s x - 1000 < 9) ∧ (if 1000 ≤ cItem s x then D 23 (cItem s x - 1000) else cItem s x) = f s x := by
  rcases tyStep_cases h with ⟨a, b, -⟩ | ⟨hs, a, b, -⟩ | ⟨hs, a, b, -⟩ | ⟨hs, -⟩ | ⟨hs, -⟩ | ⟨hs, -⟩ | ⟨hs, -⟩
  · have e : cItem s x = 1000 + s := by unfold cItem; rw [if_pos b]
    rw [e, if_pos (by omega), show 1000 + s - 1000 = s by omega, hF.1 s a b x]
    exact ⟨fun _ => by omega, rfl⟩
  · have e : cItem s x = 1005 + x := by unfold cItem; rw [if_neg (by omega), if_pos hs]
    rw [e, if_pos (by omega), show 1005 + x - 1000 = 5 + x by omega, hF.2 x a b, hs]
    exact ⟨fun _ => by omega, rfl⟩
  · have e : cItem s x = x := by unfold cItem; rw [if_neg (by omega), if_neg (by omega), if_pos hs]
    rw [e, if_neg (by omega), hs, (hf 7 x).2.2 rfl]
    exact ⟨fun _ => by omega, rfl⟩
  · omega
  · omega
  · omega
  · omega
theorem c_join {E : mD} {s y z at_ : Int} (hs : s = 8 ∨ s = 9 ∨ s = 10 ∨ s = 12 ∨ s = 13) (h0 : 0 ≤ at_) (h1 : at_ + 1 < 40) (hz : E 24 at_ = z) (hy : E 24 (at_ + 1) = y) (hzr : nR z) (hyr : nR y)
    (h01 : s = 12 ∨ s = 13 → (z = 0 ∨ z = 1) ∧ (y = 0 ∨ y = 1)) : F_X0_joinOnStack (cItem s 0) at_ E = some (0, pD E 24 at_ (evJoin s z y)) := by
  unfold F_X0_joinOnStack cItem
  rw [ck_p (by omega), ck_p (by omega)]
  rcases hs with rfl | rfl | rfl | rfl | rfl
  · simp [ck, hz, hy, evJoin, nR]
  · by_cases q : y ≤ z
    · simp [ck, nR, hz, hy, evJoin, q, hzr.1, hzr.2, hyr.1, hyr.2, b01, show ¬ z < y by omega]
    · simp [ck, nR, hz, hy, evJoin, q, hzr.1, hzr.2, hyr.1, hyr.2, b01, show z < y by omega]
  · by_cases q : z ≤ y
    · simp [ck, nR, hz, hy, evJoin, q, hzr.1, hzr.2, hyr.1, hyr.2, b01, show ¬ y < z by omega]
    · simp [ck, nR, hz, hy, evJoin, q, hzr.1, hzr.2, hyr.1, hyr.2, b01, show y < z by omega]
  · have h := h01 (Or.inl rfl)
    simp [ck, nR, hz, hy, evJoin, (and01 h.1 h.2).1]
  · have h := h01 (Or.inr rfl)
    simp [ck, nR, hz, hy, evJoin, (and01 h.1 h.2).2]
theorem cItem_0 {s x : Int} (h : 8 ≤ s) : cItem s x = cItem s 0 := by
  unfold cItem
  simp [show ¬ s ≤ 5 by omega, show ¬ s = 6 by omega, show ¬ s = 7 by omega]
theorem c_holds {w : Int → Int} {f : Int → Int → Int} (hF : FactsR D f) (hf : FctOk f) {fr to : Int} (h0 : 0 ≤ fr) (h1 : fr < to) (h2 : to ≤ 400)
    (hc : ∀ i, fr ≤ i → i < to → D 16 i = cItem (w (524 + 2 * i)) (w (524 + 2 * i + 1))) :
    ∀ (m fuel : Nat) (i : Int) (st : List Int) (ts : List Bool) (g : Int → Int), m < fuel → fr ≤ i → i + m = to → tyRun w 524 i m ts = some [true] → TyOk st ts → st.sum ≤ 1000 * i → ts.length ≤ 20 → StR g st →
      ∃ k, F_X0_holds_L5 fr to fuel (st.length : Int) i (sA D 24 g) = some ((evRun w 524 f i m st).headD 0, sA D 24 k) := by
  intro m
  induction m with
  | zero =>
    intro fuel i st ts g hfu hi hm hty hok hB hts hst
    obtain ⟨k, rfl⟩ : ∃ k, fuel = k + 1 := ⟨fuel - 1, by omega⟩
    cases hty
    match st, hok with
    | [v], ⟨v0, v1, _⟩ =>
      have v1 := v1 rfl
      have hv : g 0 = v := hst.1
      refine ⟨g, ?_⟩
      rw [F_X0_holds_L5, ck_p (by omega), ck_p (by omega), if_pos (by omega), ck_p (by omega), sA_eq, ck_p (fun _ => by rw [hv]; omega), if_neg (by omega), hv]
      by_cases q : v = 0
      · rw [if_pos q, ck_p (Or.inl rfl), q]; rfl
      · rw [if_neg q, ck_p (Or.inr rfl), show v = 1 by omega]; rfl
  | succ m ih =>
    intro fuel i st ts g hfu hi hm hty hok hB hts hst
    obtain ⟨k, rfl⟩ : ∃ k, fuel = k + 1 := ⟨fuel - 1, by omega⟩
    obtain ⟨ts', t1, t2, t3⟩ := tyRun_succ hty
    obtain ⟨o1, o2⟩ := evStep_ok hf t1 hok hB (by omega)
    have hlen := hok.len
    have hnn := hok.nonneg
    obtain ⟨s, es⟩ : ∃ s, s = w (524 + 2 * i) := ⟨_, rfl⟩
    obtain ⟨x, ex⟩ : ∃ x, x = w (524 + 2 * i + 1) := ⟨_, rfl⟩
    have hci := hc i hi (by omega)
    have go : ∀ (q : Int) (v : Int), evStep f s x st = v :: (st.drop (st.length - q.toNat)) → 0 ≤ q → q ≤ st.length →
        ∃ r, F_X0_holds_L5 fr to k (q + 1) (i + 1) (pD (sA D 24 g) 24 q v) = some ((evRun w 524 f i (m + 1) st).headD 0, sA D 24 r) := by
      intro q v hq q0 q1
      have hl2 : (st.drop (st.length - q.toNat)).length = q.toNat := by rw [List.length_drop]; omega
      have hsub : ∀ (j : Nat), StR g (st.drop j) := by
        intro j
        induction j with
        | zero => exact hst
        | succ j ihj =>
          rw [← List.tail_drop]
          cases hd : st.drop j with
          | nil => trivial
          | cons a b => rw [hd] at ihj; exact ihj.2
      have hst2 : StR (sI g q v) (v :: st.drop (st.length - q.toNat)) := by
        refine ⟨?_, (hsub _).keep (fun j j0 j1 => by unfold sI; rw [if_neg (by rw [hl2] at j1; omega)])⟩
        rw [hl2, show ((q.toNat : Nat) : Int) = q by omega]
        unfold sI
        rw [if_pos rfl]
      have e1 : pD (sA D 24 g) 24 q v = sA D 24 (sI g q v) := by unfold pD; rw [sA_sA, sA_eq]
      rw [← es, ← ex] at t1 o1 o2
      obtain ⟨r, hr⟩ := ih k (i + 1) (v :: st.drop (st.length - q.toNat)) ts' (sI g q v) (by omega) (by omega) (by omega) t3 (by rw [← hq]; exact o1) (by rw [← hq]; omega) t2 hst2
      refine ⟨r, ?_⟩
      rw [List.length_cons, hl2, show ((q.toNat + 1 : Nat) : Int) = q + 1 by omega] at hr
      rw [e1, hr, evRun, ← es, ← ex, hq]
    rw [← es, ← ex] at t1 hci
    have hir := cItem_r t1
    have h16 : (sA D 24 g) 16 i = cItem s x := by rw [sA_ne (by decide)]; exact hci
    have htl : (st.length : Int) ≤ 20 := by omega
    by_cases h7 : s ≤ 7
    · have hp := c_push hF hf t1 h7
      obtain ⟨r, hr⟩ := go (st.length : Int) (f s x) (by unfold evStep; rw [if_pos h7]; congr 1; simp) (by omega) (by omega)
      refine ⟨r, ?_⟩
      rw [F_X0_holds_L5, ck_p (by omega), ck_p (by omega), if_neg (by omega), ck_p (by omega), h16, ck_p (by omega), if_neg (by omega), ck_p (by omega), if_neg (by omega), ck_p hp.1, ck_p (by omega), sA_ne (by decide), hp.2]
      exact hr
    · have pre : F_X0_holds_L5 fr to (k + 1) (st.length : Int) i (sA D 24 g) = (if cItem s x = 1014 then (ck (nR (st.length : Int)) <| if (st.length : Int) ≤ 0 then F_X0_holds_L5 fr to k (st.length : Int) (i + 1) (sA D 24 g) else ck (0 ≤ ((st.length : Int) - 1) ∧ ((st.length : Int) - 1) < 40) <| F_X0_holds_L5 fr to k (st.length : Int) (i + 1) (pD (sA D 24 g) 24 ((st.length : Int) - 1) (1 - ((sA D 24 g) 24 ((st.length : Int) - 1)))))
          else (ck (nR (st.length : Int)) <| if (st.length : Int) ≤ 1 then F_X0_holds_L5 fr to k (st.length : Int) (i + 1) (sA D 24 g) else bI (F_X0_joinOnStack (cItem s x) (((st.length : Int) - 1) - 1) (sA D 24 g)) fun _ D1 => F_X0_holds_L5 fr to k ((st.length : Int) - 1) (i + 1) D1)) := by
        rw [F_X0_holds_L5, ck_p (by omega), ck_p (by omega), if_neg (by omega), ck_p (by omega), h16, ck_p (by omega), if_pos (by omega)]
      by_cases h11 : s = 11
      · obtain ⟨y, rest, est⟩ : ∃ y rest, st = y :: rest := by
          rcases tyStep_cases t1 with ⟨a, b, -⟩ | ⟨hs, -⟩ | ⟨hs, -⟩ | ⟨hs, -⟩ | ⟨hs, -⟩ | ⟨hs, r, e, -⟩ | ⟨hs, -⟩
          · omega
          · omega
          · omega
          · omega
          · omega
          · rw [e] at hok; exact hok.one
          · omega
        subst est
        have hy : g (rest.length : Int) = y := hst.1
        obtain ⟨r, hr⟩ := go (rest.length : Int) (1 - y) (by
          unfold evStep
          rw [if_neg (by omega), if_pos h11]
          congr 1
          rw [show (y :: rest).length - (rest.length : Int).toNat = 1 by simp]
          rfl) (by omega) (by simp; omega)
        refine ⟨r, ?_⟩
        have hl : ((y :: rest).length : Int) = rest.length + 1 := by simp
        rw [pre, if_pos (hir.2.2.2.mp h11), hl, ck_p (by omega), if_neg (by omega), show (rest.length : Int) + 1 - 1 = rest.length by omega, ck_p (by omega), sA_eq, hy]
        exact hr
      · have two : ∃ y z rest, st = y :: z :: rest ∧ (s = 8 ∨ s = 9 ∨ s = 10 ∨ s = 12 ∨ s = 13) ∧ (s = 12 ∨ s = 13 → (z = 0 ∨ z = 1) ∧ (y = 0 ∨ y = 1)) := by
          rcases tyStep_cases t1 with ⟨a, b, -⟩ | ⟨hs, -⟩ | ⟨hs, -⟩ | ⟨hs, r, e, -⟩ | ⟨hs, r, e, -⟩ | ⟨hs, -⟩ | ⟨hs, r, e, -⟩
          · omega
          · omega
          · omega
          · rw [e] at hok
            obtain ⟨y, z, rest, est⟩ := hok.two
            exact ⟨y, z, rest, est, by omega, fun q => by omega⟩
          · rw [e] at hok
            obtain ⟨y, z, rest, est⟩ := hok.two
            exact ⟨y, z, rest, est, by omega, fun q => by omega⟩
          · omega
          · rw [e] at hok
            obtain ⟨y, z, rest, est⟩ := hok.two
            rw [est] at hok
            obtain ⟨g1, g2, g3, g4, -⟩ := hok
            have g2 := g2 rfl
            have g4 := g4 rfl
            exact ⟨y, z, rest, est, by omega, fun _ => by omega⟩
        obtain ⟨y, z, rest, est, hs, h01⟩ := two
        have hyz : 0 ≤ y ∧ 0 ≤ z ∧ y ≤ 1000 * i ∧ z ≤ 1000 * i := by
          have q1 := hnn.2 y (by rw [est]; simp)
          have q2 := hnn.2 z (by rw [est]; simp)
          omega
        subst est
        have hz : g (rest.length : Int) = z := hst.2.1
        have hy : g ((rest.length : Int) + 1) = y := hst.1
        obtain ⟨r, hr⟩ := go (rest.length : Int) (evJoin s z y) (by
          unfold evStep
          rw [if_neg (by omega), if_neg (by omega)]
          congr 1
          rw [show (y :: z :: rest).length - (rest.length : Int).toNat = 2 by simp; omega]
          rfl) (by omega) (by simp; omega)
        have hl : ((y :: z :: rest).length : Int) = rest.length + 1 + 1 := by simp
        have hj := c_join (E := sA D 24 g) (s := s) (y := y) (z := z) (at_ := (rest.length : Int)) hs (by omega) (by omega) (by rw [sA_eq]; exact hz) (by rw [sA_eq]; exact hy) (by omega) (by omega) h01
        refine ⟨r, ?_⟩
        rw [pre, if_neg (fun q => h11 (hir.2.2.2.mpr q)), hl, ck_p (by omega), if_neg (by omega), show (rest.length : Int) + 1 + 1 - 1 = rest.length + 1 by omega, show (rest.length : Int) + 1 - 1 = rest.length by omega, cItem_0 (by omega), bI_e hj]
        exact hr
end PC1
