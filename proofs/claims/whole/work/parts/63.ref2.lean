/-! THE REFERENCE reckons the law, spaces, whites -/
section PR1
variable {n : Int} {D : mD}
/-- what a white's reckoning may change in the reference -/
def Qr (D D' : mD) : Prop := (∀ a : Nat, a ≠ 133 → a ≠ 141 → D' a = D a) ∧ ∀ i : Int, ¬ (18 ≤ i ∧ i ≤ 21) → D' 133 i = D 133 i
theorem Qr.rf : Qr D D := ⟨fun _ _ _ => rfl, fun _ _ => rfl⟩
theorem Qr.tr {D1 D2 D3 : mD} (h : Qr D1 D2) (k : Qr D2 D3) : Qr D1 D3 :=
  ⟨fun a h1 h2 => (k.1 a h1 h2).trans (h.1 a h1 h2), fun i h1 => (k.2 i h1).trans (h.2 i h1)⟩
theorem Qr.w {D' : mD} (h : Qr D D') : D' 134 = D 134 := h.1 134 (by decide) (by decide)
theorem Qr.put {i v : Int} (h : 18 ≤ i ∧ i ≤ 21) : Qr D (pD D 133 i v) :=
  ⟨fun b h1 h2 => pD_ne h1, fun j h1 => pD_nj (by omega)⟩
theorem Qr.puts {f : Int → Int} : Qr D (sA D 141 f) :=
  ⟨fun b h1 h2 => sA_ne h2, fun j h1 => by rw [sA_ne (by decide)]⟩
/-- what a question to the reference may change -/
def Qw (D D' : mD) : Prop := (∀ a : Nat, a ≠ 133 → a ≠ 137 → ¬ (141 ≤ a ∧ a ≤ 147) → D' a = D a) ∧ ∀ i : Int, ¬ (18 ≤ i ∧ i ≤ 21) → D' 133 i = D 133 i
theorem Qw.rf : Qw D D := ⟨fun _ _ _ _ => rfl, fun _ _ => rfl⟩
theorem Qw.tr {D1 D2 D3 : mD} (h : Qw D1 D2) (k : Qw D2 D3) : Qw D1 D3 :=
  ⟨fun a h1 h2 h3 => (k.1 a h1 h2 h3).trans (h.1 a h1 h2 h3), fun i h1 => (k.2 i h1).trans (h.2 i h1)⟩
theorem Qw.w {D' : mD} (h : Qw D D') : D' 134 = D 134 := h.1 134 (by decide) (by decide) (by decide)
theorem Qr.qw {D' : mD} (h : Qr D D') : Qw D D' := ⟨fun a h1 h2 h3 => h.1 a h1 (by omega), h.2⟩
theorem Qw.put {a : Nat} {i v : Int} (h : a = 137 ∨ (141 ≤ a ∧ a ≤ 147)) : Qw D (pD D a i v) :=
  ⟨fun b h1 h2 h3 => pD_ne (by omega), fun j h1 => by rw [pD_ne (by omega)]⟩
theorem Qw.puts {a : Nat} {f : Int → Int} (h : a = 137 ∨ (141 ≤ a ∧ a ≤ 147)) : Qw D (sA D a f) :=
  ⟨fun b h1 h2 h3 => sA_ne (by omega), fun j h1 => by rw [sA_ne (by omega)]⟩
/-- a step's facts lie in their ranges -/
theorem fctW_ok {w : Int → Int} (H : Wi n w) {g d L Y r : Int} (hg : g = -1 ∨ (0 ≤ g ∧ g + 1 < w 1)) (hd : 0 ≤ d ∧ d ≤ 30) (hL : 0 ≤ L ∧ L ≤ 60) (hY : 0 ≤ Y ∧ Y ≤ 60) (hr : 0 ≤ r ∧ r < 5) : FctOk (fctW w g d L Y r) := by
  intro s n'
  refine ⟨fun hs => ?_, fun hs => ?_, fun hs => ?_⟩
  · have e2 : 0 ≤ g → 0 ≤ wI w g (7 + r) ∧ wI w g (7 + r) ≤ 9 := by
      intro h0
      have hl := H.lt (l := g) h0 (by omega)
      unfold LtOk at hl
      have hs := (H.sg (s := wL w g 0) (by omega) (by omega)).2.2.2.2 r hr.1 hr.2
      unfold wI
      omega
    have e3 : 0 ≤ g → 0 ≤ wI w (g + 1) (2 + r) ∧ wI w (g + 1) (2 + r) ≤ 9 := by
      intro h0
      have hl := H.lt (l := g + 1) (by omega) (by omega)
      unfold LtOk at hl
      have hs := (H.sg (s := wL w (g + 1) 0) (by omega) (by omega)).2.2.2.2 r hr.1 hr.2
      unfold wI
      omega
    unfold fctW
    by_cases h0 : s = 0
    · rw [if_pos h0]; by_cases q : 0 ≤ g
      · rw [if_pos q]; omega
      · rw [if_neg q]; omega
    rw [if_neg h0]
    by_cases h1 : s = 1
    · rw [if_pos h1]; by_cases q : 0 ≤ g
      · rw [if_pos q]; omega
      · rw [if_neg q]; omega
    rw [if_neg h1]
    by_cases h2 : s = 2
    · rw [if_pos h2]; by_cases q : 0 ≤ g
      · rw [if_pos q]; have := e2 q; omega
      · rw [if_neg q]; omega
    rw [if_neg h2]
    by_cases h3 : s = 3
    · rw [if_pos h3]; by_cases q : 0 ≤ g
      · rw [if_pos q]; have := e3 q; omega
      · rw [if_neg q]; omega
    rw [if_neg h3]
    by_cases h4 : s = 4
    · rw [if_pos h4]; omega
    rw [if_neg h4, if_pos (by omega)]
    omega
  · subst hs
    unfold fctW
    simp only [if_neg (show ¬ (6 : Int) = 0 by decide), if_neg (show ¬ (6 : Int) = 1 by decide), if_neg (show ¬ (6 : Int) = 2 by decide), if_neg (show ¬ (6 : Int) = 3 by decide), if_neg (show ¬ (6 : Int) = 4 by decide), if_neg (show ¬ (6 : Int) = 5 by decide), if_true]
    rcases b01_01 (0 ≤ g ∧ (wI w g 0 = n' ∨ wI w (g + 1) 0 = n')) with h | h <;> omega
  · subst hs
    unfold fctW
    simp only [if_neg (show ¬ (7 : Int) = 0 by decide), if_neg (show ¬ (7 : Int) = 1 by decide), if_neg (show ¬ (7 : Int) = 2 by decide), if_neg (show ¬ (7 : Int) = 3 by decide), if_neg (show ¬ (7 : Int) = 4 by decide), if_neg (show ¬ (7 : Int) = 5 by decide), if_neg (show ¬ (7 : Int) = 6 by decide)]
/-- the facts that the object's four fields say -/
abbrev fctD (D : mD) (r : Int) : Int → Int → Int := fctW (D 134) (D 133 18) (D 133 19) (D 133 20) (D 133 21) r
def GapD (D : mD) : Prop := D 133 18 = -1 ∨ (0 ≤ D 133 18 ∧ D 133 18 + 1 < D 134 1)
theorem wI0_r {w : Int → Int} (H : Wi n w) {l : Int} (h0 : 0 ≤ l) (h1 : l < w 1) : 0 ≤ wI w l 0 ∧ wI w l 0 ≤ 3 := by
  have hl := H.lt h0 h1
  unfold LtOk at hl
  have hs := H.sg (s := wL w l 0) (by omega) (by omega)
  unfold SgOk at hs
  unfold wI
  omega
theorem e_isSort (H : Wi n (D 134)) (hg : GapD D) {x : Int} (hx : nR x) : F_X12_isSort x D = some (b01 (0 ≤ D 133 18 ∧ (wI (D 134) (D 133 18) 0 = x ∨ wI (D 134) (D 133 18 + 1) 0 = x)), D) := by
  have hr := H.r
  unfold Wr at hr
  unfold GapD at hg
  unfold F_X12_isSort
  rw [ck_p (by omega)]
  by_cases q : D 133 18 < 0
  · rw [if_pos q, b01_f (by omega)]
  · have g1 := wI0_r H (l := D 133 18) (by omega) (by omega)
    have g2 := wI0_r H (l := D 133 18 + 1) (by omega) (by omega)
    rw [if_neg q, e_its H (by omega) (by omega) (by omega) (by omega), bI_s, ck_p (by omega), ck_p hx]
    by_cases q1 : wI (D 134) (D 133 18) 0 = x
    · rw [if_pos q1, b01_t (by omega)]
    · rw [if_neg q1, e_its H (by omega) (by omega) (by omega) (by omega), bI_s, ck_p (by omega)]
      by_cases q2 : wI (D 134) (D 133 18 + 1) 0 = x
      · rw [if_pos q2, ck_p (Or.inr rfl), b01_t (by omega)]
      · rw [if_neg q2, ck_p (Or.inl rfl), b01_f (by omega)]
theorem e_factOf (H : Wi n (D 134)) (hg : GapD D) {s x r : Int} (hs : nR s) (hx : s = 6 → nR x) (hr : 0 ≤ r ∧ r < 5) : F_X12_factOf s x r D = some (fctD D r s x, D) := by
  have hrr := H.r
  unfold Wr at hrr
  have hg2 := hg
  unfold GapD at hg2
  have hn : nR (D 133 18) := by omega
  unfold F_X12_factOf fctD fctW
  rw [ck_p hs]
  by_cases h0 : s = 0
  · rw [if_pos h0, if_pos h0, ck_p hn]
  rw [if_neg h0, if_neg h0]
  by_cases h1 : s = 1
  · rw [if_pos h1, if_pos h1, ck_p hn]
  rw [if_neg h1, if_neg h1]
  by_cases h2 : s = 2
  · rw [if_pos h2, if_pos h2, ck_p hn]
    by_cases q : 0 ≤ D 133 18
    · rw [if_pos q, if_pos q, e_its H (by omega) (by omega) (by omega) (by omega), bI_s]
    · rw [if_neg q, if_neg q]
  rw [if_neg h2, if_neg h2]
  by_cases h3 : s = 3
  · rw [if_pos h3, if_pos h3, ck_p hn]
    by_cases q : 0 ≤ D 133 18
    · rw [if_pos q, if_pos q, e_its H (by omega) (by omega) (by omega) (by omega), bI_s]
    · rw [if_neg q, if_neg q]
  rw [if_neg h3, if_neg h3]
  by_cases h4 : s = 4
  · rw [if_pos h4, if_pos h4]
  rw [if_neg h4, if_neg h4]
  by_cases h5 : s = 5
  · rw [if_pos h5, if_pos h5]
  rw [if_neg h5, if_neg h5]
  by_cases h6 : s = 6
  · rw [if_pos h6, if_pos h6, e_isSort H hg (hx h6), bI_s, ck_p (b01_nR _)]
    by_cases q : 0 ≤ D 133 18 ∧ (wI (D 134) (D 133 18) 0 = x ∨ wI (D 134) (D 133 18 + 1) 0 = x)
    · rw [b01_t q, if_neg (by decide)]
    · rw [b01_f q, if_pos rfl]
  rw [if_neg h6, if_neg h6]
theorem TyOk.two {st : List Int} {a b : Bool} {r : List Bool} (h : TyOk st (a :: b :: r)) : ∃ y z rest, st = y :: z :: rest :=
  match st, h with
  | y :: z :: rest, _ => ⟨y, z, rest, rfl⟩
theorem TyOk.one {st : List Int} {a : Bool} {r : List Bool} (h : TyOk st (a :: r)) : ∃ y rest, st = y :: rest :=
  match st, h with
  | y :: rest, _ => ⟨y, rest, rfl⟩
theorem join_tree (s a b : Int) (hs : s = 9 ∨ s = 10 ∨ s = 12 ∨ s = 13) : ∃ t : Int, t = (if s = 9 then (if b ≤ a then (0 : Int) else (1 : Int)) else (if s = 10 then (if a ≤ b then (0 : Int) else (1 : Int)) else (if s = 12 then (if a + b = 2 then (1 : Int) else (0 : Int)) else (if a + b ≤ 0 then (0 : Int) else (1 : Int))))) ∧ (t = 0 ∨ t = 1) ∧ (if t = 0 then (0 : Int) else (1 : Int)) = evJoin s a b := by
  refine ⟨_, rfl, ?_⟩
  unfold evJoin b01
  rcases hs with rfl | rfl | rfl | rfl
  · by_cases q : b ≤ a
    · simp [q, show ¬ a < b by omega]
    · simp [q, show a < b by omega]
  · by_cases q : a ≤ b
    · simp [q, show ¬ b < a by omega]
    · simp [q, show b < a by omega]
  · by_cases q : a + b = 2 <;> simp [q]
  · by_cases q : a + b ≤ 0
    · simp [q, show ¬ 0 < a + b by omega]
    · simp [q, show 0 < a + b by omega]
/-- a line's steps, from place i on -/
theorem r_holds (H : Wi n (D 134)) {row x4 : Int} (hr : 0 ≤ row ∧ row < 5) (h4 : 0 ≤ x4 + 3 ∧ x4 + 3 < 2173) (he : D 134 (x4 + 3) ≤ 400) :
    ∀ (m fuel : Nat) (i : Int) (st : List Int) (ts : List Bool) (E : mD), m < fuel → 0 ≤ i → i + m = D 134 (x4 + 3) → tyRun (D 134) 524 i m ts = some [true] → TyOk st ts → st.sum ≤ 1000 * i → ts.length ≤ 20 →
      E 134 = D 134 → E 133 = D 133 → GapD D → FctOk (fctD D row) → StR (E 141) st →
      ∃ f, F_X12_holdsLine_L22 row x4 fuel (st.length : Int) i E = some ((evRun (D 134) 524 (fctD D row) i m st).headD 0, sA E 141 f) := by
  intro m
  induction m with
  | zero =>
    intro fuel i st ts E hf hi hm hty hok hB hts e1 e2 hg hfo hst
    obtain ⟨k, rfl⟩ : ∃ k, fuel = k + 1 := ⟨fuel - 1, by omega⟩
    cases hty
    match st, hok with
    | [v], ⟨v0, v1, _⟩ =>
      have v1 := v1 rfl
      have hv : E 141 0 = v := hst.1
      refine ⟨E 141, ?_⟩
      rw [F_X12_holdsLine_L22, ck_p h4, ck_p (by omega), ck_p (by rw [e1]; omega), if_pos (by rw [e1]; omega), ck_p (by simp; omega), ck_p (fun _ => by rw [hv]; omega)]
      rw [if_neg (by simp), hv, show sA E 141 (E 141) = E by funext a; unfold sA; by_cases q : a = 141; rw [if_pos q, q]; rw [if_neg q]]
      by_cases q : v = 1
      · rw [if_pos q, ck_p (Or.inr rfl), q]; rfl
      · rw [if_neg q, ck_p (Or.inl rfl), show v = 0 by omega]; rfl
  | succ m ih =>
    intro fuel i st ts E hf hi hm hty hok hB hts e1 e2 hg hfo hst
    obtain ⟨k, rfl⟩ : ∃ k, fuel = k + 1 := ⟨fuel - 1, by omega⟩
    obtain ⟨ts', t1, t2, t3⟩ := tyRun_succ hty
    obtain ⟨o1, o2⟩ := evStep_ok hfo t1 hok hB (by omega)
    have hlen := hok.len
    have hlen' := o1.len
    have hnn := hok.nonneg
    -- go on behind a step that writes the place q
    have go : ∀ (q : Int) (v : Int), evStep (fctD D row) (D 134 (524 + 2 * i)) (D 134 (524 + 2 * i + 1)) st = v :: (st.drop (st.length - q.toNat)) → 0 ≤ q → q ≤ st.length →
        ∃ f, F_X12_holdsLine_L22 row x4 k (q + 1) (i + 1) (pD E 141 q v) = some ((evRun (D 134) 524 (fctD D row) i (m + 1) st).headD 0, sA E 141 f) := by
      intro q v hq q0 q1
      have hl2 : (st.drop (st.length - q.toNat)).length = q.toNat := by rw [List.length_drop]; omega
      have hsub : ∀ (j : Nat), StR (E 141) (st.drop j) := by
        intro j
        induction j with
        | zero => exact hst
        | succ j ihj =>
          rw [← List.tail_drop]
          cases hd : st.drop j with
          | nil => trivial
          | cons a b => rw [hd] at ihj; exact ihj.2
      have hst2 : StR ((pD E 141 q v) 141) (v :: st.drop (st.length - q.toNat)) := by
        refine ⟨?_, (hsub _).keep (fun j j0 j1 => pD_nj (by rw [hl2] at j1; omega))⟩
        rw [hl2, show ((q.toNat : Nat) : Int) = q by omega, pD_eq]
      obtain ⟨f, hf2⟩ := ih k (i + 1) (v :: st.drop (st.length - q.toNat)) ts' (pD E 141 q v) (by omega) (by omega) (by omega) t3 (by rw [← hq]; exact o1) (by rw [← hq]; omega) t2 (by rw [pD_ne (by decide)]; exact e1) (by rw [pD_ne (by decide)]; exact e2) hg hfo hst2
      refine ⟨f, ?_⟩
      rw [List.length_cons, hl2, show ((q.toNat + 1 : Nat) : Int) = q + 1 by omega] at hf2
      rw [hf2, evRun, hq]
      congr 2
      funext a
      unfold pD sA
      by_cases qa : a = 141
      · rw [if_pos qa, if_pos qa]
      · rw [if_neg qa, if_neg qa, if_neg qa]
    have htl : (st.length : Int) ≤ 20 := by omega
    obtain ⟨s, es⟩ : ∃ s, s = D 134 (524 + 2 * i) := ⟨_, rfl⟩
    obtain ⟨x, ex⟩ : ∃ x, x = D 134 (524 + 2 * i + 1) := ⟨_, rfl⟩
    rw [← es, ← ex] at t1 go o1 o2
    have hsr : 0 ≤ s ∧ s ≤ 13 := by
      rcases tyStep_cases t1 with ⟨a, b, -⟩ | ⟨a, -⟩ | ⟨a, -⟩ | ⟨a, -⟩ | ⟨a, -⟩ | ⟨a, -⟩ | ⟨a, -⟩ <;> omega
    have push : s ≤ 7 → (s = 6 → nR x) → ∃ f, F_X12_holdsLine_L22 row x4 (k + 1) (st.length : Int) i E = some ((evRun (D 134) 524 (fctD D row) i (m + 1) st).headD 0, sA E 141 f) := by
      intro h7 hx
      have hgo := go (st.length : Int) (fctD D row s x) (by unfold evStep; rw [if_pos h7]; congr 1; simp) (by omega) (by omega)
      obtain ⟨f, hf3⟩ := hgo
      refine ⟨f, ?_⟩
      rw [F_X12_holdsLine_L22, ck_p h4, ck_p (by omega), ck_p (by rw [e1]; omega), if_neg (by rw [e1]; omega), ck_p (by omega), e1, ← es, ← ex, ck_p (by omega), if_neg (by omega), ck_p (by omega)]
      rw [e_factOf (D := E) (by rw [e1]; exact H) (by unfold GapD at hg ⊢; rw [e1, e2]; exact hg) (by omega) hx hr, bI_s, ck_p (by omega)]
      rw [show fctD E row s x = fctD D row s x by unfold fctD; rw [e1, e2]]
      exact hf3
    have join : ∀ (y z : Int) (rest : List Int), st = y :: z :: rest → s = 8 ∨ s = 9 ∨ s = 10 ∨ s = 12 ∨ s = 13 → ∃ f, F_X12_holdsLine_L22 row x4 (k + 1) (st.length : Int) i E = some ((evRun (D 134) 524 (fctD D row) i (m + 1) st).headD 0, sA E 141 f) := by
      intro y z rest est hs
      have hyz : 0 ≤ y ∧ 0 ≤ z ∧ y + z ≤ 1000 * i := by
        have q1 := hnn.2 y (by rw [est]; simp)
        have q2 := hnn.2 z (by rw [est]; simp)
        have q3 : 0 ≤ rest.sum := by
          rw [est] at hok
          match ts, hok with
          | _ :: _ :: _, ⟨_, _, _, _, h⟩ => exact h.nonneg.1
        rw [est] at hB
        simp only [List.sum_cons] at hB
        omega
      have hl : (st.length : Int) = rest.length + 1 + 1 := by rw [est]; simp
      rw [est] at hst
      have hz : E 141 (rest.length : Int) = z := hst.2.1
      have hy : E 141 ((rest.length : Int) + 1) = y := hst.1
      have hgo := go (rest.length : Int) (evJoin s z y) (by
        unfold evStep
        rw [if_neg (by omega), if_neg (by omega), est]
        congr 1
        rw [show (y :: z :: rest).length - (rest.length : Int).toNat = 2 by simp; omega]
        rfl) (by omega) (by omega)
      obtain ⟨f, hf3⟩ := hgo
      refine ⟨f, ?_⟩
      rw [F_X12_holdsLine_L22, ck_p h4, ck_p (by omega), ck_p (by rw [e1]; omega), if_neg (by rw [e1]; omega), ck_p (by omega), e1, ← es, ← ex, ck_p (by omega), if_pos (by omega), if_neg (by omega)]
      rw [show (st.length : Int) - 1 - 1 = rest.length by omega, show (st.length : Int) - 1 = rest.length + 1 by omega, hz, hy]
      rw [ck_p (by omega), ck_p (by omega), ck_p (fun _ _ _ => by omega), ck_p (fun _ _ _ => by omega), ck_p (fun _ _ => by omega), ck_p (fun _ _ => by omega), ck_p (fun _ => by omega), ck_p (fun _ => by omega)]
      unfold F_X12_holdsLine_j222
      rw [ck_p (by omega), show (rest.length : Int) + 1 - 1 = rest.length by omega]
      by_cases h8 : s = 8
      · rw [ck_p (fun q => absurd h8 q), ck_p (by omega), if_pos h8]
        rw [show evJoin s z y = z + y by unfold evJoin; rw [if_pos h8]] at hf3
        exact hf3
      · obtain ⟨t, et, t01, ev⟩ := join_tree s z y (by omega)
        rw [← et, ck_p (fun _ => by omega), ck_p (by omega), if_neg h8, ev]
        exact hf3
    rcases tyStep_cases t1 with ⟨a, b, rfl⟩ | ⟨hs, a, b, rfl⟩ | ⟨hs, a, b, rfl⟩ | ⟨hs, r, rfl, rfl⟩ | ⟨hs, r, rfl, rfl⟩ | ⟨hs, r, rfl, rfl⟩ | ⟨hs, r, rfl, rfl⟩
    · exact push (by omega) (fun q => absurd q (by omega))
    · exact push (by omega) (fun _ => by omega)
    · exact push (by omega) (fun _ => by omega)
    · obtain ⟨y, z, rest, est⟩ := hok.two
      exact join y z rest est (by omega)
    · obtain ⟨y, z, rest, est⟩ := hok.two
      exact join y z rest est (by omega)
    · obtain ⟨y, rest, est⟩ := hok.one
      subst est
      have hy : E 141 (rest.length : Int) = y := hst.1
      have hgo := go (rest.length : Int) (1 - y) (by
        unfold evStep
        rw [if_neg (by omega), if_pos hs]
        congr 1
        rw [show (y :: rest).length - (rest.length : Int).toNat = 1 by simp]
        rfl) (by omega) (by simp; omega)
      obtain ⟨f, hf3⟩ := hgo
      refine ⟨f, ?_⟩
      rw [F_X12_holdsLine_L22, ck_p h4, ck_p (by omega), ck_p (by rw [e1]; omega), if_neg (by rw [e1]; omega), ck_p (by omega), e1, ← es, ← ex, ck_p (by omega), if_pos (by omega), if_pos hs]
      have hl : ((y :: rest).length : Int) = rest.length + 1 := by simp
      rw [hl] at htl ⊢
      rw [show (rest.length : Int) + 1 - 1 = rest.length by omega, hy, ck_p (by omega)]
      exact hf3
    · obtain ⟨y, z, rest, est⟩ := hok.two
      exact join y z rest est (by omega)
end PR1
