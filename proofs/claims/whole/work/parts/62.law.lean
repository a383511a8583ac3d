/-! THE LAW, as a number: facts, steps on a stack, lines; the reference reckons it -/
section PL0
/-- what a step that tells something puts on the stack: g the gap (below 0: none), d its distance, r the row, L the light, Y the yards -/
def fctW (w : Int → Int) (g d L Y r s n : Int) : Int :=
  if s = 0 then (if 0 ≤ g then r else 0)
  else if s = 1 then (if 0 ≤ g then d else 0)
  else if s = 2 then (if 0 ≤ g then wI w g (7 + r) else 0)
  else if s = 3 then (if 0 ≤ g then wI w (g + 1) (2 + r) else 0)
  else if s = 4 then L
  else if s = 5 then Y
  else if s = 6 then b01 (0 ≤ g ∧ (wI w g 0 = n ∨ wI w (g + 1) 0 = n))
  else n
def evJoin (s a b : Int) : Int := if s = 8 then a + b else if s = 9 then b01 (a < b) else if s = 10 then b01 (b < a) else if s = 12 then b01 (a + b = 2) else b01 (0 < a + b)
def evStep (f : Int → Int → Int) (s n : Int) (st : List Int) : List Int :=
  if s ≤ 7 then f s n :: st
  else if s = 11 then (match st with | v :: r => (1 - v) :: r | [] => [])
  else (match st with | b :: a :: r => evJoin s a b :: r | r => r)
def evRun (w : Int → Int) (b : Int) (f : Int → Int → Int) : Int → Nat → List Int → List Int
  | _, 0, st => st
  | i, m + 1, st => evRun w b f (i + 1) m (evStep f (w (b + 2 * i)) (w (b + 2 * i + 1)) st)
/-- whether line k of the law at b holds, as a number -/
def evLine (w : Int → Int) (b : Int) (f : Int → Int → Int) (k : Int) : Int :=
  if w (b + 1 + 4 * k + 2) = w (b + 1 + 4 * k + 3) then 1 else (evRun w (b + 49) f (w (b + 1 + 4 * k + 2)) (w (b + 1 + 4 * k + 3) - w (b + 1 + 4 * k + 2)).toNat []).headD 0
/-- the sum of the lines of a kind that hold -/
def evSum (w : Int → Int) (b kind : Int) (f : Int → Int → Int) : Int := sumF (fun k => if w (b + 1 + 4 * k) = kind ∧ evLine w b f k = 1 then w (b + 1 + 4 * k + 1) else 0) 0 (w b).toNat
def TyOk : List Int → List Bool → Prop
  | [], [] => True
  | v :: st, t :: ts => 0 ≤ v ∧ (t = true → v ≤ 1) ∧ TyOk st ts
  | _, _ => False
def StR (f : Int → Int) : List Int → Prop
  | [] => True
  | v :: st => f (st.length : Int) = v ∧ StR f st
theorem StR.keep {f g : Int → Int} : ∀ {st : List Int}, StR f st → (∀ j : Int, 0 ≤ j → j < st.length → g j = f j) → StR g st
  | [], _, _ => trivial
  | v :: st, h, k => ⟨by rw [k _ (by omega) (by simp; omega)]; exact h.1, StR.keep h.2 (fun j h0 h1 => k j h0 (by simp; omega))⟩
theorem TyOk.len : ∀ {st : List Int} {ts : List Bool}, TyOk st ts → st.length = ts.length
  | [], [], _ => rfl
  | _ :: _, _ :: _, h => by simp [TyOk.len h.2.2]
/-- facts lie in their ranges -/
def FctOk (f : Int → Int → Int) : Prop := ∀ s n, (0 ≤ s ∧ s ≤ 5 → 0 ≤ f s n ∧ f s n ≤ 999) ∧ (s = 6 → 0 ≤ f s n ∧ f s n ≤ 1) ∧ (s = 7 → f s n = n)
theorem tyRun_succ {w : Int → Int} {b i : Int} {m : Nat} {ts : List Bool} {r : List Bool} (h : tyRun w b i (m + 1) ts = some r) : ∃ ts', tyStep (w (b + 2 * i)) (w (b + 2 * i + 1)) ts = some ts' ∧ ts'.length ≤ 20 ∧ tyRun w b (i + 1) m ts' = some r := by
  rw [tyRun] at h
  cases hs : tyStep (w (b + 2 * i)) (w (b + 2 * i + 1)) ts with
  | none => rw [hs] at h; cases h
  | some ts' =>
    rw [hs] at h
    by_cases hl : ts'.length ≤ 20
    · simp only [if_pos hl] at h
      exact ⟨ts', rfl, hl, h⟩
    · simp only [if_neg hl] at h
      cases h
/-- the kinds of step that there are -/
theorem tyStep_cases {s n : Int} {ts ts' : List Bool} (h : tyStep s n ts = some ts') :
    (0 ≤ s ∧ s ≤ 5 ∧ ts' = false :: ts) ∨ (s = 6 ∧ 1 ≤ n ∧ n ≤ 3 ∧ ts' = true :: ts) ∨ (s = 7 ∧ 0 ≤ n ∧ n ≤ 999 ∧ ts' = false :: ts) ∨
    (s = 8 ∧ ∃ r, ts = false :: false :: r ∧ ts' = false :: r) ∨ ((s = 9 ∨ s = 10) ∧ ∃ r, ts = false :: false :: r ∧ ts' = true :: r) ∨
    (s = 11 ∧ ∃ r, ts = true :: r ∧ ts' = true :: r) ∨ ((s = 12 ∨ s = 13) ∧ ∃ r, ts = true :: true :: r ∧ ts' = true :: r) := by
  unfold tyStep at h
  by_cases h1 : 0 ≤ s ∧ s ≤ 5
  · rw [if_pos h1] at h; cases h; exact Or.inl ⟨h1.1, h1.2, rfl⟩
  rw [if_neg h1] at h
  by_cases h2 : s = 6
  · rw [if_pos h2] at h
    by_cases h3 : 1 ≤ n ∧ n ≤ 3
    · rw [if_pos h3] at h; cases h; exact Or.inr (Or.inl ⟨h2, h3.1, h3.2, rfl⟩)
    · rw [if_neg h3] at h; cases h
  rw [if_neg h2] at h
  by_cases h4 : s = 7
  · rw [if_pos h4] at h
    by_cases h3 : 0 ≤ n ∧ n ≤ 999
    · rw [if_pos h3] at h; cases h; exact Or.inr (Or.inr (Or.inl ⟨h4, h3.1, h3.2, rfl⟩))
    · rw [if_neg h3] at h; cases h
  rw [if_neg h4] at h
  by_cases h5 : s = 8
  · rw [if_pos h5] at h
    match ts, h with
    | false :: false :: r, h => cases h; exact Or.inr (Or.inr (Or.inr (Or.inl ⟨h5, r, rfl, rfl⟩)))
  rw [if_neg h5] at h
  by_cases h6 : s = 9 ∨ s = 10
  · rw [if_pos h6] at h
    match ts, h with
    | false :: false :: r, h => cases h; exact Or.inr (Or.inr (Or.inr (Or.inr (Or.inl ⟨h6, r, rfl, rfl⟩))))
  rw [if_neg h6] at h
  by_cases h7 : s = 11
  · rw [if_pos h7] at h
    match ts, h with
    | true :: r, h => cases h; exact Or.inr (Or.inr (Or.inr (Or.inr (Or.inr (Or.inl ⟨h7, r, rfl, rfl⟩)))))
  rw [if_neg h7] at h
  by_cases h8 : s = 12 ∨ s = 13
  · rw [if_pos h8] at h
    match ts, h with
    | true :: true :: r, h => cases h; exact Or.inr (Or.inr (Or.inr (Or.inr (Or.inr (Or.inr ⟨h8, r, rfl, rfl⟩)))))
  rw [if_neg h8] at h
  cases h
theorem evStep_ok {f : Int → Int → Int} (hf : FctOk f) {s n B : Int} {st : List Int} {ts ts' : List Bool} (h : tyStep s n ts = some ts') (ht : TyOk st ts) (hB : st.sum ≤ B) (hB0 : 0 ≤ B) :
    TyOk (evStep f s n st) ts' ∧ (evStep f s n st).sum ≤ B + 1000 := by
  rcases tyStep_cases h with ⟨a, b, rfl⟩ | ⟨rfl, a, b, rfl⟩ | ⟨rfl, a, b, rfl⟩ | ⟨rfl, r, rfl, rfl⟩ | ⟨hs, r, rfl, rfl⟩ | ⟨rfl, r, rfl, rfl⟩ | ⟨hs, r, rfl, rfl⟩
  · have hv := (hf s n).1 ⟨a, b⟩
    unfold evStep
    rw [if_pos (by omega)]
    refine ⟨⟨hv.1, (fun q => (nomatch q)), ht⟩, ?_⟩
    simp only [List.sum_cons]
    omega
  · have hv := (hf 6 n).2.1 rfl
    unfold evStep
    rw [if_pos (by decide)]
    refine ⟨⟨hv.1, fun _ => hv.2, ht⟩, ?_⟩
    simp only [List.sum_cons]
    omega
  · have hv := (hf 7 n).2.2 rfl
    unfold evStep
    rw [if_pos (by decide), hv]
    refine ⟨⟨a, (fun q => (nomatch q)), ht⟩, ?_⟩
    simp only [List.sum_cons]
    omega
  · match st, ht with
    | y :: x :: st, ⟨g1, _, g2, _, g3⟩ =>
      unfold evStep
      rw [if_neg (by decide), if_neg (by decide)]
      simp only [evJoin, if_true, List.sum_cons] at hB ⊢
      exact ⟨⟨by omega, fun q => (nomatch q), g3⟩, by omega⟩
  · match st, ht with
    | y :: x :: st, ⟨g1, _, g2, _, g3⟩ =>
      have h01 : evJoin s x y = 0 ∨ evJoin s x y = 1 := by
        unfold evJoin
        rcases hs with rfl | rfl
        · simp only [if_neg (show ¬ (9 : Int) = 8 by decide), if_true]; exact b01_01 _
        · simp only [if_neg (show ¬ (10 : Int) = 8 by decide), if_neg (show ¬ (10 : Int) = 9 by decide), if_true]; exact b01_01 _
      unfold evStep
      rw [if_neg (by omega), if_neg (by omega)]
      simp only [List.sum_cons] at hB ⊢
      exact ⟨⟨by omega, fun _ => by omega, g3⟩, by omega⟩
  · match st, ht with
    | y :: st, ⟨g1, g2, g3⟩ =>
      have := g2 rfl
      unfold evStep
      rw [if_neg (by decide), if_pos rfl]
      simp only [List.sum_cons] at hB ⊢
      exact ⟨⟨by omega, fun _ => by omega, g3⟩, by omega⟩
  · match st, ht with
    | y :: x :: st, ⟨g1, _, g2, _, g3⟩ =>
      have h01 : evJoin s x y = 0 ∨ evJoin s x y = 1 := by
        unfold evJoin
        rcases hs with rfl | rfl
        · simp only [if_neg (show ¬ (12 : Int) = 8 by decide), if_neg (show ¬ (12 : Int) = 9 by decide), if_neg (show ¬ (12 : Int) = 10 by decide), if_true]; exact b01_01 _
        · simp only [if_neg (show ¬ (13 : Int) = 8 by decide), if_neg (show ¬ (13 : Int) = 9 by decide), if_neg (show ¬ (13 : Int) = 10 by decide), if_neg (show ¬ (13 : Int) = 12 by decide)]; exact b01_01 _
      unfold evStep
      rw [if_neg (by omega), if_neg (by omega)]
      simp only [List.sum_cons] at hB ⊢
      exact ⟨⟨by omega, fun _ => by omega, g3⟩, by omega⟩
theorem TyOk.nonneg : ∀ {st : List Int} {ts : List Bool}, TyOk st ts → 0 ≤ st.sum ∧ ∀ v ∈ st, 0 ≤ v ∧ v ≤ st.sum
  | [], [], _ => ⟨by simp, by simp⟩
  | v :: st, t :: ts, h => by
    have ih := TyOk.nonneg h.2.2
    have h0 := h.1
    simp only [List.sum_cons, List.mem_cons, forall_eq_or_imp]
    refine ⟨by omega, ⟨h0, by omega⟩, fun x hx => ?_⟩
    have := ih.2 x hx
    omega
theorem evRun_ok {w : Int → Int} {b : Int} {f : Int → Int → Int} (hf : FctOk f) : ∀ (m : Nat) (i : Int) (st : List Int) (ts : List Bool), tyRun w b i m ts = some [true] → TyOk st ts → st.sum ≤ 1000 * i → 0 ≤ i → ∃ v, evRun w b f i m st = [v] ∧ (v = 0 ∨ v = 1) := by
  intro m
  induction m with
  | zero =>
    intro i st ts h ht _ _
    cases h
    match st, ht with
    | [v], ⟨h1, h2, _⟩ => exact ⟨v, rfl, by have := h2 rfl; omega⟩
  | succ m ih =>
    intro i st ts h ht hB hi
    obtain ⟨ts', h1, -, h2⟩ := tyRun_succ h
    have h3 := evStep_ok hf h1 ht hB (by omega)
    exact ih (i + 1) _ ts' h2 h3.1 (by omega) (by omega)
theorem evLine_01 {w : Int → Int} {b : Int} {f : Int → Int → Int} (hf : FctOk f) (hL : LawOk w b) {k : Int} (h0 : 0 ≤ k) (h1 : k < w b) : evLine w b f k = 0 ∨ evLine w b f k = 1 := by
  obtain ⟨-, -, -, h4, -, -, -, h5⟩ := hL.2.2 k h0 h1
  unfold evLine
  by_cases q : w (b + 1 + 4 * k + 2) = w (b + 1 + 4 * k + 3)
  · rw [if_pos q]; exact Or.inr rfl
  · rw [if_neg q]
    rcases h5 with h5 | h5
    · exact absurd h5 q
    · obtain ⟨v, e, hv⟩ := evRun_ok hf _ _ [] [] h5 trivial (by simp; omega) h4
      rw [e]
      exact hv
theorem evSum_r {w : Int → Int} {b kind : Int} {f : Int → Int → Int} (hL : LawOk w b) : 0 ≤ evSum w b kind f ∧ evSum w b kind f ≤ 1188 := by
  have h := sumF_bounds (f := fun k => if w (b + 1 + 4 * k) = kind ∧ evLine w b f k = 1 then w (b + 1 + 4 * k + 1) else 0) (lo := 0) (hi := 99) (w b).toNat 0 (fun k h0 h1 => by
    obtain ⟨-, h2, h3, -⟩ := hL.2.2 k h0 (by omega)
    by_cases q : w (b + 1 + 4 * k) = kind ∧ evLine w b f k = 1
    · simp only [if_pos q]; exact ⟨h2, h3⟩
    · simp only [if_neg q]; omega)
  have h1 := hL.1
  have h2 := hL.2.1
  unfold evSum
  constructor <;> omega
theorem evSum_r0 {w : Int → Int} {b : Int} {f : Int → Int → Int} (hL : LawOk w b) : 0 ≤ evSum w b 0 f ∧ evSum w b 0 f ≤ 108 := by
  have h := sumF_bounds (f := fun k => if w (b + 1 + 4 * k) = 0 ∧ evLine w b f k = 1 then w (b + 1 + 4 * k + 1) else 0) (lo := 0) (hi := 9) (w b).toNat 0 (fun k h0 h1 => by
    obtain ⟨h4, h2, h3, -⟩ := hL.2.2 k h0 (by omega)
    by_cases q : w (b + 1 + 4 * k) = 0 ∧ evLine w b f k = 1
    · simp only [if_pos q]; omega
    · simp only [if_neg q]; omega)
  have h1 := hL.1
  have h2 := hL.2.1
  unfold evSum
  constructor <;> omega
theorem evRun_congr {w : Int → Int} {b : Int} {f g : Int → Int → Int} : ∀ (m : Nat) (i : Int) (st : List Int), (∀ j : Int, i ≤ j → j < i + m → w (b + 2 * j) ≤ 7 → f (w (b + 2 * j)) (w (b + 2 * j + 1)) = g (w (b + 2 * j)) (w (b + 2 * j + 1))) → evRun w b f i m st = evRun w b g i m st := by
  intro m
  induction m with
  | zero => intro i st _; rfl
  | succ m ih =>
    intro i st h
    rw [evRun, evRun, ih (i + 1) _ (fun j h0 h1 => h j (by omega) (by omega))]
    congr 1
    unfold evStep
    by_cases q : w (b + 2 * i) ≤ 7
    · rw [if_pos q, if_pos q, h i (Int.le_refl _) (by omega) q]
    · rw [if_neg q, if_neg q]
end PL0
