/-! TOKENS of a text: both ends -/
section PW0
variable {B : Int → Int} {L p : Int} {D E R : mD}
def kd (b : Int) : Int := if 97 ≤ b ∧ b ≤ 122 then 1 else if 48 ≤ b ∧ b ≤ 57 then 2 else 3
def skF (B : Int → Int) : Int → Nat → Int
  | p, 0 => p
  | p, m + 1 => if B p = 32 then skF B (p + 1) m else p
def sk (B : Int → Int) (L p : Int) : Int := skF B p (L - p).toNat
def rnF (B : Int → Int) (k : Int) : Int → Nat → Int
  | p, 0 => p
  | p, m + 1 => if kd (B p) = k then rnF B k (p + 1) m else p
def rn (B : Int → Int) (L k p : Int) : Int := rnF B k p (L - p).toNat
def tk (B : Int → Int) (L b : Int) : Int := if b < L then kd (B b) else 0
def te (B : Int → Int) (L b : Int) : Int := if tk B L b = 3 then b + 1 else if tk B L b = 0 then b else rn B L (tk B L b) b
theorem kd_r (b : Int) : kd b = 1 ∨ kd b = 2 ∨ kd b = 3 := by
  unfold kd
  split
  · exact Or.inl rfl
  · split
    · exact Or.inr (Or.inl rfl)
    · exact Or.inr (Or.inr rfl)
theorem skF_r (B : Int → Int) : ∀ (m : Nat) (p : Int), p ≤ skF B p m ∧ skF B p m ≤ p + m := by
  intro m
  induction m with
  | zero => intro p; rw [skF]; omega
  | succ m ih =>
    intro p
    rw [skF]
    by_cases q : B p = 32
    · rw [if_pos q]; have := ih (p + 1); omega
    · rw [if_neg q]; omega
theorem rnF_r (B : Int → Int) (k : Int) : ∀ (m : Nat) (p : Int), p ≤ rnF B k p m ∧ rnF B k p m ≤ p + m := by
  intro m
  induction m with
  | zero => intro p; rw [rnF]; omega
  | succ m ih =>
    intro p
    rw [rnF]
    by_cases q : kd (B p) = k
    · rw [if_pos q]; have := ih (p + 1); omega
    · rw [if_neg q]; omega
theorem sk_r (h : p ≤ L) : p ≤ sk B L p ∧ sk B L p ≤ L := by
  have := skF_r B (L - p).toNat p
  unfold sk
  omega
theorem rn_r {k : Int} (h : p ≤ L) : p ≤ rn B L k p ∧ rn B L k p ≤ L := by
  have := rnF_r B k (L - p).toNat p
  unfold rn
  omega
theorem tk_r (B : Int → Int) (L b : Int) : 0 ≤ tk B L b ∧ tk B L b ≤ 3 := by
  unfold tk
  have := kd_r (B b)
  split <;> omega
theorem rn_step {k : Int} (h : p < L) (hk : kd (B p) = k) : rn B L k p = rn B L k (p + 1) := by
  unfold rn
  rw [show (L - p).toNat = (L - (p + 1)).toNat + 1 by omega, rnF, if_pos hk]
theorem rn_stop {k : Int} (h : L ≤ p ∨ kd (B p) ≠ k) : rn B L k p = p := by
  unfold rn
  by_cases y : L ≤ p
  · rw [show (L - p).toNat = 0 by omega]; rfl
  · rw [show (L - p).toNat = (L - (p + 1)).toNat + 1 by omega, rnF, if_neg (by omega)]
theorem te_r (h : p ≤ L) : p ≤ te B L p ∧ te B L p ≤ L ∧ (p < L → p < te B L p) := by
  unfold te
  have t := tk_r B L p
  by_cases y3 : tk B L p = 3
  · rw [if_pos y3]
    have : p < L := by
      unfold tk at y3
      by_cases z : p < L
      · exact z
      · rw [if_neg z] at y3; omega
    omega
  · rw [if_neg y3]
    by_cases y0 : tk B L p = 0
    · rw [if_pos y0]
      refine ⟨by omega, h, fun z => ?_⟩
      unfold tk at y0
      rw [if_pos z] at y0
      have := kd_r (B p)
      omega
    · rw [if_neg y0]
      have r := rn_r (B := B) (k := tk B L p) h
      refine ⟨r.1, r.2, fun z => ?_⟩
      have e : kd (B p) = tk B L p := by unfold tk; rw [if_pos z]
      rw [rn_step z e]
      have := rn_r (B := B) (k := tk B L p) (show p + 1 ≤ L by omega)
      omega
/-- a tape's bytes -/
def CB (B : Int → Int) (L : Int) : Prop := 0 ≤ L ∧ L ≤ 400 ∧ ∀ j, 0 ≤ j → j < 400 → 0 ≤ B j ∧ B j ≤ 255
/-- the class stands before the token behind p -/
def CT (B : Int → Int) (L p : Int) (D : mD) : Prop := D 2 = B ∧ D 1 1 = L ∧ D 1 3 = sk B L p ∧ D 1 2 = tk B L (sk B L p) ∧ D 1 4 = te B L (sk B L p)
def Fr1 (D E : mD) : Prop := ∀ a : Nat, a ≠ 1 → E a = D a
theorem Fr1.rf : Fr1 D D := fun _ _ => rfl
theorem Fr1.tr {F : mD} (h : Fr1 D E) (k : Fr1 E F) : Fr1 D F := fun a ha => (k a ha).trans (h a ha)
theorem CT.go (h : CT B L p D) (h1 : E 1 = D 1) (h2 : E 2 = D 2) : CT B L p E := by
  unfold CT at h ⊢
  rw [h1, h2]
  exact h
theorem e_kindOf {b : Int} (hb : 0 ≤ b ∧ b ≤ 255) : F_X8_kindOf b D = some (kd b, D) := by
  unfold kd
  rw [F_X8_kindOf, ck_p (by omega)]
  by_cases h1 : b < 97
  · rw [if_pos h1, if_neg (by omega), F_X8_kindOf_j14, ck_p (by omega)]
    by_cases h2 : b < 48
    · rw [if_pos h2, if_neg (by omega)]
    · rw [if_neg h2]
      by_cases h3 : 57 < b
      · rw [if_pos h3, if_neg (by omega)]
      · rw [if_neg h3, if_pos (by omega)]
  · rw [if_neg h1]
    by_cases h2 : 122 < b
    · rw [if_pos h2, if_neg (by omega), if_neg (by omega), F_X8_kindOf_j14, ck_p (by omega), if_neg (by omega), if_pos (by omega)]
    · rw [if_neg h2, if_pos (by omega)]
theorem c_run (hB : CB B L) (e2 : D 2 = B) (e1 : D 1 1 = L) {k : Int} (ek : D 1 2 = k) (hk : k = 1 ∨ k = 2) : ∀ (m fuel : Nat) (p : Int), m < fuel → 0 ≤ p → p + m = L → F_X8_step_L74 fuel p D = some (0, pD D 1 4 (rn B L k p)) := by
  obtain ⟨l0, l1, hb⟩ := hB
  intro m
  induction m with
  | zero =>
    intro fuel p hf p0 hp
    obtain ⟨j, rfl⟩ : ∃ j, fuel = j + 1 := ⟨fuel - 1, by omega⟩
    rw [F_X8_step_L74, ck_p (by omega), e1, ck_p (by omega), if_pos (by omega), rn_stop (Or.inl (by omega))]
  | succ m ih =>
    intro fuel p hf p0 hp
    obtain ⟨j, rfl⟩ : ∃ j, fuel = j + 1 := ⟨fuel - 1, by omega⟩
    have b := hb p p0 (by omega)
    have kr := kd_r (B p)
    rw [F_X8_step_L74, ck_p (by omega), e1, ck_p (by omega), if_neg (by omega), ck_p (by omega), e2, e_kindOf b, bI_q, ck_p (by omega), ek, ck_p (by omega)]
    by_cases y : kd (B p) = k
    · rw [if_pos y, ih j (p + 1) (by omega) (by omega) (by omega), rn_step (by omega) y]
    · rw [if_neg y, rn_stop (Or.inr y)]
theorem c_step_end (hB : CB B L) (e2 : D 2 = B) (e1 : D 1 1 = L) {b : Int} (b0 : 0 ≤ b) (b1 : b ≤ L) : ∃ E, F_X8_step_j30 b D = some (0, E) ∧ E 1 1 = L ∧ E 1 3 = b ∧ E 1 2 = tk B L b ∧ E 1 4 = te B L b ∧ Fr1 D E := by
  have hN := fN
  have hB' := hB
  obtain ⟨l0, l1, hb⟩ := hB
  have t := tk_r B L b
  have fin : ∀ k : Int, k = tk B L b → ∃ E, F_X8_step_j57 b k (pD D 1 3 b) = some (0, E) ∧ E 1 1 = L ∧ E 1 3 = b ∧ E 1 2 = tk B L b ∧ E 1 4 = te B L b ∧ Fr1 D E := by
    intro k hk
    rw [F_X8_step_j57, pD_eq, ck_p (by omega)]
    have q1 : ∀ v : Int, (pD (pD (pD D 1 3 b) 1 2 k) 1 4 v) 1 1 = L ∧ (pD (pD (pD D 1 3 b) 1 2 k) 1 4 v) 1 3 = b ∧ (pD (pD (pD D 1 3 b) 1 2 k) 1 4 v) 1 2 = tk B L b ∧ (pD (pD (pD D 1 3 b) 1 2 k) 1 4 v) 1 4 = v ∧ Fr1 D (pD (pD (pD D 1 3 b) 1 2 k) 1 4 v) := fun v => by
      refine ⟨?_, ?_, ?_, pD_eq _ _ _ _, fun a ha => by rw [pD_ne ha, pD_ne ha, pD_ne ha]⟩
      · rw [pD_nj (by decide), pD_nj (by decide), pD_nj (by decide)]; exact e1
      · rw [pD_nj (by decide), pD_nj (by decide), pD_eq]
      · rw [pD_nj (by decide), pD_eq, hk]
    by_cases y : k = 3
    · obtain ⟨a1, a2, a3, a4, a5⟩ := q1 (b + 1)
      refine ⟨_, by rw [if_pos y], a1, a2, a3, ?_, a5⟩
      rw [a4]
      unfold te
      rw [if_pos (by omega)]
    · rw [if_neg y]
      by_cases z : k = 0
      · obtain ⟨J, hJ⟩ : ∃ J, fuelN = J + 1 := ⟨999999, rfl⟩
        have bL : L ≤ b := by
          refine Classical.byContradiction fun x => ?_
          unfold tk at hk
          rw [if_pos (by omega)] at hk
          have := kd_r (B b)
          omega
        obtain ⟨a1, a2, a3, a4, a5⟩ := q1 b
        refine ⟨_, by rw [hJ, F_X8_step_L74, ck_p (by omega), pD_nj (by decide), pD_nj (by decide), e1, ck_p (by omega), if_pos bL], a1, a2, a3, ?_, a5⟩
        rw [a4]
        unfold te
        rw [if_neg (by omega), if_pos (by omega)]
      · obtain ⟨a1, a2, a3, a4, a5⟩ := q1 (rn B L k b)
        refine ⟨_, c_run (D := pD (pD D 1 3 b) 1 2 k) hB' (by rw [pD_ne (by decide), pD_ne (by decide)]; exact e2) (by rw [pD_nj (by decide), pD_nj (by decide)]; exact e1) (pD_eq _ _ _ _) (by omega) (L - b).toNat fuelN b (by omega) b0 (by omega), a1, a2, a3, ?_, a5⟩
        rw [a4]
        unfold te
        rw [if_neg (by omega), if_neg (by omega), hk]
  rw [F_X8_step_j30, ck_p (by omega), pD_nj (by decide), e1, ck_p (by omega)]
  by_cases y : L ≤ b
  · rw [if_pos y]
    exact fin 0 (by unfold tk; rw [if_neg (by omega)])
  · rw [if_neg y, ck_p (by omega), pD_ne (by decide), e2, e_kindOf (hb b b0 (by omega)), bI_q]
    exact fin _ (by unfold tk; rw [if_pos (by omega)])
theorem c_step (hB : CB B L) (e2 : D 2 = B) (e1 : D 1 1 = L) (e4 : D 1 4 = p) (p0 : 0 ≤ p) (p1 : p ≤ L) : ∃ E, F_X8_step D = some (0, E) ∧ CT B L p E ∧ Fr1 D E := by
  have hN := fN
  have hB' := hB
  obtain ⟨l0, l1, hb⟩ := hB
  have Lp : ∀ (m fuel : Nat) (q : Int), m < fuel → 0 ≤ q → q + m = L → ∃ E, F_X8_step_L5 fuel q D = some (0, E) ∧ E 1 1 = L ∧ E 1 3 = skF B q m ∧ E 1 2 = tk B L (skF B q m) ∧ E 1 4 = te B L (skF B q m) ∧ Fr1 D E := by
    intro m
    induction m with
    | zero =>
      intro fuel q hf q0 hq
      obtain ⟨j, rfl⟩ : ∃ j, fuel = j + 1 := ⟨fuel - 1, by omega⟩
      rw [F_X8_step_L5, ck_p (by omega), e1, ck_p (by omega), if_pos (by omega), skF]
      exact c_step_end hB' e2 e1 q0 (by omega)
    | succ m ih =>
      intro fuel q hf q0 hq
      obtain ⟨j, rfl⟩ : ∃ j, fuel = j + 1 := ⟨fuel - 1, by omega⟩
      have b := hb q q0 (by omega)
      rw [F_X8_step_L5, ck_p (by omega), e1, ck_p (by omega), if_neg (by omega), ck_p (by omega), e2, ck_p (by omega), skF]
      by_cases y : B q = 32
      · rw [if_pos y, if_pos y]; exact ih j (q + 1) (by omega) (by omega) (by omega)
      · rw [if_neg y, if_neg y]; exact c_step_end hB' e2 e1 q0 (by omega)
  obtain ⟨E, h1, h2, h3, h4, h5, h6⟩ := Lp (L - p).toNat fuelN p (by omega) p0 (by omega)
  refine ⟨E, by rw [F_X8_step, e4, h1], ⟨by rw [h6 2 (by decide)]; exact e2, h2, h3, h4, h5⟩, h6⟩
theorem CT.pos (h : CT B L p D) (p0 : 0 ≤ p) (p1 : p ≤ L) : 0 ≤ te B L (sk B L p) ∧ te B L (sk B L p) ≤ L ∧ 0 ≤ sk B L p ∧ sk B L p ≤ L ∧ p ≤ sk B L p ∧ (sk B L p < L → sk B L p < te B L (sk B L p)) := by
  have a := sk_r (B := B) p1
  have b := te_r (B := B) (p := sk B L p) a.2
  omega
theorem c_stepT (hB : CB B L) (h : CT B L p D) (p0 : 0 ≤ p) (p1 : p ≤ L) : ∃ E, F_X8_step D = some (0, E) ∧ CT B L (te B L (sk B L p)) E ∧ Fr1 D E := by
  have q := h.pos p0 p1
  exact c_step hB h.1 h.2.1 h.2.2.2.2 (by omega) (by omega)
/-! words -/
def wd (B : Int → Int) (L p : Int) : Int := rn B L 1 (sk B L p)
def matchF (B : Int → Int) : Int → List Int → Bool
  | _, [] => true
  | s, c :: r => decide (B s = c) && matchF B (s + 1) r
def isW (B : Int → Int) (L : Int) (tx : List Int) (p : Int) : Bool := decide (wd B L p - sk B L p = tx.length) && matchF B (sk B L p) tx
def bi (b : Bool) : Int := cond b 1 0
theorem bi_t : bi true = 1 := rfl
theorem bi_f : bi false = 0 := rfl
theorem bi_r (b : Bool) : bi b = 0 ∨ bi b = 1 := by cases b; exact Or.inl rfl; exact Or.inr rfl
theorem tx_ok : ∀ i : Nat, i < 81 → (i < 32 ∨ 54 ≤ i) → sTx i ≠ [] ∧ (sTx i).length ≤ 20 ∧ ∀ c ∈ sTx i, 97 ≤ c ∧ c ≤ 122 := by decide +kernel
theorem te_wd (h1 : tk B L (sk B L p) = 1) : te B L (sk B L p) = wd B L p := by
  unfold te wd
  rw [h1, if_neg (by decide), if_neg (by decide)]
theorem wd_no (h1 : tk B L (sk B L p) ≠ 1) : wd B L p = sk B L p := by
  unfold wd
  refine rn_stop ?_
  unfold tk at h1
  by_cases y : sk B L p < L
  · rw [if_pos y] at h1; exact Or.inr h1
  · exact Or.inl (by omega)
theorem getD_drop {l : List Int} {k : Nat} {c : Int} {r : List Int} (h : l.drop k = c :: r) : l.getD k 0 = c ∧ l.drop (k + 1) = r ∧ k < l.length := by
  have hk : k < l.length := by
    refine Classical.byContradiction fun y => ?_
    rw [List.drop_eq_nil_of_le (by omega)] at h
    cases h
  rw [List.drop_eq_getElem_cons hk] at h
  injection h with h1 h2
  exact ⟨by rw [List.getD_eq_getElem?_getD, List.getElem?_eq_getElem hk]; exact h1, h2, hk⟩
theorem c_word_L (hB : CB B L) (e2 : D 2 = B) {b : Int} (e3 : D 1 3 = b) {i : Nat} (b0 : 0 ≤ b) (b1 : b + (sTx i).length ≤ 400) (hl : (sTx i).length ≤ 20) (hr : ∀ c ∈ sTx i, 97 ≤ c ∧ c ≤ 122) : ∀ (r : List Int) (k fuel : Nat), (sTx i).drop k = r → r.length < fuel → k ≤ (sTx i).length →
    F_X8_isWord_L28 i fuel (k : Int) D = some (bi (matchF B (b + k) r), D) := by
  have sl : sLen i = (sTx i).length := rfl
  intro r
  induction r with
  | nil =>
    intro k fuel hk hf hkl
    obtain ⟨j, rfl⟩ : ∃ j, fuel = j + 1 := ⟨fuel - 1, by omega⟩
    have : (sTx i).length ≤ k := by
      have := congrArg List.length hk
      rw [List.length_drop] at this
      simp at this
      omega
    rw [F_X8_isWord_L28, ck_p (by omega), sl, ck_p (by omega), if_pos (by omega)]
    rfl
  | cons c r ih =>
    intro k fuel hk hf hkl
    simp only [List.length_cons] at hf
    obtain ⟨j, rfl⟩ : ∃ j, fuel = j + 1 := ⟨fuel - 1, by omega⟩
    obtain ⟨g1, g2, g3⟩ := getD_drop hk
    have hc : c ∈ sTx i := List.mem_of_mem_drop (by rw [hk]; exact List.mem_cons_self)
    have cr := hr c hc
    have bb := hB.2.2 (b + k) (by omega) (by omega)
    have sa : sAt i (k : Int) = c := by unfold sAt; rw [show ((k : Nat) : Int).toNat = k by omega]; exact g1
    rw [F_X8_isWord_L28, ck_p (by omega), sl, ck_p (by omega), if_neg (by omega), e3, ck_p (by omega), ck_p (by omega), e2, ck_p (by omega), sa, ck_p (by omega), matchF]
    by_cases y : B (b + k) = c
    · rw [if_pos y, show (k : Int) + 1 = ((k + 1 : Nat) : Int) by omega, ih (k + 1) j g2 (by omega) (by omega), decide_eq_true y, Bool.true_and, show b + ((k + 1 : Nat) : Int) = b + k + 1 by omega]
    · rw [if_neg y, decide_eq_false y]; rfl
theorem c_isWord (hB : CB B L) (h : CT B L p D) (p0 : 0 ≤ p) (p1 : p ≤ L) {i : Nat} (hi : i < 32) : F_X8_isWord i D = some (bi (isW B L (sTx i) p), D) := by
  have hN := fN
  have q := h.pos p0 p1
  have l4 := hB.2.1
  obtain ⟨t1, t2, t3⟩ := tx_ok i (by omega) (Or.inl hi)
  obtain ⟨h1, h2, h3, h4, h5⟩ := h
  have tl : 0 < (sTx i).length := List.length_pos_iff.mpr t1
  have sl : sLen i = (sTx i).length := rfl
  have tr := tk_r B L (sk B L p)
  rw [F_X8_isWord, h4, ck_p (by omega)]
  unfold isW
  by_cases y : tk B L (sk B L p) = 1
  · have ew := te_wd y
    rw [if_pos y, h5, h3, ck_p (by omega), sl, ck_p (by omega), ew]
    by_cases z : wd B L p - sk B L p = ((sTx i).length : Int)
    · rw [if_pos z, decide_eq_true z, Bool.true_and]
      have := c_word_L hB h1 h3 (i := i) q.2.2.1 (by omega) t2 t3 (sTx i) 0 fuelN rfl (by omega) (by omega)
      rw [show ((0 : Nat) : Int) = 0 from rfl, Int.add_zero] at this
      exact this
    · rw [if_neg z, decide_eq_false z]; rfl
  · rw [if_neg y, wd_no y, decide_eq_false (by omega)]; rfl
/-! the reference -/
def RT (B : Int → Int) (L : Int) (R : mD) : Prop := R 133 11 = L ∧ ∀ j, 0 ≤ j → j < 400 → -128 ≤ R 139 j ∧ R 139 j ≤ 127 ∧ B j = R 139 j % 256
def posD (R : mD) (q b : Int) : mD := pD (pD R 133 10 q) 133 12 b
theorem pos_f (R : mD) (q b : Int) : posD R q b 133 10 = q ∧ posD R q b 133 12 = b ∧ (∀ a : Nat, a ≠ 133 → posD R q b a = R a) ∧ ∀ i : Int, i ≠ 10 → i ≠ 12 → posD R q b 133 i = R 133 i :=
  ⟨by unfold posD; rw [pD_nj (by decide), pD_eq], by unfold posD; rw [pD_eq], fun a ha => by unfold posD; rw [pD_ne ha, pD_ne ha], fun i h1 h2 => by unfold posD; rw [pD_nj h2, pD_nj h1]⟩
theorem pD_self (D : mD) (a : Nat) (i : Int) : pD D a i (D a i) = D := by
  unfold pD
  rw [sI_self]
  exact sA_self D a
theorem pD_sw (D : mD) (a : Nat) {i j : Int} (u v : Int) (h : i ≠ j) : pD (pD D a i u) a j v = pD (pD D a j v) a i u := by
  funext b k
  unfold pD sA sI
  by_cases q : b = a
  · simp only [q, if_true]
    by_cases x : k = i
    · by_cases y : k = j
      · exact absurd (x.symm.trans y) h
      · simp [x, h]
    · by_cases y : k = j
      · have hji : ¬ j = i := fun e => h e.symm
        simp [y, hji]
      · simp [x, y]
  · simp [q]
theorem pos_pos (R : mD) (q b q' b' : Int) : posD (posD R q b) q' b' = posD R q' b' := by
  unfold posD
  rw [pD_sw (pD R 133 10 q) 133 b q' (by decide), pD_pD, pD_pD]
theorem pos_10 (R : mD) (q b q' : Int) : pD (posD R q b) 133 10 q' = posD R q' b := by
  unfold posD
  rw [pD_sw (pD R 133 10 q) 133 b q' (by decide), pD_pD]
theorem RT.pos (h : RT B L R) (q b : Int) : RT B L (posD R q b) := by
  have f := pos_f R q b
  unfold RT at h ⊢
  rw [f.2.2.2 11 (by decide) (by decide), f.2.2.1 139 (by decide)]
  exact h
theorem RT.go {R' : mD} (h : RT B L R) (h1 : R' 133 11 = R 133 11) (h2 : R' 139 = R 139) : RT B L R' := by
  unfold RT at h ⊢
  rw [h1, h2]
  exact h
theorem r_isAt (hB : CB B L) (h : RT B L R) {q lo hi : Int} (e : R 133 10 = q) (q0 : 0 ≤ q) (q1 : q ≤ L) (hlo : 0 ≤ lo ∧ lo ≤ 127) (hhi : 0 ≤ hi ∧ hi ≤ 127) : F_X12_isAt lo hi R = some (bi (decide (q < L ∧ lo ≤ B q ∧ B q ≤ hi)), R) := by
  obtain ⟨l0, l1, hb⟩ := hB
  obtain ⟨h1, h2⟩ := h
  by_cases y : L ≤ q
  · rw [F_X12_isAt, e, ck_p (by omega), h1, ck_p (by omega), ck_p (fun z => absurd y z), ck_p (fun z => absurd y z), ck_p (fun z => absurd y z), ck_p (fun z => absurd y z), if_pos y, ck_p (Or.inl rfl), decide_eq_false (by omega)]; rfl
  · have g := h2 q q0 (by omega)
    rw [F_X12_isAt, e, ck_p (by omega), h1, ck_p (by omega), ck_p (fun z => by omega), ck_p (fun z => by omega), ck_p (fun z => by omega), ck_p (fun z _ => by omega), if_neg y]
    by_cases x1 : R 139 q < lo
    · rw [if_pos x1, ck_p (Or.inl rfl), decide_eq_false (by omega)]; rfl
    · rw [if_neg x1]
      by_cases x2 : hi < R 139 q
      · rw [if_pos x2, ck_p (Or.inl rfl), decide_eq_false (by omega)]; rfl
      · rw [if_neg x2, ck_p (Or.inr rfl), decide_eq_true (by omega)]; rfl
theorem r_blanks (hB : CB B L) (h : RT B L R) (e : R 133 10 = p) (p0 : 0 ≤ p) (p1 : p ≤ L) : F_X12_blanks R = some (0, posD R (sk B L p) (sk B L p)) := by
  have hN := fN
  have l4 := hB.2.1
  have Lp : ∀ (m fuel : Nat) (q : Int), m < fuel → 0 ≤ q → q + m = L → F_X12_blanks_L0 fuel (pD R 133 10 q) = some (0, posD R (skF B q m) (skF B q m)) := by
    intro m
    induction m with
    | zero =>
      intro fuel q hf q0 hq
      obtain ⟨j, rfl⟩ : ∃ j, fuel = j + 1 := ⟨fuel - 1, by omega⟩
      have ia := r_isAt (R := pD R 133 10 q) (q := q) (lo := 32) (hi := 32) hB (h.go (by rw [pD_nj (by decide)]) (pD_ne (by decide))) (pD_eq _ _ _ _) q0 (by omega) (by decide) (by decide)
      rw [F_X12_blanks_L0, ia, bI_q, decide_eq_false (by omega)]
      rw [bi_f]
      rw [ck_p (by decide), if_pos rfl, pD_eq, skF]
      rfl
    | succ m ih =>
      intro fuel q hf q0 hq
      obtain ⟨j, rfl⟩ : ∃ j, fuel = j + 1 := ⟨fuel - 1, by omega⟩
      have ia := r_isAt (R := pD R 133 10 q) (q := q) (lo := 32) (hi := 32) hB (h.go (by rw [pD_nj (by decide)]) (pD_ne (by decide))) (pD_eq _ _ _ _) q0 (by omega) (by decide) (by decide)
      rw [F_X12_blanks_L0, ia, bI_q, skF]
      by_cases y : B q = 32
      · rw [decide_eq_true (by omega), if_pos y]
        rw [bi_t]
        rw [ck_p (by decide), if_neg (by decide), pD_eq, pD_pD, ih j (q + 1) (by omega) (by omega) (by omega)]
      · rw [decide_eq_false (by omega), if_neg y]
        rw [bi_f]
        rw [ck_p (by decide), if_pos rfl, pD_eq]
        rfl
  have := Lp (L - p).toNat fuelN p (by omega) p0 (by omega)
  rw [show pD R 133 10 p = R by rw [← e]; exact pD_self R 133 10] at this
  exact this
theorem r_run (hB : CB B L) (h : RT B L R) {b k : Int} {lo hi : Int} (hk : (k = 1 ∧ lo = 97 ∧ hi = 122) ∨ (k = 2 ∧ lo = 48 ∧ hi = 57)) {q : Int} (q0 : 0 ≤ q) (q1 : q ≤ L) : F_X12_isAt lo hi (posD R q b) = some (bi (decide (q < L ∧ kd (B q) = k)), posD R q b) := by
  have f := pos_f R q b
  rw [r_isAt (R := posD R q b) hB (h.pos q b) f.1 q0 q1 (by omega) (by omega)]
  congr 2
  congr 1
  apply decide_eq_decide.mpr
  unfold kd
  constructor
  · intro z
    refine ⟨z.1, ?_⟩
    rcases hk with hk | hk
    · rw [if_pos (by omega)]; omega
    · rw [if_neg (by omega), if_pos (by omega)]; omega
  · intro z
    refine ⟨z.1, ?_⟩
    have z2 := z.2
    by_cases x : 97 ≤ B q ∧ B q ≤ 122
    · rw [if_pos x] at z2; omega
    · rw [if_neg x] at z2
      by_cases x2 : 48 ≤ B q ∧ B q ≤ 57
      · rw [if_pos x2] at z2; omega
      · rw [if_neg x2] at z2; omega
theorem r_lettersPass (hB : CB B L) (h : RT B L R) (e : R 133 10 = p) (p0 : 0 ≤ p) (p1 : p ≤ L) : F_X12_lettersPass R = some (0, posD R (wd B L p) (sk B L p)) := by
  have hN := fN
  have l4 := hB.2.1
  have s := sk_r (B := B) p1
  have Lp : ∀ (m fuel : Nat) (q : Int), m < fuel → 0 ≤ q → q + m = L → F_X12_lettersPass_L4 fuel (posD R q (sk B L p)) = some (0, posD R (rn B L 1 q) (sk B L p)) := by
    intro m
    induction m with
    | zero =>
      intro fuel q hf q0 hq
      obtain ⟨j, rfl⟩ : ∃ j, fuel = j + 1 := ⟨fuel - 1, by omega⟩
      rw [F_X12_lettersPass_L4, r_run hB h (Or.inl ⟨rfl, rfl, rfl⟩) q0 (by omega), bI_q, decide_eq_false (by omega), rn_stop (Or.inl (by omega))]
      rw [bi_f]
      rw [ck_p (by decide), if_pos rfl]
    | succ m ih =>
      intro fuel q hf q0 hq
      obtain ⟨j, rfl⟩ : ∃ j, fuel = j + 1 := ⟨fuel - 1, by omega⟩
      rw [F_X12_lettersPass_L4, r_run hB h (Or.inl ⟨rfl, rfl, rfl⟩) q0 (by omega), bI_q]
      by_cases y : kd (B q) = 1
      · rw [decide_eq_true (by omega), rn_step (by omega) y]
        rw [bi_t]
        rw [ck_p (by decide), if_neg (by decide), (pos_f R q (sk B L p)).1, pos_10, ih j (q + 1) (by omega) (by omega) (by omega)]
      · rw [decide_eq_false (by omega), rn_stop (Or.inr y)]
        rw [bi_f]
        rw [ck_p (by decide), if_pos rfl]
  rw [F_X12_lettersPass, r_blanks hB h e p0 p1, bI_q]
  exact Lp (L - sk B L p).toNat fuelN (sk B L p) (by omega) (by omega) (by omega)
theorem r_word_L (hB : CB B L) (h : RT B L R) {b : Int} (e : R 133 12 = b) {i : Nat} (b0 : 0 ≤ b) (b1 : b + (sTx i).length ≤ 400) (hl : (sTx i).length ≤ 20) (hr : ∀ c ∈ sTx i, 97 ≤ c ∧ c ≤ 122) : ∀ (r : List Int) (k fuel : Nat), (sTx i).drop k = r → r.length + 1 < fuel → k ≤ (sTx i).length →
    F_X12_isWord_L24 i fuel 1 (k : Int) R = some (bi (matchF B (b + k) r), R) := by
  have sl : sLen i = (sTx i).length := rfl
  intro r
  induction r with
  | nil =>
    intro k fuel hk hf hkl
    obtain ⟨j, rfl⟩ : ∃ j, fuel = j + 1 := ⟨fuel - 1, by omega⟩
    have : (sTx i).length ≤ k := by
      have := congrArg List.length hk
      rw [List.length_drop] at this
      simp at this
      omega
    rw [F_X12_isWord_L24, ck_p (by decide), if_neg (by decide), ck_p (by omega), sl, ck_p (by omega), if_pos (by omega), ck_p (Or.inr rfl)]
    rfl
  | cons c r ih =>
    intro k fuel hk hf hkl
    simp only [List.length_cons] at hf
    obtain ⟨j, rfl⟩ : ∃ j, fuel = j + 1 := ⟨fuel - 1, by omega⟩
    obtain ⟨g1, g2, g3⟩ := getD_drop hk
    have hc : c ∈ sTx i := List.mem_of_mem_drop (by rw [hk]; exact List.mem_cons_self)
    have cr := hr c hc
    have bb := h.2 (b + k) (by omega) (by omega)
    have sa : sAt i (k : Int) = c := by unfold sAt; rw [show ((k : Nat) : Int).toNat = k by omega]; exact g1
    rw [F_X12_isWord_L24, ck_p (by decide), if_neg (by decide), ck_p (by omega), sl, ck_p (by omega), if_neg (by omega), e, ck_p (by omega), ck_p (by omega), ck_p (by omega), sa, ck_p (by omega), matchF]
    by_cases y : B (b + k) = c
    · rw [if_pos (by omega), show (k : Int) + 1 = ((k + 1 : Nat) : Int) by omega, ih (k + 1) j g2 (by omega) (by omega), decide_eq_true y, Bool.true_and, show b + ((k + 1 : Nat) : Int) = b + k + 1 by omega]
    · obtain ⟨j', rfl⟩ : ∃ j', j = j' + 1 := ⟨j - 1, by omega⟩
      rw [if_neg (by omega), decide_eq_false y, F_X12_isWord_L24, ck_p (by decide), if_pos rfl, ck_p (Or.inl rfl)]; rfl
/-- behind lettersPass -/
theorem r_isWord (hB : CB B L) (h : RT B L R) (p0 : 0 ≤ p) (p1 : p ≤ L) {i : Nat} (hi : 54 ≤ i ∧ i < 81) : F_X12_isWord i (posD R (wd B L p) (sk B L p)) = some (bi (isW B L (sTx i) p), posD R (wd B L p) (sk B L p)) := by
  have hN := fN
  have l4 := hB.2.1
  have s := sk_r (B := B) p1
  have w := rn_r (B := B) (k := 1) (p := sk B L p) s.2
  have f := pos_f R (wd B L p) (sk B L p)
  obtain ⟨t1, t2, t3⟩ := tx_ok i (by omega) (Or.inr hi.1)
  have tl : 0 < (sTx i).length := List.length_pos_iff.mpr t1
  have sl : sLen i = (sTx i).length := rfl
  unfold wd at *
  rw [F_X12_isWord, f.1, f.2.1, ck_p (by omega), sl, ck_p (by omega)]
  unfold isW wd
  by_cases z : rn B L 1 (sk B L p) - sk B L p = ((sTx i).length : Int)
  · rw [if_pos z, decide_eq_true z, Bool.true_and]
    have := r_word_L (R := posD R (rn B L 1 (sk B L p)) (sk B L p)) hB (h.pos _ _) f.2.1 (i := i) (by omega) (by omega) t2 t3 (sTx i) 0 fuelN rfl (by omega) (by omega)
    rw [show ((0 : Nat) : Int) = 0 from rfl, Int.add_zero] at this
    exact this
  · obtain ⟨J, hJ⟩ : ∃ J, fuelN = J + 1 := ⟨999999, rfl⟩
    rw [if_neg z, decide_eq_false z, hJ, F_X12_isWord_L24, ck_p (by decide), if_pos rfl, ck_p (Or.inl rfl)]; rfl
end PW0
