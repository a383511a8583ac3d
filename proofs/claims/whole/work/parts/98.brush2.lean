/-! FEWEST DAYS: both ends -/
section PB3
variable {n : Int} {D E : mD} {w : Int → Int}
theorem anyB_t : ∀ {k : Nat} {f : Nat → Bool} {j : Nat}, j < k → f j = true → anyB k f = true := by
  intro k
  induction k with
  | zero => intro f j h; omega
  | succ k ih =>
    intro f j hj h
    rw [anyB, Bool.or_eq_true]
    by_cases y : j = k
    · rw [y] at h; exact Or.inl h
    · exact Or.inr (ih (by omega) h)
theorem pc_congr : ∀ (k m m' : Nat), (∀ j, j < k → m.testBit j = m'.testBit j) → pcN k m = pcN k m' := by
  intro k
  induction k with
  | zero => intro m m' _; rfl
  | succ k ih =>
    intro m m' h
    rw [pcN, pcN, ih m m' (fun j hj => h j (by omega)), tbN_eq, tbN_eq, h k (by omega)]
theorem pc_xor : ∀ (k m l : Nat), l < k → m.testBit l = true → pcN k (m ^^^ 2 ^ l) + 1 = pcN k m := by
  intro k
  induction k with
  | zero => intro m l h; omega
  | succ k ih =>
    intro m l hl h
    rw [pcN, pcN, tbN_eq, tbN_eq, Nat.testBit_xor, Nat.testBit_two_pow]
    by_cases y : l = k
    · subst y
      rw [h, decide_eq_true (rfl : l = l), pc_congr l (m ^^^ 2 ^ l) m (fun j hj => by rw [Nat.testBit_xor, Nat.testBit_two_pow, decide_eq_false (by omega), Bool.xor_false])]
      rfl
    · rw [decide_eq_false y, Bool.xor_false]
      have := ih m l (by omega) h
      omega
theorem pc_0 : ∀ (k m : Nat), pcN k m = 0 → ∀ j, j < k → m.testBit j = false := by
  intro k
  induction k with
  | zero => intro m _ j h; omega
  | succ k ih =>
    intro m h j hj
    rw [pcN, tbN_eq] at h
    by_cases y : j = k
    · subst y
      cases hb : m.testBit j with
      | false => rfl
      | true => rw [hb] at h; simp at h
    · exact ih m (by omega) j (by omega)
theorem pc_le : ∀ (k m : Nat), pcN k m ≤ k := by
  intro k
  induction k with
  | zero => intro m; exact Nat.le_refl _
  | succ k ih =>
    intro m
    rw [pcN]
    have := ih m
    cases tbN m k <;> simp <;> omega
theorem pc_ext {m : Nat} : ∀ (d k : Nat), (∀ j, k ≤ j → m.testBit j = false) → pcN (k + d) m = pcN k m := by
  intro d
  induction d with
  | zero => intro k _; rfl
  | succ d ih =>
    intro k h
    rw [show k + (d + 1) = (k + d) + 1 by omega, pcN, ih k h, tbN_eq, h (k + d) (by omega)]
    rfl
def gN (m b : Nat) : Nat := pcN 14 m + cond (npN m (pcN 14 m) b) 1 0
theorem npN_big {m c b : Nat} (h : 4 ≤ c) : npN m c b = false := by
  unfold npN
  split <;> first | omega | rfl
theorem npN_zero {m b : Nat} : npN m 0 b = false := rfl
theorem bsB_eq {wet : Int} (h : -1 ≤ wet ∧ wet < 14) : bsB (if wet < 0 then 14 else wet.toNat) = bsN wet := by
  unfold bsB bsN
  by_cases q : wet < 0
  · rw [if_pos q, if_pos q]; rfl
  · rw [if_neg q, if_neg q, if_pos (by omega)]
theorem g_rec {m b : Nat} (hm : m < 16384) (h0 : m ≠ 0) (hb : b < 15) :
    (∀ l, l < 14 → m.testBit l = true → (bsB b).testBit l = false → gN m b ≤ 1 + gN (m ^^^ 2 ^ l) l) ∧ gN m b ≤ 1 + gN m 14 ∧
    ((b ≤ 13 ∧ gN m b = 1 + gN m 14) ∨ ∃ l, l < 14 ∧ m.testBit l = true ∧ (bsB b).testBit l = false ∧ gN m b = 1 + gN (m ^^^ 2 ^ l) l) := by
  have ch := ch_all hm h0 hb
  have c1 : 1 ≤ pcN 14 m := by
    refine Classical.byContradiction fun y => h0 ?_
    have z := pc_0 14 m (by omega)
    apply Nat.eq_of_testBit_eq
    intro j
    rw [Nat.zero_testBit]
    by_cases x : j < 14
    · exact z j x
    · exact Nat.testBit_lt_two_pow (Nat.lt_of_lt_of_le hm (show 2 ^ 14 ≤ 2 ^ j from Nat.pow_le_pow_right (by decide) (by omega)))
  have cx : ∀ l, l < 14 → m.testBit l = true → pcN 14 (m ^^^ 2 ^ l) = pcN 14 m - 1 := fun l hl h => by have := pc_xor 14 m l hl h; omega
  unfold chW at ch
  unfold gN
  by_cases c5 : 5 ≤ pcN 14 m
  · rw [if_pos (Nat.ble_eq_true_of_le c5)] at ch
    obtain ⟨l, hl, h⟩ := anyB_i _ _ ch
    rw [Bool.and_eq_true, tbN_eq, tbN_eq, Bool.not_eq_true'] at h
    refine ⟨fun l hl ht _ => ?_, ?_, Or.inr ⟨l, hl, h.1, h.2, ?_⟩⟩
    · rw [cx l hl ht, npN_big (by omega), npN_big (by omega)]; simp; omega
    · rw [npN_big (b := b) (by omega), npN_big (b := 14) (by omega)]; simp
    · rw [cx l hl h.1, npN_big (by omega), npN_big (by omega)]; simp; omega
  · rw [if_neg (fun y => c5 (Nat.le_of_ble_eq_true y))] at ch
    have cd : ∀ x : Bool, cond x 1 0 ≤ 1 := fun x => by cases x <;> decide
    by_cases q : npN m (pcN 14 m) b = true
    · rw [if_pos q, Bool.and_eq_true] at ch
      have al := allB_i _ _ ch.1
      have lb : ∀ l, l < 14 → m.testBit l = true → (bsB b).testBit l = false → npN (m ^^^ 2 ^ l) (pcN 14 m - 1) l = true := fun l hl h1 h2 => by
        have z := al l hl
        rw [Bool.or_eq_true, Bool.or_eq_true, tbN_eq, tbN_eq, h1, h2] at z
        rcases z with (z | z) | z
        · cases z
        · cases z
        · exact z
      refine ⟨fun l hl h1 h2 => ?_, ?_, ?_⟩
      · rw [cx l hl h1, lb l hl h1 h2, q]; simp; omega
      · rw [q]; simp; omega
      · have o := ch.2
        rw [Bool.or_eq_true, Bool.and_eq_true, Bool.not_eq_true'] at o
        rcases o with ⟨o1, o2⟩ | o
        · refine Or.inl ⟨Nat.le_of_ble_eq_true o1, ?_⟩
          rw [q, o2]; simp; omega
        · obtain ⟨l, hl, h⟩ := anyB_i _ _ o
          rw [Bool.and_eq_true, tbN_eq, tbN_eq, Bool.not_eq_true'] at h
          refine Or.inr ⟨l, hl, h.1, h.2, ?_⟩
          rw [cx l hl h.1, lb l hl h.1 h.2, q]; simp; omega
    · rw [if_neg q] at ch
      have q' : npN m (pcN 14 m) b = false := by simpa using q
      obtain ⟨l, hl, h⟩ := anyB_i _ _ ch
      rw [Bool.and_eq_true, Bool.and_eq_true, tbN_eq, tbN_eq, Bool.not_eq_true', Bool.not_eq_true'] at h
      refine ⟨fun l hl h1 h2 => ?_, ?_, Or.inr ⟨l, hl, h.1.1, h.1.2, ?_⟩⟩
      · rw [cx l hl h1, q']; simp; omega
      · rw [q']; simp; omega
      · rw [cx l hl h.1.1, h.2, q']; simp; omega
def unpP (w : Int → Int) : Nat → Bool := fun l => !(pntP w l)
def uM (w : Int → Int) : Nat := bitN (unpP w) (w 1).toNat
def wB (wet : Int) : Nat := if wet < 0 then 14 else wet.toNat
theorem uM_lt (hw : 0 ≤ w 1 ∧ w 1 ≤ 14) : uM w < 16384 := by
  have := bitN_nR (unpP w) (m := (w 1).toNat) (by omega)
  unfold uM
  omega
def wBrush (w : Int → Int) : Int := if pcN 14 (uM w) ≤ 12 then (gN (uM w) (wB (w 12)) : Int) else -3
theorem c_left (hw : 0 ≤ w 1 ∧ w 1 ≤ 14) : bAnd ((bShl 1 (w 1)) - 1) (bXor (wPainted w) (-1)) = (uM w : Int) := by
  have a := wAll_r hw
  unfold wAll at a
  have b := wPainted_r hw
  have h2 : 2 ^ (w 1).toNat ≤ 2 ^ 14 := Nat.pow_le_pow_right (by decide) (by omega)
  have h3 := Nat.two_pow_pos (w 1).toNat
  have hp := bitN_lt (pntP w) (w 1).toNat
  rw [a.1, show wPainted w = (bitN (pntP w) (w 1).toNat : Int) from rfl, show ((2 ^ (w 1).toNat : Nat) : Int) - 1 = ((2 ^ (w 1).toNat - 1 : Nat) : Int) by omega, bNot_n (by omega) (by omega)]
  congr 1
  apply Nat.eq_of_testBit_eq
  intro j
  unfold uM
  rw [Nat.testBit_and, Nat.testBit_xor, Nat.testBit_two_pow_sub_one, bitN_test, bitN_test]
  unfold unpP
  cases decide (j < (w 1).toNat) <;> cases pntP w j <;> rfl
theorem c_pause (hW : D 17 4 = w 12) (hw12 : -1 ≤ w 12 ∧ w 12 < 14) {m : Nat} (hm : m < 16384) : F_X10_needsPause 17 (m : Int) ((pcN 14 m : Nat) : Int) D = some (cond (npN m (pcN 14 m) (wB (w 12))) 1 0, D) := by
  have bs := bsN_t hw12
  have eb : bsB (wB (w 12)) = bsN (w 12) := bsB_eq hw12
  have hx : m &&& (m ^^^ bsN (w 12)) ≤ m := Nat.and_le_left
  have pc := pc_le 14 m
  rw [F_X10_needsPause, hW, c_beside hw12, bI_q, bNot_n (by omega) (by omega), ck_p (by omega), F_X10_needsPause_j19, ck_p (by omega)]
  have s0 : (if ((m &&& (m ^^^ bsN (w 12)) : Nat) : Int) = 0 then (1 : Int) else 0) = cond (Nat.beq (m &&& (m ^^^ bsN (w 12))) 0) 1 0 := by
    by_cases y : m &&& (m ^^^ bsN (w 12)) = 0
    · rw [y]; rfl
    · rw [if_neg (by omega), show Nat.beq (m &&& (m ^^^ bsN (w 12))) 0 = false by rw [← Bool.not_eq_true]; exact fun h => y (Nat.eq_of_beq_eq_true h)]; rfl
  have sh1 := bShl_n (a := m) (k := 1) (by omega) (by omega)
  have sh2 := bShl_n (a := m) (k := 2) (by omega) (by omega)
  rw [show ((1 : Nat) : Int) = 1 from rfl, show (2 : Nat) ^ 1 = 2 from rfl] at sh1
  rw [show ((2 : Nat) : Int) = 2 from rfl, show (2 : Nat) ^ 2 = 4 from rfl] at sh2
  have l1 : m &&& m * 2 ≤ m := Nat.and_le_left
  have l2 : m &&& m * 2 &&& m * 4 ≤ m &&& m * 2 := Nat.and_le_left
  rw [s0]
  obtain ⟨c, hc⟩ : ∃ c, c = pcN 14 m := ⟨_, rfl⟩
  rw [← hc]
  have c01 : ∀ x : Bool, cond x (1 : Int) 0 = 0 ∨ cond x (1 : Int) 0 = 1 := fun x => by cases x; exact Or.inl rfl; exact Or.inr rfl
  have cR : ∀ x : Bool, nR (cond x (1 : Int) 0) := fun x => by cases x <;> decide
  by_cases y1 : c = 1
  · rw [if_pos (by omega), ck_p (c01 _), y1]
    unfold npN
    rw [eb]
    rfl
  · rw [if_neg (by omega)]
    by_cases y2 : c = 2
    · rw [if_pos (by omega), ck_p (cR _), sh1, bAnd_n (by omega) (by omega), ck_p (fun _ => by omega), y2]
      unfold npN
      rw [eb]
      have e2 : (if ((m &&& m * 2 : Nat) : Int) = 0 then (0 : Int) else 1) = cond (!(Nat.beq (m &&& m * 2) 0)) 1 0 := by
        by_cases y : m &&& m * 2 = 0
        · rw [y]; rfl
        · rw [if_neg (by omega), show Nat.beq (m &&& m * 2) 0 = false by rw [← Bool.not_eq_true]; exact fun h => y (Nat.eq_of_beq_eq_true h)]; rfl
      rw [e2]
      cases Nat.beq (m &&& (m ^^^ bsN (w 12))) 0 <;> cases Nat.beq (m &&& m * 2) 0 <;> rfl
    · rw [if_neg (by omega)]
      by_cases y3 : c = 3
      · rw [if_pos (by omega), sh1, sh2, bAnd_n (by omega) (by omega), bAnd_n (by omega) (by omega), ck_p (by omega), y3]
        unfold npN
        have e2 : (if ((m &&& m * 2 &&& m * 4 : Nat) : Int) = 0 then (0 : Int) else 1) = cond (!(Nat.beq (m &&& m * 2 &&& m * 4) 0)) 1 0 := by
          by_cases y : m &&& m * 2 &&& m * 4 = 0
          · rw [y]; rfl
          · rw [if_neg (by omega), show Nat.beq (m &&& m * 2 &&& m * 4) 0 = false by rw [← Bool.not_eq_true]; exact fun h => y (Nat.eq_of_beq_eq_true h)]; rfl
        rw [e2, ck_p (c01 _)]
        rfl
      · rw [if_neg (by omega)]
        have : npN m c (wB (w 12)) = false := by
          by_cases y0 : c = 0
          · rw [y0]; rfl
          · exact npN_big (by omega)
        rw [this]
        rfl
theorem c_brush (R : CR n D) : F_X11_brush D = some (wBrush (D 134), D) := by
  have hr := R.wi.ra
  have hc := R.ca
  have um := uM_lt (w := D 134) (by omega)
  have pc := pc_le 14 (uM (D 134))
  rw [F_X11_brush, hc.2.1, F_X10_fewestDays, R.work.1, c_left (by omega), bC_n um, ck_p (by omega), ck_p (by omega)]
  unfold wBrush
  by_cases y : pcN 14 (uM (D 134)) ≤ 12
  · rw [if_pos (by omega), if_pos y, c_pause (w := D 134) R.work.2.1 (by omega) um, bI_q]
    unfold gN
    cases npN (uM (D 134)) (pcN 14 (uM (D 134))) (wB (D 134 12))
    · simp only [cond_false]
      rw [ck_p (by decide), if_pos trivial, bI_q]; rfl
    · simp only [cond_true]
      rw [ck_p (by decide), if_neg (by decide), bI_q]; rfl
  · rw [if_neg (by omega), if_neg y, bI_q]
end PB3
section PB4
variable {n : Int} {D E : mD} {w : Int → Int}
theorem wB_lt {wet : Int} (h : -1 ≤ wet ∧ wet < 14) : wB wet < 15 := by unfold wB; split <;> omega
theorem e_brushAt {s : Nat} {wet : Int} (hs : s < 4096) (hw : -1 ≤ wet ∧ wet < 14) : F_X12_brushAt (s : Int) wet D = some (((4096 * wB wet + s : Nat) : Int), D) := by
  have hb := wB_lt hw
  have e : (if 0 ≤ wet then wet else (14 : Int)) = (wB wet : Int) := by
    unfold wB
    by_cases y : wet < 0
    · rw [if_neg (by omega), if_pos y]; rfl
    · rw [if_pos (by omega), if_neg y]; omega
  have sh := bShl_n (a := wB wet) (k := 12) (by omega) (by omega)
  rw [show ((12 : Nat) : Int) = 12 from rfl] at sh
  rw [F_X12_brushAt, ck_p (by omega), e, sh, bOr_n (by omega) (by omega), show wB wet * 2 ^ 12 = 2 ^ 12 * wB wet by omega, ← Nat.two_pow_add_eq_or_of_lt (i := 12) (b := s) (by omega) (wB wet)]
theorem e_has {s k : Nat} (hs : s < 2147483648) (hk : k < 31) : F_X12_has (s : Int) (k : Int) D = some (if s.testBit k then 1 else 0, D) := by
  rw [F_X12_has, bit_at hs hk]
  cases s.testBit k
  · rw [if_neg (by decide), ck_p (by decide), if_neg (by decide), ck_p (Or.inl rfl)]
  · rw [if_pos rfl, ck_p (by decide), if_pos rfl, ck_p (Or.inr rfl)]
def TDo (T : Int → Int) (x L : Nat) (p : Nat → Bool) : Prop := (∀ k : Nat, k < x → 0 ≤ T k ∧ T k < L ∧ p (T k).toNat = true) ∧ (∀ k k' : Nat, k < k' → k' < x → T k < T k') ∧ ∀ l : Nat, l < L → p l = true → ∃ k : Nat, k < x ∧ T k = l
def mkS (T : Int → Int) (x L S : Nat) : Nat := bitN (fun l => anyB x fun k => !(S.testBit k) && decide (T (k : Int) = (l : Int))) L
theorem mk_iff {T : Int → Int} {x L S l : Nat} : (mkS T x L S).testBit l = true ↔ l < L ∧ ∃ k : Nat, k < x ∧ S.testBit k = false ∧ T k = l := by
  unfold mkS
  rw [bitN_test, Bool.and_eq_true, decide_eq_true_eq]
  constructor
  · rintro ⟨h1, h2⟩
    obtain ⟨k, k1, k2⟩ := anyB_i _ _ h2
    rw [Bool.and_eq_true, Bool.not_eq_true', decide_eq_true_eq] at k2
    exact ⟨h1, k, k1, k2.1, k2.2⟩
  · rintro ⟨h1, k, k1, k2, k3⟩
    refine ⟨h1, anyB_t k1 ?_⟩
    rw [k2, decide_eq_true k3]
    rfl
theorem mk_lt {T : Int → Int} {x L S : Nat} (hL : L ≤ 14) : mkS T x L S < 16384 := by
  have := bitN_nR (fun l => anyB x fun k => !(S.testBit k) && decide (T (k : Int) = (l : Int))) (m := L) hL
  unfold mkS
  omega
theorem tb_eq {a b : Nat} (h : ∀ l, a.testBit l = true ↔ b.testBit l = true) : a = b := by
  apply Nat.eq_of_testBit_eq
  intro l
  exact Bool.eq_iff_iff.mpr (h l)
theorem mk_or {T : Int → Int} {x L S k : Nat} {p : Nat → Bool} (td : TDo T x L p) (hk : k < x) (hS : S.testBit k = false) : mkS T x L (S ||| 2 ^ k) = mkS T x L S ^^^ 2 ^ (T k).toNat := by
  have tk := td.1 k hk
  have inj : ∀ k', k' < x → T (k' : Int) = T (k : Int) → k' = k := fun k' h1 h2 => by
    refine Classical.byContradiction fun y => ?_
    by_cases z : k' < k
    · have := td.2.1 k' k z hk; omega
    · have := td.2.1 k k' (by omega) h1; omega
  apply Nat.eq_of_testBit_eq
  intro l
  rw [Nat.testBit_xor, Nat.testBit_two_pow]
  by_cases y : (T k).toNat = l
  · rw [decide_eq_true y]
    have a : (mkS T x L S).testBit l = true := mk_iff.mpr ⟨by omega, k, hk, hS, by omega⟩
    have b : (mkS T x L (S ||| 2 ^ k)).testBit l = false := by
      rw [← Bool.not_eq_true]
      intro h
      obtain ⟨-, k', h1, h2, h3⟩ := mk_iff.mp h
      have e := inj k' h1 (by omega)
      subst e
      rw [Nat.testBit_or, Nat.testBit_two_pow, decide_eq_true (rfl : k' = k'), Bool.or_true] at h2
      cases h2
    rw [a, b]; rfl
  · rw [decide_eq_false y, Bool.xor_false]
    apply Bool.eq_iff_iff.mpr
    rw [mk_iff, mk_iff]
    have hb : ∀ k', k' ≠ k → (S ||| 2 ^ k).testBit k' = S.testBit k' := fun k' h => by rw [Nat.testBit_or, Nat.testBit_two_pow, decide_eq_false (by omega), Bool.or_false]
    constructor
    · rintro ⟨h1, k', h2, h3, h4⟩
      have ne : k' ≠ k := fun e => by rw [e] at h4; omega
      exact ⟨h1, k', h2, by rw [← hb k' ne]; exact h3, h4⟩
    · rintro ⟨h1, k', h2, h3, h4⟩
      have ne : k' ≠ k := fun e => by rw [e] at h4; omega
      exact ⟨h1, k', h2, by rw [hb k' ne]; exact h3, h4⟩
theorem full_bits {x S : Nat} (h : S < 2 ^ x) (hn : S ≠ 2 ^ x - 1) : ∃ k, k < x ∧ S.testBit k = false := by
  refine Classical.byContradiction fun y => hn ?_
  apply Nat.eq_of_testBit_eq
  intro j
  rw [Nat.testBit_two_pow_sub_one]
  by_cases z : j < x
  · rw [decide_eq_true z]
    cases hb : S.testBit j with
    | true => rfl
    | false => exact absurd ⟨j, z, hb⟩ y
  · rw [decide_eq_false z]
    exact Nat.testBit_lt_two_pow (Nat.lt_of_lt_of_le h (Nat.pow_le_pow_right (by decide) (by omega)))
theorem mk_all {T : Int → Int} {x L : Nat} : mkS T x L (2 ^ x - 1) = 0 := by
  apply tb_eq
  intro l
  rw [mk_iff, Nat.zero_testBit]
  constructor
  · rintro ⟨-, k, h1, h2, -⟩
    rw [Nat.testBit_two_pow_sub_one, decide_eq_true h1] at h2
    cases h2
  · intro h; cases h
theorem mk_zero (hw : 0 ≤ w 1 ∧ w 1 ≤ 14) {T : Int → Int} {x : Nat} (td : TDo T x (w 1).toNat (unpP w)) : mkS T x (w 1).toNat 0 = uM w := by
  apply tb_eq
  intro l
  unfold uM
  rw [mk_iff, bitN_test, Bool.and_eq_true, decide_eq_true_eq]
  constructor
  · rintro ⟨h1, k, h2, -, h4⟩
    refine ⟨h1, ?_⟩
    have := (td.1 k h2).2.2
    rw [h4] at this
    exact this
  · rintro ⟨h1, h2⟩
    obtain ⟨k, k1, k2⟩ := td.2.2 l h1 h2
    exact ⟨h1, k, k1, Nat.zero_testBit _, k2⟩
theorem r_todo_L (H : Wi n (D 134)) (hn : n ≤ 100000) : ∀ (m fuel l x1 : Nat) (E : mD), m < fuel → l + m = (D 134 1).toNat → x1 = pcN l (uM (D 134)) → TDo (E 146) x1 l (unpP (D 134)) → (∀ a : Nat, a ≠ 146 → E a = D a) →
    ∃ E', F_X12_brush_L9 fuel (x1 : Int) (l : Int) E = (if ((pcN 14 (uM (D 134)) : Nat) : Int) ≤ 12 then F_X12_brush_L61 ((pcN 14 (uM (D 134)) : Nat) : Int) ((bShl 1 ((pcN 14 (uM (D 134)) : Nat) : Int)) - 1) fuelN ((bShl 1 ((pcN 14 (uM (D 134)) : Nat) : Int)) - 1) E' else some (-3, E')) ∧
      TDo (E' 146) (pcN 14 (uM (D 134))) (D 134 1).toNat (unpP (D 134)) ∧ ∀ a : Nat, a ≠ 146 → E' a = D a := by
  have hr := H.ra
  intro m
  induction m with
  | zero =>
    intro fuel l x1 E hf hl hx td he
    obtain ⟨j, rfl⟩ : ∃ j, fuel = j + 1 := ⟨fuel - 1, by omega⟩
    have ew : E 134 = D 134 := he 134 (by decide)
    have pe : pcN 14 (uM (D 134)) = x1 := by
      rw [hx]
      have := pc_ext (m := uM (D 134)) (14 - l) l (fun j hj => by unfold uM; rw [bitN_test, decide_eq_false (by omega)]; rfl)
      rw [show l + (14 - l) = 14 by omega] at this
      exact this
    have pl := pc_le 14 (uM (D 134))
    refine ⟨E, ?_, by rw [pe, show (D 134 1).toNat = l by omega]; exact td, he⟩
    rw [F_X12_brush_L9, F_X12_letters, bI_q, ck_p (by omega), ew, ck_p (by omega), if_pos (by omega), ck_p (by omega), pe]
  | succ m ih =>
    intro fuel l x1 E hf hl hx td he
    obtain ⟨j, rfl⟩ : ∃ j, fuel = j + 1 := ⟨fuel - 1, by omega⟩
    have ew : E 134 = D 134 := he 134 (by decide)
    have h1 := e_isPainted (D := E) (n := n) (by rw [ew]; exact H) (by omega) (l := (l : Int)) (by omega) (by rw [ew]; omega)
    rw [ew] at h1
    have pl : x1 ≤ l := by rw [hx]; exact pc_le l _
    have ps : pcN (l + 1) (uM (D 134)) = x1 + cond (unpP (D 134) l) 1 0 := by
      rw [pcN, ← hx, tbN_eq]
      unfold uM
      rw [bitN_test, decide_eq_true (by omega), Bool.true_and]
    rw [F_X12_brush_L9, F_X12_letters, bI_q, ck_p (by omega), ew, ck_p (by omega), if_neg (by omega), h1, bI_q, ck_p (b01_nR _)]
    by_cases y : 0 ≤ wL (D 134) (l : Int) 2
    · have hu : unpP (D 134) l = false := by unfold unpP pntP; rw [decide_eq_true y]; rfl
      rw [hu] at ps
      obtain ⟨E', i1, i2⟩ := ih j (l + 1) x1 E (by omega) (by omega) (by rw [ps]; rfl) ⟨fun k hk => by have := td.1 k hk; exact ⟨this.1, by omega, this.2.2⟩, td.2.1, fun l' h2 h3 => by
        by_cases z : l' = l
        · rw [z, hu] at h3; cases h3
        · exact td.2.2 l' (by omega) h3⟩ he
      refine ⟨E', ?_, i2⟩
      rw [b01_t y, if_neg (by decide), show (l : Int) + 1 = ((l + 1 : Nat) : Int) by omega, i1]
    · have hu : unpP (D 134) l = true := by unfold unpP pntP; rw [decide_eq_false y]; rfl
      rw [hu] at ps
      obtain ⟨E', i1, i2⟩ := ih j (l + 1) (x1 + 1) (pD E 146 (x1 : Int) (l : Int)) (by omega) (by omega) (by rw [ps]; rfl) ⟨fun k hk => by
        by_cases z : k = x1
        · rw [z, pD_eq]
          exact ⟨by omega, by omega, by rw [show ((l : Nat) : Int).toNat = l by omega]; exact hu⟩
        · rw [pD_nj (by omega)]
          have := td.1 k (by omega)
          exact ⟨this.1, by omega, this.2.2⟩, fun k k' h2 h3 => by
        rw [pD_nj (j := (k : Int)) (by omega)]
        by_cases z : k' = x1
        · rw [z, pD_eq]; have := (td.1 k (by omega)).2.1; omega
        · rw [pD_nj (by omega)]; exact td.2.1 k k' h2 (by omega), fun l' h2 h3 => by
        by_cases z : l' = l
        · exact ⟨x1, by omega, by rw [pD_eq, z]⟩
        · obtain ⟨k, k1, k2⟩ := td.2.2 l' (by omega) h3
          exact ⟨k, by omega, by rw [pD_nj (by omega)]; exact k2⟩⟩ (fun a ha => by rw [pD_ne ha]; exact he a ha)
      refine ⟨E', ?_, i2⟩
      rw [b01_f y, if_pos rfl, ck_p (by omega), show (l : Int) + 1 = ((l + 1 : Nat) : Int) by omega, show (x1 : Int) + 1 = ((x1 + 1 : Nat) : Int) by omega, i1]
def Tab (T : Int → Int) (x L : Nat) (E : mD) (P : Nat → Nat → Prop) : Prop := ∀ S b : Nat, S < 2 ^ x → (b = 14 ∨ b < L) → P S b → E 145 ((4096 * b + S : Nat) : Int) = (gN (mkS T x L S) b : Int)
theorem gN_le (m b : Nat) : gN m b ≤ 15 := by
  have := pc_le 14 m
  unfold gN
  cases npN m (pcN 14 m) b <;> simp <;> omega
theorem r_brushes_L {T : Int → Int} {x L S : Nat} {p : Nat → Bool} {wet : Int} {P : Nat → Nat → Prop} (td : TDo T x L p) (hL : L ≤ 14) (hx : x ≤ 12) (eT : E 146 = T) (hS : S < 2 ^ x) (hw : -1 ≤ wet ∧ wet < 14) (tab : Tab T x L E P) (hP : ∀ S' b, S < S' → P S' b) (h0 : mkS T x L S ≠ 0) :
    ∀ (m fuel k : Nat) (best : Int), m < fuel → k + m = x → (gN (mkS T x L S) (wB wet) : Int) ≤ best → best ≤ 1000000 →
      (best = gN (mkS T x L S) (wB wet) ∨ ∃ j : Nat, k ≤ j ∧ j < x ∧ S.testBit j = false ∧ (wet < 0 ∨ (Int.natAbs (T j - wet) : Int) ≠ 1) ∧ gN (mkS T x L S) (wB wet) = 1 + gN (mkS T x L S ^^^ 2 ^ (T j).toNat) (T j).toNat) →
      F_X12_brushes_L28 (x : Int) (S : Int) wet fuel best (k : Int) E = some ((gN (mkS T x L S) (wB wet) : Int), E) := by
  have hm := mk_lt (T := T) (x := x) (S := S) hL
  have rc := g_rec hm h0 (wB_lt hw)
  have hg := gN_le (mkS T x L S) (wB wet)
  have h2x : 2 ^ x ≤ 2 ^ 12 := Nat.pow_le_pow_right (by decide) hx
  intro m
  induction m with
  | zero =>
    intro fuel k best hf hk hb hb2 hor
    obtain ⟨j, rfl⟩ : ∃ j, fuel = j + 1 := ⟨fuel - 1, by omega⟩
    rw [F_X12_brushes_L28, ck_p (by omega), ck_p (by omega), if_pos (by omega)]
    rcases hor with h | ⟨j, j1, j2, -⟩
    · rw [h]
    · omega
  | succ m ih =>
    intro fuel k best hf hk hb hb2 hor
    obtain ⟨j, rfl⟩ : ∃ j, fuel = j + 1 := ⟨fuel - 1, by omega⟩
    have tk := td.1 k (by omega)
    rw [F_X12_brushes_L28, ck_p (by omega), ck_p (by omega), if_neg (by omega), e_has (by omega) (by omega), bI_q]
    have skip : (S.testBit k = true ∨ ¬ (wet < 0 ∨ (Int.natAbs (T k - wet) : Int) ≠ 1)) → F_X12_brushes_L28 (x : Int) (S : Int) wet j best ((k : Int) + 1) E = some ((gN (mkS T x L S) (wB wet) : Int), E) := fun hsk => by
      rw [show (k : Int) + 1 = ((k + 1 : Nat) : Int) by omega]
      refine ih j (k + 1) best (by omega) (by omega) hb hb2 ?_
      rcases hor with h | ⟨i, i1, i2, i3, i4, i5⟩
      · exact Or.inl h
      · refine Or.inr ⟨i, ?_, i2, i3, i4, i5⟩
        by_cases z : i = k
        · rw [z] at i3 i4
          rcases hsk with hsk | hsk
          · rw [hsk] at i3; cases i3
          · exact absurd i4 hsk
        · omega
    by_cases hb1 : S.testBit k = true
    · rw [if_pos hb1, ck_p (by decide), if_neg (by decide)]
      exact skip (Or.inl hb1)
    · have hb0 : S.testBit k = false := by simpa using hb1
      rw [if_neg hb1, ck_p (by decide), if_pos rfl, ck_p (by omega)]
      have take : (wet < 0 ∨ (Int.natAbs (T k - wet) : Int) ≠ 1) → F_X12_brushes_j63 (F_X12_brushes_L28 (x : Int) (S : Int) wet j) (x : Int) (S : Int) wet best (k : Int) E = some ((gN (mkS T x L S) (wB wet) : Int), E) := fun hal => by
        have h2k : 2 ^ k < 2 ^ x := Nat.pow_lt_pow_right (by decide) (by omega)
        have or_lt : S ||| 2 ^ k < 2 ^ x := Nat.or_lt_two_pow hS h2k
        have or_gt : S < S ||| 2 ^ k := by
          have le : S ≤ S ||| 2 ^ k := Nat.left_le_or
          have ne : S ≠ S ||| 2 ^ k := fun e => by
            have : (S ||| 2 ^ k).testBit k = true := by rw [Nat.testBit_or, Nat.testBit_two_pow, decide_eq_true (rfl : k = k), Bool.or_true]
            rw [← e, hb0] at this
            cases this
          omega
        have tb := tab (S ||| 2 ^ k) (T k).toNat or_lt (Or.inr (by omega)) (hP _ _ or_gt)
        rw [mk_or td (by omega) hb0] at tb
        have hg2 := gN_le (mkS T x L S ^^^ 2 ^ (T k).toNat) (T k).toNat
        have sh := bShl_n (a := 1) (k := k) (by omega) (by omega)
        rw [show ((1 : Nat) : Int) = 1 from rfl, Nat.one_mul] at sh
        have ewb : wB (T k) = (T k).toNat := by unfold wB; rw [if_neg (by omega)]
        have lb := rc.1 (T k).toNat (by omega) (mk_iff.mpr ⟨by omega, k, by omega, hb0, by omega⟩) (by
          rw [show bsB (wB wet) = bsN wet from bsB_eq hw, (bsN_t hw).2 _ (by omega)]
          exact decide_eq_false (by omega))
        rw [F_X12_brushes_j63, eT, ck_p (by omega), sh, bOr_n (by omega) (by omega), e_brushAt (by omega) (by omega), bI_q, ewb, ck_p (by omega), ck_p (by omega), tb, ck_p (by omega), show (k : Int) + 1 = ((k + 1 : Nat) : Int) by omega]
        refine ih j (k + 1) _ (by omega) (by omega) (by omega) (by omega) ?_
        rcases hor with h | ⟨i, i1, i2, i3, i4, i5⟩
        · exact Or.inl (by omega)
        · by_cases z : i = k
          · rw [z] at i5
            exact Or.inl (by omega)
          · exact Or.inr ⟨i, by omega, i2, i3, i4, i5⟩
      by_cases y : wet < 0
      · rw [if_pos y]; exact take (Or.inl y)
      · rw [if_neg y, ck_p (by omega), eT, ck_p (by omega), ck_p (by omega)]
        by_cases z : (Int.natAbs (T k - wet) : Int) = 1
        · rw [if_pos z]; exact skip (Or.inr (by omega))
        · rw [if_neg z]; exact take (Or.inr z)
theorem r_brushes {T : Int → Int} {x L S : Nat} {p : Nat → Bool} {wet : Int} {P : Nat → Nat → Prop} (td : TDo T x L p) (hL : L ≤ 14) (hx : x ≤ 12) (eT : E 146 = T) (hS : S < 2 ^ x) (hn : S ≠ 2 ^ x - 1) (hw : -1 ≤ wet ∧ wet < 14) (tab : Tab T x L E P) (hP : ∀ S' b, S < S' → P S' b) (hP2 : 0 ≤ wet → P S 14) :
    F_X12_brushes (x : Int) (S : Int) wet E = some ((gN (mkS T x L S) (wB wet) : Int), E) := by
  have hN := fN
  have h2x : 2 ^ x ≤ 2 ^ 12 := Nat.pow_le_pow_right (by decide) hx
  obtain ⟨k0, k1, k2⟩ := full_bits hS hn
  have tk := td.1 k0 k1
  have h0 : mkS T x L S ≠ 0 := fun e => by
    have := mk_iff (T := T) (x := x) (L := L) (S := S) (l := (T k0).toNat) |>.mpr ⟨by omega, k0, k1, k2, by omega⟩
    rw [e, Nat.zero_testBit] at this
    cases this
  have hm := mk_lt (T := T) (x := x) (S := S) hL
  have rc := g_rec hm h0 (wB_lt hw)
  have hg := gN_le (mkS T x L S) (wB wet)
  have hg14 := gN_le (mkS T x L S) 14
  have ub : (0 ≤ wet ∧ gN (mkS T x L S) (wB wet) = 1 + gN (mkS T x L S) 14) ∨ ∃ j : Nat, 0 ≤ j ∧ j < x ∧ S.testBit j = false ∧ (wet < 0 ∨ (Int.natAbs (T j - wet) : Int) ≠ 1) ∧ gN (mkS T x L S) (wB wet) = 1 + gN (mkS T x L S ^^^ 2 ^ (T j).toNat) (T j).toNat := by
    rcases rc.2.2 with ⟨h1, h2⟩ | ⟨l, l1, l2, l3, l4⟩
    · refine Or.inl ⟨?_, h2⟩
      unfold wB at h1
      by_cases y : wet < 0
      · rw [if_pos y] at h1; omega
      · omega
    · obtain ⟨-, k, h2, h3, h4⟩ := mk_iff.mp l2
      rw [show bsB (wB wet) = bsN wet from bsB_eq hw, (bsN_t hw).2 _ (by omega)] at l3
      have l3 := of_decide_eq_false l3
      exact Or.inr ⟨k, Nat.zero_le _, h2, h3, by rw [h4]; omega, by rw [h4, show ((l : Nat) : Int).toNat = l by omega]; exact l4⟩
  have loop := r_brushes_L td hL hx eT hS hw tab hP h0 x fuelN 0
  rw [F_X12_brushes, ck_p (by omega)]
  by_cases y : 0 ≤ wet
  · have tb := tab S 14 hS (Or.inl rfl) (hP2 y)
    rw [if_pos y, e_brushAt (by omega) (by omega), bI_q, show wB (-1) = 14 from rfl, ck_p (by omega), tb]
    refine loop _ (by omega) (by omega) (by omega) (by omega) ?_
    rcases ub with ⟨-, h⟩ | h
    · exact Or.inl (by omega)
    · exact Or.inr h
  · rw [if_neg y]
    refine loop _ (by omega) (by omega) (by omega) (by omega) ?_
    rcases ub with ⟨h, -⟩ | h
    · exact absurd h y
    · exact Or.inr h
theorem r_brush_in {K : Int → mD → RI} {T : Int → Int} {x S : Nat} {p : Nat → Bool} (H : Wi n (D 134)) (td : TDo T x (D 134 1).toNat p) (hx : x ≤ 12) (hS : S < 2 ^ x) (eT : D 146 = T) : ∀ (m fuel : Nat) (wet : Int) (E : mD), m < fuel → wet + m = D 134 1 → -1 ≤ wet → (∀ a : Nat, a ≠ 145 → E a = D a) →
    Tab T x (D 134 1).toNat E (fun S' b => S < S' ∨ (S' = S ∧ ((b = 14 ∧ 0 ≤ wet) ∨ (b < 14 ∧ (b : Int) < wet)))) →
    ∃ E', F_X12_brush_L68 K (x : Int) ((2 ^ x : Nat) - 1 : Int) (S : Int) fuel wet E = K ((S : Int) - 1) E' ∧ (∀ a : Nat, a ≠ 145 → E' a = D a) ∧ Tab T x (D 134 1).toNat E' (fun S' _ => S ≤ S') := by
  have hr := H.ra
  have h2x : 2 ^ x ≤ 2 ^ 12 := Nat.pow_le_pow_right (by decide) hx
  have h2p := Nat.two_pow_pos x
  intro m
  induction m with
  | zero =>
    intro fuel wet E hf hw hw1 he tab
    obtain ⟨j, rfl⟩ : ∃ j, fuel = j + 1 := ⟨fuel - 1, by omega⟩
    have ew : E 134 = D 134 := he 134 (by decide)
    refine ⟨E, ?_, he, fun S' b h1 h2 h3 => tab S' b h1 h2 ?_⟩
    · rw [F_X12_brush_L68, F_X12_letters, bI_q, ew, ck_p (by omega), ck_p (by omega), if_pos (by omega)]
    · by_cases z : S' = S
      · exact Or.inr ⟨z, by omega⟩
      · exact Or.inl (by omega)
  | succ m ih =>
    intro fuel wet E hf hw hw1 he tab
    obtain ⟨j, rfl⟩ : ∃ j, fuel = j + 1 := ⟨fuel - 1, by omega⟩
    have ew : E 134 = D 134 := he 134 (by decide)
    have wb := wB_lt (wet := wet) (by omega)
    have bat := e_brushAt (D := E) (s := S) (wet := wet) (by omega) (by omega)
    have hg := gN_le (mkS T x (D 134 1).toNat S) (wB wet)
    have next : ∃ E', F_X12_brush_L68 K (x : Int) ((2 ^ x : Nat) - 1 : Int) (S : Int) j (wet + 1) (pD E 145 ((4096 * wB wet + S : Nat) : Int) (gN (mkS T x (D 134 1).toNat S) (wB wet) : Int)) = K ((S : Int) - 1) E' ∧ (∀ a : Nat, a ≠ 145 → E' a = D a) ∧ Tab T x (D 134 1).toNat E' (fun S' _ => S ≤ S') := by
      refine ih j (wet + 1) _ (by omega) (by omega) (by omega) (fun a ha => by rw [pD_ne ha]; exact he a ha) (fun S' b h1 h2 h3 => ?_)
      by_cases z : S' = S ∧ b = wB wet
      · rw [z.1, z.2, pD_eq]
      · have hb14 : b < 15 := by omega
        rw [pD_nj (by omega)]
        refine tab S' b h1 h2 ?_
        rcases h3 with h3 | ⟨h3, h4⟩
        · exact Or.inl h3
        · refine Or.inr ⟨h3, ?_⟩
          have z2 : b ≠ wB wet := fun e => z ⟨h3, e⟩
          unfold wB at z2
          by_cases y : wet < 0
          · rw [if_pos y] at z2; omega
          · rw [if_neg y] at z2; omega
    rw [F_X12_brush_L68, F_X12_letters, bI_q, ew, ck_p (by omega), ck_p (by omega), if_neg (by omega), bat, bI_q, ck_p (by omega), ck_p (by omega)]
    by_cases y : (S : Int) = (2 ^ x : Nat) - 1
    · have eS : S = 2 ^ x - 1 := by omega
      have g0 : gN (mkS T x (D 134 1).toNat S) (wB wet) = 0 := by rw [eS, mk_all]; rfl
      rw [g0] at next
      rw [if_pos y, ck_p (by omega)]
      exact next
    · have rb := r_brushes (E := E) (wet := wet) td (by omega) hx (by rw [he 146 (by decide)]; exact eT) hS (by omega) (by omega) tab (fun S' b h => Or.inl h) (fun h => Or.inr ⟨rfl, Or.inl ⟨rfl, h⟩⟩)
      rw [if_neg y, rb, bI_q, ck_p (by omega)]
      exact next
theorem r_brush_out {T : Int → Int} {x : Nat} {p : Nat → Bool} (H : Wi n (D 134)) (td : TDo T x (D 134 1).toNat p) (hx : x ≤ 12) (eT : D 146 = T) : ∀ (m fuel : Nat) (E : mD), m < fuel → m ≤ 2 ^ x → (∀ a : Nat, a ≠ 145 → E a = D a) → Tab T x (D 134 1).toNat E (fun S' _ => m ≤ S') →
    ∃ E', F_X12_brush_L61 (x : Int) ((2 ^ x : Nat) - 1 : Int) fuel ((m : Int) - 1) E = some ((gN (mkS T x (D 134 1).toNat 0) (wB (D 134 12)) : Int), E') ∧ ∀ a : Nat, a ≠ 145 → E' a = D a := by
  have hr := H.ra
  have hN := fN
  have h2x : 2 ^ x ≤ 2 ^ 12 := Nat.pow_le_pow_right (by decide) hx
  have h2p := Nat.two_pow_pos x
  intro m
  induction m with
  | zero =>
    intro fuel E hf hm he tab
    obtain ⟨j, rfl⟩ : ∃ j, fuel = j + 1 := ⟨fuel - 1, by omega⟩
    have ew : E 134 = D 134 := he 134 (by decide)
    have wb := wB_lt (wet := D 134 12) (by omega)
    have bat := e_brushAt (D := E) (s := 0) (wet := D 134 12) (by omega) (by omega)
    rw [show ((0 : Nat) : Int) = 0 from rfl] at bat
    have vb : wB (D 134 12) = 14 ∨ wB (D 134 12) < (D 134 1).toNat := by
      unfold wB
      by_cases y : D 134 12 < 0
      · rw [if_pos y]; exact Or.inl rfl
      · rw [if_neg y]
        have := H.wet (by omega)
        omega
    have tb := tab 0 (wB (D 134 12)) h2p vb (Nat.zero_le _)
    refine ⟨E, ?_, he⟩
    rw [F_X12_brush_L61, ck_p (by omega), if_pos (by omega), ew, bat, bI_q, ck_p (by omega), tb]
  | succ m ih =>
    intro fuel E hf hm he tab
    obtain ⟨j, rfl⟩ : ∃ j, fuel = j + 1 := ⟨fuel - 1, by omega⟩
    obtain ⟨E1, i1, i2, i3⟩ := r_brush_in (K := F_X12_brush_L61 (x : Int) ((2 ^ x : Nat) - 1 : Int) j) (S := m) H td hx (by omega) eT (D 134 1 + 1).toNat fuelN (-1) E (by omega) (by omega) (by omega) he (fun S' b h1 h2 h3 => tab S' b h1 h2 (by omega))
    obtain ⟨E', k1, k2⟩ := ih j E1 (by omega) (by omega) i2 i3
    refine ⟨E', ?_, k2⟩
    rw [F_X12_brush_L61, ck_p (by omega), if_neg (by omega), show ((m + 1 : Nat) : Int) - 1 = (m : Int) by omega, i1, k1]
theorem q_brush (R : CR n D) (hn : n ≤ 100000) : AnsI n D F_X11_brush F_X12_brush := by
  have hr := R.wi.ra
  have hN := fN
  refine AnsI.ok (c_brush R) (Ke.rf R) (fun E => by simp only [F_X12_brush, pD_pD]) ?_
  intro G e z
  have H : Wi n (G 134) := by rw [e]; exact R.wi
  rw [← e] at hr ⊢
  obtain ⟨E1, h1, h2, h3⟩ := r_todo_L H hn (G 134 1).toNat fuelN 0 0 G (by omega) (by omega) rfl ⟨fun k hk => by omega, fun k k' h hk => by omega, fun l hl => by omega⟩ (fun _ _ => rfl)
  have um := uM_lt (w := G 134) (by omega)
  have pc := pc_le 14 (uM (G 134))
  unfold wBrush
  by_cases y : pcN 14 (uM (G 134)) ≤ 12
  · have E1w : E1 134 = G 134 := h3 134 (by decide)
    have h2p := Nat.two_pow_pos (pcN 14 (uM (G 134)))
    have h2x : 2 ^ pcN 14 (uM (G 134)) ≤ 2 ^ 12 := Nat.pow_le_pow_right (by decide) y
    have sh := bShl_n (a := 1) (k := pcN 14 (uM (G 134))) (by omega) (by omega)
    rw [show ((1 : Nat) : Int) = 1 from rfl, Nat.one_mul] at sh
    obtain ⟨E2, k1, k2⟩ := r_brush_out (D := E1) (T := E1 146) (x := pcN 14 (uM (G 134))) (p := unpP (G 134)) (by rw [E1w]; exact H) (by rw [E1w]; exact h2) y rfl (2 ^ pcN 14 (uM (G 134))) fuelN E1 (by omega) (Nat.le_refl _) (fun _ _ => rfl) (fun S' b a1 a2 a3 => by omega)
    rw [E1w, mk_zero (w := G 134) (by omega) h2] at k1
    rw [if_pos (by omega), sh, k1] at h1
    rw [if_pos y]
    refine ⟨E2, by rw [F_X12_brush, z]; exact h1, ⟨fun a a1 a2 a3 => by rw [k2 a (by omega), h3 a (by omega)], fun i _ => by rw [k2 133 (by decide), h3 133 (by decide)]⟩⟩
  · rw [if_neg (by omega)] at h1
    rw [if_neg y]
    exact ⟨E1, by rw [F_X12_brush, z]; exact h1, ⟨fun a a1 a2 a3 => h3 a (by omega), fun i _ => by rw [h3 133 (by decide)]⟩⟩
end PB4
