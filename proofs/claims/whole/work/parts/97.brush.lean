/-! FEWEST DAYS: numbers whose bits are letters -/
section PB2
def allB : Nat → (Nat → Bool) → Bool
  | 0, _ => true
  | k + 1, f => (f k) && allB k f
def anyB : Nat → (Nat → Bool) → Bool
  | 0, _ => false
  | k + 1, f => (f k) || anyB k f
theorem allB_i : ∀ (k : Nat) (f : Nat → Bool), allB k f = true → ∀ j, j < k → f j = true := by
  intro k
  induction k with
  | zero => intro f _ j h; omega
  | succ k ih =>
    intro f h j hj
    rw [allB, Bool.and_eq_true] at h
    by_cases y : j = k
    · rw [y]; exact h.1
    · exact ih f h.2 j (by omega)
theorem anyB_i : ∀ (k : Nat) (f : Nat → Bool), anyB k f = true → ∃ j, j < k ∧ f j = true := by
  intro k
  induction k with
  | zero => intro f h; exact absurd h (by simp [anyB])
  | succ k ih =>
    intro f h
    rw [anyB, Bool.or_eq_true] at h
    rcases h with h | h
    · exact ⟨k, by omega, h⟩
    · obtain ⟨j, a, b⟩ := ih f h
      exact ⟨j, by omega, b⟩
/-- bit k -/
def tbN (m k : Nat) : Bool := Nat.beq (m / 2 ^ k % 2) 1
theorem tbN_eq (m k : Nat) : tbN m k = m.testBit k := by
  unfold tbN
  rw [Nat.testBit_eq_decide_div_mod_eq]
  by_cases q : m / 2 ^ k % 2 = 1
  · rw [q]; rfl
  · have : m / 2 ^ k % 2 = 0 := by omega
    rw [this]; rfl
/-- how many of the first k bits -/
def pcN : Nat → Nat → Nat
  | 0, _ => 0
  | k + 1, m => pcN k m + cond (tbN m k) 1 0
/-- letters beside: b is 15 for none -/
def bsB (b : Nat) : Nat := if b < 14 then 2 ^ (b + 1) ||| 2 ^ b / 2 else 0
def npN (m c b : Nat) : Bool := match c with
  | 1 => Nat.beq (m &&& (m ^^^ bsB b)) 0
  | 2 => Nat.beq (m &&& (m ^^^ bsB b)) 0 || !(Nat.beq (m &&& m * 2) 0)
  | 3 => !(Nat.beq (m &&& m * 2 &&& m * 4) 0)
  | _ => false
/-- of a set of letters and the wet one: what the fewest days must satisfy -/
def chW (m c b : Nat) : Bool :=
  if Nat.ble 5 c then anyB 14 fun l => tbN m l && !(tbN (bsB b) l)
  else (if npN m c b then (allB 14 fun l => !(tbN m l) || tbN (bsB b) l || npN (m ^^^ 2 ^ l) (c - 1) l) && ((Nat.ble b 13 && !(npN m c 14)) || anyB 14 fun l => tbN m l && !(tbN (bsB b) l))
    else anyB 14 fun l => tbN m l && !(tbN (bsB b) l) && !(npN (m ^^^ 2 ^ l) (c - 1) l))
def chM (m : Nat) : Bool := Nat.beq m 0 || allB 15 fun b => chW m (pcN 14 m) b
theorem ch_0 : (allB 16 fun i => allB 128 fun j => chM (0 + (128 * i + j))) = true := by decide +kernel
theorem ch_1 : (allB 16 fun i => allB 128 fun j => chM (2048 + (128 * i + j))) = true := by decide +kernel
theorem ch_2 : (allB 16 fun i => allB 128 fun j => chM (4096 + (128 * i + j))) = true := by decide +kernel
theorem ch_3 : (allB 16 fun i => allB 128 fun j => chM (6144 + (128 * i + j))) = true := by decide +kernel
theorem ch_4 : (allB 16 fun i => allB 128 fun j => chM (8192 + (128 * i + j))) = true := by decide +kernel
theorem ch_5 : (allB 16 fun i => allB 128 fun j => chM (10240 + (128 * i + j))) = true := by decide +kernel
theorem ch_6 : (allB 16 fun i => allB 128 fun j => chM (12288 + (128 * i + j))) = true := by decide +kernel
theorem ch_7 : (allB 16 fun i => allB 128 fun j => chM (14336 + (128 * i + j))) = true := by decide +kernel
theorem ch_all {m b : Nat} (hm : m < 16384) (h0 : m ≠ 0) (hb : b < 15) : chW m (pcN 14 m) b = true := by
  have h : chM m = true := by
    by_cases z0 : m < 2048
    · have h := allB_i _ _ (allB_i _ _ ch_0 ((m - 0) / 128) (by omega)) ((m - 0) % 128) (by omega)
      rw [show 0 + (128 * ((m - 0) / 128) + (m - 0) % 128) = m by omega] at h
      exact h
    by_cases z1 : m < 4096
    · have h := allB_i _ _ (allB_i _ _ ch_1 ((m - 2048) / 128) (by omega)) ((m - 2048) % 128) (by omega)
      rw [show 2048 + (128 * ((m - 2048) / 128) + (m - 2048) % 128) = m by omega] at h
      exact h
    by_cases z2 : m < 6144
    · have h := allB_i _ _ (allB_i _ _ ch_2 ((m - 4096) / 128) (by omega)) ((m - 4096) % 128) (by omega)
      rw [show 4096 + (128 * ((m - 4096) / 128) + (m - 4096) % 128) = m by omega] at h
      exact h
    by_cases z3 : m < 8192
    · have h := allB_i _ _ (allB_i _ _ ch_3 ((m - 6144) / 128) (by omega)) ((m - 6144) % 128) (by omega)
      rw [show 6144 + (128 * ((m - 6144) / 128) + (m - 6144) % 128) = m by omega] at h
      exact h
    by_cases z4 : m < 10240
    · have h := allB_i _ _ (allB_i _ _ ch_4 ((m - 8192) / 128) (by omega)) ((m - 8192) % 128) (by omega)
      rw [show 8192 + (128 * ((m - 8192) / 128) + (m - 8192) % 128) = m by omega] at h
      exact h
    by_cases z5 : m < 12288
    · have h := allB_i _ _ (allB_i _ _ ch_5 ((m - 10240) / 128) (by omega)) ((m - 10240) % 128) (by omega)
      rw [show 10240 + (128 * ((m - 10240) / 128) + (m - 10240) % 128) = m by omega] at h
      exact h
    by_cases z6 : m < 14336
    · have h := allB_i _ _ (allB_i _ _ ch_6 ((m - 12288) / 128) (by omega)) ((m - 12288) % 128) (by omega)
      rw [show 12288 + (128 * ((m - 12288) / 128) + (m - 12288) % 128) = m by omega] at h
      exact h
    by_cases z7 : m < 16384
    · have h := allB_i _ _ (allB_i _ _ ch_7 ((m - 14336) / 128) (by omega)) ((m - 14336) % 128) (by omega)
      rw [show 14336 + (128 * ((m - 14336) / 128) + (m - 14336) % 128) = m by omega] at h
      exact h
    · omega
  unfold chM at h
  rw [Bool.or_eq_true] at h
  rcases h with h | h
  · exact absurd (Nat.eq_of_beq_eq_true h) h0
  · exact allB_i _ _ h b hb
/-- Integer.bitCount of so many bits -/
def nC1 (a : Nat) : Nat := a - (a / 2 &&& 1431655765)
def nC2 (a : Nat) : Nat := (a &&& 858993459) + (a / 4 &&& 858993459)
def nC3 (a : Nat) : Nat := (a + a / 16) &&& 252645135
def nC4 (a : Nat) : Nat := a + a / 256
def nC5 (a : Nat) : Nat := a + a / 65536
def nC (a : Nat) : Nat := nC5 (nC4 (nC3 (nC2 (nC1 a)))) &&& 63
theorem nC_0 : (allB 32 fun i => allB 128 fun j => Nat.beq (nC (0 + (128 * i + j))) (pcN 14 (0 + (128 * i + j)))) = true := by decide +kernel
theorem nC_1 : (allB 32 fun i => allB 128 fun j => Nat.beq (nC (4096 + (128 * i + j))) (pcN 14 (4096 + (128 * i + j)))) = true := by decide +kernel
theorem nC_2 : (allB 32 fun i => allB 128 fun j => Nat.beq (nC (8192 + (128 * i + j))) (pcN 14 (8192 + (128 * i + j)))) = true := by decide +kernel
theorem nC_3 : (allB 32 fun i => allB 128 fun j => Nat.beq (nC (12288 + (128 * i + j))) (pcN 14 (12288 + (128 * i + j)))) = true := by decide +kernel
theorem nC_all {m : Nat} (hm : m < 16384) : nC m = pcN 14 m := by
  by_cases z0 : m < 4096
  · have h := allB_i _ _ (allB_i _ _ nC_0 ((m - 0) / 128) (by omega)) ((m - 0) % 128) (by omega)
    rw [show 0 + (128 * ((m - 0) / 128) + (m - 0) % 128) = m by omega] at h
    exact Nat.eq_of_beq_eq_true h
  by_cases z1 : m < 8192
  · have h := allB_i _ _ (allB_i _ _ nC_1 ((m - 4096) / 128) (by omega)) ((m - 4096) % 128) (by omega)
    rw [show 4096 + (128 * ((m - 4096) / 128) + (m - 4096) % 128) = m by omega] at h
    exact Nat.eq_of_beq_eq_true h
  by_cases z2 : m < 12288
  · have h := allB_i _ _ (allB_i _ _ nC_2 ((m - 8192) / 128) (by omega)) ((m - 8192) % 128) (by omega)
    rw [show 8192 + (128 * ((m - 8192) / 128) + (m - 8192) % 128) = m by omega] at h
    exact Nat.eq_of_beq_eq_true h
  by_cases z3 : m < 16384
  · have h := allB_i _ _ (allB_i _ _ nC_3 ((m - 12288) / 128) (by omega)) ((m - 12288) % 128) (by omega)
    rw [show 12288 + (128 * ((m - 12288) / 128) + (m - 12288) % 128) = m by omega] at h
    exact Nat.eq_of_beq_eq_true h
  · omega
theorem bC_n {a : Nat} (ha : a < 16384) : bC (a : Int) = ((pcN 14 a : Nat) : Int) := by
  have e1 : bC1 (a : Int) = ((nC1 a : Nat) : Int) := by
    unfold bC1 nC1
    have u := bUshr_n (a := a) (k := 1) (by omega) (by omega)
    rw [show ((1 : Nat) : Int) = 1 from rfl, show (2 : Nat) ^ 1 = 2 from rfl] at u
    have v := bAnd_n (a := a / 2) (b := 1431655765) (by omega) (by decide)
    rw [show ((1431655765 : Nat) : Int) = 1431655765 from rfl] at v
    have l : a / 2 &&& 1431655765 ≤ a / 2 := Nat.and_le_left
    rw [u, v]
    omega
  have b1 : nC1 a ≤ 16383 := by unfold nC1; omega
  have e2 : bC2 ((nC1 a : Nat) : Int) = ((nC2 (nC1 a) : Nat) : Int) := by
    unfold bC2 nC2
    have u := bUshr_n (a := nC1 a) (k := 2) (by omega) (by omega)
    rw [show ((2 : Nat) : Int) = 2 from rfl, show (2 : Nat) ^ 2 = 4 from rfl] at u
    have v := bAnd_n (a := nC1 a) (b := 858993459) (by omega) (by decide)
    have v2 := bAnd_n (a := nC1 a / 4) (b := 858993459) (by omega) (by decide)
    rw [show ((858993459 : Nat) : Int) = 858993459 from rfl] at v v2
    rw [u, v, v2]
    omega
  have b2 : nC2 (nC1 a) ≤ 32768 := by
    unfold nC2
    have l : nC1 a &&& 858993459 ≤ nC1 a := Nat.and_le_left
    have l2 : nC1 a / 4 &&& 858993459 ≤ nC1 a / 4 := Nat.and_le_left
    omega
  have e3 : bC3 ((nC2 (nC1 a) : Nat) : Int) = ((nC3 (nC2 (nC1 a)) : Nat) : Int) := by
    unfold bC3 nC3
    have u := bUshr_n (a := nC2 (nC1 a)) (k := 4) (by omega) (by omega)
    rw [show ((4 : Nat) : Int) = 4 from rfl, show (2 : Nat) ^ 4 = 16 from rfl] at u
    have v := bAnd_n (a := nC2 (nC1 a) + nC2 (nC1 a) / 16) (b := 252645135) (by omega) (by decide)
    rw [show ((252645135 : Nat) : Int) = 252645135 from rfl] at v
    rw [u, ← v, Int.natCast_add]
  have b3 : nC3 (nC2 (nC1 a)) ≤ 40000 := by
    unfold nC3
    have l : (nC2 (nC1 a) + nC2 (nC1 a) / 16) &&& 252645135 ≤ nC2 (nC1 a) + nC2 (nC1 a) / 16 := Nat.and_le_left
    omega
  have e4 : bC4 ((nC3 (nC2 (nC1 a)) : Nat) : Int) = ((nC4 (nC3 (nC2 (nC1 a))) : Nat) : Int) := by
    unfold bC4 nC4
    have u := bUshr_n (a := nC3 (nC2 (nC1 a))) (k := 8) (by omega) (by omega)
    rw [show ((8 : Nat) : Int) = 8 from rfl, show (2 : Nat) ^ 8 = 256 from rfl] at u
    rw [u]
    omega
  have b4 : nC4 (nC3 (nC2 (nC1 a))) ≤ 50000 := by unfold nC4; omega
  have e5 : bC5 ((nC4 (nC3 (nC2 (nC1 a))) : Nat) : Int) = ((nC5 (nC4 (nC3 (nC2 (nC1 a)))) : Nat) : Int) := by
    unfold bC5 nC5
    have u := bUshr_n (a := nC4 (nC3 (nC2 (nC1 a)))) (k := 16) (by omega) (by omega)
    rw [show ((16 : Nat) : Int) = 16 from rfl, show (2 : Nat) ^ 16 = 65536 from rfl] at u
    rw [u]
    omega
  have b5 : nC5 (nC4 (nC3 (nC2 (nC1 a)))) ≤ 60000 := by unfold nC5; omega
  unfold bC
  rw [e1, e2, e3, e4, e5, ← nC_all ha]
  have v := bAnd_n (a := nC5 (nC4 (nC3 (nC2 (nC1 a))))) (b := 63) (by omega) (by decide)
  rw [show ((63 : Nat) : Int) = 63 from rfl] at v
  rw [v]
  rfl
end PB2
