/-! THE TAPE: bytes both ways; feed, end, wrote, likely, fault -/
section PT1
variable {n : Int} {D E F G : mD} {w : Int → Int}
theorem and255z {z : Int} : bAnd z 255 = z % 256 := by
  unfold bAnd
  have h : (Int32.ofInt z &&& Int32.ofInt 255).toBitVec.toNat = ((z % 4294967296).toNat) % 256 := by
    rw [Int32.toBitVec_and, BitVec.toNat_and, show (Int32.ofInt 255).toBitVec.toNat = 2 ^ 8 - 1 from rfl, Nat.and_two_pow_sub_one_eq_mod]
    show (BitVec.ofInt 32 z).toNat % 2 ^ 8 = _
    rw [BitVec.toNat_ofInt]
    rfl
  rw [i32n h (by omega)]
  omega
theorem ushr_mod {x : Int} {s : Nat} (hx : nR x) (hs : s = 0 ∨ s = 8 ∨ s = 16 ∨ s = 24) : bAnd (bUshr x (s : Int)) 255 = x / 2 ^ s % 256 := by
  have hs32 : s < 32 := by omega
  have e : Int32.ofInt (bUshr x (s : Int)) = ((Int32.ofInt x).toUInt32 >>> ((Int32.ofInt (s : Int)).toUInt32 &&& Int32.toUInt32 31)).toInt32 := by
    unfold bUshr
    exact Int32.ofInt_toInt _
  unfold bAnd
  rw [e]
  have h : (((Int32.ofInt x).toUInt32 >>> ((Int32.ofInt (s : Int)).toUInt32 &&& Int32.toUInt32 31)).toInt32 &&& Int32.ofInt 255).toBitVec.toNat = ((x % 4294967296).toNat / 2 ^ s) % 256 := by
    rw [Int32.toBitVec_and, BitVec.toNat_and, show (Int32.ofInt 255).toBitVec.toNat = 2 ^ 8 - 1 from rfl, Nat.and_two_pow_sub_one_eq_mod]
    show ((Int32.ofInt x).toUInt32 >>> ((Int32.ofInt (s : Int)).toUInt32 &&& Int32.toUInt32 31)).toBitVec.toNat % 2 ^ 8 = _
    rw [UInt32.toBitVec_shiftRight]
    show ((Int32.ofInt x).toBitVec >>> (((Int32.ofInt (s : Int)).toUInt32 &&& Int32.toUInt32 31).toBitVec % 32).toNat).toNat % 2 ^ 8 = _
    rw [i32u s hs32, BitVec.toNat_ushiftRight, Nat.shiftRight_eq_div_pow]
    show (BitVec.ofInt 32 x).toNat / 2 ^ s % 2 ^ 8 = _
    rw [BitVec.toNat_ofInt]
    rfl
  rw [i32n h (by omega)]
  rcases hs with rfl | rfl | rfl | rfl
  · show ((((x % 4294967296).toNat / 1) % 256 : Nat) : Int) = x / 1 % 256; omega
  · show ((((x % 4294967296).toNat / 256) % 256 : Nat) : Int) = x / 256 % 256; omega
  · show ((((x % 4294967296).toNat / 65536) % 256 : Nat) : Int) = x / 65536 % 256; omega
  · show ((((x % 4294967296).toNat / 16777216) % 256 : Nat) : Int) = x / 16777216 % 256; omega
theorem shr_div {x : Int} {s : Nat} (hx : nR x) (hs : s < 32) : bShr x (s : Int) = x / 2 ^ s := by
  unfold bShr
  show ((Int32.ofInt x >>> (Int32.ofInt (s : Int) &&& 31)).toBitVec).toInt = _
  rw [Int32.toBitVec_shiftRight]
  show ((Int32.ofInt x).toBitVec.sshiftRight ((Int32.ofInt (s : Int) &&& 31).toBitVec.smod 32).toNat).toInt = _
  rw [i32s s hs, BitVec.toInt_sshiftRight]
  show (Int32.ofInt x).toInt >>> s = _
  rw [Int32.toInt_ofInt, Int.shiftRight_eq_div_pow, show Int32.size = 4294967296 from rfl, Int.bmod_eq_of_le (by omega) (by omega)]
  rfl
theorem bm256 (x : Int) : ∃ q : Int, x.bmod 256 = x - 256 * q ∧ -128 ≤ x.bmod 256 ∧ x.bmod 256 ≤ 127 := by
  refine ⟨(x - x.bmod 256) / 256, ?_, ?_, ?_⟩
  · have h : x.bmod 256 = x % 256 ∨ x.bmod 256 = x % 256 - 256 := by
      unfold Int.bmod
      simp only
      split
      · exact Or.inl rfl
      · exact Or.inr rfl
    omega
  · unfold Int.bmod
    simp only
    split <;> omega
  · unfold Int.bmod
    simp only
    split <;> omega
theorem bm32 (x : Int) : ∃ q : Int, x.bmod 4294967296 = x - 4294967296 * q := by
  refine ⟨(x - x.bmod 4294967296) / 4294967296, ?_⟩
  have h : x.bmod 4294967296 = x % 4294967296 ∨ x.bmod 4294967296 = x % 4294967296 - 4294967296 := by
    unfold Int.bmod
    simp only
    split
    · exact Or.inl rfl
    · exact Or.inr rfl
  omega
theorem i8v {z : Int} : (((Int32.ofInt z).toInt8.toInt32).toInt) = (z.bmod 4294967296).bmod 256 := by
  rw [Int8.toInt_toInt32, Int32.toInt_toInt8, Int32.toInt_ofInt]
theorem byte_val {z : Int} : ∃ q : Int, bNb (bI2b z) = z - 256 * q ∧ -128 ≤ bNb (bI2b z) ∧ bNb (bI2b z) ≤ 127 := by
  have e1 : bI2b z = (z.bmod 4294967296).bmod 256 := i8v
  have e2 : ∀ y : Int, bNb y = (y.bmod 4294967296).bmod 256 := fun y => i8v
  rw [e1, e2]
  obtain ⟨q1, h1⟩ := bm32 z
  obtain ⟨q2, h2, -, -⟩ := bm256 (z.bmod 4294967296)
  obtain ⟨q3, h3⟩ := bm32 ((z.bmod 4294967296).bmod 256)
  obtain ⟨q4, h4, h5, h6⟩ := bm256 (((z.bmod 4294967296).bmod 256).bmod 4294967296)
  exact ⟨16777216 * q1 + q2 + 16777216 * q3 + q4, by omega, h5, h6⟩
/-- one byte, both ways -/
theorem byte_both {x : Int} {s : Nat} (hx : nR x) (hs : s = 0 ∨ s = 8 ∨ s = 16 ∨ s = 24) : -128 ≤ bNb (bI2b (bShr x (s : Int))) ∧ bNb (bI2b (bShr x (s : Int))) ≤ 127 ∧ bAnd (bUshr x (s : Int)) 255 = bNb (bI2b (bShr x (s : Int))) % 256 := by
  obtain ⟨q, h1, h2, h3⟩ := byte_val (z := bShr x (s : Int))
  refine ⟨h2, h3, ?_⟩
  rw [h1, ushr_mod hx hs, shr_div hx (by omega)]
  omega
/-! feeding -/
theorem c_addNumber {x len : Int} (hx : nR x) (h0 : 0 ≤ len) (h1 : len + 4 ≤ 400) (hl : D 1 1 = len) : ∃ E, F_X8_addNumber x D = some (0, E) ∧ (∀ a : Nat, a ≠ 1 → a ≠ 2 → E a = D a) ∧ (∀ i : Int, i ≠ 1 → E 1 i = D 1 i) ∧ E 1 1 = len + 4 ∧
    (∀ j : Int, j < len ∨ len + 4 ≤ j → E 2 j = D 2 j) ∧ ∀ k : Int, 0 ≤ k → k < 4 → E 2 (len + k) = bAnd (bUshr x (24 - 8 * k)) 255 := by
  have hN := fN
  have L : ∀ (m fuel : Nat) (k : Int) (F : mD), m < fuel → 0 ≤ k → k + m = 4 → (∀ a : Nat, a ≠ 1 → a ≠ 2 → F a = D a) → (∀ i : Int, i ≠ 1 → F 1 i = D 1 i) → F 1 1 = len + k → (∀ j : Int, j < len ∨ len + 4 ≤ j → F 2 j = D 2 j) → (∀ i : Int, 0 ≤ i → i < k → F 2 (len + i) = bAnd (bUshr x (24 - 8 * i)) 255) →
      ∃ E, F_X8_addNumber_L3 x fuel (24 - 8 * k) F = some (0, E) ∧ (∀ a : Nat, a ≠ 1 → a ≠ 2 → E a = D a) ∧ (∀ i : Int, i ≠ 1 → E 1 i = D 1 i) ∧ E 1 1 = len + 4 ∧ (∀ j : Int, j < len ∨ len + 4 ≤ j → E 2 j = D 2 j) ∧ ∀ k : Int, 0 ≤ k → k < 4 → E 2 (len + k) = bAnd (bUshr x (24 - 8 * k)) 255 := by
    intro m
    induction m with
    | zero =>
      intro fuel k F hf k0 hk a1 a2 a3 a4 a5
      obtain ⟨j, rfl⟩ : ∃ j, fuel = j + 1 := ⟨fuel - 1, by omega⟩
      exact ⟨F, by rw [F_X8_addNumber_L3, ck_p (by omega), if_pos (by omega)], a1, a2, by omega, a4, fun i i0 i1 => a5 i i0 (by omega)⟩
    | succ m ih =>
      intro fuel k F hf k0 hk a1 a2 a3 a4 a5
      obtain ⟨j, rfl⟩ : ∃ j, fuel = j + 1 := ⟨fuel - 1, by omega⟩
      obtain ⟨v, hv⟩ : ∃ v, v = bAnd (bUshr x (24 - 8 * k)) 255 := ⟨_, rfl⟩
      have e1 : (pD F 2 (len + k) v) 1 1 = len + k := by rw [pD_ne (by decide)]; exact a3
      obtain ⟨E, i1, i2⟩ := ih j (k + 1) (pD (pD F 2 (len + k) v) 1 1 (len + k + 1)) (by omega) (by omega) (by omega) (fun a h1 h2 => by rw [pD_ne h1, pD_ne h2]; exact a1 a h1 h2) (fun i hi => by rw [pD_nj hi, pD_ne (by decide)]; exact a2 i hi) (by rw [pD_eq]; omega) (fun i hi => by rw [pD_ne (by decide), pD_nj (by omega)]; exact a4 i hi) (fun i h0 h1 => by
        rw [pD_ne (by decide)]
        by_cases y : i = k
        · rw [y, pD_eq, hv]
        · rw [pD_nj (by omega)]; exact a5 i h0 (by omega))
      refine ⟨E, ?_, i2⟩
      rw [F_X8_addNumber_L3, ck_p (by omega), if_neg (by omega), a3, ck_p (by omega), if_neg (by omega), ck_p (by omega), ← hv, e1, show 24 - 8 * k - 8 = 24 - 8 * (k + 1) by omega]
      exact i1
  exact L 4 fuelN 0 D (by omega) (by omega) (by omega) (fun _ _ _ => rfl) (fun _ _ => rfl) (by omega) (fun _ _ => rfl) (fun i h0 h1 => by omega)
theorem INV.tp (I : INV n D) : TapeR D := I.2.2.2.1
/-- only the tape changes -/
theorem INV.tape (I : INV n D) (hc : ∀ a : Nat, a ≠ 1 → a ≠ 2 → a ≠ 133 → a ≠ 139 → a ≠ 140 → F a = D a) (h3 : F 133 6 = D 133 6 ∧ F 133 7 = D 133 7 ∧ F 133 14 = D 133 14) (t : TapeR F) : INV n F := by
  obtain ⟨R, h, i, -, f⟩ := I
  have Q : ∀ a : Nat, 3 ≤ a → a < 133 → F a = D a := fun a h1 h2 => hc a (by omega) (by omega) (by omega) (by omega) (by omega)
  have ew : F 134 = D 134 := hc 134 (by omega) (by omega) (by omega) (by omega) (by omega)
  obtain ⟨r1, r2, r3, r4, r5⟩ := R
  refine ⟨⟨?_, ?_, ?_, ?_, ?_⟩, h.go (fun a _ _ => Q a (by omega) (by omega)) ew (hc 138 (by omega) (by omega) (by omega) (by omega) (by omega)) h3.2.1, i.go (fun a _ _ => Q a (by omega) (by omega)) (by rw [hc 0 (by omega) (by omega) (by omega) (by omega) (by omega)]) (hc 135 (by omega) (by omega) (by omega) (by omega) (by omega)) h3.1, t, ?_⟩
  · rw [ew]; exact r1
  · rw [ew]; exact r2.keep (fun a _ _ => Q a (by omega) (by omega))
  · rw [ew]; exact r3.keep (fun a _ _ => Q a (by omega) (by omega))
  · rw [ew]; exact r4.keep (fun a _ _ => Q a (by omega) (by omega))
  · unfold Ca at r5 ⊢
    rw [ew, Q 25 (by omega) (by omega)]
    exact r5
  · exact ⟨by rw [hc 0 (by omega) (by omega) (by omega) (by omega) (by omega), h3.2.2]; exact f.1, f.2.go (hc 93 (by omega) (by omega) (by omega) (by omega) (by omega)) (hc 103 (by omega) (by omega) (by omega) (by omega) (by omega))⟩
def fiveF (a b c d e : Int) (k : Int) : Int := if k = 0 then a else if k = 1 then b else if k = 2 then c else if k = 3 then d else e
theorem c_feed {a b c d e len : Int} (ha : nR a) (hb : nR b) (hc : nR c) (hd : nR d) (he : nR e) (h0 : 0 ≤ len) (h1 : len + 20 ≤ 400) (hl : D 1 1 = len) : ∃ E, F_X11_feed a b c d e D = some (len + 20, E) ∧ (∀ a : Nat, a ≠ 1 → a ≠ 2 → E a = D a) ∧ E 1 1 = len + 20 ∧
    (∀ j : Int, j < len ∨ len + 20 ≤ j → E 2 j = D 2 j) ∧ ∀ q k : Int, 0 ≤ q → q < 5 → 0 ≤ k → k < 4 → E 2 (len + 4 * q + k) = bAnd (bUshr (fiveF a b c d e q) (24 - 8 * k)) 255 := by
  obtain ⟨D1, a1, a2, a3, a4, a5, a6⟩ := c_addNumber ha h0 (by omega) hl
  obtain ⟨D2, b1, b2, b3, b4, b5, b6⟩ := c_addNumber (D := D1) hb (len := len + 4) (by omega) (by omega) a4
  obtain ⟨D3, c1, c2, c3, c4, c5, c6⟩ := c_addNumber (D := D2) hc (len := len + 4 + 4) (by omega) (by omega) b4
  obtain ⟨D4, d1, d2, d3, d4, d5, d6⟩ := c_addNumber (D := D3) hd (len := len + 4 + 4 + 4) (by omega) (by omega) c4
  obtain ⟨D5, e1, e2, e3, e4, e5, e6⟩ := c_addNumber (D := D4) he (len := len + 4 + 4 + 4 + 4) (by omega) (by omega) d4
  have e4' : D5 1 1 = len + 20 := by omega
  refine ⟨D5, ?_, fun x h1 h2 => by rw [e2 x h1 h2, d2 x h1 h2, c2 x h1 h2, b2 x h1 h2, a2 x h1 h2], e4', fun j hj => by rw [e5 j (by omega), d5 j (by omega), c5 j (by omega), b5 j (by omega), a5 j (by omega)], fun q k q0 q1 k0 k1 => ?_⟩
  · rw [F_X11_feed, F_X8_hasRoomFor, hl, ck_p (by omega), if_neg (by omega), ck_p (by decide), bI_q, ck_p (by decide), if_neg (by decide), a1, bI_q, b1, bI_q, c1, bI_q, d1, bI_q, e1, bI_q, e4']
  · obtain y | y | y | y | y : q = 0 ∨ q = 1 ∨ q = 2 ∨ q = 3 ∨ q = 4 := by omega
    all_goals subst y
    · rw [e5 _ (by omega), d5 _ (by omega), c5 _ (by omega), b5 _ (by omega), show len + 4 * 0 + k = len + k by omega, a6 k k0 k1]; rfl
    · rw [e5 _ (by omega), d5 _ (by omega), c5 _ (by omega), show len + 4 * 1 + k = len + 4 + k by omega, b6 k k0 k1]; rfl
    · rw [e5 _ (by omega), d5 _ (by omega), show len + 4 * 2 + k = len + 4 + 4 + k by omega, c6 k k0 k1]; rfl
    · rw [e5 _ (by omega), show len + 4 * 3 + k = len + 4 + 4 + 4 + k by omega, d6 k k0 k1]; rfl
    · rw [show len + 4 * 4 + k = len + 4 + 4 + 4 + 4 + k by omega, e6 k k0 k1]; rfl
theorem r_feed_L {xs : Int → Int} {len : Int} (h0 : 0 ≤ len) (h1 : len + 20 ≤ 400) : ∀ (m fuel : Nat) (k : Int) (E : mD), m < fuel → 0 ≤ k → k + m = 20 → (∀ a : Nat, a ≠ 139 → E a = D a) → D 133 9 = len → (∀ q, 0 ≤ q → q < 5 → D 140 q = xs q) → (∀ j, j < len ∨ len + k ≤ j → E 139 j = D 139 j) → (∀ i, 0 ≤ i → i < k → E 139 (len + i) = bNb (bI2b (bShr (xs (i / 4)) (24 - 8 * (i % 4))))) →
    ∃ F, F_X12_feed_L60 fuel k E = some (len + 20, F) ∧ (∀ a : Nat, a ≠ 133 → a ≠ 139 → F a = D a) ∧ (∀ i : Int, i ≠ 9 → F 133 i = D 133 i) ∧ F 133 9 = len + 20 ∧ (∀ j, j < len ∨ len + 20 ≤ j → F 139 j = D 139 j) ∧ ∀ i, 0 ≤ i → i < 20 → F 139 (len + i) = bNb (bI2b (bShr (xs (i / 4)) (24 - 8 * (i % 4)))) := by
  intro m
  induction m with
  | zero =>
    intro fuel k E hf k0 hk a1 a2 a3 a4 a5
    obtain ⟨j, rfl⟩ : ∃ j, fuel = j + 1 := ⟨fuel - 1, by omega⟩
    have e9 : E 133 9 = len := by rw [a1 133 (by decide)]; exact a2
    refine ⟨pD E 133 9 (len + 20), by rw [F_X12_feed_L60, ck_p (by omega), if_pos (by omega), pD_eq, e9], fun a h1 h2 => by rw [pD_ne h1, a1 a h2], fun i hi => by rw [pD_nj hi, a1 133 (by decide)], pD_eq _ _ _ _, fun j hj => by rw [pD_ne (by decide)]; exact a4 j (by omega), fun i i0 i1 => by rw [pD_ne (by decide)]; exact a5 i i0 (by omega)⟩
  | succ m ih =>
    intro fuel k E hf k0 hk a1 a2 a3 a4 a5
    obtain ⟨j, rfl⟩ : ∃ j, fuel = j + 1 := ⟨fuel - 1, by omega⟩
    have e9 : E 133 9 = len := by rw [a1 133 (by decide)]; exact a2
    have e140 : E 140 (k / 4) = xs (k / 4) := by rw [a1 140 (by decide)]; exact a3 _ (by omega) (by omega)
    obtain ⟨F, i1, i2⟩ := ih j (k + 1) (pD E 139 (len + k) (bNb (bI2b (bShr (xs (k / 4)) (24 - 8 * (k % 4)))))) (by omega) (by omega) (by omega) (fun a ha => by rw [pD_ne ha]; exact a1 a ha) a2 a3 (fun i hi => by rw [pD_nj (by omega)]; exact a4 i (by omega)) (fun i h0 h1 => by
      by_cases y : i = k
      · rw [y, pD_eq]
      · rw [pD_nj (by omega)]; exact a5 i h0 (by omega))
    refine ⟨F, ?_, i2⟩
    rw [F_X12_feed_L60, ck_p (by omega), if_neg (by omega), ck_p k0, ck_p (by omega), e9, ck_p (by omega), e140, i1]
theorem a_feed (I : INV n D) {a b c d e : Int} (ha : nR a) (hb : nR b) (hc : nR c) (hd : nR d) (he : nR e) : StepI n D (F_X11_feed a b c d e) (F_X12_feed a b c d e) := by
  have hN := fN
  obtain ⟨t1, t2, t3, t4⟩ := I.tp
  by_cases z : D 133 9 + 20 ≤ 400
  · obtain ⟨E, e1, e2, e3, e4, e5⟩ := c_feed (D := D) (len := D 133 9) ha hb hc hd he t2 z t1
    have E3 : E 133 = D 133 := e2 133 (by decide) (by decide)
    obtain ⟨F, f1, f2, f3, f4, f5, f6⟩ := r_feed_L (D := pD (pD (pD (pD (pD (pD E 133 0 0) 140 0 a) 140 1 b) 140 2 c) 140 3 d) 140 4 e) (xs := fiveF a b c d e) t2 z 20 fuelN 0 _ (by omega) (by omega) (by omega) (fun _ _ => rfl) (by simp (disch := omega) only [pD_ne, pD_nj, E3]) (fun q q0 q1 => by
      obtain y | y | y | y | y : q = 0 ∨ q = 1 ∨ q = 2 ∨ q = 3 ∨ q = 4 := by omega
      all_goals subst y
      · simp (disch := omega) only [pD_nj, pD_eq]; rfl
      · simp (disch := omega) only [pD_nj, pD_eq]; rfl
      · simp (disch := omega) only [pD_nj, pD_eq]; rfl
      · simp (disch := omega) only [pD_nj, pD_eq]; rfl
      · simp (disch := omega) only [pD_eq]; rfl) (fun _ _ => rfl) (fun i i0 i1 => by omega)
    have b139 : (pD (pD (pD (pD (pD (pD E 133 0 0) 140 0 a) 140 1 b) 140 2 c) 140 3 d) 140 4 e) 139 = D 139 := by simp (disch := omega) only [pD_ne]; exact e2 139 (by decide) (by decide)
    have b133 : ∀ i : Int, i ≠ 0 → (pD (pD (pD (pD (pD (pD E 133 0 0) 140 0 a) 140 1 b) 140 2 c) 140 3 d) 140 4 e) 133 i = D 133 i := fun i hi => by simp (disch := omega) only [pD_ne, pD_nj, E3]
    rw [b139] at f5
    have fo : ∀ x : Nat, x ≠ 133 → x ≠ 139 → x ≠ 140 → F x = E x := fun x h1 h2 h3 => by rw [f2 x h1 h2]; simp (disch := omega) only [pD_ne]
    refine ⟨E, D 133 9 + 20, F, e1, ?_, INV.mono (I.tape (fun x h1 h2 h3 h4 h5 => (fo x h3 h4 h5).trans (e2 x h1 h2)) ⟨?_, ?_, ?_⟩ ⟨?_, ?_, ?_, fun j j0 j1 => ?_⟩) (show n ≤ n + 1 by omega)⟩
    · rw [F_X12_feed, pD_nj (by decide), E3, ck_p (by omega), if_pos z]; exact f1
    · rw [f3 6 (by decide), b133 6 (by decide)]
    · rw [f3 7 (by decide), b133 7 (by decide)]
    · rw [f3 14 (by decide), b133 14 (by decide)]
    · rw [fo 1 (by decide) (by decide) (by decide), e3, f4]
    · rw [f4]; omega
    · rw [f4]; exact z
    · rw [fo 2 (by decide) (by decide) (by decide)]
      by_cases y : D 133 9 ≤ j ∧ j < D 133 9 + 20
      · obtain ⟨i, hi⟩ : ∃ i, i = j - D 133 9 := ⟨_, rfl⟩
        have g := f6 i (by omega) (by omega)
        rw [show D 133 9 + i = j by omega] at g
        have g2 := e5 (i / 4) (i % 4) (by omega) (by omega) (by omega) (by omega)
        rw [show D 133 9 + 4 * (i / 4) + i % 4 = j by omega] at g2
        rw [g, g2]
        have hx : nR (fiveF a b c d e (i / 4)) := by unfold fiveF; split <;> (try split) <;> (try split) <;> (try split) <;> assumption
        have hs : ((24 - 8 * (i % 4)).toNat = 0 ∨ (24 - 8 * (i % 4)).toNat = 8 ∨ (24 - 8 * (i % 4)).toNat = 16 ∨ (24 - 8 * (i % 4)).toNat = 24) ∧ (((24 - 8 * (i % 4)).toNat : Nat) : Int) = 24 - 8 * (i % 4) := by omega
        have bb := byte_both hx hs.1
        rw [hs.2] at bb
        exact bb
      · rw [f5 j (by omega)]
        have g := t4 j j0 j1
        refine ⟨g.1, g.2.1, ?_⟩
        rw [e4 j (by omega)]
        exact g.2.2
  · refine AnsI.step I ⟨D, -1, pD D 133 0 0, ?_, Ke.rf I.cr, ?_, (Qw.qt Qw.rf).1⟩
    · rw [F_X11_feed, F_X8_hasRoomFor, t1, ck_p (by omega), if_pos (by omega), ck_p (by decide), bI_q, ck_p (by decide), if_pos rfl]
    · rw [F_X12_feed, pD_nj (by decide), ck_p (by omega), if_neg z]
theorem a_end (I : INV n D) {x : Int} (hx : nR x) : StepI n D (F_X11_end x) (F_X12_end x) := by
  obtain ⟨t1, t2, t3, t4⟩ := I.tp
  by_cases z : 0 ≤ x ∧ x ≤ D 133 9
  · refine ⟨pD D 1 1 x, 1, pD (pD (pD D 1 1 x) 133 0 0) 133 9 x, ?_, ?_, INV.mono (I.tape (fun a h1 h2 h3 h4 h5 => by rw [pD_ne h3, pD_ne h3, pD_ne h1]) ⟨?_, ?_, ?_⟩ ⟨?_, ?_, ?_, fun j j0 j1 => ?_⟩) (show n ≤ n + 1 by omega)⟩
    · rw [F_X11_end, ck_p hx, if_neg (by omega), t1, ck_p (by omega), if_pos z.2]
    · rw [F_X12_end, ck_p hx, if_neg (by omega), pD_nj (by decide), pD_ne (by decide), ck_p (by omega), if_pos z.2]
    · rw [pD_nj (by decide), pD_nj (by decide), pD_ne (by decide)]
    · rw [pD_nj (by decide), pD_nj (by decide), pD_ne (by decide)]
    · rw [pD_nj (by decide), pD_nj (by decide), pD_ne (by decide)]
    · rw [pD_eq, pD_ne (by decide), pD_ne (by decide), pD_eq]
    · rw [pD_eq]; omega
    · rw [pD_eq]; omega
    · simp (disch := omega) only [pD_ne]; exact t4 j j0 j1
  · refine AnsI.step I ⟨D, 0, pD D 133 0 0, ?_, Ke.rf I.cr, ?_, (Qw.qt Qw.rf).1⟩
    · by_cases s : x < 0
      · rw [F_X11_end, ck_p hx, if_pos s]
      · rw [F_X11_end, ck_p hx, if_neg s, t1, ck_p (by omega), if_neg (by omega)]
    · by_cases s : x < 0
      · rw [F_X12_end, ck_p hx, if_pos s]
      · rw [F_X12_end, ck_p hx, if_neg s, pD_nj (by decide), ck_p (by omega), if_neg (by omega)]
theorem a_fault (I : INV n D) : StepI n D F_X11_fault F_X12_fault :=
  AnsI.step I ⟨D, D 0 15, pD D 133 0 0, rfl, Ke.rf I.cr, by rw [F_X12_fault, pD_nj (by decide), I.2.2.2.2.1], (Qw.qt Qw.rf).1⟩
/-! wrote, likely -/
def pvF (B : Int → Int) (k : Int) : Int := B k * 256 + B (k + 1)
def oF (B : Int → Int) (A : Int) : Int → Nat → Int
  | _, 0 => 0
  | k, m + 1 => (Int.natAbs (pvF B k - A) : Int) + oF B A (k + 2) m
def lkF (B : Int → Int) (A : Int) : Int → Nat → Int
  | _, 0 => 0
  | k, m + 1 => (if 10 < (Int.natAbs (pvF B k - A) : Int) then 0 else 1) + lkF B A (k + 2) m
theorem pv_r {B : Int → Int} (hB : ∀ j, 0 ≤ j → j < 400 → 0 ≤ B j ∧ B j ≤ 255) {k : Int} (h0 : 0 ≤ k) (h1 : k + 1 < 400) : 0 ≤ pvF B k ∧ pvF B k ≤ 65535 := by
  have a := hB k h0 (by omega)
  have b := hB (k + 1) (by omega) h1
  unfold pvF
  omega
theorem oF_r {B : Int → Int} (hB : ∀ j, 0 ≤ j → j < 400 → 0 ≤ B j ∧ B j ≤ 255) {A : Int} (hA : 0 ≤ A ∧ A ≤ 999) : ∀ (m : Nat) (k : Int), 0 ≤ k → k + 2 * m ≤ 400 → 0 ≤ oF B A k m ∧ oF B A k m ≤ 66000 * m := by
  intro m
  induction m with
  | zero => intro k _ _; simp [oF]
  | succ m ih =>
    intro k h0 h1
    have a := pv_r hB h0 (by omega)
    have b := ih (k + 2) (by omega) (by omega)
    rw [oF]
    omega
theorem c_pairAt {k : Int} (h0 : 0 ≤ k) (h1 : k + 1 < 400) : F_X8_pairAt k D = some (pvF (D 2) k, D) := by
  rw [F_X8_pairAt, ck_p (by omega), ck_p (fun _ => by omega), ck_p (fun _ _ => by omega), ck_p (fun _ _ => by omega), if_neg (by omega), if_pos h1]
  rfl
theorem r_toldWhite {k : Int} (h0 : 0 ≤ k) (h1 : k + 1 < 400) : F_X12_toldWhite k D = some (pvF (fun j => D 139 j % 256) k, D) := by
  rw [F_X12_toldWhite, ck_p (by omega), ck_p (by omega), and255z, and255z]
  rfl
theorem c_wrote_in {K : Int → Int → Int → mD → RX} {bytes wr0 least x A : Int} (hb : 0 ≤ bytes ∧ bytes ≤ 400 ∧ bytes % 2 = 0) (hx : 0 ≤ x ∧ x < 6) (hA : 0 ≤ A ∧ A ≤ 999) (eA : D 9 x = A) (hB : ∀ j, 0 ≤ j → j < 400 → 0 ≤ D 2 j ∧ D 2 j ≤ 255) (hw : nR wr0) (hl : nR least) :
    ∀ (m fuel : Nat) (s k : Int), m < fuel → 0 ≤ k → k + 2 * m = bytes → 0 ≤ s → s + 66000 * m ≤ 20000000 →
    F_X11_wrote_L47 K bytes wr0 least x fuel s k D = K (if wr0 = -1 then x else if least ≤ s + oF (D 2) A k m then wr0 else x) (if wr0 = -1 then s + oF (D 2) A k m else if least ≤ s + oF (D 2) A k m then least else s + oF (D 2) A k m) (x + 1) D := by
  intro m
  induction m with
  | zero =>
    intro fuel s k hf k0 hk s0 s1
    obtain ⟨j, rfl⟩ : ∃ j, fuel = j + 1 := ⟨fuel - 1, by omega⟩
    rw [F_X11_wrote_L47, ck_p (by omega), ck_p (by omega), if_pos (by omega), ck_p hw, ck_p (fun _ => by omega), ck_p (fun _ => hl), oF, Int.add_zero]
  | succ m ih =>
    intro fuel s k hf k0 hk s0 s1
    obtain ⟨j, rfl⟩ : ∃ j, fuel = j + 1 := ⟨fuel - 1, by omega⟩
    have a := pv_r hB k0 (by omega)
    rw [F_X11_wrote_L47, ck_p (by omega), ck_p (by omega), if_neg (by omega), c_pairAt k0 (by omega), bI_q, ck_p hx, eA, ck_p (by omega), ih j (s + (Int.natAbs (pvF (D 2) k - A) : Int)) (k + 2) (by omega) (by omega) (by omega) (by omega) (by omega), oF, Int.add_assoc]
def wrF (f : Int → Int) (W : Int) : Int := if W ≤ 0 then -1 else nrF f 0 1 (W - 1).toNat
theorem c_wrote_L {bytes W : Int} {f : Int → Int} (hb : 0 ≤ bytes ∧ bytes ≤ 400 ∧ bytes % 2 = 0) (hW : D 3 11 = W) (W6 : 0 ≤ W ∧ W ≤ 6) (hf : ∀ x, 0 ≤ x → x < W → 0 ≤ D 9 x ∧ D 9 x ≤ 999 ∧ f x = oF (D 2) (D 9 x) 0 (bytes / 2).toNat) (hB : ∀ j, 0 ≤ j → j < 400 → 0 ≤ D 2 j ∧ D 2 j ≤ 255) :
    ∀ (m fuel : Nat) (x b : Int), m < fuel → 1 ≤ x → x + m = W → 0 ≤ b → b < x →
    F_X11_wrote_L29 bytes fuel b (f b) x D = some (.inl (nrF f b x m), D) := by
  have hN := fN
  intro m
  induction m with
  | zero =>
    intro fuel x b hfu x0 hx b0 b1
    obtain ⟨j, rfl⟩ : ∃ j, fuel = j + 1 := ⟨fuel - 1, by omega⟩
    rw [F_X11_wrote_L29, ck_p (by omega), hW, ck_p (by omega), if_pos (by omega), nrF]
  | succ m ih =>
    intro fuel x b hfu x0 hx b0 b1
    obtain ⟨j, rfl⟩ : ∃ j, fuel = j + 1 := ⟨fuel - 1, by omega⟩
    obtain ⟨A0, A1, fx⟩ := hf x (by omega) (by omega)
    obtain ⟨B0, B1, fb⟩ := hf b b0 (by omega)
    have rb := oF_r hB ⟨B0, B1⟩ (bytes / 2).toNat 0 (by omega) (by omega)
    have i := c_wrote_in (K := F_X11_wrote_L29 bytes j) (wr0 := b) (least := f b) (A := D 9 x) hb (by omega) ⟨A0, A1⟩ rfl hB (by omega) (by omega) (bytes / 2).toNat fuelN 0 0 (by omega) (by omega) (by omega) (by omega) (by omega)
    rw [F_X11_wrote_L29, ck_p (by omega), hW, ck_p (by omega), if_neg (by omega), i, if_neg (show ¬ b = -1 by omega), if_neg (show ¬ b = -1 by omega), Int.zero_add, ← fx, nrF]
    by_cases y : f b ≤ f x
    · rw [if_pos y, if_pos y]; exact ih j (x + 1) b (by omega) (by omega) (by omega) b0 (by omega)
    · rw [if_neg y, if_neg y]; exact ih j (x + 1) x (by omega) (by omega) (by omega) (by omega) (by omega)
theorem r_offOf {bytes A x : Int} (h11 : D 133 11 = bytes) (hb : 0 ≤ bytes ∧ bytes ≤ 400 ∧ bytes % 2 = 0) (hx : 0 ≤ x ∧ x < 6) (hA : 0 ≤ A ∧ A ≤ 999) (eA : D 134 (215 + 2 * x) = A) : ∀ (m fuel : Nat) (s k : Int), m < fuel → 0 ≤ k → k + 2 * m = bytes →
    F_X12_offOf_L4 x fuel s k D = some (s + oF (fun j => D 139 j % 256) A k m, D) := by
  intro m
  induction m with
  | zero =>
    intro fuel s k hf k0 hk
    obtain ⟨j, rfl⟩ : ∃ j, fuel = j + 1 := ⟨fuel - 1, by omega⟩
    rw [F_X12_offOf_L4, ck_p (by omega), h11, ck_p (by omega), if_pos (by omega), oF, Int.add_zero]
  | succ m ih =>
    intro fuel s k hf k0 hk
    obtain ⟨j, rfl⟩ : ∃ j, fuel = j + 1 := ⟨fuel - 1, by omega⟩
    have a := pv_r (B := fun j => D 139 j % 256) (fun j _ _ => by show 0 ≤ D 139 j % 256 ∧ D 139 j % 256 ≤ 255; omega) k0 (by omega)
    rw [F_X12_offOf_L4, ck_p (by omega), h11, ck_p (by omega), if_neg (by omega), r_toldWhite k0 (by omega), bI_q, F_X12_writersWhite, ck_p (by omega), bI_q, eA, ck_p (by omega), ih j _ (k + 2) (by omega) (by omega) (by omega), oF, Int.add_assoc]
theorem r_wrote_L {bytes W : Int} {f : Int → Int} (h11 : D 133 11 = bytes) (hb : 0 ≤ bytes ∧ bytes ≤ 400 ∧ bytes % 2 = 0) (hW : D 134 7 = W) (W6 : 0 ≤ W ∧ W ≤ 6) (hf : ∀ x, 0 ≤ x → x < W → 0 ≤ D 134 (215 + 2 * x) ∧ D 134 (215 + 2 * x) ≤ 999 ∧ f x = oF (fun j => D 139 j % 256) (D 134 (215 + 2 * x)) 0 (bytes / 2).toNat) :
    ∀ (m fuel : Nat) (x b : Int), m < fuel → 1 ≤ x → x + m = W → 0 ≤ b → b < x →
    F_X12_wrote_L28 fuel b x D = some (nrF f b x m, D) := by
  have hN := fN
  have hB : ∀ j : Int, 0 ≤ j → j < 400 → 0 ≤ (fun j => D 139 j % 256) j ∧ (fun j => D 139 j % 256) j ≤ 255 := fun j _ _ => by show 0 ≤ D 139 j % 256 ∧ D 139 j % 256 ≤ 255; omega
  intro m
  induction m with
  | zero =>
    intro fuel x b hfu x0 hx b0 b1
    obtain ⟨j, rfl⟩ : ∃ j, fuel = j + 1 := ⟨fuel - 1, by omega⟩
    rw [F_X12_wrote_L28, F_X12_writers, bI_q, ck_p (by omega), hW, ck_p (by omega), if_pos (by omega), nrF]
  | succ m ih =>
    intro fuel x b hfu x0 hx b0 b1
    obtain ⟨j, rfl⟩ : ∃ j, fuel = j + 1 := ⟨fuel - 1, by omega⟩
    obtain ⟨A0, A1, fx⟩ := hf x (by omega) (by omega)
    obtain ⟨B0, B1, fb⟩ := hf b b0 (by omega)
    have rx := oF_r hB ⟨A0, A1⟩ (bytes / 2).toNat 0 (by omega) (by omega)
    have rb := oF_r hB ⟨B0, B1⟩ (bytes / 2).toNat 0 (by omega) (by omega)
    have ox : F_X12_offOf x D = some (f x, D) := by rw [F_X12_offOf, r_offOf h11 hb (by omega) ⟨A0, A1⟩ rfl (bytes / 2).toNat fuelN 0 0 (by omega) (by omega) (by omega), Int.zero_add, ← fx]
    have ob : F_X12_offOf b D = some (f b, D) := by rw [F_X12_offOf, r_offOf h11 hb (by omega) ⟨B0, B1⟩ rfl (bytes / 2).toNat fuelN 0 0 (by omega) (by omega) (by omega), Int.zero_add, ← fb]
    rw [F_X12_wrote_L28, F_X12_writers, bI_q, ck_p (by omega), hW, ck_p (by omega), if_neg (by omega), ck_p (by omega), if_neg (by omega), ox, bI_q, ob, bI_q, ck_p (by omega), ck_p (by omega), nrF]
    by_cases y : f b ≤ f x
    · rw [if_pos y]; exact ih j (x + 1) b (by omega) (by omega) (by omega) b0 (by omega)
    · rw [if_neg y]; exact ih j (x + 1) x (by omega) (by omega) (by omega) (by omega) (by omega)
/-- the tape used up -/
def useD (D : mD) : mD := pD (pD (pD (pD D 133 0 0) 133 11 (D 133 9)) 133 9 0) 133 10 0
theorem r_uses : F_X12_uses D = some (0, useD D) := by
  rw [F_X12_uses, pD_nj (by decide)]
  rfl
theorem useD_ne {a : Nat} (h : a ≠ 133) : useD D a = D a := by unfold useD; rw [pD_ne h, pD_ne h, pD_ne h, pD_ne h]
theorem useD_at {i : Int} (h0 : i ≠ 0) (h9 : i ≠ 9) (h10 : i ≠ 10) (h11 : i ≠ 11) : useD D 133 i = D 133 i := by unfold useD; rw [pD_nj h10, pD_nj h9, pD_nj h11, pD_nj h0]
theorem useD_v : useD D 133 0 = 0 ∧ useD D 133 9 = 0 ∧ useD D 133 10 = 0 ∧ useD D 133 11 = D 133 9 := by
  unfold useD
  refine ⟨?_, ?_, pD_eq _ _ _ _, ?_⟩
  · rw [pD_nj (by decide), pD_nj (by decide), pD_nj (by decide), pD_eq]
  · rw [pD_nj (by decide), pD_eq]
  · rw [pD_nj (by decide), pD_nj (by decide), pD_eq]
theorem use_end (I : INV n D) {E : mD} (hE : E = pD D 1 1 0) (hF : ∀ a : Nat, a ≠ 133 → F a = E a) (h3 : F 133 6 = D 133 6 ∧ F 133 7 = D 133 7 ∧ F 133 14 = D 133 14) (h9 : F 133 9 = 0) : INV (n + 1) F := by
  obtain ⟨t1, t2, t3, t4⟩ := I.tp
  refine (I.tape (fun a h1 h2 h4 h5 h6 => by rw [hF a h4, hE, pD_ne h1]) h3 ⟨?_, ?_, ?_, fun j j0 j1 => ?_⟩).mono (by omega)
  · rw [hF 1 (by decide), hE, pD_eq, h9]
  · rw [h9]; omega
  · rw [h9]; omega
  · rw [hF 139 (by decide), hF 2 (by decide), hE, pD_ne (by decide), pD_ne (by decide)]; exact t4 j j0 j1
theorem tape_B (I : INV n D) : (∀ j, 0 ≤ j → j < 400 → 0 ≤ D 2 j ∧ D 2 j ≤ 255) := fun j h0 h1 => by
  have := (I.tp.2.2.2 j h0 h1).2.2
  omega
theorem oF_congr {B C : Int → Int} {A : Int} : ∀ (m : Nat) (k : Int), (∀ j, k ≤ j → j < k + 2 * m → B j = C j) → oF B A k m = oF C A k m := by
  intro m
  induction m with
  | zero => intro k _; rfl
  | succ m ih =>
    intro k h
    rw [oF, oF, ih (k + 2) (fun j h1 h2 => h j (by omega) (by omega))]
    unfold pvF
    rw [h k (by omega) (by omega), h (k + 1) (by omega) (by omega)]
theorem lkF_congr {B C : Int → Int} {A : Int} : ∀ (m : Nat) (k : Int), (∀ j, k ≤ j → j < k + 2 * m → B j = C j) → lkF B A k m = lkF C A k m := by
  intro m
  induction m with
  | zero => intro k _; rfl
  | succ m ih =>
    intro k h
    rw [lkF, lkF, ih (k + 2) (fun j h1 h2 => h j (by omega) (by omega))]
    unfold pvF
    rw [h k (by omega) (by omega), h (k + 1) (by omega) (by omega)]
theorem a_wrote (I : INV n D) : Step n D [0] F_X11_wrote F_X12_wrote := by
  have R := I.cr
  have hr := R.wi.ra
  have hN := fN
  have hc := R.ca
  obtain ⟨t1, t2, t3, t4⟩ := I.tp
  have hB := tape_B I
  obtain ⟨E, hE⟩ : ∃ E, E = pD D 1 1 0 := ⟨_, rfl⟩
  have eE : ∀ a : Nat, a ≠ 1 → E a = D a := fun a h => by rw [hE, pD_ne h]
  have E3 : E 133 = D 133 := eE 133 (by decide)
  have v := useD_v (D := E)
  have ou : F_X11_useUpWhites D = some (D 133 9, E) := by rw [F_X11_useUpWhites, t1, hE]
  have iw : F_X12_isWhites E = some (if D 133 9 % 2 = 0 then 1 else 0, useD E) := by
    rw [F_X12_isWhites, r_uses, bI_q, v.2.2.2, E3, ck_p (by omega), ck_p (by omega), ck_p (by omega), ck_p (by by_cases y : D 133 9 % 2 = 0; rw [if_pos y]; exact Or.inr rfl; rw [if_neg y]; exact Or.inl rfl)]
  have fin : ∀ c : Int, INV (n + 1) (pD (useD E) 133 0 c) := fun c => use_end I hE (fun a ha => by rw [pD_ne ha, useD_ne ha]) ⟨by rw [pD_nj (by decide), useD_at (by decide) (by decide) (by decide) (by decide), E3], by rw [pD_nj (by decide), useD_at (by decide) (by decide) (by decide) (by decide), E3], by rw [pD_nj (by decide), useD_at (by decide) (by decide) (by decide) (by decide), E3]⟩ (by rw [pD_nj (by decide)]; exact v.2.1)
  have fin0 : INV (n + 1) (useD E) := use_end I hE (fun a ha => useD_ne ha) ⟨by rw [useD_at (by decide) (by decide) (by decide) (by decide), E3], by rw [useD_at (by decide) (by decide) (by decide) (by decide), E3], by rw [useD_at (by decide) (by decide) (by decide) (by decide), E3]⟩ v.2.1
  by_cases z : D 133 9 % 2 = 0
  · obtain ⟨f, hf⟩ : ∃ f : Int → Int, f = fun x => oF (D 2) (D 134 (215 + 2 * x)) 0 (D 133 9 / 2).toNat := ⟨_, rfl⟩
    have cf : ∀ x, 0 ≤ x → x < D 134 7 → 0 ≤ E 9 x ∧ E 9 x ≤ 999 ∧ f x = oF (E 2) (E 9 x) 0 (D 133 9 / 2).toNat := fun x x0 x1 => by
      have a := R.wi.wt x0 x1
      rw [eE 9 (by decide), eE 2 (by decide), (R.wt x0 x1).1, hf]
      exact ⟨a.1, a.2.1, rfl⟩
    have rf : ∀ x, 0 ≤ x → x < D 134 7 → 0 ≤ (useD E) 134 (215 + 2 * x) ∧ (useD E) 134 (215 + 2 * x) ≤ 999 ∧ f x = oF (fun j => (useD E) 139 j % 256) ((useD E) 134 (215 + 2 * x)) 0 (D 133 9 / 2).toNat := fun x x0 x1 => by
      have a := R.wi.wt x0 x1
      rw [useD_ne (by decide), useD_ne (by decide), eE 134 (by decide), eE 139 (by decide), hf]
      exact ⟨a.1, a.2.1, oF_congr _ _ (fun j j0 j1 => (t4 j (by omega) (by omega)).2.2)⟩
    have e2 : ∀ j, 0 ≤ j → j < 400 → 0 ≤ E 2 j ∧ E 2 j ≤ 255 := by rw [eE 2 (by decide)]; exact hB
    have e311 : E 3 11 = D 134 7 := by rw [eE 3 (by decide)]; exact hc.2.2.2.2.2.2.1
    have uw7 : (useD E) 134 7 = D 134 7 := by rw [useD_ne (by decide), eE 134 (by decide)]
    refine ⟨.inl (wrF f (D 134 7)), E, wrF f (D 134 7), useD E, ?_, ?_, ⟨v.1, rfl⟩, fin0⟩
    · rw [F_X11_wrote, ou, bI_q, ck_p (by omega), ck_p t2, ck_p (by omega), if_pos z]
      obtain ⟨J, hJ⟩ : ∃ J, fuelN = J + 1 := ⟨999999, rfl⟩
      rw [hJ, F_X11_wrote_L29, ck_p (by decide), e311, ck_p (by omega)]
      unfold wrF
      by_cases y : D 134 7 ≤ 0
      · rw [if_pos y, if_pos y]
      · rw [if_neg y, if_neg y]
        obtain ⟨A0, A1, f0⟩ := cf 0 (by omega) (by omega)
        rw [c_wrote_in (A := E 9 0) ⟨t2, t3, z⟩ (by omega) ⟨A0, A1⟩ rfl e2 (by decide) (by decide) (D 133 9 / 2).toNat fuelN 0 0 (by omega) (by omega) (by omega) (by omega) (by omega), if_pos rfl, if_pos rfl, Int.zero_add, ← f0]
        exact c_wrote_L ⟨t2, t3, z⟩ e311 (by omega) cf e2 (D 134 7 - 1).toNat J 1 0 (by omega) (by omega) (by omega) (by omega) (by omega)
    · rw [F_X12_wrote, iw, if_pos z, bI_q, ck_p (by decide), if_neg (by decide), F_X12_wrote_j15, t_0, bI_q, ck_p (by decide), if_pos rfl]
      obtain ⟨J, hJ⟩ : ∃ J, fuelN = J + 1 := ⟨999999, rfl⟩
      rw [hJ, F_X12_wrote_L28, F_X12_writers, bI_q, ck_p (by decide), uw7, ck_p (by omega)]
      unfold wrF
      by_cases y : D 134 7 ≤ 0
      · rw [if_pos y, if_pos y]
      · rw [if_neg y, if_neg y, ck_p (by decide), if_pos (by decide)]
        exact r_wrote_L (by rw [v.2.2.2, E3]) ⟨t2, t3, z⟩ uw7 (by omega) rf (D 134 7 - 1).toNat J 1 0 (by omega) (by omega) (by omega) (by omega) (by omega)
  · refine ⟨.inr 0, E, 0, pD (useD E) 133 0 1, ?_, ?_, ⟨0, by rw [pD_eq]; rfl, rfl⟩, fin 1⟩
    · rw [F_X11_wrote, ou, bI_q, ck_p (by omega), ck_p t2, ck_p (by omega), if_neg z]
    · rw [F_X12_wrote, iw, if_neg z, bI_q, ck_p (by decide), if_pos rfl, F_X12_wrote_j15, t_1, bI_q, ck_p (by decide), if_neg (by decide)]
theorem c_likely_L {bytes x A : Int} (hb : 0 ≤ bytes ∧ bytes ≤ 400 ∧ bytes % 2 = 0) (hx : 0 ≤ x ∧ x < 6) (hA : 0 ≤ A ∧ A ≤ 999) (eA : D 9 x = A) (hB : ∀ j, 0 ≤ j → j < 400 → 0 ≤ D 2 j ∧ D 2 j ≤ 255) : ∀ (m fuel : Nat) (s k : Int), m < fuel → 0 ≤ k → k + 2 * m = bytes →
    F_X11_likely_L32 x bytes fuel s k D = some (.inl (s + lkF (D 2) A k m), D) := by
  intro m
  induction m with
  | zero =>
    intro fuel s k hf k0 hk
    obtain ⟨j, rfl⟩ : ∃ j, fuel = j + 1 := ⟨fuel - 1, by omega⟩
    rw [F_X11_likely_L32, ck_p (by omega), ck_p (by omega), if_pos (by omega), lkF, Int.add_zero]
  | succ m ih =>
    intro fuel s k hf k0 hk
    obtain ⟨j, rfl⟩ : ∃ j, fuel = j + 1 := ⟨fuel - 1, by omega⟩
    have a := pv_r hB k0 (by omega)
    rw [F_X11_likely_L32, ck_p (by omega), ck_p (by omega), if_neg (by omega), c_pairAt k0 (by omega), bI_q, ck_p hx, eA, ck_p (by omega), ck_p (by omega), lkF]
    by_cases y : 10 < (Int.natAbs (pvF (D 2) k - A) : Int)
    · rw [if_pos y, if_pos y, ih j s (k + 2) (by omega) (by omega) (by omega), Int.zero_add]
    · rw [if_neg y, if_neg y, ih j (s + 1) (k + 2) (by omega) (by omega) (by omega), Int.add_assoc]
theorem r_likely_L {bytes A x : Int} (h11 : D 133 11 = bytes) (hb : 0 ≤ bytes ∧ bytes ≤ 400 ∧ bytes % 2 = 0) (hx : 0 ≤ x ∧ x < 6) (hA : 0 ≤ A ∧ A ≤ 999) (eA : D 134 (215 + 2 * x) = A) : ∀ (m fuel : Nat) (s k : Int), m < fuel → 0 ≤ k → k + 2 * m = bytes →
    F_X12_likely_L42 x fuel s k D = some (s + lkF (fun j => D 139 j % 256) A k m, D) := by
  intro m
  induction m with
  | zero =>
    intro fuel s k hf k0 hk
    obtain ⟨j, rfl⟩ : ∃ j, fuel = j + 1 := ⟨fuel - 1, by omega⟩
    rw [F_X12_likely_L42, ck_p (by omega), h11, ck_p (by omega), if_pos (by omega), lkF, Int.add_zero]
  | succ m ih =>
    intro fuel s k hf k0 hk
    obtain ⟨j, rfl⟩ : ∃ j, fuel = j + 1 := ⟨fuel - 1, by omega⟩
    have a := pv_r (B := fun j => D 139 j % 256) (fun j _ _ => by show 0 ≤ D 139 j % 256 ∧ D 139 j % 256 ≤ 255; omega) k0 (by omega)
    rw [F_X12_likely_L42, ck_p (by omega), h11, ck_p (by omega), if_neg (by omega), r_toldWhite k0 (by omega), bI_q, F_X12_writersWhite, ck_p (by omega), bI_q, eA, ck_p (by omega), ck_p (by omega), ih j _ (k + 2) (by omega) (by omega) (by omega), lkF, Int.add_assoc]
theorem a_likely (I : INV n D) {x : Int} (hx : nR x) : Step n D [2, 0] (F_X11_likely x) (F_X12_likely x) := by
  have R := I.cr
  have hr := R.wi.ra
  have hN := fN
  have hc := R.ca
  obtain ⟨t1, t2, t3, t4⟩ := I.tp
  have hB := tape_B I
  obtain ⟨E, hE⟩ : ∃ E, E = pD D 1 1 0 := ⟨_, rfl⟩
  have eE : ∀ a : Nat, a ≠ 1 → E a = D a := fun a h => by rw [hE, pD_ne h]
  have E3 : E 133 = D 133 := eE 133 (by decide)
  have v := useD_v (D := E)
  have ou : F_X11_useUpWhites D = some (D 133 9, E) := by rw [F_X11_useUpWhites, t1, hE]
  have iw : F_X12_isWhites E = some (if D 133 9 % 2 = 0 then 1 else 0, useD E) := by
    rw [F_X12_isWhites, r_uses, bI_q, v.2.2.2, E3, ck_p (by omega), ck_p (by omega), ck_p (by omega), ck_p (by by_cases y : D 133 9 % 2 = 0; rw [if_pos y]; exact Or.inr rfl; rw [if_neg y]; exact Or.inl rfl)]
  have fin : ∀ c : Int, INV (n + 1) (pD (useD E) 133 0 c) := fun c => use_end I hE (fun a ha => by rw [pD_ne ha, useD_ne ha]) ⟨by rw [pD_nj (by decide), useD_at (by decide) (by decide) (by decide) (by decide), E3], by rw [pD_nj (by decide), useD_at (by decide) (by decide) (by decide) (by decide), E3], by rw [pD_nj (by decide), useD_at (by decide) (by decide) (by decide) (by decide), E3]⟩ (by rw [pD_nj (by decide)]; exact v.2.1)
  have fin0 : INV (n + 1) (useD E) := use_end I hE (fun a ha => useD_ne ha) ⟨by rw [useD_at (by decide) (by decide) (by decide) (by decide), E3], by rw [useD_at (by decide) (by decide) (by decide) (by decide), E3], by rw [useD_at (by decide) (by decide) (by decide) (by decide), E3]⟩ v.2.1
  have e311 : E 3 11 = D 134 7 := by rw [eE 3 (by decide)]; exact hc.2.2.2.2.2.2.1
  have uw : (useD E) 134 = D 134 := by rw [useD_ne (by decide), eE 134 (by decide)]
  have Hu : Wi n ((useD E) 134) := by rw [uw]; exact R.wi
  have v01 : nR (if D 133 9 % 2 = 0 then (1 : Int) else 0) := by split <;> decide
  by_cases a : 0 ≤ x ∧ x ≤ D 134 7 - 1
  · have nw : F_X11_needWriter x E = some (.inl 0, E) := by rw [F_X11_needWriter, ck_p hx, if_neg (by omega), e311, ck_p (by omega), if_pos (by omega)]
    have au : 0 ≤ x ∧ x ≤ (useD E) 134 7 - 1 := by rw [uw]; exact a
    have wt := R.wi.wt a.1 (by omega)
    by_cases z : D 133 9 % 2 = 0
    · have c1 := c_likely_L (D := E) (bytes := D 133 9) (x := x) (A := D 134 (215 + 2 * x)) ⟨t2, t3, z⟩ (by omega) ⟨wt.1, wt.2.1⟩ (by rw [eE 9 (by decide)]; exact (R.wt a.1 (by omega)).1) (by rw [eE 2 (by decide)]; exact hB) (D 133 9 / 2).toNat fuelN 0 0 (by omega) (by omega) (by omega)
      have r1 := r_likely_L (D := useD E) (bytes := D 133 9) (x := x) (A := D 134 (215 + 2 * x)) (by rw [v.2.2.2, E3]) ⟨t2, t3, z⟩ (by omega) ⟨wt.1, wt.2.1⟩ (by rw [uw]) (D 133 9 / 2).toNat fuelN 0 0 (by omega) (by omega) (by omega)
      rw [eE 2 (by decide)] at c1
      rw [useD_ne (by decide), eE 139 (by decide), ← lkF_congr (B := D 2) (C := fun j => D 139 j % 256) _ _ (fun j j0 j1 => (t4 j (by omega) (by omega)).2.2)] at r1
      refine ⟨.inl (0 + lkF (D 2) (D 134 (215 + 2 * x)) 0 (D 133 9 / 2).toNat), E, _, useD E, ?_, ?_, ⟨v.1, rfl⟩, fin0⟩
      · rw [F_X11_likely, ou, bI_q, nw, bX_q, ck_p (by omega), ck_p t2, ck_p (by omega), if_pos z, c1]
      · rw [F_X12_likely, iw, bI_q, noWriter_t Hu hx au, bI_q, t_0, bI_q, ck_p (by decide), if_pos rfl, ck_p v01, if_pos z, if_neg (by decide), F_X12_likely_j28, t_0, bI_q, ck_p (by decide), if_pos rfl, r1]
    · refine ⟨.inr 0, E, 0, pD (useD E) 133 0 2, ?_, ?_, ⟨1, by rw [pD_eq]; rfl, rfl⟩, fin 2⟩
      · rw [F_X11_likely, ou, bI_q, nw, bX_q, ck_p (by omega), ck_p t2, ck_p (by omega), if_neg z]
      · rw [F_X12_likely, iw, bI_q, noWriter_t Hu hx au, bI_q, t_0, bI_q, ck_p (by decide), if_pos rfl, ck_p v01, if_neg z, if_pos rfl, F_X12_likely_j28, t_1, bI_q, ck_p (by decide), if_neg (by decide)]
  · have nw : F_X11_needWriter x E = some (.inr 2, E) := by
      by_cases y : x < 0
      · rw [F_X11_needWriter, ck_p hx, if_pos y, F_X11_needWriter_j15]
      · rw [F_X11_needWriter, ck_p hx, if_neg y, e311, ck_p (by omega), if_neg (by omega), F_X11_needWriter_j15]
    have au : ¬ (0 ≤ x ∧ x ≤ (useD E) 134 7 - 1) := by rw [uw]; exact a
    refine ⟨.inr 2, E, 0, pD (useD E) 133 0 1, ?_, ?_, ⟨0, by rw [pD_eq]; rfl, rfl⟩, fin 1⟩
    · rw [F_X11_likely, ou, bI_q, nw, bX_r]
    · rw [F_X12_likely, iw, bI_q, noWriter_f Hu hx au, bI_q, t_1, bI_q, ck_p (by decide), if_neg (by decide)]
end PT1
