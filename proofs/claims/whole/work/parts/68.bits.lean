/-! BITS of numbers that are not negative -/
section PB1
theorem i32n {x : Int32} {c : Nat} (h : x.toBitVec.toNat = c) (hc : c < 2147483648) : x.toInt = (c : Int) := by
  show x.toBitVec.toInt = _
  rw [BitVec.toInt_eq_toNat_of_lt (by omega), h]
theorem i32o {a : Nat} (h : a < 2147483648) : (Int32.ofInt (a : Int)).toBitVec.toNat = a := by
  show (BitVec.ofInt 32 (a : Int)).toNat = a
  rw [BitVec.toNat_ofInt]
  omega
theorem i32b {a : Nat} (h : a < 2147483648) : (Int32.ofInt (a : Int)).toBitVec = BitVec.ofNat 32 a := by
  apply BitVec.eq_of_toNat_eq
  rw [i32o h, BitVec.toNat_ofNat]
  omega
theorem bAnd_n {a b : Nat} (ha : a < 2147483648) (hb : b < 2147483648) : bAnd (a : Int) (b : Int) = ((a &&& b : Nat) : Int) := by
  unfold bAnd
  refine i32n ?_ ?_
  · rw [Int32.toBitVec_and, BitVec.toNat_and, i32o ha, i32o hb]
  · exact Nat.and_lt_two_pow (n := 31) a hb
theorem bOr_n {a b : Nat} (ha : a < 2147483648) (hb : b < 2147483648) : bOr (a : Int) (b : Int) = ((a ||| b : Nat) : Int) := by
  unfold bOr
  refine i32n ?_ ?_
  · rw [Int32.toBitVec_or, BitVec.toNat_or, i32o ha, i32o hb]
  · exact Nat.or_lt_two_pow (n := 31) ha hb
theorem bXor_n {a b : Nat} (ha : a < 2147483648) (hb : b < 2147483648) : bXor (a : Int) (b : Int) = ((a ^^^ b : Nat) : Int) := by
  unfold bXor
  refine i32n ?_ ?_
  · rw [Int32.toBitVec_xor, BitVec.toNat_xor, i32o ha, i32o hb]
  · exact Nat.xor_lt_two_pow (n := 31) ha hb
theorem i32s : ∀ k : Nat, k < 32 → ((Int32.ofInt (k : Int) &&& 31).toBitVec.smod 32).toNat = k := by decide +kernel
theorem i32u : ∀ k : Nat, k < 32 → (((Int32.ofInt (k : Int)).toUInt32 &&& Int32.toUInt32 31).toBitVec % 32).toNat = k := by decide +kernel
theorem bShl_n {a k : Nat} (hk : k < 32) (h : a * 2 ^ k < 2147483648) : bShl (a : Int) (k : Int) = ((a * 2 ^ k : Nat) : Int) := by
  have ha : a < 2147483648 := Nat.lt_of_le_of_lt (Nat.le_mul_of_pos_right a (Nat.two_pow_pos k)) h
  unfold bShl
  refine i32n ?_ h
  rw [Int32.toBitVec_shiftLeft]
  show ((Int32.ofInt (a : Int)).toBitVec <<< ((Int32.ofInt (k : Int) &&& 31).toBitVec.smod 32).toNat).toNat = _
  rw [i32s k hk, BitVec.toNat_shiftLeft, i32o ha, Nat.shiftLeft_eq, Nat.mod_eq_of_lt (by omega)]
theorem bShr_n {a k : Nat} (hk : k < 32) (ha : a < 2147483648) : bShr (a : Int) (k : Int) = ((a / 2 ^ k : Nat) : Int) := by
  unfold bShr
  refine i32n ?_ (Nat.lt_of_le_of_lt (Nat.div_le_self _ _) ha)
  rw [Int32.toBitVec_shiftRight]
  show ((Int32.ofInt (a : Int)).toBitVec.sshiftRight ((Int32.ofInt (k : Int) &&& 31).toBitVec.smod 32).toNat).toNat = _
  rw [i32s k hk, BitVec.sshiftRight_eq_of_msb_false (by rw [BitVec.msb_eq_decide, i32o ha]; simp; omega), BitVec.toNat_ushiftRight, i32o ha, Nat.shiftRight_eq_div_pow]
theorem bUshr_n {a k : Nat} (hk : k < 32) (ha : a < 2147483648) : bUshr (a : Int) (k : Int) = ((a / 2 ^ k : Nat) : Int) := by
  unfold bUshr
  refine i32n ?_ (Nat.lt_of_le_of_lt (Nat.div_le_self _ _) ha)
  show ((Int32.ofInt (a : Int)).toUInt32 >>> ((Int32.ofInt (k : Int)).toUInt32 &&& Int32.toUInt32 31)).toBitVec.toNat = _
  rw [UInt32.toBitVec_shiftRight]
  show ((Int32.ofInt (a : Int)).toBitVec >>> (((Int32.ofInt (k : Int)).toUInt32 &&& Int32.toUInt32 31).toBitVec % 32).toNat).toNat = _
  rw [i32u k hk, BitVec.toNat_ushiftRight, i32o ha, Nat.shiftRight_eq_div_pow]
/-- all but these bits -/
theorem bNot_n {a b : Nat} (ha : a < 2147483648) (hb : b < 2147483648) : bAnd (a : Int) (bXor (b : Int) (-1)) = ((a &&& (a ^^^ b) : Nat) : Int) := by
  have e : Int32.ofInt (bXor (b : Int) (-1)) = Int32.ofInt (b : Int) ^^^ Int32.ofInt (-1) := by
    unfold bXor
    exact Int32.ofInt_toInt _
  unfold bAnd
  rw [e]
  refine i32n ?_ (Nat.lt_of_le_of_lt Nat.and_le_left ha)
  rw [Int32.toBitVec_and, Int32.toBitVec_xor, i32b ha, i32b hb, show (Int32.ofInt (-1)).toBitVec = BitVec.allOnes 32 from rfl]
  have : BitVec.ofNat 32 a &&& (BitVec.ofNat 32 b ^^^ BitVec.allOnes 32) = BitVec.ofNat 32 (a &&& (a ^^^ b)) := by
    apply BitVec.eq_of_getLsbD_eq
    intro i hi
    rw [BitVec.getLsbD_and, BitVec.getLsbD_xor, BitVec.getLsbD_allOnes, BitVec.getLsbD_ofNat, BitVec.getLsbD_ofNat, BitVec.getLsbD_ofNat, Nat.testBit_and, Nat.testBit_xor, decide_eq_true hi]
    cases a.testBit i <;> cases b.testBit i <;> rfl
  rw [this, BitVec.toNat_ofNat, Nat.mod_eq_of_lt (Nat.lt_of_le_of_lt Nat.and_le_left (by omega))]
/-- drawing: either shift gives the same 15 bits -/
theorem draw_same (s : Int) : bAnd (bUshr s 16) 32767 = bAnd (bShr s 16) 32767 ∧ 0 ≤ bAnd (bShr s 16) 32767 ∧ bAnd (bShr s 16) 32767 ≤ 32767 := by
  have e1 : Int32.ofInt (bShr s 16) = Int32.ofInt s >>> (Int32.ofInt ((16 : Nat) : Int) &&& 31) := by
    unfold bShr
    exact Int32.ofInt_toInt _
  have e2 : Int32.ofInt (bUshr s 16) = (((Int32.ofInt s).toUInt32 >>> ((Int32.ofInt ((16 : Nat) : Int)).toUInt32 &&& Int32.toUInt32 31)).toInt32) := by
    unfold bUshr
    exact Int32.ofInt_toInt _
  have e3 : (Int32.ofInt s >>> (Int32.ofInt ((16 : Nat) : Int) &&& 31)).toBitVec = (Int32.ofInt s).toBitVec.sshiftRight 16 := by
    rw [Int32.toBitVec_shiftRight]
    show (Int32.ofInt s).toBitVec.sshiftRight ((Int32.ofInt ((16 : Nat) : Int) &&& 31).toBitVec.smod 32).toNat = _
    rw [i32s 16 (by decide)]
  have e4 : (((Int32.ofInt s).toUInt32 >>> ((Int32.ofInt ((16 : Nat) : Int)).toUInt32 &&& Int32.toUInt32 31)).toInt32).toBitVec = (Int32.ofInt s).toBitVec >>> 16 := by
    show ((Int32.ofInt s).toUInt32 >>> ((Int32.ofInt ((16 : Nat) : Int)).toUInt32 &&& Int32.toUInt32 31)).toBitVec = _
    rw [UInt32.toBitVec_shiftRight]
    show (Int32.ofInt s).toBitVec >>> (((Int32.ofInt ((16 : Nat) : Int)).toUInt32 &&& Int32.toUInt32 31).toBitVec % 32).toNat = _
    rw [i32u 16 (by decide)]
  have e5 : (Int32.ofInt (bShr s 16) &&& Int32.ofInt 32767).toBitVec = ((Int32.ofInt s).toBitVec >>> 16) &&& 32767#32 := by
    rw [Int32.toBitVec_and, e1, e3]
    apply BitVec.eq_of_getLsbD_eq
    intro i hi
    rw [BitVec.getLsbD_and, BitVec.getLsbD_and, BitVec.getLsbD_sshiftRight, BitVec.getLsbD_ushiftRight, show (Int32.ofInt 32767).toBitVec = 32767#32 from rfl]
    by_cases h : 16 + i < 32
    · simp [h, hi, show ¬ 32 ≤ i by omega]
    · rw [show (32767#32).getLsbD i = false from by
        have : ∀ i, i < 32 → 16 ≤ i → (32767#32).getLsbD i = false := by decide +kernel
        exact this i hi (by omega)]
      simp
  have e6 : (Int32.ofInt (bUshr s 16) &&& Int32.ofInt 32767).toBitVec = ((Int32.ofInt s).toBitVec >>> 16) &&& 32767#32 := by
    rw [Int32.toBitVec_and, e2, e4]
    rfl
  have e7 : Int32.ofInt (bUshr s 16) &&& Int32.ofInt 32767 = Int32.ofInt (bShr s 16) &&& Int32.ofInt 32767 := Int32.toBitVec_inj.mp (e6.trans e5.symm)
  have e8 : (((Int32.ofInt s).toBitVec >>> 16) &&& 32767#32).toNat ≤ 32767 := by
    rw [BitVec.toNat_and]
    exact Nat.and_le_right
  refine ⟨by unfold bAnd; rw [e7], ?_⟩
  have e9 : bAnd (bShr s 16) 32767 = ((((Int32.ofInt s).toBitVec >>> 16) &&& 32767#32).toNat : Int) := by
    unfold bAnd
    exact i32n (by rw [e5]) (by omega)
  rw [e9]
  omega
/-- a bit more -/
theorem or_bit {x k : Nat} (hx : x < 2 ^ k) (hk : k < 30) : bOr (x : Int) (bShl 1 (k : Int)) = ((x + 2 ^ k : Nat) : Int) := by
  have h2 : 2 ^ k ≤ 2 ^ 29 := Nat.pow_le_pow_right (by decide) (by omega)
  have e : bShl 1 (k : Int) = ((2 ^ k : Nat) : Int) := by
    have := bShl_n (a := 1) (k := k) (by omega) (by omega)
    rw [Nat.one_mul] at this
    exact this
  rw [e, bOr_n (by omega) (by omega)]
  congr 1
  rw [Nat.or_comm]
  have := Nat.two_pow_add_eq_or_of_lt hx 1
  rw [Nat.mul_one] at this
  rw [← this, Nat.add_comm]
theorem or_bit0 {x : Nat} (hx : x < 2147483648) : bOr (x : Int) 0 = (x : Int) := by
  have := bOr_n (a := x) (b := 0) hx (by decide)
  rw [Nat.or_zero] at this
  exact this
/-- a loop that gathers bits -/
theorem bitN_step {p : Nat → Bool} {k : Nat} (hk : k < 30) : bOr (bitN p k : Int) (if p k then bShl 1 (k : Int) else 0) = (bitN p (k + 1) : Int) := by
  have h2 : 2 ^ k ≤ 2 ^ 29 := Nat.pow_le_pow_right (by decide) (by omega)
  have h3 := bitN_lt p k
  rw [bitN]
  by_cases q : p k = true
  · rw [if_pos q, if_pos q, or_bit h3 hk]
  · rw [if_neg q, if_neg q, or_bit0 (by omega)]
    simp
end PB1
