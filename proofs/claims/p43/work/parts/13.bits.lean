/-! Bits of small numbers. -/
theorem I_bv (z : Int) : (I z).toBitVec = BitVec.ofInt 32 z := Int32.toBitVec_ofInt z
theorem I_nbv (n : Nat) : (I (n : Nat)).toBitVec = BitVec.ofNat 32 n := by rw [I_bv, BitVec.ofInt_natCast]
theorem bv_int {x : BitVec 32} (h : x.toNat < 2147483648) : x.toInt = (x.toNat : Nat) := BitVec.toInt_eq_toNat_of_lt (by omega)
theorem bv_small {n : Nat} (h : n < 2147483648) : (BitVec.ofNat 32 n).toNat = n := by
  rw [BitVec.toNat_ofNat]
  exact Nat.mod_eq_of_lt (by omega)
theorem and_lt' {a b : Nat} (h : a < 2147483648) : a &&& b < 2147483648 := Nat.lt_of_le_of_lt Nat.and_le_left h
theorem band_nat {a b : Nat} (ha : a < 2147483648) (hb : b < 2147483648) : band (a : Nat) (b : Nat) = ((a &&& b : Nat) : Int) := by
  have e : ((I (a : Nat)) &&& (I (b : Nat))).toBitVec.toNat = a &&& b := by rw [Int32.toBitVec_and, I_nbv, I_nbv, BitVec.toNat_and, bv_small ha, bv_small hb]
  show ((I (a : Nat)) &&& (I (b : Nat))).toBitVec.toInt = _
  rw [bv_int (by rw [e]; exact and_lt' ha), e]
theorem or_lt' {a b : Nat} (ha : a < 2147483648) (hb : b < 2147483648) : a ||| b < 2147483648 := Nat.or_lt_two_pow (n := 31) ha hb
theorem bor_nat {a b : Nat} (ha : a < 2147483648) (hb : b < 2147483648) : bor (a : Nat) (b : Nat) = ((a ||| b : Nat) : Int) := by
  have e : ((I (a : Nat)) ||| (I (b : Nat))).toBitVec.toNat = a ||| b := by rw [Int32.toBitVec_or, I_nbv, I_nbv, BitVec.toNat_or, bv_small ha, bv_small hb]
  show ((I (a : Nat)) ||| (I (b : Nat))).toBitVec.toInt = _
  rw [bv_int (by rw [e]; exact or_lt' ha hb), e]
theorem bxor_nat {a b : Nat} (ha : a < 2147483648) (hb : b < 2147483648) : bxor (a : Nat) (b : Nat) = ((a ^^^ b : Nat) : Int) := by
  have e : ((I (a : Nat)) ^^^ (I (b : Nat))).toBitVec.toNat = a ^^^ b := by rw [Int32.toBitVec_xor, I_nbv, I_nbv, BitVec.toNat_xor, bv_small ha, bv_small hb]
  show ((I (a : Nat)) ^^^ (I (b : Nat))).toBitVec.toInt = _
  rw [bv_int (by rw [e]; exact Nat.xor_lt_two_pow (n := 31) ha hb), e]
/-- a number without the bits of another -/
theorem bnot_nat {a b : Nat} (ha : a < 2147483648) (hb : b < 2147483648) : band (a : Nat) (bxor (b : Nat) (-1)) = ((a ^^^ (a &&& b) : Nat) : Int) := by
  have e0 : I (bxor (b : Nat) (-1)) = I (b : Nat) ^^^ I (-1) := I_of _
  have e : ((I (a : Nat)) &&& (I (bxor (b : Nat) (-1)))).toBitVec.toNat = a ^^^ (a &&& b) := by
    rw [Int32.toBitVec_and, e0, Int32.toBitVec_xor, I_nbv, I_nbv, I_bv]
    have e2 : BitVec.ofInt 32 (-1) = BitVec.allOnes 32 := by decide
    rw [e2, BitVec.xor_allOnes]
    apply Nat.eq_of_testBit_eq
    intro i
    rw [Nat.testBit_xor, Nat.testBit_and, BitVec.toNat_and, Nat.testBit_and, BitVec.testBit_toNat, BitVec.testBit_toNat, BitVec.getLsbD_not, ← BitVec.testBit_toNat, ← BitVec.testBit_toNat, bv_small ha, bv_small hb]
    by_cases hi : i < 32
    · rw [decide_eq_true hi]
      cases a.testBit i <;> cases b.testBit i <;> rfl
    · have h1 : a.testBit i = false := Nat.testBit_lt_two_pow (Nat.lt_of_lt_of_le (show a < 2 ^ 31 from ha) (Nat.pow_le_pow_right (by decide) (by omega)))
      rw [h1]
      simp
  show ((I (a : Nat)) &&& (I _)).toBitVec.toInt = _
  rw [bv_int (by rw [e]; exact Nat.xor_lt_two_pow (n := 31) ha (and_lt' ha)), e]
theorem k31 : ∀ k : _root_.Fin 32, (I ((k : Nat) : Int) &&& 31).toBitVec.smod 32 = BitVec.ofNat 32 k := by decide
theorem k31u : ∀ k : _root_.Fin 32, ((I ((k : Nat) : Int)).toUInt32 &&& Int32.toUInt32 31).toBitVec % 32 = BitVec.ofNat 32 k := by decide
theorem shl_nat {a k : Nat} (hk : k < 32) (ha : a <<< k < 2147483648) : shl (a : Nat) (k : Nat) = ((a <<< k : Nat) : Int) := by
  have hle : a ≤ a <<< k := by rw [Nat.shiftLeft_eq]; exact Nat.le_mul_of_pos_right a (Nat.two_pow_pos k)
  have e : ((I (a : Nat)) <<< (I (k : Nat) &&& 31)).toBitVec.toNat = a <<< k := by
    rw [Int32.toBitVec_shiftLeft, k31 ⟨k, hk⟩, I_nbv, BitVec.shiftLeft_eq', BitVec.toNat_shiftLeft, bv_small (by omega), bv_small (show k < _ by omega)]
    exact Nat.mod_eq_of_lt (by omega)
  show ((I (a : Nat)) <<< (I (k : Nat) &&& 31)).toBitVec.toInt = _
  rw [bv_int (by rw [e]; exact ha), e]
theorem shr_nat {a k : Nat} (hk : k < 32) (ha : a < 2147483648) : shr (a : Nat) (k : Nat) = ((a >>> k : Nat) : Int) := by
  have hle : a >>> k ≤ a := Nat.shiftRight_le a k
  have hm : (BitVec.ofNat 32 a).msb = false := BitVec.msb_eq_false_iff_two_mul_lt.mpr (by rw [bv_small ha]; omega)
  have e : ((I (a : Nat)) >>> (I (k : Nat) &&& 31)).toBitVec.toNat = a >>> k := by
    rw [Int32.toBitVec_shiftRight, k31 ⟨k, hk⟩, I_nbv]
    show ((BitVec.ofNat 32 a).sshiftRight (BitVec.ofNat 32 k).toNat).toNat = _
    rw [bv_small (show k < _ by omega), BitVec.sshiftRight_eq_of_msb_false hm, BitVec.toNat_ushiftRight, bv_small ha]
  show ((I (a : Nat)) >>> (I (k : Nat) &&& 31)).toBitVec.toInt = _
  rw [bv_int (by rw [e]; omega), e]
theorem ushr_nat {a k : Nat} (hk : k < 32) (ha : a < 2147483648) : ushr (a : Nat) (k : Nat) = ((a >>> k : Nat) : Int) := by
  have hle : a >>> k ≤ a := Nat.shiftRight_le a k
  have e : (((I (a : Nat)).toUInt32 >>> ((I (k : Nat)).toUInt32 &&& Int32.toUInt32 31)).toInt32).toBitVec.toNat = a >>> k := by
    show (((I (a : Nat)).toUInt32 >>> ((I (k : Nat)).toUInt32 &&& Int32.toUInt32 31))).toBitVec.toNat = _
    rw [UInt32.toBitVec_shiftRight, k31u ⟨k, hk⟩]
    show ((I (a : Nat)).toBitVec >>> (BitVec.ofNat 32 k)).toNat = _
    rw [I_nbv, BitVec.ushiftRight_eq', BitVec.toNat_ushiftRight, bv_small ha, bv_small (show k < _ by omega)]
  show (((I (a : Nat)).toUInt32 >>> ((I (k : Nat)).toUInt32 &&& Int32.toUInt32 31)).toInt32).toBitVec.toInt = _
  rw [bv_int (by rw [e]; omega), e]
