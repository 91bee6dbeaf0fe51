/-! ===== the model's ranking: products of 64 limbs ===== -/
theorem lN_bits (X : Nat) : (lN X).toBitVec.toNat = X % 18446744073709551616 := by
  show (BitVec.ofNat 64 X).toNat = _
  rw [BitVec.toNat_ofNat]
theorem lN_low (X : Nat) : ((lN X) &&& 4294967295).toInt = (X % 4294967296 : Nat) := by
  have e : ((lN X) &&& 4294967295) = lN (X % 4294967296) := by
    apply Int64.toBitVec_inj.mp
    apply BitVec.eq_of_toNat_eq
    rw [lN_bits, Int64.toBitVec_and, BitVec.toNat_and, lN_bits]
    have : (4294967295 : Int64).toBitVec.toNat = 2 ^ 32 - 1 := by decide
    rw [this, Nat.and_two_pow_sub_one_eq_mod]
    omega
  rw [e, lN_i' (by omega)]
theorem lN_high {X : Nat} (h : X < 18446744073709551616) : (lushrV (lN X) 32).toInt = (X / 4294967296 : Nat) := by
  have e : lushrV (lN X) 32 = lN (X / 4294967296) := by
    apply Int64.toBitVec_inj.mp
    apply BitVec.eq_of_toNat_eq
    rw [lN_bits]
    unfold lushrV
    show ((lN X).toUInt64 >>> ((32 : Int32).toInt64.toUInt64 &&& Int64.toUInt64 63)).toNat = _
    have hs : ((32 : Int32).toInt64.toUInt64 &&& Int64.toUInt64 63).toNat % 64 = 32 := by decide
    rw [UInt64.toNat_shiftRight, Nat.shiftRight_eq_div_pow, hs]
    have : (lN X).toUInt64.toNat = X % 18446744073709551616 := lN_bits X
    rw [this]
    omega
  rw [e, lN_i' (by omega)]
