/-! and, or, shift -/
section BITS
theorem bt_nat {G : Nat} (hG : G < 2147483648) (x : Int32) (hx : x.toBitVec.toNat = G) : x.toInt = (G : Int) := by
  show x.toBitVec.toInt = _
  rw [BitVec.toInt_eq_toNat_of_lt (by omega), hx]
theorem bt_of {G : Nat} (hG : G < 2147483648) : (Int32.ofInt (G : Int)).toBitVec.toNat = G := by
  show (BitVec.ofInt 32 (G : Int)).toNat = G
  rw [BitVec.ofInt_natCast, BitVec.toNat_ofNat, Nat.mod_eq_of_lt (by omega)]
theorem pj_and_nat {G H : Nat} (hG : G < 2147483648) (hH : H < 2147483648) : pj_and (G : Int) (H : Int) = ((G &&& H : Nat) : Int) := by
  refine bt_nat (Nat.lt_of_le_of_lt Nat.and_le_left hG) _ ?_
  show ((Int32.ofInt (G : Int)).toBitVec &&& (Int32.ofInt (H : Int)).toBitVec).toNat = _
  rw [BitVec.toNat_and, bt_of hG, bt_of hH]
theorem pj_or_nat {G H : Nat} (hG : G < 2147483648) (hH : H < 2147483648) : pj_or (G : Int) (H : Int) = ((G ||| H : Nat) : Int) := by
  refine bt_nat (Nat.or_lt_two_pow (n := 31) hG hH) _ ?_
  show ((Int32.ofInt (G : Int)).toBitVec ||| (Int32.ofInt (H : Int)).toBitVec).toNat = _
  rw [BitVec.toNat_or, bt_of hG, bt_of hH]
theorem pj_shl_nat : ∀ k : Nat, k < 25 → pj_shl 1 (k : Int) = ((2 ^ k : Nat) : Int) := by
  decide
end BITS
