/-! and, or, shift -/
section BITS
theorem bt_nat {G : Nat} (hG : G < 2147483648) (x : Int32) (hx : x.toBitVec.toNat = G) : x.toInt = (G : Int) := by
  show x.toBitVec.toInt = _
  rw [BitVec.toInt_eq_toNat_of_lt (by omega), hx]
theorem bt_of {G : Nat} (hG : G < 2147483648) : (Int32.ofInt (G : Int)).toBitVec.toNat = G := by
  show (BitVec.ofInt 32 (G : Int)).toNat = G
  rw [BitVec.ofInt_natCast, BitVec.toNat_ofNat, Nat.mod_eq_of_lt (by omega)]
theorem pj_and_nat {G H : Nat} (hG : G < 2147483648) (hH : H < 2147483648) : pj_and (G : Int) (H : Int) = ((G &&& H : Nat) : Int) := by
  refine bt_nat (Nat.lt_of_le_of_lt Nat.and_le_left hG) _ ?_
  show ((Int32.ofInt (G : Int)).toBitVec &&& (Int32.ofInt (H : Int)).toBitVec).toNat = _
  rw [BitVec.toNat_and, bt_of hG, bt_of hH]
theorem pj_or_nat {G H : Nat} (hG : G < 2147483648) (hH : H < 2147483648) : pj_or (G : Int) (H : Int) = ((G ||| H : Nat) : Int) := by
  refine bt_nat (Nat.or_lt_two_pow (n := 31) hG hH) _ ?_
  show ((Int32.ofInt (G : Int)).toBitVec ||| (Int32.ofInt (H : Int)).toBitVec).toNat = _
  rw [BitVec.toNat_or, bt_of hG, bt_of hH]
theorem pj_shl_nat : ∀ k : Nat, k < 25 → pj_shl 1 (k : Int) = ((2 ^ k : Nat) : Int) := by
  decide
theorem bt_and0 (G k : Nat) : (G &&& 2 ^ k = 0) ↔ G.testBit k = false := by
  constructor
  · intro h
    have e : (G &&& 2 ^ k).testBit k = false := by rw [h]; exact Nat.zero_testBit k
    rw [Nat.testBit_and, Nat.testBit_two_pow_self, Bool.and_true] at e
    exact e
  · intro h
    refine Nat.eq_of_testBit_eq (fun j => ?_)
    rw [Nat.testBit_and, Nat.zero_testBit]
    by_cases e : j = k
    · rw [e, h, Bool.false_and]
    · rw [Nat.testBit_two_pow_of_ne (fun z => e z.symm), Bool.and_false]
theorem bt_or (G k j : Nat) : (G ||| 2 ^ k).testBit j = (G.testBit j || decide (k = j)) := by
  rw [Nat.testBit_or, Nat.testBit_two_pow]
/-- the bit of a pair -/
def bt_p (I J : Nat) : Nat := min I J * 5 + max I J
theorem bt_p_lt {I J : Nat} (hI : I < 5) (hJ : J < 5) : bt_p I J < 25 := by unfold bt_p; omega
theorem bt_p_inj {I J I' J' : Nat} (hI : I < 5) (hJ : J < 5) (hI' : I' < 5) (hJ' : J' < 5) : bt_p I J = bt_p I' J' ↔ (I = I' ∧ J = J') ∨ (I = J' ∧ J = I') := by unfold bt_p; omega
variable {X : pj_X} {Q : pj_Q}
/-- pairBit(i, j) -/
theorem c_pairBit {i j : Int} {I J : Nat} (hi : i = I) (hj : j = J) (hI : I < 5) (hJ : J < 5) (hQ : Q (some (.inl ((2 ^ bt_p I J : Nat) : Int))) []) : pj_ci X m_Script_pairBit [.inl i, .inl j] [] Q := by
  refine wp_c rfl (by omega) [] (c_min (by unfold pj_rg; omega) (by unfold pj_rg; omega) ?_) rfl rfl rfl rfl
  refine wp_c rfl (by omega) [] (c_max (by unfold pj_rg; omega) (by unfold pj_rg; omega) ?_) rfl rfl rfl rfl
  refine wp_r rfl (by omega) ?_
  have e : min i j * 5 + max i j = ((bt_p I J : Nat) : Int) := by
    unfold bt_p
    omega
  rw [← pj_shl_nat (bt_p I J) (bt_p_lt hI hJ), ← e] at hQ
  exact hQ
end BITS
