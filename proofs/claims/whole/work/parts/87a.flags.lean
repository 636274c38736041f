/-! flags kept as bits of an int, of a long -/
theorem tb_set {m k j : Nat} : (m ||| 2 ^ k).testBit j = (m.testBit j || decide (k = j)) := by rw [Nat.testBit_or, Nat.testBit_two_pow]
theorem tb_on {m k : Nat} : (m ||| 2 ^ k).testBit k = true := by rw [tb_set, decide_eq_true rfl, Bool.or_true]
theorem tb_ne {m k j : Nat} (h : j ≠ k) : (m ||| 2 ^ k).testBit j = m.testBit j := by rw [tb_set, decide_eq_false (Ne.symm h), Bool.or_false]
theorem ibit {m k : Nat} (hm : m < 2147483648) (hk : k < 31) : an (shr (m : Int) (k : Int)) 1 = if m.testBit k then 1 else 0 := by
  rw [shr_nat hm (by omega)]
  have := an_nat (m := m >>> k) (n := 1) (Nat.lt_of_le_of_lt (Nat.shiftRight_le m k) hm) (by omega)
  rw [show ((1 : Nat) : Int) = 1 from rfl] at this
  rw [this, Nat.testBit, Nat.and_comm 1, Nat.and_one_is_mod]
  rcases Nat.mod_two_eq_zero_or_one (m >>> k) with h | h <;> simp [h]
theorem iset {m k : Nat} (hm : m < 2 ^ 26) (hk : k < 26) : orr (m : Int) (shl 1 (k : Int)) = ((m ||| 2 ^ k : Nat) : Int) ∧ m ||| 2 ^ k < 2 ^ 26 := by
  have p : 2 ^ k < 2 ^ 26 := Nat.pow_lt_pow_right (by decide) hk
  refine ⟨?_, Nat.or_lt_two_pow hm p⟩
  rw [shl1 (by omega), orr_nat (Nat.lt_trans hm (by decide)) (Nat.lt_trans p (by decide))]
theorem lsh_amt60 {k : Nat} (hk : k < 60) : (((iI (k : Int)).toInt64 &&& 63).toBitVec.smod 64).toNat = k := by
  rcases (show k = 0 ∨ k = 1 ∨ k = 2 ∨ k = 3 ∨ k = 4 ∨ k = 5 ∨ k = 6 ∨ k = 7 ∨ k = 8 ∨ k = 9 ∨ k = 10 ∨ k = 11 ∨ k = 12 ∨ k = 13 ∨ k = 14 ∨ k = 15 ∨ k = 16 ∨ k = 17 ∨ k = 18 ∨ k = 19 ∨ k = 20 ∨ k = 21 ∨ k = 22 ∨ k = 23 ∨ k = 24 ∨ k = 25 ∨ k = 26 ∨ k = 27 ∨ k = 28 ∨ k = 29 ∨ k = 30 ∨ k = 31 ∨ k = 32 ∨ k = 33 ∨ k = 34 ∨ k = 35 ∨ k = 36 ∨ k = 37 ∨ k = 38 ∨ k = 39 ∨ k = 40 ∨ k = 41 ∨ k = 42 ∨ k = 43 ∨ k = 44 ∨ k = 45 ∨ k = 46 ∨ k = 47 ∨ k = 48 ∨ k = 49 ∨ k = 50 ∨ k = 51 ∨ k = 52 ∨ k = 53 ∨ k = 54 ∨ k = 55 ∨ k = 56 ∨ k = 57 ∨ k = 58 ∨ k = 59 by omega) with rfl | rfl | rfl | rfl | rfl | rfl | rfl | rfl | rfl | rfl | rfl | rfl | rfl | rfl | rfl | rfl | rfl | rfl | rfl | rfl | rfl | rfl | rfl | rfl | rfl | rfl | rfl | rfl | rfl | rfl | rfl | rfl | rfl | rfl | rfl | rfl | rfl | rfl | rfl | rfl | rfl | rfl | rfl | rfl | rfl | rfl | rfl | rfl | rfl | rfl | rfl | rfl | rfl | rfl | rfl | rfl | rfl | rfl | rfl | rfl <;> decide
theorem lsh1_60 {k : Nat} (hk : k < 60) : lsh 1 (k : Int) = ((2 ^ k : Nat) : Int) := by
  rcases (show k = 0 ∨ k = 1 ∨ k = 2 ∨ k = 3 ∨ k = 4 ∨ k = 5 ∨ k = 6 ∨ k = 7 ∨ k = 8 ∨ k = 9 ∨ k = 10 ∨ k = 11 ∨ k = 12 ∨ k = 13 ∨ k = 14 ∨ k = 15 ∨ k = 16 ∨ k = 17 ∨ k = 18 ∨ k = 19 ∨ k = 20 ∨ k = 21 ∨ k = 22 ∨ k = 23 ∨ k = 24 ∨ k = 25 ∨ k = 26 ∨ k = 27 ∨ k = 28 ∨ k = 29 ∨ k = 30 ∨ k = 31 ∨ k = 32 ∨ k = 33 ∨ k = 34 ∨ k = 35 ∨ k = 36 ∨ k = 37 ∨ k = 38 ∨ k = 39 ∨ k = 40 ∨ k = 41 ∨ k = 42 ∨ k = 43 ∨ k = 44 ∨ k = 45 ∨ k = 46 ∨ k = 47 ∨ k = 48 ∨ k = 49 ∨ k = 50 ∨ k = 51 ∨ k = 52 ∨ k = 53 ∨ k = 54 ∨ k = 55 ∨ k = 56 ∨ k = 57 ∨ k = 58 ∨ k = 59 by omega) with rfl | rfl | rfl | rfl | rfl | rfl | rfl | rfl | rfl | rfl | rfl | rfl | rfl | rfl | rfl | rfl | rfl | rfl | rfl | rfl | rfl | rfl | rfl | rfl | rfl | rfl | rfl | rfl | rfl | rfl | rfl | rfl | rfl | rfl | rfl | rfl | rfl | rfl | rfl | rfl | rfl | rfl | rfl | rfl | rfl | rfl | rfl | rfl | rfl | rfl | rfl | rfl | rfl | rfl | rfl | rfl | rfl | rfl | rfl | rfl <;> decide
theorem lshr_nat60 {m k : Nat} (hm : m < 9223372036854775808) (hk : k < 60) : lshr (m : Int) (k : Int) = ((m >>> k : Nat) : Int) := by
  have hlt : m >>> k < 9223372036854775808 := Nat.lt_of_le_of_lt (Nat.shiftRight_le m k) hm
  refine i64_nat ?_ hlt
  rw [Int64.toBitVec_shiftRight, jJ_bv]
  refine BitVec.eq_of_toNat_eq ?_
  show ((BitVec.ofNat 64 m).sshiftRight (((iI (k : Int)).toInt64 &&& 63).toBitVec.smod 64).toNat).toNat = _
  rw [lsh_amt60 hk, BitVec.sshiftRight_eq_of_msb_false (by rw [BitVec.msb_eq_false_iff_two_mul_lt, BitVec.toNat_ofNat]; omega), BitVec.toNat_ushiftRight, BitVec.toNat_ofNat, BitVec.toNat_ofNat, Nat.mod_eq_of_lt (by omega), Nat.mod_eq_of_lt (by omega)]
theorem jbit {m k : Nat} (hm : m < 2 ^ 60) (hk : k < 60) : lan (lshr (m : Int) (k : Int)) 1 = if m.testBit k then 1 else 0 := by
  rw [lshr_nat60 (by omega) hk]
  have := lan_nat (m := m >>> k) (n := 1) (Nat.lt_of_le_of_lt (Nat.shiftRight_le m k) (by omega)) (by omega)
  rw [show ((1 : Nat) : Int) = 1 from rfl] at this
  rw [this, Nat.testBit, Nat.and_comm 1, Nat.and_one_is_mod]
  rcases Nat.mod_two_eq_zero_or_one (m >>> k) with h | h <;> simp [h]
theorem jset {m k : Nat} (hm : m < 2 ^ 60) (hk : k < 60) : lor (m : Int) (lsh 1 (k : Int)) = ((m ||| 2 ^ k : Nat) : Int) ∧ m ||| 2 ^ k < 2 ^ 60 := by
  have p : 2 ^ k < 2 ^ 60 := Nat.pow_lt_pow_right (by decide) hk
  refine ⟨?_, Nat.or_lt_two_pow hm p⟩
  rw [lsh1_60 hk, lor_nat (Nat.lt_trans hm (by decide)) (Nat.lt_trans p (by decide))]
/-- a row of flags in one number: below 2^n, and which stand -/
def fgs (v : Int) (n : Nat) : Prop := 0 ≤ v ∧ v.toNat < 2 ^ n
theorem fgs_0 {n : Nat} : fgs 0 n := ⟨by decide, Nat.two_pow_pos n⟩
theorem fgs_m {v : Int} {n : Nat} (h : fgs v n) : ∃ m : Nat, v = (m : Int) ∧ m < 2 ^ n := ⟨v.toNat, by have := h.1; omega, h.2⟩
theorem fgs_of {m n : Nat} (h : m < 2 ^ n) : fgs (m : Int) n := ⟨Int.natCast_nonneg m, by rw [Int.toNat_natCast]; exact h⟩
