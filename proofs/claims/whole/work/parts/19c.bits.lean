/-! the reference: does a hole lie within -/
theorem b_sh : ∀ n : Nat, n < 32 → ((i32 n).toInt64 &&& 63) = i64 n ∧ ((i64 n).toBitVec.smod 64) = BitVec.ofNat 64 n := by decide +kernel
theorem b_shl : ∀ n : Nat, n < 32 → shl64 1 n = ((2 ^ n : Nat) : Int) := by decide +kernel
theorem b_nat {S : Nat} : (i64 S).toBitVec = BitVec.ofNat 64 S := by
  unfold i64
  rw [Int64.toBitVec_ofInt]
  exact BitVec.ofInt_natCast 64 S
theorem b_test {S n : Nat} (hS : S < 2 ^ 32) (hn : n < 32) : and64 (shr64 S n) 1 = if S.testBit n then 1 else 0 := by
  unfold and64 shr64
  have hr : i64 (i64 (S : Int) >>> ((i32 (n : Int)).toInt64 &&& 63)).toInt = i64 (S : Int) >>> ((i32 (n : Int)).toInt64 &&& 63) := by
    unfold i64; exact Int64.ofInt_toInt _
  rw [hr, (b_sh n hn).1]
  have e : (i64 (S : Int) >>> i64 (n : Int) &&& i64 1).toBitVec = if S.testBit n then 1#64 else 0#64 := by
    rw [Int64.toBitVec_and, Int64.toBitVec_shiftRight, (b_sh n hn).2, b_nat]
    have : (i64 1).toBitVec = 1#64 := by decide
    rw [this]
    apply BitVec.eq_of_getLsbD_eq
    intro i hi
    rw [BitVec.getLsbD_and, BitVec.getLsbD_one]
    rcases Nat.eq_zero_or_pos i with rfl | h0
    · have h64 : n % 18446744073709551616 = n := Nat.mod_eq_of_lt (by omega)
      have h64' : n % 2 ^ 64 = n := Nat.mod_eq_of_lt (by omega)
      have e1 : ((BitVec.ofNat 64 S).sshiftRight' (BitVec.ofNat 64 n)).getLsbD 0 = S.testBit n := by
        unfold BitVec.sshiftRight'
        rw [BitVec.getLsbD_sshiftRight, BitVec.toNat_ofNat, h64']
        rw [if_pos (by omega), BitVec.getLsbD_ofNat]
        simp; omega
      rw [e1]
      cases S.testBit n <;> simp
    · have : decide (i = 0) = false := by simp; omega
      split <;> simp [this, BitVec.getLsbD_one]
  show (i64 (S : Int) >>> i64 (n : Int) &&& i64 1).toBitVec.toInt = _
  rw [e]
  split <;> rfl
theorem b_or {S n : Nat} (hS : S < 2 ^ 32) (hn : n < 32) : or64 S (shl64 1 n) = ((S ||| 2 ^ n : Nat) : Int) ∧ S ||| 2 ^ n < 2 ^ 32 := by
  have h2 : 2 ^ n < 2 ^ 32 := Nat.pow_lt_pow_right (by omega) hn
  have hlt := Nat.or_lt_two_pow hS h2
  refine ⟨?_, hlt⟩
  rw [b_shl n hn]
  unfold or64
  show (i64 (S : Int) ||| i64 ((2 ^ n : Nat) : Int)).toBitVec.toInt = _
  rw [Int64.toBitVec_or, b_nat, b_nat, ← BitVec.ofNat_or, BitVec.toInt_ofNat']
  rw [Int.bmod_eq_of_le] <;> omega
