theorem u31 : ∀ k : Nat, k < 32 → (((Int32.ofInt (k : Int)).toUInt32 &&& Int32.toUInt32 31).toBitVec % 32#32).toNat = k := by decide +kernel
theorem s31 : ∀ k : Nat, k < 32 → ((Int32.ofInt (k : Int) &&& 31).toBitVec.smod 32#32).toNat = k := by decide +kernel
theorem bv_and1 (b : BitVec 32) : b &&& 1#32 = if b.getLsbD 0 then 1#32 else 0#32 := by
  apply BitVec.eq_of_getLsbD_eq
  intro i hi
  rw [BitVec.getLsbD_and]
  cases i with
  | zero => cases h : b.getLsbD 0 <;> rfl
  | succ i => cases h : b.getLsbD 0 <;> simp
theorem in_bit (x : Int32) {k : Nat} (hk : k < 32) : ((x.toUInt32 >>> ((Int32.ofInt (k : Int)).toUInt32 &&& Int32.toUInt32 31)).toInt32 &&& Int32.ofInt 1) = if x.toBitVec.getLsbD k = true then Int32.ofInt 1 else Int32.ofInt 0 := by
  apply Int32.toBitVec.inj
  have e1 : ((x.toUInt32 >>> ((Int32.ofInt (k : Int)).toUInt32 &&& Int32.toUInt32 31)).toInt32 &&& Int32.ofInt 1).toBitVec = (x.toBitVec >>> (((Int32.ofInt (k : Int)).toUInt32 &&& Int32.toUInt32 31).toBitVec % 32#32).toNat) &&& 1#32 := rfl
  rw [e1, u31 k hk, bv_and1]
  by_cases h : x.toBitVec.getLsbD k = true
  · rw [if_pos h, if_pos (by simpa using h)]
    rfl
  · rw [if_neg h, if_neg (by simpa using h)]
    rfl
theorem has_bit (x : Int32) {k : Nat} (hk : k < 32) : (x >>> (Int32.ofInt (k : Int) &&& 31)) &&& Int32.ofInt 1 = if x.toBitVec.getLsbD k = true then Int32.ofInt 1 else Int32.ofInt 0 := by
  apply Int32.toBitVec.inj
  have e1 : ((x >>> (Int32.ofInt (k : Int) &&& 31)) &&& Int32.ofInt 1).toBitVec = (x.toBitVec.sshiftRight ((Int32.ofInt (k : Int) &&& 31).toBitVec.smod 32#32).toNat) &&& 1#32 := rfl
  rw [e1, s31 k hk, bv_and1]
  have e2 : (x.toBitVec.sshiftRight k).getLsbD 0 = x.toBitVec.getLsbD k := by
    rw [BitVec.getLsbD_sshiftRight]
    simp [hk]
  rw [e2]
  by_cases h : x.toBitVec.getLsbD k = true
  · rw [if_pos h, if_pos h]
    rfl
  · rw [if_neg h, if_neg h]
    rfl
theorem oI_bit (a k : Nat) (hk : k < 32) : (Int32.ofInt (a : Int)).toBitVec.getLsbD k = a.testBit k := by
  rw [oB, BitVec.getLsbD_ofNat]
  simp [hk]
/-- a set without k -/
def clrB (s k : Nat) : Nat := if s.testBit k = true then s ^^^ 2 ^ k else s
theorem clrB_bit (s k j : Nat) : (clrB s k).testBit j = (s.testBit j && decide (j ≠ k)) := by
  unfold clrB
  by_cases h : s.testBit k = true
  · rw [if_pos h]
    rw [Nat.testBit_xor]
    by_cases hj : j = k
    · subst hj; simp [h]
    · simp [Nat.testBit_two_pow_of_ne (Ne.symm hj), hj]
  · rw [if_neg h]
    by_cases hj : j = k
    · subst hj; simpa using h
    · simp [hj]
theorem clrB_lt {s n : Nat} (k : Nat) (h : s < 2 ^ n) : clrB s k < 2 ^ n := by
  apply Nat.lt_pow_two_of_testBit
  intro i hi
  rw [clrB_bit, Nat.testBit_lt_two_pow (Nat.lt_of_lt_of_le h (Nat.pow_le_pow_right (by decide) hi))]
  rfl
theorem oI_clr (s k : Nat) (hk : k < 32) : Int32.ofInt (s : Int) &&& (Int32.ofInt ((2 ^ k : Nat) : Int) ^^^ Int32.ofInt (-1)) = Int32.ofInt ((clrB s k : Nat) : Int) := by
  apply Int32.toBitVec.inj
  rw [Int32.toBitVec_and, Int32.toBitVec_xor]
  apply BitVec.eq_of_getLsbD_eq
  intro i hi
  rw [BitVec.getLsbD_and, BitVec.getLsbD_xor, oI_bit _ _ hi, oI_bit _ _ hi, oI_bit _ _ hi, clrB_bit]
  have e : (Int32.ofInt (-1)).toBitVec.getLsbD i = true := by
    have : (Int32.ofInt (-1)).toBitVec = BitVec.allOnes 32 := by decide
    rw [this, BitVec.getLsbD_allOnes]
    simpa using hi
  rw [e]
  by_cases hik : i = k
  · subst hik; simp
  · simp [Nat.testBit_two_pow_of_ne (Ne.symm hik), hik]
/-- a set with k -/
theorem set_bit (s k j : Nat) : (s ||| 2 ^ k).testBit j = (s.testBit j || decide (j = k)) := by
  rw [Nat.testBit_or]
  by_cases h : j = k
  · subst h; simp
  · simp [Nat.testBit_two_pow_of_ne (Ne.symm h), h]
theorem set_lt {s k n : Nat} (h1 : s < 2 ^ n) (h2 : k < n) : s ||| 2 ^ k < 2 ^ n := Nat.or_lt_two_pow h1 (Nat.pow_lt_pow_right (by decide) h2)
