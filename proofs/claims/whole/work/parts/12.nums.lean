/-! NUMBERS: ints as Int32.ofInt z, longs as Int64.ofInt z -/
theorem oI_add (a b : Int) : Int32.ofInt a + Int32.ofInt b = Int32.ofInt (a + b) := (Int32.ofInt_add a b).symm
theorem oI_sub (a b : Int) : Int32.ofInt a - Int32.ofInt b = Int32.ofInt (a - b) := (Int32.ofInt_sub a b).symm
theorem oI_mul (a b : Int) : Int32.ofInt a * Int32.ofInt b = Int32.ofInt (a * b) := (Int32.ofInt_mul a b).symm
theorem oI_neg (a : Int) : -Int32.ofInt a = Int32.ofInt (-a) := (Int32.ofInt_neg a).symm
theorem oI_0 : (0 : Int32) = Int32.ofInt 0 := rfl
theorem oI_1 : (1 : Int32) = Int32.ofInt 1 := rfl
theorem nI_o (n : Nat) : nI n = Int32.ofInt (n : Int) := Int32.ofInt_eq_ofNat.symm
theorem oI_toInt {a : Int} (h1 : -2147483648 ≤ a) (h2 : a < 2147483648) : (Int32.ofInt a).toInt = a := Int32.toInt_ofInt_of_le (by omega) (by omega)
theorem oI_le {a b : Int} (h1 : -2147483648 ≤ a) (h2 : a < 2147483648) (h3 : -2147483648 ≤ b) (h4 : b < 2147483648) : (Int32.ofInt a ≤ Int32.ofInt b) = (a ≤ b) := by
  rw [Int32.le_iff_toInt_le, oI_toInt h1 h2, oI_toInt h3 h4]
theorem oI_lt {a b : Int} (h1 : -2147483648 ≤ a) (h2 : a < 2147483648) (h3 : -2147483648 ≤ b) (h4 : b < 2147483648) : (Int32.ofInt a < Int32.ofInt b) = (a < b) := by
  rw [Int32.lt_iff_toInt_lt, oI_toInt h1 h2, oI_toInt h3 h4]
theorem oI_eq {a b : Int} (h1 : -2147483648 ≤ a) (h2 : a < 2147483648) (h3 : -2147483648 ≤ b) (h4 : b < 2147483648) : (Int32.ofInt a = Int32.ofInt b) = (a = b) := by
  rw [← Int32.toInt_inj, oI_toInt h1 h2, oI_toInt h3 h4]
theorem oI_nat {a : Int} (h1 : -2147483648 ≤ a) (h2 : a < 2147483648) : (Int32.ofInt a).toNatClampNeg = a.toNat := Int32.toNatClampNeg_ofInt_of_le (by omega) (by omega)
theorem oI_in {a : Int} {n : Nat} (h1 : -2147483648 ≤ a) (h2 : a < 2147483648) : vp_in (Int32.ofInt a) n = (0 ≤ a ∧ a < n) := by
  unfold vp_in
  rw [oI_nat h1 h2, show (0 : Int32) = Int32.ofInt 0 from rfl, oI_lt h1 h2 (by omega) (by omega)]
  apply propext
  omega
theorem oL_add (a b : Int) : Int64.ofInt a + Int64.ofInt b = Int64.ofInt (a + b) := (Int64.ofInt_add a b).symm
theorem oL_sub (a b : Int) : Int64.ofInt a - Int64.ofInt b = Int64.ofInt (a - b) := (Int64.ofInt_sub a b).symm
theorem oL_mul (a b : Int) : Int64.ofInt a * Int64.ofInt b = Int64.ofInt (a * b) := (Int64.ofInt_mul a b).symm
theorem oL_toInt {a : Int} (h1 : -9223372036854775808 ≤ a) (h2 : a < 9223372036854775808) : (Int64.ofInt a).toInt = a := Int64.toInt_ofInt_of_le (by omega) (by omega)
theorem oL_le {a b : Int} (h1 : -9223372036854775808 ≤ a) (h2 : a < 9223372036854775808) (h3 : -9223372036854775808 ≤ b) (h4 : b < 9223372036854775808) : (Int64.ofInt a ≤ Int64.ofInt b) = (a ≤ b) := by
  rw [Int64.le_iff_toInt_le, oL_toInt h1 h2, oL_toInt h3 h4]
theorem oL_lt {a b : Int} (h1 : -9223372036854775808 ≤ a) (h2 : a < 9223372036854775808) (h3 : -9223372036854775808 ≤ b) (h4 : b < 9223372036854775808) : (Int64.ofInt a < Int64.ofInt b) = (a < b) := by
  rw [Int64.lt_iff_toInt_lt, oL_toInt h1 h2, oL_toInt h3 h4]
theorem oL_eq {a b : Int} (h1 : -9223372036854775808 ≤ a) (h2 : a < 9223372036854775808) (h3 : -9223372036854775808 ≤ b) (h4 : b < 9223372036854775808) : (Int64.ofInt a = Int64.ofInt b) = (a = b) := by
  rw [← Int64.toInt_inj, oL_toInt h1 h2, oL_toInt h3 h4]
theorem oI_64 {a : Int} (h1 : -2147483648 ≤ a) (h2 : a < 2147483648) : (Int32.ofInt a).toInt64 = Int64.ofInt a := by
  apply Int64.toInt_inj.mp
  rw [Int32.toInt_toInt64, oI_toInt h1 h2, oL_toInt (by omega) (by omega)]
theorem lc_lt (x y : Int64) : (lg_cmp x y < 0) = (x < y) := by
  have h : x < y ∨ x = y ∨ y < x := by
    rw [Int64.lt_iff_toInt_lt, Int64.lt_iff_toInt_lt, ← Int64.toInt_inj]
    omega
  unfold lg_cmp
  by_cases h1 : x > y
  · rw [if_pos h1]
    have : ¬ x < y := Int64.lt_asymm h1
    simp [this]
  · rw [if_neg h1]
    by_cases h2 : x = y
    · rw [if_pos h2, h2]
      simp
    · rw [if_neg h2]
      have : x < y := by
        rcases h with h | h | h
        · exact h
        · exact absurd h h2
        · exact absurd h h1
      simp [this]
theorem lc_gt (x y : Int64) : (0 < lg_cmp x y) = (y < x) := by
  unfold lg_cmp
  by_cases h1 : x > y
  · rw [if_pos h1]
    have : y < x := h1
    simp [this]
  · rw [if_neg h1]
    have h1' : ¬ y < x := h1
    by_cases h2 : x = y
    · rw [if_pos h2]
      simp [h1']
    · rw [if_neg h2]
      simp [h1']
theorem lc_le (x y : Int64) : (lg_cmp x y ≤ 0) = (x ≤ y) := by
  have h := lc_gt x y
  apply propext
  rw [← Int32.not_lt, h, Int64.not_lt]
theorem lc_ge (x y : Int64) : (0 ≤ lg_cmp x y) = (y ≤ x) := by
  have h := lc_lt x y
  apply propext
  rw [← Int32.not_lt, h, Int64.not_lt]
theorem lc_eq (x y : Int64) : (lg_cmp x y = 0) = (x = y) := by
  unfold lg_cmp
  by_cases h1 : x > y
  · rw [if_pos h1]
    have : ¬ x = y := fun e => by rw [e] at h1; exact absurd h1 (Int64.lt_irrefl)
    simp [this]
  · rw [if_neg h1]
    by_cases h2 : x = y
    · rw [if_pos h2]
      simp [h2]
    · rw [if_neg h2]
      simp [h2]
theorem oI_div {a b : Int} (h1 : 0 ≤ a) (h2 : a < 2147483648) (h3 : 0 < b) (h4 : b < 2147483648) : Int32.ofInt a / Int32.ofInt b = Int32.ofInt (a / b) := by
  apply Int32.toInt_inj.mp
  rw [Int32.toInt_div_of_ne_right _ _ (by
    intro e
    have := congrArg Int32.toInt e
    rw [oI_toInt (by omega) (by omega)] at this
    have h5 : (-1 : Int32).toInt = -1 := by decide
    omega), oI_toInt (by omega) (by omega), oI_toInt (by omega) (by omega), Int.tdiv_eq_ediv_of_nonneg h1, oI_toInt]
  · have := Int.ediv_nonneg h1 (by omega : 0 ≤ b); omega
  · have := Int.ediv_le_self b h1; omega
theorem oI_rem {a b : Int} (h1 : 0 ≤ a) (h2 : a < 2147483648) (h3 : 0 < b) (h4 : b < 2147483648) : Int32.ofInt a - Int32.ofInt a / Int32.ofInt b * Int32.ofInt b = Int32.ofInt (a % b) := by
  rw [oI_div h1 h2 h3 h4, oI_mul, oI_sub]
  congr 1
  have := Int.mul_ediv_add_emod a b
  rw [Int.mul_comm] at this
  omega
theorem oL_div {a b : Int} (h1 : 0 ≤ a) (h2 : a < 9223372036854775808) (h3 : 0 < b) (h4 : b < 9223372036854775808) : Int64.ofInt a / Int64.ofInt b = Int64.ofInt (a / b) := by
  apply Int64.toInt_inj.mp
  rw [Int64.toInt_div_of_ne_right _ _ (by
    intro e
    have := congrArg Int64.toInt e
    rw [oL_toInt (by omega) (by omega)] at this
    have h5 : (-1 : Int64).toInt = -1 := by decide
    omega), oL_toInt (by omega) (by omega), oL_toInt (by omega) (by omega), Int.tdiv_eq_ediv_of_nonneg h1, oL_toInt]
  · have := Int.ediv_nonneg h1 (by omega : 0 ≤ b); omega
  · have := Int.ediv_le_self b h1; omega
theorem oL_rem {a b : Int} (h1 : 0 ≤ a) (h2 : a < 9223372036854775808) (h3 : 0 < b) (h4 : b < 9223372036854775808) : Int64.ofInt a - Int64.ofInt a / Int64.ofInt b * Int64.ofInt b = Int64.ofInt (a % b) := by
  rw [oL_div h1 h2 h3 h4, oL_mul, oL_sub]
  congr 1
  have := Int.mul_ediv_add_emod a b
  rw [Int.mul_comm] at this
  omega
/-! bits: sets as natural numbers -/
theorem oB (a : Nat) : (Int32.ofInt (a : Int)).toBitVec = BitVec.ofNat 32 a := by
  rw [Int32.toBitVec_ofInt]
  exact BitVec.ofInt_natCast 32 a
theorem oI_or (a b : Nat) : Int32.ofInt (a : Int) ||| Int32.ofInt (b : Int) = Int32.ofInt ((a ||| b : Nat) : Int) := by
  apply Int32.toBitVec.inj
  rw [Int32.toBitVec_or, oB, oB, oB, BitVec.ofNat_or]
theorem oI_and (a b : Nat) : Int32.ofInt (a : Int) &&& Int32.ofInt (b : Int) = Int32.ofInt ((a &&& b : Nat) : Int) := by
  apply Int32.toBitVec.inj
  rw [Int32.toBitVec_and, oB, oB, oB, BitVec.ofNat_and]
theorem oI_shl1 : ∀ k : Nat, k < 32 → Int32.ofInt 1 <<< (Int32.ofInt (k : Int) &&& 31) = Int32.ofInt ((2 ^ k : Nat) : Int) := by decide +kernel
theorem emod_nf (a b : Int) : a - a / b * b = a % b := by
  have := Int.mul_ediv_add_emod a b
  rw [Int.mul_comm] at this
  omega
theorem tn_add {a b : Int} (h1 : 0 ≤ a) (h2 : 0 ≤ b) : (a + b).toNat = a.toNat + b.toNat := by omega
theorem tn_sub {a b : Int} (h1 : b ≤ a) (h2 : 0 ≤ b) : (a - b).toNat = a.toNat - b.toNat := by omega
theorem oL_0 : (0 : Int64) = Int64.ofInt 0 := rfl
theorem lcO_lt (x y : Int64) : (lg_cmp x y < Int32.ofInt 0) = (x < y) := lc_lt x y
theorem lcO_gt (x y : Int64) : (Int32.ofInt 0 < lg_cmp x y) = (y < x) := lc_gt x y
theorem lcO_le (x y : Int64) : (lg_cmp x y ≤ Int32.ofInt 0) = (x ≤ y) := lc_le x y
theorem lcO_ge (x y : Int64) : (Int32.ofInt 0 ≤ lg_cmp x y) = (y ≤ x) := lc_ge x y
theorem lcO_eq (x y : Int64) : (lg_cmp x y = Int32.ofInt 0) = (x = y) := lc_eq x y
