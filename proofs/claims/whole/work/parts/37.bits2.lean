/-! Integer.bitCount -/
theorem oI_ushr (a k : Nat) (ha : a < 2147483648) (hk : k < 32) : ((Int32.ofInt (a : Int)).toUInt32 >>> ((Int32.ofInt (k : Int)).toUInt32 &&& Int32.toUInt32 31)).toInt32 = Int32.ofInt ((a >>> k : Nat) : Int) := by
  apply Int32.toBitVec.inj
  have e1 : (((Int32.ofInt (a : Int)).toUInt32 >>> ((Int32.ofInt (k : Int)).toUInt32 &&& Int32.toUInt32 31)).toInt32).toBitVec = (Int32.ofInt (a : Int)).toBitVec >>> (((Int32.ofInt (k : Int)).toUInt32 &&& Int32.toUInt32 31).toBitVec % 32#32).toNat := rfl
  rw [e1, u31 k hk, oB, oB]
  apply BitVec.eq_of_toNat_eq
  rw [BitVec.toNat_ushiftRight, BitVec.toNat_ofNat, BitVec.toNat_ofNat, Nat.mod_eq_of_lt (by omega), Nat.mod_eq_of_lt]
  have := Nat.shiftRight_le a k
  omega
/-- digits by 2^k -/
def dgN (k : Nat) : List Nat → Nat
  | [] => 0
  | c :: r => c + 2 ^ k * dgN k r
theorem and_split {k a m b n : Nat} (ha : a < 2 ^ k) (hm : m < 2 ^ k) : (a + 2 ^ k * b) &&& (m + 2 ^ k * n) = (a &&& m) + 2 ^ k * (b &&& n) := by
  have e : ∀ x y : Nat, x < 2 ^ k → x + 2 ^ k * y = 2 ^ k * y ||| x := fun x y hx => by
    rw [Nat.add_comm, Nat.two_pow_add_eq_or_of_lt hx]
  have ham : a &&& m < 2 ^ k := Nat.lt_of_le_of_lt Nat.and_le_left ha
  rw [e a b ha, e m n hm, e _ _ ham]
  apply Nat.eq_of_testBit_eq
  intro i
  simp only [Nat.testBit_and, Nat.testBit_or, Nat.testBit_two_pow_mul]
  by_cases h : k ≤ i
  · have h1 : a.testBit i = false := Nat.testBit_lt_two_pow (Nat.lt_of_lt_of_le ha (Nat.pow_le_pow_right (by decide) h))
    have h2 : m.testBit i = false := Nat.testBit_lt_two_pow (Nat.lt_of_lt_of_le hm (Nat.pow_le_pow_right (by decide) h))
    simp [h, h1, h2]
  · simp [h]
theorem and_dg {k : Nat} : ∀ (cs ms : List Nat), (∀ c ∈ cs, c < 2 ^ k) → (∀ m ∈ ms, m < 2 ^ k) → dgN k cs &&& dgN k ms = dgN k (List.zipWith (fun c m => c &&& m) cs ms)
  | [], ms, _, _ => by simp [dgN]
  | c :: cs, [], _, _ => by simp [dgN]
  | c :: cs, m :: ms, hc, hm => by
    simp only [dgN, List.zipWith_cons_cons]
    rw [and_split (hc c List.mem_cons_self) (hm m List.mem_cons_self), and_dg cs ms (fun x hx => hc x (List.mem_cons_of_mem _ hx)) (fun x hx => hm x (List.mem_cons_of_mem _ hx))]
theorem shr_dg {k c : Nat} {r : List Nat} (hc : c < 2 ^ k) : dgN k (c :: r) >>> k = dgN k r := by
  simp only [dgN, Nat.shiftRight_eq_div_pow]
  rw [Nat.add_mul_div_left _ _ (Nat.pow_pos (by decide)), Nat.div_eq_of_lt hc, Nat.zero_add]
/-- bits of a number -/
def btL (x : Nat) : Nat → List Nat
  | 0 => []
  | n + 1 => x % 2 :: btL (x / 2) n
theorem btL_dg : ∀ (n x : Nat), x < 2 ^ n → dgN 1 (btL x n) = x
  | 0, x, h => by simp [btL, dgN] at *; omega
  | n + 1, x, h => by
    simp only [btL, dgN]
    rw [btL_dg n (x / 2) (by rw [Nat.pow_succ] at h; omega)]
    omega
/-- how many bits -/
def pcN : Nat → Nat → Nat
  | 0, _ => 0
  | n + 1, x => x % 2 + pcN n (x / 2)
theorem and_15 {b : Nat} (h : b < 16) : b &&& 15 = b := by
  have : ∀ c : Fin 16, c.val &&& 15 = c.val := by decide
  exact this ⟨b, h⟩
theorem and_1 {b : Nat} (h : b < 2) : b &&& 1 = b := by rcases (show b = 0 ∨ b = 1 by omega) with rfl | rfl <;> rfl
theorem and_3 {b : Nat} (h : b < 4) : b &&& 3 = b := by rcases (show b = 0 ∨ b = 1 ∨ b = 2 ∨ b = 3 by omega) with rfl | rfl | rfl | rfl <;> rfl
set_option maxRecDepth 100000 in
set_option maxHeartbeats 4000000 in
theorem bc_1 {b0 b1 b2 b3 b4 b5 b6 b7 b8 b9 b10 b11 b12 b13 b14 b15 b16 b17 b18 b19 b20 b21 b22 b23 b24 b25 b26 b27 b28 b29 b30 b31 : Nat} (h0 : b0 < 2) (h1 : b1 < 2) (h2 : b2 < 2) (h3 : b3 < 2) (h4 : b4 < 2) (h5 : b5 < 2) (h6 : b6 < 2) (h7 : b7 < 2) (h8 : b8 < 2) (h9 : b9 < 2) (h10 : b10 < 2) (h11 : b11 < 2) (h12 : b12 < 2) (h13 : b13 < 2) (h14 : b14 < 2) (h15 : b15 < 2) (h16 : b16 < 2) (h17 : b17 < 2) (h18 : b18 < 2) (h19 : b19 < 2) (h20 : b20 < 2) (h21 : b21 < 2) (h22 : b22 < 2) (h23 : b23 < 2) (h24 : b24 < 2) (h25 : b25 < 2) (h26 : b26 < 2) (h27 : b27 < 2) (h28 : b28 < 2) (h29 : b29 < 2) (h30 : b30 < 2) (h31 : b31 < 2) : dgN 1 [b0, b1, b2, b3, b4, b5, b6, b7, b8, b9, b10, b11, b12, b13, b14, b15, b16, b17, b18, b19, b20, b21, b22, b23, b24, b25, b26, b27, b28, b29, b30, b31] - (dgN 1 [b0, b1, b2, b3, b4, b5, b6, b7, b8, b9, b10, b11, b12, b13, b14, b15, b16, b17, b18, b19, b20, b21, b22, b23, b24, b25, b26, b27, b28, b29, b30, b31] >>> 1 &&& 1431655765) = dgN 2 [b0 + b1, b2 + b3, b4 + b5, b6 + b7, b8 + b9, b10 + b11, b12 + b13, b14 + b15, b16 + b17, b18 + b19, b20 + b21, b22 + b23, b24 + b25, b26 + b27, b28 + b29, b30 + b31] := by
  rw [shr_dg (by omega), show 1431655765 = dgN 1 [1, 0, 1, 0, 1, 0, 1, 0, 1, 0, 1, 0, 1, 0, 1, 0, 1, 0, 1, 0, 1, 0, 1, 0, 1, 0, 1, 0, 1, 0, 1] from rfl, and_dg _ _ (by simp only [List.forall_mem_cons, List.not_mem_nil, false_implies, implies_true, and_true]; omega) (by decide)]
  simp only [List.zipWith_cons_cons, List.zipWith_nil_left, Nat.and_zero, and_1, *]
  simp only [dgN]
  omega
set_option maxRecDepth 100000 in
set_option maxHeartbeats 4000000 in
theorem bc_2 {c0 c1 c2 c3 c4 c5 c6 c7 c8 c9 c10 c11 c12 c13 c14 c15 : Nat} (h0 : c0 ≤ 2) (h1 : c1 ≤ 2) (h2 : c2 ≤ 2) (h3 : c3 ≤ 2) (h4 : c4 ≤ 2) (h5 : c5 ≤ 2) (h6 : c6 ≤ 2) (h7 : c7 ≤ 2) (h8 : c8 ≤ 2) (h9 : c9 ≤ 2) (h10 : c10 ≤ 2) (h11 : c11 ≤ 2) (h12 : c12 ≤ 2) (h13 : c13 ≤ 2) (h14 : c14 ≤ 2) (h15 : c15 ≤ 2) : (dgN 2 [c0, c1, c2, c3, c4, c5, c6, c7, c8, c9, c10, c11, c12, c13, c14, c15] &&& 858993459) + (dgN 2 [c0, c1, c2, c3, c4, c5, c6, c7, c8, c9, c10, c11, c12, c13, c14, c15] >>> 2 &&& 858993459) = dgN 4 [c0 + c1, c2 + c3, c4 + c5, c6 + c7, c8 + c9, c10 + c11, c12 + c13, c14 + c15] := by
  rw [shr_dg (by omega), show 858993459 = dgN 2 [3, 0, 3, 0, 3, 0, 3, 0, 3, 0, 3, 0, 3, 0, 3, 0] from rfl, and_dg _ _ (by simp only [List.forall_mem_cons, List.not_mem_nil, false_implies, implies_true, and_true]; omega) (by decide), and_dg _ _ (by simp only [List.forall_mem_cons, List.not_mem_nil, false_implies, implies_true, and_true]; omega) (by decide)]
  simp (disch := omega) only [List.zipWith_cons_cons, List.zipWith_nil_left, Nat.and_zero, and_3]
  simp only [dgN]
  omega
set_option maxRecDepth 100000 in
set_option maxHeartbeats 4000000 in
theorem bc_3 {n0 n1 n2 n3 n4 n5 n6 n7 : Nat} (h0 : n0 ≤ 4) (h1 : n1 ≤ 4) (h2 : n2 ≤ 4) (h3 : n3 ≤ 4) (h4 : n4 ≤ 4) (h5 : n5 ≤ 4) (h6 : n6 ≤ 4) (h7 : n7 ≤ 4) : (dgN 4 [n0, n1, n2, n3, n4, n5, n6, n7] + (dgN 4 [n0, n1, n2, n3, n4, n5, n6, n7] >>> 4)) &&& 252645135 = dgN 8 [n0 + n1, n2 + n3, n4 + n5, n6 + n7] := by
  have e : dgN 4 [n0, n1, n2, n3, n4, n5, n6, n7] + (dgN 4 [n0, n1, n2, n3, n4, n5, n6, n7] >>> 4) = dgN 4 [n0 + n1, n1 + n2, n2 + n3, n3 + n4, n4 + n5, n5 + n6, n6 + n7, n7] := by
    rw [shr_dg (by omega)]
    simp only [dgN]
    omega
  rw [e, show 252645135 = dgN 4 [15, 0, 15, 0, 15, 0, 15, 0] from rfl, and_dg _ _ (by simp only [List.forall_mem_cons, List.not_mem_nil, false_implies, implies_true, and_true]; omega) (by decide)]
  simp (disch := omega) only [List.zipWith_cons_cons, List.zipWith_nil_left, Nat.and_zero, and_15]
  simp only [dgN]
  omega
theorem bc_4 {m0 m1 m2 m3 : Nat} (h0 : m0 ≤ 8) (h1 : m1 ≤ 8) (h2 : m2 ≤ 8) (h3 : m3 ≤ 8) : ((dgN 8 [m0, m1, m2, m3] + (dgN 8 [m0, m1, m2, m3] >>> 8)) + ((dgN 8 [m0, m1, m2, m3] + (dgN 8 [m0, m1, m2, m3] >>> 8)) >>> 16)) &&& 63 = m0 + m1 + m2 + m3 := by
  have e1 : dgN 8 [m0, m1, m2, m3] + (dgN 8 [m0, m1, m2, m3] >>> 8) = dgN 8 [m0 + m1, m1 + m2, m2 + m3, m3] := by
    rw [shr_dg (by omega)]
    simp only [dgN]
    omega
  have e2 : dgN 8 [m0 + m1, m1 + m2, m2 + m3, m3] >>> 16 = dgN 8 [m2 + m3, m3] := by
    rw [show 16 = 8 + 8 from rfl, Nat.shiftRight_add, shr_dg (by omega), shr_dg (by omega)]
  have e3 : ∀ y : Nat, y &&& 63 = y % 64 := fun y => Nat.and_two_pow_sub_one_eq_mod y 6
  rw [e1, e2, e3]
  simp only [dgN]
  omega
theorem dg_lt2 {k n : Nat} : ∀ {l : List Nat}, (∀ c ∈ l, c < 2 ^ k) → l.length ≤ n → dgN k l < 2 ^ (k * n)
  | [], _, _ => Nat.pow_pos (by decide)
  | c :: r, h, hl => by
    cases n with
    | zero => simp at hl
    | succ n =>
      have := dg_lt2 (k := k) (n := n) (l := r) (fun x hx => h x (List.mem_cons_of_mem _ hx)) (by simpa using hl)
      have h1 := h c List.mem_cons_self
      simp only [dgN]
      rw [Nat.mul_succ, Nat.pow_add, Nat.mul_comm (2 ^ (k * n))]
      have h2 : dgN k r + 1 ≤ 2 ^ (k * n) := this
      have h3 := Nat.mul_le_mul_left (2 ^ k) h2
      rw [Nat.mul_add] at h3
      omega
set_option maxRecDepth 100000 in
set_option maxHeartbeats 4000000 in
theorem bc_all (x : Nat) (hx : x < 4294967296) : ∃ s1 s2 s3 s4 : Nat, s1 = x - (x >>> 1 &&& 1431655765) ∧ s2 = (s1 &&& 858993459) + (s1 >>> 2 &&& 858993459) ∧ s3 = (s2 + (s2 >>> 4)) &&& 252645135 ∧ s4 = s3 + (s3 >>> 8) ∧ (s4 + (s4 >>> 16)) &&& 63 = pcN 32 x ∧ s2 ≤ 1145324612 ∧ s3 ≤ 134744072 := by
  have e := btL_dg 32 x hx
  simp only [btL] at e
  simp only [pcN]
  obtain ⟨b0, hb0⟩ : ∃ b, x % 2 = b := ⟨_, rfl⟩
  have l0 : b0 < 2 := by rw [← hb0]; exact Nat.mod_lt _ (by decide)
  obtain ⟨b1, hb1⟩ : ∃ b, x / 2 % 2 = b := ⟨_, rfl⟩
  have l1 : b1 < 2 := by rw [← hb1]; exact Nat.mod_lt _ (by decide)
  obtain ⟨b2, hb2⟩ : ∃ b, x / 2 / 2 % 2 = b := ⟨_, rfl⟩
  have l2 : b2 < 2 := by rw [← hb2]; exact Nat.mod_lt _ (by decide)
  obtain ⟨b3, hb3⟩ : ∃ b, x / 2 / 2 / 2 % 2 = b := ⟨_, rfl⟩
  have l3 : b3 < 2 := by rw [← hb3]; exact Nat.mod_lt _ (by decide)
  obtain ⟨b4, hb4⟩ : ∃ b, x / 2 / 2 / 2 / 2 % 2 = b := ⟨_, rfl⟩
  have l4 : b4 < 2 := by rw [← hb4]; exact Nat.mod_lt _ (by decide)
  obtain ⟨b5, hb5⟩ : ∃ b, x / 2 / 2 / 2 / 2 / 2 % 2 = b := ⟨_, rfl⟩
  have l5 : b5 < 2 := by rw [← hb5]; exact Nat.mod_lt _ (by decide)
  obtain ⟨b6, hb6⟩ : ∃ b, x / 2 / 2 / 2 / 2 / 2 / 2 % 2 = b := ⟨_, rfl⟩
  have l6 : b6 < 2 := by rw [← hb6]; exact Nat.mod_lt _ (by decide)
  obtain ⟨b7, hb7⟩ : ∃ b, x / 2 / 2 / 2 / 2 / 2 / 2 / 2 % 2 = b := ⟨_, rfl⟩
  have l7 : b7 < 2 := by rw [← hb7]; exact Nat.mod_lt _ (by decide)
  obtain ⟨b8, hb8⟩ : ∃ b, x / 2 / 2 / 2 / 2 / 2 / 2 / 2 / 2 % 2 = b := ⟨_, rfl⟩
  have l8 : b8 < 2 := by rw [← hb8]; exact Nat.mod_lt _ (by decide)
  obtain ⟨b9, hb9⟩ : ∃ b, x / 2 / 2 / 2 / 2 / 2 / 2 / 2 / 2 / 2 % 2 = b := ⟨_, rfl⟩
  have l9 : b9 < 2 := by rw [← hb9]; exact Nat.mod_lt _ (by decide)
  obtain ⟨b10, hb10⟩ : ∃ b, x / 2 / 2 / 2 / 2 / 2 / 2 / 2 / 2 / 2 / 2 % 2 = b := ⟨_, rfl⟩
  have l10 : b10 < 2 := by rw [← hb10]; exact Nat.mod_lt _ (by decide)
  obtain ⟨b11, hb11⟩ : ∃ b, x / 2 / 2 / 2 / 2 / 2 / 2 / 2 / 2 / 2 / 2 / 2 % 2 = b := ⟨_, rfl⟩
  have l11 : b11 < 2 := by rw [← hb11]; exact Nat.mod_lt _ (by decide)
  obtain ⟨b12, hb12⟩ : ∃ b, x / 2 / 2 / 2 / 2 / 2 / 2 / 2 / 2 / 2 / 2 / 2 / 2 % 2 = b := ⟨_, rfl⟩
  have l12 : b12 < 2 := by rw [← hb12]; exact Nat.mod_lt _ (by decide)
  obtain ⟨b13, hb13⟩ : ∃ b, x / 2 / 2 / 2 / 2 / 2 / 2 / 2 / 2 / 2 / 2 / 2 / 2 / 2 % 2 = b := ⟨_, rfl⟩
  have l13 : b13 < 2 := by rw [← hb13]; exact Nat.mod_lt _ (by decide)
  obtain ⟨b14, hb14⟩ : ∃ b, x / 2 / 2 / 2 / 2 / 2 / 2 / 2 / 2 / 2 / 2 / 2 / 2 / 2 / 2 % 2 = b := ⟨_, rfl⟩
  have l14 : b14 < 2 := by rw [← hb14]; exact Nat.mod_lt _ (by decide)
  obtain ⟨b15, hb15⟩ : ∃ b, x / 2 / 2 / 2 / 2 / 2 / 2 / 2 / 2 / 2 / 2 / 2 / 2 / 2 / 2 / 2 % 2 = b := ⟨_, rfl⟩
  have l15 : b15 < 2 := by rw [← hb15]; exact Nat.mod_lt _ (by decide)
  obtain ⟨b16, hb16⟩ : ∃ b, x / 2 / 2 / 2 / 2 / 2 / 2 / 2 / 2 / 2 / 2 / 2 / 2 / 2 / 2 / 2 / 2 % 2 = b := ⟨_, rfl⟩
  have l16 : b16 < 2 := by rw [← hb16]; exact Nat.mod_lt _ (by decide)
  obtain ⟨b17, hb17⟩ : ∃ b, x / 2 / 2 / 2 / 2 / 2 / 2 / 2 / 2 / 2 / 2 / 2 / 2 / 2 / 2 / 2 / 2 / 2 % 2 = b := ⟨_, rfl⟩
  have l17 : b17 < 2 := by rw [← hb17]; exact Nat.mod_lt _ (by decide)
  obtain ⟨b18, hb18⟩ : ∃ b, x / 2 / 2 / 2 / 2 / 2 / 2 / 2 / 2 / 2 / 2 / 2 / 2 / 2 / 2 / 2 / 2 / 2 / 2 % 2 = b := ⟨_, rfl⟩
  have l18 : b18 < 2 := by rw [← hb18]; exact Nat.mod_lt _ (by decide)
  obtain ⟨b19, hb19⟩ : ∃ b, x / 2 / 2 / 2 / 2 / 2 / 2 / 2 / 2 / 2 / 2 / 2 / 2 / 2 / 2 / 2 / 2 / 2 / 2 / 2 % 2 = b := ⟨_, rfl⟩
  have l19 : b19 < 2 := by rw [← hb19]; exact Nat.mod_lt _ (by decide)
  obtain ⟨b20, hb20⟩ : ∃ b, x / 2 / 2 / 2 / 2 / 2 / 2 / 2 / 2 / 2 / 2 / 2 / 2 / 2 / 2 / 2 / 2 / 2 / 2 / 2 / 2 % 2 = b := ⟨_, rfl⟩
  have l20 : b20 < 2 := by rw [← hb20]; exact Nat.mod_lt _ (by decide)
  obtain ⟨b21, hb21⟩ : ∃ b, x / 2 / 2 / 2 / 2 / 2 / 2 / 2 / 2 / 2 / 2 / 2 / 2 / 2 / 2 / 2 / 2 / 2 / 2 / 2 / 2 / 2 % 2 = b := ⟨_, rfl⟩
  have l21 : b21 < 2 := by rw [← hb21]; exact Nat.mod_lt _ (by decide)
  obtain ⟨b22, hb22⟩ : ∃ b, x / 2 / 2 / 2 / 2 / 2 / 2 / 2 / 2 / 2 / 2 / 2 / 2 / 2 / 2 / 2 / 2 / 2 / 2 / 2 / 2 / 2 / 2 % 2 = b := ⟨_, rfl⟩
  have l22 : b22 < 2 := by rw [← hb22]; exact Nat.mod_lt _ (by decide)
  obtain ⟨b23, hb23⟩ : ∃ b, x / 2 / 2 / 2 / 2 / 2 / 2 / 2 / 2 / 2 / 2 / 2 / 2 / 2 / 2 / 2 / 2 / 2 / 2 / 2 / 2 / 2 / 2 / 2 % 2 = b := ⟨_, rfl⟩
  have l23 : b23 < 2 := by rw [← hb23]; exact Nat.mod_lt _ (by decide)
  obtain ⟨b24, hb24⟩ : ∃ b, x / 2 / 2 / 2 / 2 / 2 / 2 / 2 / 2 / 2 / 2 / 2 / 2 / 2 / 2 / 2 / 2 / 2 / 2 / 2 / 2 / 2 / 2 / 2 / 2 % 2 = b := ⟨_, rfl⟩
  have l24 : b24 < 2 := by rw [← hb24]; exact Nat.mod_lt _ (by decide)
  obtain ⟨b25, hb25⟩ : ∃ b, x / 2 / 2 / 2 / 2 / 2 / 2 / 2 / 2 / 2 / 2 / 2 / 2 / 2 / 2 / 2 / 2 / 2 / 2 / 2 / 2 / 2 / 2 / 2 / 2 / 2 % 2 = b := ⟨_, rfl⟩
  have l25 : b25 < 2 := by rw [← hb25]; exact Nat.mod_lt _ (by decide)
  obtain ⟨b26, hb26⟩ : ∃ b, x / 2 / 2 / 2 / 2 / 2 / 2 / 2 / 2 / 2 / 2 / 2 / 2 / 2 / 2 / 2 / 2 / 2 / 2 / 2 / 2 / 2 / 2 / 2 / 2 / 2 / 2 % 2 = b := ⟨_, rfl⟩
  have l26 : b26 < 2 := by rw [← hb26]; exact Nat.mod_lt _ (by decide)
  obtain ⟨b27, hb27⟩ : ∃ b, x / 2 / 2 / 2 / 2 / 2 / 2 / 2 / 2 / 2 / 2 / 2 / 2 / 2 / 2 / 2 / 2 / 2 / 2 / 2 / 2 / 2 / 2 / 2 / 2 / 2 / 2 / 2 % 2 = b := ⟨_, rfl⟩
  have l27 : b27 < 2 := by rw [← hb27]; exact Nat.mod_lt _ (by decide)
  obtain ⟨b28, hb28⟩ : ∃ b, x / 2 / 2 / 2 / 2 / 2 / 2 / 2 / 2 / 2 / 2 / 2 / 2 / 2 / 2 / 2 / 2 / 2 / 2 / 2 / 2 / 2 / 2 / 2 / 2 / 2 / 2 / 2 / 2 % 2 = b := ⟨_, rfl⟩
  have l28 : b28 < 2 := by rw [← hb28]; exact Nat.mod_lt _ (by decide)
  obtain ⟨b29, hb29⟩ : ∃ b, x / 2 / 2 / 2 / 2 / 2 / 2 / 2 / 2 / 2 / 2 / 2 / 2 / 2 / 2 / 2 / 2 / 2 / 2 / 2 / 2 / 2 / 2 / 2 / 2 / 2 / 2 / 2 / 2 / 2 % 2 = b := ⟨_, rfl⟩
  have l29 : b29 < 2 := by rw [← hb29]; exact Nat.mod_lt _ (by decide)
  obtain ⟨b30, hb30⟩ : ∃ b, x / 2 / 2 / 2 / 2 / 2 / 2 / 2 / 2 / 2 / 2 / 2 / 2 / 2 / 2 / 2 / 2 / 2 / 2 / 2 / 2 / 2 / 2 / 2 / 2 / 2 / 2 / 2 / 2 / 2 / 2 % 2 = b := ⟨_, rfl⟩
  have l30 : b30 < 2 := by rw [← hb30]; exact Nat.mod_lt _ (by decide)
  obtain ⟨b31, hb31⟩ : ∃ b, x / 2 / 2 / 2 / 2 / 2 / 2 / 2 / 2 / 2 / 2 / 2 / 2 / 2 / 2 / 2 / 2 / 2 / 2 / 2 / 2 / 2 / 2 / 2 / 2 / 2 / 2 / 2 / 2 / 2 / 2 / 2 % 2 = b := ⟨_, rfl⟩
  have l31 : b31 < 2 := by rw [← hb31]; exact Nat.mod_lt _ (by decide)
  simp only [hb0, hb1, hb2, hb3, hb4, hb5, hb6, hb7, hb8, hb9, hb10, hb11, hb12, hb13, hb14, hb15, hb16, hb17, hb18, hb19, hb20, hb21, hb22, hb23, hb24, hb25, hb26, hb27, hb28, hb29, hb30, hb31] at e ⊢
  refine ⟨_, _, _, _, rfl, rfl, rfl, rfl, ?_⟩
  rw [← e, bc_1 l0 l1 l2 l3 l4 l5 l6 l7 l8 l9 l10 l11 l12 l13 l14 l15 l16 l17 l18 l19 l20 l21 l22 l23 l24 l25 l26 l27 l28 l29 l30 l31, bc_2 (by omega) (by omega) (by omega) (by omega) (by omega) (by omega) (by omega) (by omega) (by omega) (by omega) (by omega) (by omega) (by omega) (by omega) (by omega) (by omega), bc_3 (by omega) (by omega) (by omega) (by omega) (by omega) (by omega) (by omega) (by omega), bc_4 (by omega) (by omega) (by omega) (by omega)]
  refine ⟨by omega, ?_, ?_⟩
  · simp only [dgN]; omega
  · simp only [dgN]; omega
theorem oI_us1 (a : Nat) (ha : a < 2147483648) : ((Int32.ofInt (a : Int)).toUInt32 >>> ((Int32.ofInt 1).toUInt32 &&& Int32.toUInt32 31)).toInt32 = Int32.ofInt ((a >>> 1 : Nat) : Int) := oI_ushr a 1 ha (by decide)
theorem oI_us2 (a : Nat) (ha : a < 2147483648) : ((Int32.ofInt (a : Int)).toUInt32 >>> ((Int32.ofInt 2).toUInt32 &&& Int32.toUInt32 31)).toInt32 = Int32.ofInt ((a >>> 2 : Nat) : Int) := oI_ushr a 2 ha (by decide)
theorem oI_us4 (a : Nat) (ha : a < 2147483648) : ((Int32.ofInt (a : Int)).toUInt32 >>> ((Int32.ofInt 4).toUInt32 &&& Int32.toUInt32 31)).toInt32 = Int32.ofInt ((a >>> 4 : Nat) : Int) := oI_ushr a 4 ha (by decide)
theorem oI_us8 (a : Nat) (ha : a < 2147483648) : ((Int32.ofInt (a : Int)).toUInt32 >>> ((Int32.ofInt 8).toUInt32 &&& Int32.toUInt32 31)).toInt32 = Int32.ofInt ((a >>> 8 : Nat) : Int) := oI_ushr a 8 ha (by decide)
theorem oI_us16 (a : Nat) (ha : a < 2147483648) : ((Int32.ofInt (a : Int)).toUInt32 >>> ((Int32.ofInt 16).toUInt32 &&& Int32.toUInt32 31)).toInt32 = Int32.ofInt ((a >>> 16 : Nat) : Int) := oI_ushr a 16 ha (by decide)
theorem oI_m5 (a : Nat) : Int32.ofInt (a : Int) &&& Int32.ofInt 1431655765 = Int32.ofInt ((a &&& 1431655765 : Nat) : Int) := oI_and a 1431655765
theorem oI_m3 (a : Nat) : Int32.ofInt (a : Int) &&& Int32.ofInt 858993459 = Int32.ofInt ((a &&& 858993459 : Nat) : Int) := oI_and a 858993459
theorem oI_mf (a : Nat) : Int32.ofInt (a : Int) &&& Int32.ofInt 252645135 = Int32.ofInt ((a &&& 252645135 : Nat) : Int) := oI_and a 252645135
theorem oI_m63 (a : Nat) : Int32.ofInt (a : Int) &&& Int32.ofInt 63 = Int32.ofInt ((a &&& 63 : Nat) : Int) := oI_and a 63
theorem oI_nadd (a b : Nat) : Int32.ofInt (a : Int) + Int32.ofInt (b : Int) = Int32.ofInt ((a + b : Nat) : Int) := by rw [oI_add, Int.natCast_add]
theorem oI_nsub (a b : Nat) (h : b ≤ a) : Int32.ofInt (a : Int) - Int32.ofInt (b : Int) = Int32.ofInt ((a - b : Nat) : Int) := by rw [oI_sub, Int.natCast_sub h]
set_option maxRecDepth 100000 in
theorem sp_bitCount (d : Nat) {h : Hp} (x : Nat) (hx : x < 1073741824) {Q : QT} (hQ : Q (some (.int (Int32.ofInt (pcN 32 x)))) h) : Call (d + 1) MJ6_bitCount [.int (Int32.ofInt x)] h Q := by
  obtain ⟨s1, s2, s3, s4, e1, e2, e3, e4, e5, b2, b3⟩ := bc_all x (by omega)
  have a1 : (x >>> 1 &&& 1431655765) ≤ x := Nat.le_trans Nat.and_le_left (Nat.shiftRight_le x 1)
  have a2 : s2 >>> 4 ≤ s2 := Nat.shiftRight_le s2 4
  have a3 : s3 >>> 8 ≤ s3 := Nat.shiftRight_le s3 8
  rw [← e5] at hQ
  refine call_of_at (ls := [some (.int (Int32.ofInt x))]) (by decide) rfl (Nat.le_of_ble_eq_true rfl) rfl ?_
  (refine blk_sound [] 400 ?_); simp (disch := omega) only [blk_s, nx_s, kC_s, exI_bipush, exI_iadd, exI_iand, exI_iconst, exI_iload_n, exI_ireturn, exI_istore_n, exI_isub, exI_iushr, exI_ldc_w, p_J6_bitCount, dJ6_bitCount_0f7a4_0, dJ6_bitCount_0f7a4_1, dJ6_bitCount_0f7a4_2, dJ6_bitCount_0f7a4_3, dJ6_bitCount_0f7a4_4, dJ6_bitCount_0f7a4_7, dJ6_bitCount_0f7a4_8, dJ6_bitCount_0f7a4_9, dJ6_bitCount_0f7a4_10, dJ6_bitCount_0f7a4_11, dJ6_bitCount_0f7a4_14, dJ6_bitCount_0f7a4_15, dJ6_bitCount_0f7a4_16, dJ6_bitCount_0f7a4_17, dJ6_bitCount_0f7a4_18, dJ6_bitCount_0f7a4_21, dJ6_bitCount_0f7a4_22, dJ6_bitCount_0f7a4_23, dJ6_bitCount_0f7a4_24, dJ6_bitCount_0f7a4_25, dJ6_bitCount_0f7a4_26, dJ6_bitCount_0f7a4_27, dJ6_bitCount_0f7a4_28, dJ6_bitCount_0f7a4_29, dJ6_bitCount_0f7a4_32, dJ6_bitCount_0f7a4_33, dJ6_bitCount_0f7a4_34, dJ6_bitCount_0f7a4_35, dJ6_bitCount_0f7a4_36, dJ6_bitCount_0f7a4_38, dJ6_bitCount_0f7a4_39, dJ6_bitCount_0f7a4_40, dJ6_bitCount_0f7a4_41, dJ6_bitCount_0f7a4_42, dJ6_bitCount_0f7a4_43, dJ6_bitCount_0f7a4_45, dJ6_bitCount_0f7a4_46, dJ6_bitCount_0f7a4_47, dJ6_bitCount_0f7a4_48, dJ6_bitCount_0f7a4_49, dJ6_bitCount_0f7a4_51, dJ6_bitCount_0f7a4_52, ki_12_265, ki_12_266, ki_12_267, ab_clr, ab_st1, ab_st2, ab_b2, ab_q2, ab_l2, ab_p2, ab_neg, ab_i2l, ab_lcmp, ab_lshl, ab_ld, ab_sti, ab_stl, ab_inc, ab_dup, ab_dup2, ab_pop, ab_pop2, cmpP, ab_goto, ab_icmp, ab_if, ab_sw, ab_table, ab_get, ab_put, ab_iald, ab_iast, ab_lald, ab_last, ab_aald, ab_ki, ab_kl, popN, pushO, isC, ab_inv, ab_copy, ab_mx, ab_ins, ab_nr, ab_iret, ab_lret, ab_vret, cat2, isI, isL, isR, catS, List.getElem?_cons_zero, List.getElem?_cons_succ, List.set_cons_zero, List.set_cons_succ, List.length_cons, List.length_nil, List.contains_cons, List.contains_nil, Int.reduceAdd, Int.reduceNeg, Int.reduceSub, Int.reduceLE, Int.reduceLT, Int.reduceToNat, Nat.reduceAdd, Nat.reduceMul, Nat.reduceBeqDiff, Nat.reduceEqDiff, Nat.reduceLeDiff, Nat.reduceLT, Nat.reduceSub, reduceCtorEq, f4_0, f4_1, f4_2, f4_3, f2_0, f2_1, true_and, and_true, if_true, if_false, Bool.or_false, Bool.false_or, Bool.true_or, Bool.or_true, beq_self_eq_true, Bool.false_eq_true, ↓reduceIte, Nat.zero_add, Nat.add_zero, Int.reduceEq, true_or, or_true, false_or, or_false, not_true_eq_false, not_false_eq_true, true_implies, false_implies, implies_true, and_self, false_and, and_false, va_up_at, upd_at, vpL_at, Nat.left_eq_add, Nat.right_eq_add, Nat.add_eq_left, Nat.add_eq_right, Nat.add_left_cancel_iff, oI_0, oI_1, oL_0, oL_div, oI_add, oI_sub, oI_mul, oI_neg, nI_o, oI_le, oI_lt, oI_eq, oI_in, oI_nat, oI_div, emod_nf, oI_64, oI_or, oI_and, oI_shl1, oI_clr, in_bit, has_bit, oI_bit, bz_0, bz_1, bz_n0, bz_n1, bz_or, oL_add, oL_sub, oL_mul, oL_le, oL_lt, oL_eq, lcO_lt, lcO_gt, lcO_le, lcO_ge, lcO_eq, Int.toNat_natCast, tn_add, tn_sub, Decidable.not_not, Int.natCast_zero, Int.zero_add, Int.add_zero]
  rw [oI_us1 x (by omega), oI_m5, oI_nsub x _ a1, ← e1]
  rw [oI_us2 s1 (by omega), oI_m3, oI_m3, oI_nadd, ← e2]
  rw [oI_us4 s2 (by omega), oI_nadd, oI_mf, ← e3]
  rw [oI_us8 s3 (by omega), oI_nadd, ← e4]
  rw [oI_us16 s4 (by omega), oI_nadd, oI_m63]
  exact hQ
