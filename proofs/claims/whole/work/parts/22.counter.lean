/-! FACTORIALS -/
def facN : Nat → Nat
  | 0 => 1
  | n + 1 => (n + 1) * facN n
def facI (z : Int) : Int := if 0 ≤ z ∧ z ≤ 16 then (facN z.toNat : Int) else 1
theorem facT_eq : ∀ n : Nat, n < 17 → facT n = Int64.ofInt (facN n) := by decide +kernel
theorem fac_lk : inT (.fieldLink (cn 10) 282 "RoundWalks" "FACTORIALS" "[J") = true := by decide +kernel
set_option maxRecDepth 100000 in
theorem sp_factorial (d : Nat) {h : Hp} (z : Int) (z1 : -2147483648 ≤ z) (z2 : z < 2147483648) {Q : QT} (hQ : Q (some (.long (Int64.ofInt (facI z)))) h) : Call (d + 1) MX10_factorial [.int (Int32.ofInt z)] h Q := by
  refine call_of_at (ls := [some (.int (Int32.ofInt z))]) (by decide) rfl (Nat.le_of_ble_eq_true rfl) rfl ?_
  have h20 : facI z = 1 → At MX10_factorial (d + 1) 20 [some (.int (Int32.ofInt z))] [] h Q := by
    intro e
    rw [e] at hQ
    (refine blk_sound [] 400 ?_); simp (disch := omega) only [blk_s, nx_s, kC_s, exI_goto, exI_ifCond, exI_if_icmp, exI_iload_n, exI_laload, exI_lconst, exI_lreturn, p_X10_factorial, dX10_factorial_0, dX10_factorial_1, dX10_factorial_4, dX10_factorial_5, dX10_factorial_8, dX10_factorial_9, dX10_factorial_12, dX10_factorial_15, dX10_factorial_16, dX10_factorial_17, dX10_factorial_20, dX10_factorial_21, tg_1_19, jn_1_19, tg_9_11, jn_9_11, tg_17_4, jn_17_4, ab_clr, ab_st1, ab_st2, ab_b2, ab_q2, ab_l2, ab_p2, ab_neg, ab_i2l, ab_lcmp, ab_lshl, ab_ld, ab_sti, ab_stl, ab_inc, ab_dup, ab_dup2, ab_pop, ab_pop2, cmpP, ab_goto, ab_icmp, ab_if, ab_sw, ab_table, ab_get, ab_put, ab_iald, ab_iast, ab_lald, ab_last, ab_aald, ab_ki, ab_kl, popN, pushO, isC, ab_inv, ab_copy, ab_mx, ab_ins, ab_nr, ab_iret, ab_lret, ab_vret, cat2, isI, isL, isR, catS, List.getElem?_cons_zero, List.getElem?_cons_succ, List.set_cons_zero, List.set_cons_succ, List.length_cons, List.length_nil, List.contains_cons, List.contains_nil, Int.reduceAdd, Int.reduceNeg, Int.reduceSub, Int.reduceLE, Int.reduceLT, Int.reduceToNat, Nat.reduceAdd, Nat.reduceMul, Nat.reduceBeqDiff, Nat.reduceEqDiff, Nat.reduceLeDiff, Nat.reduceLT, Nat.reduceSub, reduceCtorEq, f4_0, f4_1, f4_2, f4_3, f2_0, f2_1, true_and, and_true, if_true, if_false, Bool.or_false, Bool.false_or, Bool.true_or, Bool.or_true, beq_self_eq_true, Bool.false_eq_true, ↓reduceIte, Nat.zero_add, Nat.add_zero, Int.reduceEq, true_or, or_true, false_or, or_false, not_true_eq_false, not_false_eq_true, true_implies, false_implies, implies_true, and_self, false_and, and_false, va_up_at, upd_at, vpL_at, Nat.left_eq_add, Nat.right_eq_add, Nat.add_eq_left, Nat.add_eq_right, Nat.add_left_cancel_iff, oI_0, oI_1, oL_0, oL_div, oI_add, oI_sub, oI_mul, oI_neg, nI_o, oI_le, oI_lt, oI_eq, oI_in, oI_nat, oI_div, emod_nf, oI_64, oI_or, oI_and, oI_shl1, oI_clr, in_bit, has_bit, oI_bit, bz_0, bz_1, bz_n0, bz_n1, bz_or, oL_add, oL_sub, oL_mul, oL_le, oL_lt, oL_eq, lcO_lt, lcO_gt, lcO_le, lcO_ge, lcO_eq, Int.toNat_natCast, tn_add, tn_sub, Decidable.not_not, Int.natCast_zero, Int.zero_add, Int.add_zero]
    exact hQ
  have h17 : ∀ v : Int, facI z = v → At MX10_factorial (d + 1) 17 [some (.int (Int32.ofInt z))] [.long (Int64.ofInt v)] h Q := by
    intro v e
    rw [e] at hQ
    (refine blk_sound [] 400 ?_); simp (disch := omega) only [blk_s, nx_s, kC_s, exI_goto, exI_ifCond, exI_if_icmp, exI_iload_n, exI_laload, exI_lconst, exI_lreturn, p_X10_factorial, dX10_factorial_0, dX10_factorial_1, dX10_factorial_4, dX10_factorial_5, dX10_factorial_8, dX10_factorial_9, dX10_factorial_12, dX10_factorial_15, dX10_factorial_16, dX10_factorial_17, dX10_factorial_20, dX10_factorial_21, tg_1_19, jn_1_19, tg_9_11, jn_9_11, tg_17_4, jn_17_4, ab_clr, ab_st1, ab_st2, ab_b2, ab_q2, ab_l2, ab_p2, ab_neg, ab_i2l, ab_lcmp, ab_lshl, ab_ld, ab_sti, ab_stl, ab_inc, ab_dup, ab_dup2, ab_pop, ab_pop2, cmpP, ab_goto, ab_icmp, ab_if, ab_sw, ab_table, ab_get, ab_put, ab_iald, ab_iast, ab_lald, ab_last, ab_aald, ab_ki, ab_kl, popN, pushO, isC, ab_inv, ab_copy, ab_mx, ab_ins, ab_nr, ab_iret, ab_lret, ab_vret, cat2, isI, isL, isR, catS, List.getElem?_cons_zero, List.getElem?_cons_succ, List.set_cons_zero, List.set_cons_succ, List.length_cons, List.length_nil, List.contains_cons, List.contains_nil, Int.reduceAdd, Int.reduceNeg, Int.reduceSub, Int.reduceLE, Int.reduceLT, Int.reduceToNat, Nat.reduceAdd, Nat.reduceMul, Nat.reduceBeqDiff, Nat.reduceEqDiff, Nat.reduceLeDiff, Nat.reduceLT, Nat.reduceSub, reduceCtorEq, f4_0, f4_1, f4_2, f4_3, f2_0, f2_1, true_and, and_true, if_true, if_false, Bool.or_false, Bool.false_or, Bool.true_or, Bool.or_true, beq_self_eq_true, Bool.false_eq_true, ↓reduceIte, Nat.zero_add, Nat.add_zero, Int.reduceEq, true_or, or_true, false_or, or_false, not_true_eq_false, not_false_eq_true, true_implies, false_implies, implies_true, and_self, false_and, and_false, va_up_at, upd_at, vpL_at, Nat.left_eq_add, Nat.right_eq_add, Nat.add_eq_left, Nat.add_eq_right, Nat.add_left_cancel_iff, oI_0, oI_1, oL_0, oL_div, oI_add, oI_sub, oI_mul, oI_neg, nI_o, oI_le, oI_lt, oI_eq, oI_in, oI_nat, oI_div, emod_nf, oI_64, oI_or, oI_and, oI_shl1, oI_clr, in_bit, has_bit, oI_bit, bz_0, bz_1, bz_n0, bz_n1, bz_or, oL_add, oL_sub, oL_mul, oL_le, oL_lt, oL_eq, lcO_lt, lcO_gt, lcO_le, lcO_ge, lcO_eq, Int.toNat_natCast, tn_add, tn_sub, Decidable.not_not, Int.natCast_zero, Int.zero_add, Int.add_zero]
    exact hQ
  have h5 : 0 ≤ z → At MX10_factorial (d + 1) 5 [some (.int (Int32.ofInt z))] [.int (Int32.ofInt z)] h Q := by
    intro hz p l e s m args below meth c G A H locs sl hC hKW hW hS hA hL
    refine va_gets (own := RX10) (ref := "RoundWalks") hC.1 hC.2.1 hKW.2.1 hS hC.2.2.2.2.1 (hC.2.2.2.2.2.1 _ (inT_mem fac_lk)) (fun _ q => q) dX10_factorial_5 ?_
    refine va_tlen hC.1 hC.2.1 hKW.2.2.1 hS rfl dX10_factorial_8 ?_
    refine lv_icmp_ge (tgt := 20) hC.1 hC.2.1 dX10_factorial_9 (by decide) (fun c0 => ?_) (fun c0 => ?_)
    · refine h20 ?_ p l e s m args below meth c G A H locs sl hC hKW hW hS hA hL
      have c' : Int32.ofInt 17 ≤ Int32.ofInt z := c0
      rw [oI_le (by omega) (by omega) (by omega) (by omega)] at c'
      rw [facI, if_neg (by omega)]
    · have c' : ¬ Int32.ofInt 17 ≤ Int32.ofInt z := c0
      rw [oI_le (by omega) (by omega) (by omega) (by omega)] at c'
      refine va_gets (own := RX10) (ref := "RoundWalks") hC.1 hC.2.1 hKW.2.1 hS hC.2.2.2.2.1 (hC.2.2.2.2.2.1 _ (inT_mem fac_lk)) (fun _ q => q) dX10_factorial_12 ?_
      refine lv_iload_n hC.1 hC.2.1 dX10_factorial_15 rfl (hL.2.2 0 _ rfl) ?_
      refine va_tl (v := .long (Int64.ofInt (facN z.toNat))) hC.1 hC.2.1 hKW.2.2.1 hS (by rw [oI_in (by omega) (by omega)]; omega) (by rw [oI_nat (by omega) (by omega), facT_eq _ (by omega)]) dX10_factorial_16 ?_
      exact h17 _ (by rw [facI, if_pos (by omega)]) p l e s m args below meth c G A H locs sl hC hKW hW hS hA hL
  (refine blk_sound [5, 20] 400 ?_); simp (disch := omega) only [blk_s, nx_s, kC_s, exI_goto, exI_ifCond, exI_if_icmp, exI_iload_n, exI_laload, exI_lconst, exI_lreturn, p_X10_factorial, dX10_factorial_0, dX10_factorial_1, dX10_factorial_4, dX10_factorial_5, dX10_factorial_8, dX10_factorial_9, dX10_factorial_12, dX10_factorial_15, dX10_factorial_16, dX10_factorial_17, dX10_factorial_20, dX10_factorial_21, tg_1_19, jn_1_19, tg_9_11, jn_9_11, tg_17_4, jn_17_4, ab_clr, ab_st1, ab_st2, ab_b2, ab_q2, ab_l2, ab_p2, ab_neg, ab_i2l, ab_lcmp, ab_lshl, ab_ld, ab_sti, ab_stl, ab_inc, ab_dup, ab_dup2, ab_pop, ab_pop2, cmpP, ab_goto, ab_icmp, ab_if, ab_sw, ab_table, ab_get, ab_put, ab_iald, ab_iast, ab_lald, ab_last, ab_aald, ab_ki, ab_kl, popN, pushO, isC, ab_inv, ab_copy, ab_mx, ab_ins, ab_nr, ab_iret, ab_lret, ab_vret, cat2, isI, isL, isR, catS, List.getElem?_cons_zero, List.getElem?_cons_succ, List.set_cons_zero, List.set_cons_succ, List.length_cons, List.length_nil, List.contains_cons, List.contains_nil, Int.reduceAdd, Int.reduceNeg, Int.reduceSub, Int.reduceLE, Int.reduceLT, Int.reduceToNat, Nat.reduceAdd, Nat.reduceMul, Nat.reduceBeqDiff, Nat.reduceEqDiff, Nat.reduceLeDiff, Nat.reduceLT, Nat.reduceSub, reduceCtorEq, f4_0, f4_1, f4_2, f4_3, f2_0, f2_1, true_and, and_true, if_true, if_false, Bool.or_false, Bool.false_or, Bool.true_or, Bool.or_true, beq_self_eq_true, Bool.false_eq_true, ↓reduceIte, Nat.zero_add, Nat.add_zero, Int.reduceEq, true_or, or_true, false_or, or_false, not_true_eq_false, not_false_eq_true, true_implies, false_implies, implies_true, and_self, false_and, and_false, va_up_at, upd_at, vpL_at, Nat.left_eq_add, Nat.right_eq_add, Nat.add_eq_left, Nat.add_eq_right, Nat.add_left_cancel_iff, oI_0, oI_1, oL_0, oL_div, oI_add, oI_sub, oI_mul, oI_neg, nI_o, oI_le, oI_lt, oI_eq, oI_in, oI_nat, oI_div, emod_nf, oI_64, oI_or, oI_and, oI_shl1, oI_clr, in_bit, has_bit, oI_bit, bz_0, bz_1, bz_n0, bz_n1, bz_or, oL_add, oL_sub, oL_mul, oL_le, oL_lt, oL_eq, lcO_lt, lcO_gt, lcO_le, lcO_ge, lcO_eq, Int.toNat_natCast, tn_add, tn_sub, Decidable.not_not, Int.natCast_zero, Int.zero_add, Int.add_zero]
  exact ⟨fun c => h20 (by rw [facI, if_neg (by omega)]), fun c => h5 (by omega)⟩
/-! THE COUNTER at place c: ways at c + 1 (rows from c + 2), outs c + 10, grid c + 11 (rows from c + 12), rows c + 20 -/
def rwF (b : Nat) : Nat → Option Nat := fun i => if i < 8 then some (b + i) else none
def CntR (h : Hp) (c : Nat) (W : Nat → Nat → Int) (O : Nat → Int) : Prop :=
  h c = .inr (0, [.ref (c + 1), .ref (c + 10), .ref (c + 11), .ref (c + 20)]) ∧ h (c + 1) = ra 3 8 (rwF (c + 2)) ∧ h (c + 11) = ra 4 8 (rwF (c + 12)) ∧ (∃ OO, h (c + 10) = ia 8 OO ∧ ∀ p, p < 8 → OO p = Int32.ofInt (O p)) ∧ (∃ RR, h (c + 20) = ia 8 RR)
  ∧ (∀ p, p < 8 → ∃ WW, h (c + 2 + p) = ia 8 WW ∧ ∀ q, q < 8 → WW q = Int32.ofInt (W p q)) ∧ (∀ p, p < 8 → ∃ GG, h (c + 12 + p) = la 8 GG)
def up2 (W : Nat → Nat → Int) (p q : Nat) (v : Int) : Nat → Nat → Int := fun a b => if a = p ∧ b = q then v else W a b
theorem CntR.frame {h h' : Hp} {c : Nat} {W : Nat → Nat → Int} {O : Nat → Int} (hc : CntR h c W O) (e : ∀ j, c ≤ j → j ≤ c + 20 → h' j = h j) : CntR h' c W O := by
  obtain ⟨h1, h2, h3, ⟨OO, h4, h5⟩, ⟨RR, h6⟩, h7, h8⟩ := hc
  refine ⟨by rw [e c (by omega) (by omega)]; exact h1, by rw [e _ (by omega) (by omega)]; exact h2, by rw [e _ (by omega) (by omega)]; exact h3, ⟨OO, by rw [e _ (by omega) (by omega)]; exact h4, h5⟩, ⟨RR, by rw [e _ (by omega) (by omega)]; exact h6⟩, fun p hp => ?_, fun p hp => ?_⟩
  · rw [e _ (by omega) (by omega)]; exact h7 p hp
  · rw [e _ (by omega) (by omega)]; exact h8 p hp
theorem CntR.congr {h : Hp} {c : Nat} {W W' : Nat → Nat → Int} {O O' : Nat → Int} (hc : CntR h c W O) (e1 : ∀ p q, p < 8 → q < 8 → W p q = W' p q) (e2 : ∀ p, p < 8 → O p = O' p) : CntR h c W' O' := by
  obtain ⟨h1, h2, h3, ⟨OO, h4, h5⟩, h6, h7, h8⟩ := hc
  refine ⟨h1, h2, h3, ⟨OO, h4, fun p hp => by rw [← e2 p hp]; exact h5 p hp⟩, h6, fun p hp => ?_, h8⟩
  obtain ⟨WW, a, b⟩ := h7 p hp
  exact ⟨WW, a, fun q hq => by rw [← e1 p q hp hq]; exact b q hq⟩
theorem CntR.setW {h : Hp} {c : Nat} {W : Nat → Nat → Int} {O : Nat → Int} (hc : CntR h c W O) {p : Nat} (hp : p < 8) {WW : Nat → Int32} (hw : h (c + 2 + p) = ia 8 WW) (q : Nat) (z : Int) : CntR (va_up h (c + 2 + p) (ia 8 (upd WW q (Int32.ofInt z)))) c (up2 W p q z) O := by
  obtain ⟨h1, h2, h3, ⟨OO, h4, h5⟩, ⟨RR, h6⟩, h7, h8⟩ := hc
  refine ⟨?_, ?_, ?_, ⟨OO, ?_, h5⟩, ⟨RR, ?_⟩, fun a ha => ?_, fun a ha => ?_⟩
  · (simp only [va_up_at]); (repeat rw [if_neg (by omega)])
    exact h1
  · (simp only [va_up_at]); (repeat rw [if_neg (by omega)])
    exact h2
  · (simp only [va_up_at]); (repeat rw [if_neg (by omega)])
    exact h3
  · (simp only [va_up_at]); (repeat rw [if_neg (by omega)])
    exact h4
  · (simp only [va_up_at]); (repeat rw [if_neg (by omega)])
    exact h6
  · by_cases e : a = p
    · subst e
      refine ⟨upd WW q (Int32.ofInt z), by simp only [va_up_at, ↓reduceIte], fun b hb => ?_⟩
      obtain ⟨W2, w1, w2⟩ := h7 a ha
      rw [hw] at w1
      simp only [ia, Sum.inl.injEq, Prod.mk.injEq, true_and] at w1
      subst w1
      simp only [upd_at, up2]
      by_cases e2 : b = q
      · simp [e2]
      · simp only [if_neg e2, e2, and_false, ↓reduceIte]
        exact w2 b hb
    · obtain ⟨W2, w1, w2⟩ := h7 a ha
      refine ⟨W2, ?_, fun b hb => ?_⟩
      · (simp only [va_up_at]); (repeat rw [if_neg (by omega)])
        exact w1
      · simp only [up2, e, false_and, ↓reduceIte]
        exact w2 b hb
  · obtain ⟨GG, g1⟩ := h8 a ha
    refine ⟨GG, ?_⟩
    (simp only [va_up_at]); (repeat rw [if_neg (by omega)])
    exact g1
theorem CntR.setO {h : Hp} {c : Nat} {W : Nat → Nat → Int} {O : Nat → Int} (hc : CntR h c W O) {OO : Nat → Int32} (hw : h (c + 10) = ia 8 OO) (p : Nat) (z : Int) : CntR (va_up h (c + 10) (ia 8 (upd OO p (Int32.ofInt z)))) c W (upI O p z) := by
  obtain ⟨h1, h2, h3, ⟨O2, h4, h5⟩, ⟨RR, h6⟩, h7, h8⟩ := hc
  rw [hw] at h4
  simp only [ia, Sum.inl.injEq, Prod.mk.injEq, true_and] at h4
  subst h4
  refine ⟨?_, ?_, ?_, ⟨upd OO p (Int32.ofInt z), by simp only [va_up_at, ↓reduceIte], fun a ha => ?_⟩, ⟨RR, ?_⟩, fun a ha => ?_, fun a ha => ?_⟩
  · (simp only [va_up_at]); (repeat rw [if_neg (by omega)])
    exact h1
  · (simp only [va_up_at]); (repeat rw [if_neg (by omega)])
    exact h2
  · (simp only [va_up_at]); (repeat rw [if_neg (by omega)])
    exact h3
  · simp only [upd_at, upI]
    by_cases e : a = p
    · simp [e]
    · simp only [if_neg e]
      exact h5 a ha
  · (simp only [va_up_at]); (repeat rw [if_neg (by omega)])
    exact h6
  · obtain ⟨W2, w1, w2⟩ := h7 a ha
    refine ⟨W2, ?_, w2⟩
    (simp only [va_up_at]); (repeat rw [if_neg (by omega)])
    exact w1
  · obtain ⟨GG, g1⟩ := h8 a ha
    refine ⟨GG, ?_⟩
    (simp only [va_up_at]); (repeat rw [if_neg (by omega)])
    exact g1
theorem CntR.setG {h : Hp} {c : Nat} {W : Nat → Nat → Int} {O : Nat → Int} (hc : CntR h c W O) {p : Nat} (hp : p < 8) (GG : Nat → Int64) : CntR (va_up h (c + 12 + p) (la 8 GG)) c W O := by
  obtain ⟨h1, h2, h3, ⟨OO, h4, h5⟩, ⟨RR, h6⟩, h7, h8⟩ := hc
  refine ⟨?_, ?_, ?_, ⟨OO, ?_, h5⟩, ⟨RR, ?_⟩, fun a ha => ?_, fun a ha => ?_⟩
  · (simp only [va_up_at]); (repeat rw [if_neg (by omega)])
    exact h1
  · (simp only [va_up_at]); (repeat rw [if_neg (by omega)])
    exact h2
  · (simp only [va_up_at]); (repeat rw [if_neg (by omega)])
    exact h3
  · (simp only [va_up_at]); (repeat rw [if_neg (by omega)])
    exact h4
  · (simp only [va_up_at]); (repeat rw [if_neg (by omega)])
    exact h6
  · obtain ⟨W2, w1, w2⟩ := h7 a ha
    refine ⟨W2, ?_, w2⟩
    (simp only [va_up_at]); (repeat rw [if_neg (by omega)])
    exact w1
  · by_cases e : a = p
    · subst e
      exact ⟨GG, by simp only [va_up_at, ↓reduceIte]⟩
    · obtain ⟨G2, g1⟩ := h8 a ha
      refine ⟨G2, ?_⟩
      (simp only [va_up_at]); (repeat rw [if_neg (by omega)])
      exact g1
theorem CntR.setR {h : Hp} {c : Nat} {W : Nat → Nat → Int} {O : Nat → Int} (hc : CntR h c W O) (RR : Nat → Int32) : CntR (va_up h (c + 20) (ia 8 RR)) c W O := by
  obtain ⟨h1, h2, h3, ⟨OO, h4, h5⟩, ⟨R2, h6⟩, h7, h8⟩ := hc
  refine ⟨?_, ?_, ?_, ⟨OO, ?_, h5⟩, ⟨RR, by simp only [va_up_at, ↓reduceIte]⟩, fun a ha => ?_, fun a ha => ?_⟩
  · (simp only [va_up_at]); (repeat rw [if_neg (by omega)])
    exact h1
  · (simp only [va_up_at]); (repeat rw [if_neg (by omega)])
    exact h2
  · (simp only [va_up_at]); (repeat rw [if_neg (by omega)])
    exact h3
  · (simp only [va_up_at]); (repeat rw [if_neg (by omega)])
    exact h4
  · obtain ⟨W2, w1, w2⟩ := h7 a ha
    refine ⟨W2, ?_, w2⟩
    (simp only [va_up_at]); (repeat rw [if_neg (by omega)])
    exact w1
  · obtain ⟨G2, g1⟩ := h8 a ha
    refine ⟨G2, ?_⟩
    (simp only [va_up_at]); (repeat rw [if_neg (by omega)])
    exact g1
set_option maxRecDepth 100000 in
theorem sp_shift (d : Nat) {h : Hp} {c : Nat} {W : Nat → Nat → Int} {O : Nat → Int} (hc : CntR h c W O) (p q : Nat) (hp : p < 8) (hq : q < 8) (b : Int) {Q : QT} (hQ : ∀ h' : Hp, (∀ j, j < c + 2 ∨ c + 10 < j → h' j = h j) → CntR h' c (up2 W p q (W p q + b)) (upI O p (O p + b)) → Q none h') : Call (d + 1) MX0_shift [.ref c, .int (Int32.ofInt p), .int (Int32.ofInt q), .int (Int32.ofInt b)] h Q := by
  have hc0 := hc
  obtain ⟨h1, h2, h3, ⟨OO, h4, h5⟩, ⟨RR, h6⟩, h7, h8⟩ := hc
  obtain ⟨WW, w1, w2⟩ := h7 p hp
  have r1 : rwF (c + 2) p = some (c + 2 + p) := if_pos hp
  have n1 : ¬ c = c + 2 + p := by omega
  have n2 : ¬ c + 10 = c + 2 + p := by omega
  have e1 := w2 q hq
  have e2 := h5 p hp
  refine call_of_at (ls := [some (.ref c), some (.int (Int32.ofInt p)), some (.int (Int32.ofInt q)), some (.int (Int32.ofInt b))]) (by decide) rfl (Nat.le_of_ble_eq_true rfl) rfl ?_
  (refine blk_sound [] 400 ?_); simp (disch := omega) only [blk_s, nx_s, kC_s, exI_aaload, exI_aload_n, exI_dup2, exI_getfield, exI_iadd, exI_iaload, exI_iastore, exI_iload_n, exI_return, p_X0_shift, dX0_shift_0, dX0_shift_1, dX0_shift_4, dX0_shift_5, dX0_shift_6, dX0_shift_7, dX0_shift_8, dX0_shift_9, dX0_shift_10, dX0_shift_11, dX0_shift_12, dX0_shift_13, dX0_shift_16, dX0_shift_17, dX0_shift_18, dX0_shift_19, dX0_shift_20, dX0_shift_21, dX0_shift_22, fl_0_11, fl_0_16, ab_clr, ab_st1, ab_st2, ab_b2, ab_q2, ab_l2, ab_p2, ab_neg, ab_i2l, ab_lcmp, ab_lshl, ab_ld, ab_sti, ab_stl, ab_inc, ab_dup, ab_dup2, ab_pop, ab_pop2, cmpP, ab_goto, ab_icmp, ab_if, ab_sw, ab_table, ab_get, ab_put, ab_iald, ab_iast, ab_lald, ab_last, ab_aald, ab_ki, ab_kl, popN, pushO, isC, ab_inv, ab_copy, ab_mx, ab_ins, ab_nr, ab_iret, ab_lret, ab_vret, cat2, isI, isL, isR, catS, List.getElem?_cons_zero, List.getElem?_cons_succ, List.set_cons_zero, List.set_cons_succ, List.length_cons, List.length_nil, List.contains_cons, List.contains_nil, Int.reduceAdd, Int.reduceNeg, Int.reduceSub, Int.reduceLE, Int.reduceLT, Int.reduceToNat, Nat.reduceAdd, Nat.reduceMul, Nat.reduceBeqDiff, Nat.reduceEqDiff, Nat.reduceLeDiff, Nat.reduceLT, Nat.reduceSub, reduceCtorEq, f4_0, f4_1, f4_2, f4_3, f2_0, f2_1, true_and, and_true, if_true, if_false, Bool.or_false, Bool.false_or, Bool.true_or, Bool.or_true, beq_self_eq_true, Bool.false_eq_true, ↓reduceIte, Nat.zero_add, Nat.add_zero, Int.reduceEq, true_or, or_true, false_or, or_false, not_true_eq_false, not_false_eq_true, true_implies, false_implies, implies_true, and_self, false_and, and_false, va_up_at, upd_at, vpL_at, Nat.left_eq_add, Nat.right_eq_add, Nat.add_eq_left, Nat.add_eq_right, Nat.add_left_cancel_iff, oI_0, oI_1, oL_0, oL_div, oI_add, oI_sub, oI_mul, oI_neg, nI_o, oI_le, oI_lt, oI_eq, oI_in, oI_nat, oI_div, emod_nf, oI_64, oI_or, oI_and, oI_shl1, oI_clr, in_bit, has_bit, oI_bit, bz_0, bz_1, bz_n0, bz_n1, bz_or, oL_add, oL_sub, oL_mul, oL_le, oL_lt, oL_eq, lcO_lt, lcO_gt, lcO_le, lcO_ge, lcO_eq, Int.toNat_natCast, tn_add, tn_sub, Decidable.not_not, Int.natCast_zero, Int.zero_add, Int.add_zero, h1, h2, h4, ra, ia, r1, w1, n1, n2, e1, e2]
  have s1 := hc0.setW hp w1 q (W p q + b)
  have s2 := s1.setO (OO := OO) (by ((simp only [va_up_at]); (repeat rw [if_neg (by omega)])); exact h4) p (O p + b)
  refine ⟨by omega, by omega, by omega, by omega, by omega, hQ _ (fun j a => ?_) s2⟩
  (simp only [va_up_at]); (repeat rw [if_neg (by omega)])
set_option maxRecDepth 100000 in
theorem sp_clear (d : Nat) {h : Hp} {c : Nat} {W : Nat → Nat → Int} {O : Nat → Int} (hc : CntR h c W O) {Q : QT} (hQ : ∀ h' : Hp, (∀ j, j < c + 2 ∨ c + 10 < j → h' j = h j) → CntR h' c (fun _ _ => 0) (fun _ => 0) → Q none h') : Call (d + 1) MX0_clear [.ref c] h Q := by
  refine call_of_at (ls := [some (.ref c), none, none]) (by decide) rfl (Nat.le_of_ble_eq_true rfl) rfl ?_
  have outer : ∀ (r p : Nat) (W : Nat → Nat → Int) (O : Nat → Int) (h' : Hp) (o : Option Value), p + r = 8 → (∀ j, j < c + 2 ∨ c + 10 < j → h' j = h j) → CntR h' c W O → (∀ a b, a < p → W a b = 0) → (∀ a, a < p → O a = 0) → At MX0_clear (d + 1) 2 [some (.ref c), some (.int (Int32.ofInt p)), o] [] h' Q := by
    intro r
    induction r with
    | zero =>
      intro p W O h' o hpr hfr hc z1 z2
      (refine blk_sound [2, 17] 400 ?_); simp (disch := omega) only [blk_s, nx_s, kC_s, exI_aaload, exI_aload_n, exI_bipush, exI_getfield, exI_goto, exI_iastore, exI_iconst, exI_if_icmp, exI_iinc, exI_iload_n, exI_istore_n, exI_return, p_X0_clear, dX0_clear_0, dX0_clear_1, dX0_clear_2, dX0_clear_3, dX0_clear_5, dX0_clear_8, dX0_clear_9, dX0_clear_12, dX0_clear_13, dX0_clear_14, dX0_clear_15, dX0_clear_16, dX0_clear_17, dX0_clear_18, dX0_clear_20, dX0_clear_23, dX0_clear_24, dX0_clear_27, dX0_clear_28, dX0_clear_29, dX0_clear_30, dX0_clear_31, dX0_clear_32, dX0_clear_35, dX0_clear_38, dX0_clear_41, dX0_clear_44, tg_5_39, jn_5_39, tg_20_18, jn_20_18, tg_35_m18, jn_35_m18, tg_41_m39, jn_41_m39, fl_0_16, fl_0_11, ab_clr, ab_st1, ab_st2, ab_b2, ab_q2, ab_l2, ab_p2, ab_neg, ab_i2l, ab_lcmp, ab_lshl, ab_ld, ab_sti, ab_stl, ab_inc, ab_dup, ab_dup2, ab_pop, ab_pop2, cmpP, ab_goto, ab_icmp, ab_if, ab_sw, ab_table, ab_get, ab_put, ab_iald, ab_iast, ab_lald, ab_last, ab_aald, ab_ki, ab_kl, popN, pushO, isC, ab_inv, ab_copy, ab_mx, ab_ins, ab_nr, ab_iret, ab_lret, ab_vret, cat2, isI, isL, isR, catS, List.getElem?_cons_zero, List.getElem?_cons_succ, List.set_cons_zero, List.set_cons_succ, List.length_cons, List.length_nil, List.contains_cons, List.contains_nil, Int.reduceAdd, Int.reduceNeg, Int.reduceSub, Int.reduceLE, Int.reduceLT, Int.reduceToNat, Nat.reduceAdd, Nat.reduceMul, Nat.reduceBeqDiff, Nat.reduceEqDiff, Nat.reduceLeDiff, Nat.reduceLT, Nat.reduceSub, reduceCtorEq, f4_0, f4_1, f4_2, f4_3, f2_0, f2_1, true_and, and_true, if_true, if_false, Bool.or_false, Bool.false_or, Bool.true_or, Bool.or_true, beq_self_eq_true, Bool.false_eq_true, ↓reduceIte, Nat.zero_add, Nat.add_zero, Int.reduceEq, true_or, or_true, false_or, or_false, not_true_eq_false, not_false_eq_true, true_implies, false_implies, implies_true, and_self, false_and, and_false, va_up_at, upd_at, vpL_at, Nat.left_eq_add, Nat.right_eq_add, Nat.add_eq_left, Nat.add_eq_right, Nat.add_left_cancel_iff, oI_0, oI_1, oL_0, oL_div, oI_add, oI_sub, oI_mul, oI_neg, nI_o, oI_le, oI_lt, oI_eq, oI_in, oI_nat, oI_div, emod_nf, oI_64, oI_or, oI_and, oI_shl1, oI_clr, in_bit, has_bit, oI_bit, bz_0, bz_1, bz_n0, bz_n1, bz_or, oL_add, oL_sub, oL_mul, oL_le, oL_lt, oL_eq, lcO_lt, lcO_gt, lcO_le, lcO_ge, lcO_eq, Int.toNat_natCast, tn_add, tn_sub, Decidable.not_not, Int.natCast_zero, Int.zero_add, Int.add_zero]
      exact ⟨fun _ => hQ h' hfr (hc.congr (fun a b ha _ => z1 a b (by omega)) (fun a ha => z2 a (by omega))), fun q => (show False by omega).elim⟩
    | succ r ih =>
      intro p W O h' o hpr hfr hc z1 z2
      have inner : ∀ (r' q : Nat) (W : Nat → Nat → Int) (O : Nat → Int) (h' : Hp), q + r' = 8 → (∀ j, j < c + 2 ∨ c + 10 < j → h' j = h j) → CntR h' c W O → (∀ a b, a < p → b < 8 → W a b = 0) → (∀ b, b < q → W p b = 0) → (∀ a, a < p + 1 → O a = 0) → At MX0_clear (d + 1) 17 [some (.ref c), some (.int (Int32.ofInt p)), some (.int (Int32.ofInt q))] [] h' Q := by
        intro r'
        induction r' with
        | zero =>
          intro q W O h' hqr hfr hc z1 z3 z2
          have hc2 := hc.congr (W' := fun a b => if a < p + 1 then 0 else W a b) (O' := O) (fun a b ha hb => by
            by_cases e : a < p + 1
            · rw [if_pos e]
              by_cases e2 : a = p
              · rw [e2]; exact z3 b (by omega)
              · exact z1 a b (by omega) hb
            · rw [if_neg e]) (fun _ _ => rfl)
          have := ih (p + 1) _ O h' (some (.int (Int32.ofInt q))) (by omega) hfr hc2 (fun a b ha => if_pos ha) z2
          (refine blk_sound [2, 17] 400 ?_); simp (disch := omega) only [blk_s, nx_s, kC_s, exI_aaload, exI_aload_n, exI_bipush, exI_getfield, exI_goto, exI_iastore, exI_iconst, exI_if_icmp, exI_iinc, exI_iload_n, exI_istore_n, exI_return, p_X0_clear, dX0_clear_0, dX0_clear_1, dX0_clear_2, dX0_clear_3, dX0_clear_5, dX0_clear_8, dX0_clear_9, dX0_clear_12, dX0_clear_13, dX0_clear_14, dX0_clear_15, dX0_clear_16, dX0_clear_17, dX0_clear_18, dX0_clear_20, dX0_clear_23, dX0_clear_24, dX0_clear_27, dX0_clear_28, dX0_clear_29, dX0_clear_30, dX0_clear_31, dX0_clear_32, dX0_clear_35, dX0_clear_38, dX0_clear_41, dX0_clear_44, tg_5_39, jn_5_39, tg_20_18, jn_20_18, tg_35_m18, jn_35_m18, tg_41_m39, jn_41_m39, fl_0_16, fl_0_11, ab_clr, ab_st1, ab_st2, ab_b2, ab_q2, ab_l2, ab_p2, ab_neg, ab_i2l, ab_lcmp, ab_lshl, ab_ld, ab_sti, ab_stl, ab_inc, ab_dup, ab_dup2, ab_pop, ab_pop2, cmpP, ab_goto, ab_icmp, ab_if, ab_sw, ab_table, ab_get, ab_put, ab_iald, ab_iast, ab_lald, ab_last, ab_aald, ab_ki, ab_kl, popN, pushO, isC, ab_inv, ab_copy, ab_mx, ab_ins, ab_nr, ab_iret, ab_lret, ab_vret, cat2, isI, isL, isR, catS, List.getElem?_cons_zero, List.getElem?_cons_succ, List.set_cons_zero, List.set_cons_succ, List.length_cons, List.length_nil, List.contains_cons, List.contains_nil, Int.reduceAdd, Int.reduceNeg, Int.reduceSub, Int.reduceLE, Int.reduceLT, Int.reduceToNat, Nat.reduceAdd, Nat.reduceMul, Nat.reduceBeqDiff, Nat.reduceEqDiff, Nat.reduceLeDiff, Nat.reduceLT, Nat.reduceSub, reduceCtorEq, f4_0, f4_1, f4_2, f4_3, f2_0, f2_1, true_and, and_true, if_true, if_false, Bool.or_false, Bool.false_or, Bool.true_or, Bool.or_true, beq_self_eq_true, Bool.false_eq_true, ↓reduceIte, Nat.zero_add, Nat.add_zero, Int.reduceEq, true_or, or_true, false_or, or_false, not_true_eq_false, not_false_eq_true, true_implies, false_implies, implies_true, and_self, false_and, and_false, va_up_at, upd_at, vpL_at, Nat.left_eq_add, Nat.right_eq_add, Nat.add_eq_left, Nat.add_eq_right, Nat.add_left_cancel_iff, oI_0, oI_1, oL_0, oL_div, oI_add, oI_sub, oI_mul, oI_neg, nI_o, oI_le, oI_lt, oI_eq, oI_in, oI_nat, oI_div, emod_nf, oI_64, oI_or, oI_and, oI_shl1, oI_clr, in_bit, has_bit, oI_bit, bz_0, bz_1, bz_n0, bz_n1, bz_or, oL_add, oL_sub, oL_mul, oL_le, oL_lt, oL_eq, lcO_lt, lcO_gt, lcO_le, lcO_ge, lcO_eq, Int.toNat_natCast, tn_add, tn_sub, Decidable.not_not, Int.natCast_zero, Int.zero_add, Int.add_zero]
          exact ⟨fun _ => this, fun q => (show False by omega).elim⟩
        | succ r' ih' =>
          intro q W O h' hqr hfr hc z1 z3 z2
          have hc0 := hc
          obtain ⟨h1, h2, h3, ⟨OO, h4, h5⟩, ⟨RR, h6⟩, h7, h8⟩ := hc
          obtain ⟨WW, w1, w2⟩ := h7 p (by omega)
          have r1 : rwF (c + 2) p = some (c + 2 + p) := if_pos (by omega)
          (refine blk_sound [2, 17] 400 ?_); simp (disch := omega) only [blk_s, nx_s, kC_s, exI_aaload, exI_aload_n, exI_bipush, exI_getfield, exI_goto, exI_iastore, exI_iconst, exI_if_icmp, exI_iinc, exI_iload_n, exI_istore_n, exI_return, p_X0_clear, dX0_clear_0, dX0_clear_1, dX0_clear_2, dX0_clear_3, dX0_clear_5, dX0_clear_8, dX0_clear_9, dX0_clear_12, dX0_clear_13, dX0_clear_14, dX0_clear_15, dX0_clear_16, dX0_clear_17, dX0_clear_18, dX0_clear_20, dX0_clear_23, dX0_clear_24, dX0_clear_27, dX0_clear_28, dX0_clear_29, dX0_clear_30, dX0_clear_31, dX0_clear_32, dX0_clear_35, dX0_clear_38, dX0_clear_41, dX0_clear_44, tg_5_39, jn_5_39, tg_20_18, jn_20_18, tg_35_m18, jn_35_m18, tg_41_m39, jn_41_m39, fl_0_16, fl_0_11, ab_clr, ab_st1, ab_st2, ab_b2, ab_q2, ab_l2, ab_p2, ab_neg, ab_i2l, ab_lcmp, ab_lshl, ab_ld, ab_sti, ab_stl, ab_inc, ab_dup, ab_dup2, ab_pop, ab_pop2, cmpP, ab_goto, ab_icmp, ab_if, ab_sw, ab_table, ab_get, ab_put, ab_iald, ab_iast, ab_lald, ab_last, ab_aald, ab_ki, ab_kl, popN, pushO, isC, ab_inv, ab_copy, ab_mx, ab_ins, ab_nr, ab_iret, ab_lret, ab_vret, cat2, isI, isL, isR, catS, List.getElem?_cons_zero, List.getElem?_cons_succ, List.set_cons_zero, List.set_cons_succ, List.length_cons, List.length_nil, List.contains_cons, List.contains_nil, Int.reduceAdd, Int.reduceNeg, Int.reduceSub, Int.reduceLE, Int.reduceLT, Int.reduceToNat, Nat.reduceAdd, Nat.reduceMul, Nat.reduceBeqDiff, Nat.reduceEqDiff, Nat.reduceLeDiff, Nat.reduceLT, Nat.reduceSub, reduceCtorEq, f4_0, f4_1, f4_2, f4_3, f2_0, f2_1, true_and, and_true, if_true, if_false, Bool.or_false, Bool.false_or, Bool.true_or, Bool.or_true, beq_self_eq_true, Bool.false_eq_true, ↓reduceIte, Nat.zero_add, Nat.add_zero, Int.reduceEq, true_or, or_true, false_or, or_false, not_true_eq_false, not_false_eq_true, true_implies, false_implies, implies_true, and_self, false_and, and_false, va_up_at, upd_at, vpL_at, Nat.left_eq_add, Nat.right_eq_add, Nat.add_eq_left, Nat.add_eq_right, Nat.add_left_cancel_iff, oI_0, oI_1, oL_0, oL_div, oI_add, oI_sub, oI_mul, oI_neg, nI_o, oI_le, oI_lt, oI_eq, oI_in, oI_nat, oI_div, emod_nf, oI_64, oI_or, oI_and, oI_shl1, oI_clr, in_bit, has_bit, oI_bit, bz_0, bz_1, bz_n0, bz_n1, bz_or, oL_add, oL_sub, oL_mul, oL_le, oL_lt, oL_eq, lcO_lt, lcO_gt, lcO_le, lcO_ge, lcO_eq, Int.toNat_natCast, tn_add, tn_sub, Decidable.not_not, Int.natCast_zero, Int.zero_add, Int.add_zero, h1, h2, ra, ia, r1, w1]
          refine ⟨fun q => (show False by omega).elim, fun _ => ⟨by omega, by omega, ?_⟩⟩
          refine ih' (q + 1) _ O _ (by omega) (fun j a => ?_) (hc0.setW (by omega) w1 q 0) (fun a b ha hb => ?_) (fun b hb => ?_) z2
          · (simp only [va_up_at]); (repeat rw [if_neg (by omega)])
            exact hfr j a
          · simp only [up2, show ¬ a = p by omega, false_and, ↓reduceIte]
            exact z1 a b ha hb
          · simp only [up2, true_and]
            by_cases e : b = q
            · rw [if_pos e]
            · rw [if_neg e]; exact z3 b (by omega)
      have hc0 := hc
      obtain ⟨h1, h2, h3, ⟨OO, h4, h5⟩, ⟨RR, h6⟩, h7, h8⟩ := hc
      (refine blk_sound [2, 17] 400 ?_); simp (disch := omega) only [blk_s, nx_s, kC_s, exI_aaload, exI_aload_n, exI_bipush, exI_getfield, exI_goto, exI_iastore, exI_iconst, exI_if_icmp, exI_iinc, exI_iload_n, exI_istore_n, exI_return, p_X0_clear, dX0_clear_0, dX0_clear_1, dX0_clear_2, dX0_clear_3, dX0_clear_5, dX0_clear_8, dX0_clear_9, dX0_clear_12, dX0_clear_13, dX0_clear_14, dX0_clear_15, dX0_clear_16, dX0_clear_17, dX0_clear_18, dX0_clear_20, dX0_clear_23, dX0_clear_24, dX0_clear_27, dX0_clear_28, dX0_clear_29, dX0_clear_30, dX0_clear_31, dX0_clear_32, dX0_clear_35, dX0_clear_38, dX0_clear_41, dX0_clear_44, tg_5_39, jn_5_39, tg_20_18, jn_20_18, tg_35_m18, jn_35_m18, tg_41_m39, jn_41_m39, fl_0_16, fl_0_11, ab_clr, ab_st1, ab_st2, ab_b2, ab_q2, ab_l2, ab_p2, ab_neg, ab_i2l, ab_lcmp, ab_lshl, ab_ld, ab_sti, ab_stl, ab_inc, ab_dup, ab_dup2, ab_pop, ab_pop2, cmpP, ab_goto, ab_icmp, ab_if, ab_sw, ab_table, ab_get, ab_put, ab_iald, ab_iast, ab_lald, ab_last, ab_aald, ab_ki, ab_kl, popN, pushO, isC, ab_inv, ab_copy, ab_mx, ab_ins, ab_nr, ab_iret, ab_lret, ab_vret, cat2, isI, isL, isR, catS, List.getElem?_cons_zero, List.getElem?_cons_succ, List.set_cons_zero, List.set_cons_succ, List.length_cons, List.length_nil, List.contains_cons, List.contains_nil, Int.reduceAdd, Int.reduceNeg, Int.reduceSub, Int.reduceLE, Int.reduceLT, Int.reduceToNat, Nat.reduceAdd, Nat.reduceMul, Nat.reduceBeqDiff, Nat.reduceEqDiff, Nat.reduceLeDiff, Nat.reduceLT, Nat.reduceSub, reduceCtorEq, f4_0, f4_1, f4_2, f4_3, f2_0, f2_1, true_and, and_true, if_true, if_false, Bool.or_false, Bool.false_or, Bool.true_or, Bool.or_true, beq_self_eq_true, Bool.false_eq_true, ↓reduceIte, Nat.zero_add, Nat.add_zero, Int.reduceEq, true_or, or_true, false_or, or_false, not_true_eq_false, not_false_eq_true, true_implies, false_implies, implies_true, and_self, false_and, and_false, va_up_at, upd_at, vpL_at, Nat.left_eq_add, Nat.right_eq_add, Nat.add_eq_left, Nat.add_eq_right, Nat.add_left_cancel_iff, oI_0, oI_1, oL_0, oL_div, oI_add, oI_sub, oI_mul, oI_neg, nI_o, oI_le, oI_lt, oI_eq, oI_in, oI_nat, oI_div, emod_nf, oI_64, oI_or, oI_and, oI_shl1, oI_clr, in_bit, has_bit, oI_bit, bz_0, bz_1, bz_n0, bz_n1, bz_or, oL_add, oL_sub, oL_mul, oL_le, oL_lt, oL_eq, lcO_lt, lcO_gt, lcO_le, lcO_ge, lcO_eq, Int.toNat_natCast, tn_add, tn_sub, Decidable.not_not, Int.natCast_zero, Int.zero_add, Int.add_zero, h1, h4, ia]
      refine ⟨fun q => (show False by omega).elim, fun _ => ⟨by omega, ?_⟩⟩
      refine inner 8 0 W _ _ (by omega) (fun j a => ?_) (hc0.setO h4 p 0) (fun a b ha _ => z1 a b ha) (fun b hb => absurd hb (by omega)) (fun a ha => ?_)
      · (simp only [va_up_at]); (repeat rw [if_neg (by omega)])
        exact hfr j a
      · simp only [upI]
        by_cases e : a = p
        · rw [if_pos e]
        · rw [if_neg e]; exact z2 a (by omega)
  (refine blk_sound [2, 17] 400 ?_); simp (disch := omega) only [blk_s, nx_s, kC_s, exI_aaload, exI_aload_n, exI_bipush, exI_getfield, exI_goto, exI_iastore, exI_iconst, exI_if_icmp, exI_iinc, exI_iload_n, exI_istore_n, exI_return, p_X0_clear, dX0_clear_0, dX0_clear_1, dX0_clear_2, dX0_clear_3, dX0_clear_5, dX0_clear_8, dX0_clear_9, dX0_clear_12, dX0_clear_13, dX0_clear_14, dX0_clear_15, dX0_clear_16, dX0_clear_17, dX0_clear_18, dX0_clear_20, dX0_clear_23, dX0_clear_24, dX0_clear_27, dX0_clear_28, dX0_clear_29, dX0_clear_30, dX0_clear_31, dX0_clear_32, dX0_clear_35, dX0_clear_38, dX0_clear_41, dX0_clear_44, tg_5_39, jn_5_39, tg_20_18, jn_20_18, tg_35_m18, jn_35_m18, tg_41_m39, jn_41_m39, fl_0_16, fl_0_11, ab_clr, ab_st1, ab_st2, ab_b2, ab_q2, ab_l2, ab_p2, ab_neg, ab_i2l, ab_lcmp, ab_lshl, ab_ld, ab_sti, ab_stl, ab_inc, ab_dup, ab_dup2, ab_pop, ab_pop2, cmpP, ab_goto, ab_icmp, ab_if, ab_sw, ab_table, ab_get, ab_put, ab_iald, ab_iast, ab_lald, ab_last, ab_aald, ab_ki, ab_kl, popN, pushO, isC, ab_inv, ab_copy, ab_mx, ab_ins, ab_nr, ab_iret, ab_lret, ab_vret, cat2, isI, isL, isR, catS, List.getElem?_cons_zero, List.getElem?_cons_succ, List.set_cons_zero, List.set_cons_succ, List.length_cons, List.length_nil, List.contains_cons, List.contains_nil, Int.reduceAdd, Int.reduceNeg, Int.reduceSub, Int.reduceLE, Int.reduceLT, Int.reduceToNat, Nat.reduceAdd, Nat.reduceMul, Nat.reduceBeqDiff, Nat.reduceEqDiff, Nat.reduceLeDiff, Nat.reduceLT, Nat.reduceSub, reduceCtorEq, f4_0, f4_1, f4_2, f4_3, f2_0, f2_1, true_and, and_true, if_true, if_false, Bool.or_false, Bool.false_or, Bool.true_or, Bool.or_true, beq_self_eq_true, Bool.false_eq_true, ↓reduceIte, Nat.zero_add, Nat.add_zero, Int.reduceEq, true_or, or_true, false_or, or_false, not_true_eq_false, not_false_eq_true, true_implies, false_implies, implies_true, and_self, false_and, and_false, va_up_at, upd_at, vpL_at, Nat.left_eq_add, Nat.right_eq_add, Nat.add_eq_left, Nat.add_eq_right, Nat.add_left_cancel_iff, oI_0, oI_1, oL_0, oL_div, oI_add, oI_sub, oI_mul, oI_neg, nI_o, oI_le, oI_lt, oI_eq, oI_in, oI_nat, oI_div, emod_nf, oI_64, oI_or, oI_and, oI_shl1, oI_clr, in_bit, has_bit, oI_bit, bz_0, bz_1, bz_n0, bz_n1, bz_or, oL_add, oL_sub, oL_mul, oL_le, oL_lt, oL_eq, lcO_lt, lcO_gt, lcO_le, lcO_ge, lcO_eq, Int.toNat_natCast, tn_add, tn_sub, Decidable.not_not, Int.natCast_zero, Int.zero_add, Int.add_zero]
  exact outer 8 0 W O h _ (by omega) (fun _ _ => rfl) hc (fun a b ha => absurd ha (by omega)) (fun a ha => absurd ha (by omega))
/-- how many arcs of a set lead from p to q -/
def ldW (S : Nat → Bool) (F T : Nat → Nat) (p q : Nat) : Nat → Int
  | 0 => 0
  | n + 1 => ldW S F T p q n + if S n = true ∧ F n = p ∧ T n = q then 1 else 0
def ldO (S : Nat → Bool) (F : Nat → Nat) (p : Nat) : Nat → Int
  | 0 => 0
  | n + 1 => ldO S F p n + if S n = true ∧ F n = p then 1 else 0
set_option maxRecDepth 100000 in
theorem sp_load (d : Nat) {h : Hp} {c k P A : Nat} {F T : Nat → Nat} {W : Nat → Nat → Int} {O : Nat → Int} (hc : CntR h c W O) (hn : NetR h k P A F T) (hck : k + 2 < c ∨ c + 20 < k) (x : Int32) {Q : QT} (hQ : ∀ h' : Hp, (∀ j, j < c + 2 ∨ c + 10 < j → h' j = h j) → CntR h' c (fun p q => ldW (fun j => x.toBitVec.getLsbD j) F T p q A) (fun p => ldO (fun j => x.toBitVec.getLsbD j) F p A) → Q none h') : Call (d + 2) MX0_load [.ref c, .ref k, .int x] h Q := by
  have hc0 := hc
  have hn0 := hn
  obtain ⟨h1, -⟩ := hc
  obtain ⟨FF, TT, hk, hf, ht, hP, hA, hj⟩ := hn
  refine call_of_at (ls := [some (.ref c), some (.ref k), some (.int x), none]) (by decide) rfl (Nat.le_of_ble_eq_true rfl) rfl ?_
  have loop : ∀ (r i : Nat) (h' : Hp), i + r = A → (∀ j, j < c + 2 ∨ c + 10 < j → h' j = h j) → CntR h' c (fun p q => ldW (fun j => x.toBitVec.getLsbD j) F T p q i) (fun p => ldO (fun j => x.toBitVec.getLsbD j) F p i) → At MX0_load (d + 2) 6 [some (.ref c), some (.ref k), some (.int x), some (.int (Int32.ofInt i))] [] h' Q := by
    intro r
    induction r with
    | zero =>
      intro i h' hir hfr hc
      have hk' : h' k = _ := (hfr k (by omega)).trans hk
      rw [show i = A by omega] at hc ⊢
      (refine blk_sound [6] 400 ?_); simp (disch := omega) only [blk_s, nx_s, kC_s, exI_aload_n, exI_getfield, exI_goto, exI_iaload, exI_iconst, exI_ifCond, exI_if_icmp, exI_iinc, exI_iload_n, exI_invokestatic, exI_invokevirtual, exI_istore_n, exI_return, p_X0_load, dX0_load_0, dX0_load_1, dX0_load_4, dX0_load_5, dX0_load_6, dX0_load_7, dX0_load_8, dX0_load_11, dX0_load_14, dX0_load_15, dX0_load_16, dX0_load_19, dX0_load_22, dX0_load_23, dX0_load_24, dX0_load_27, dX0_load_28, dX0_load_29, dX0_load_30, dX0_load_33, dX0_load_34, dX0_load_35, dX0_load_36, dX0_load_39, dX0_load_42, dX0_load_45, tg_11_34, jn_11_34, tg_19_20, jn_19_20, tg_42_m36, jn_42_m36, ml_0_28, a_X0_clear, p_X0_clear, fl_0_31, ml_0_37, a_X10_inSet, p_X10_inSet, fl_0_41, fl_0_44, ml_0_47, a_X0_shift, p_X0_shift, ab_clr, ab_st1, ab_st2, ab_b2, ab_q2, ab_l2, ab_p2, ab_neg, ab_i2l, ab_lcmp, ab_lshl, ab_ld, ab_sti, ab_stl, ab_inc, ab_dup, ab_dup2, ab_pop, ab_pop2, cmpP, ab_goto, ab_icmp, ab_if, ab_sw, ab_table, ab_get, ab_put, ab_iald, ab_iast, ab_lald, ab_last, ab_aald, ab_ki, ab_kl, popN, pushO, isC, ab_inv, ab_copy, ab_mx, ab_ins, ab_nr, ab_iret, ab_lret, ab_vret, cat2, isI, isL, isR, catS, List.getElem?_cons_zero, List.getElem?_cons_succ, List.set_cons_zero, List.set_cons_succ, List.length_cons, List.length_nil, List.contains_cons, List.contains_nil, Int.reduceAdd, Int.reduceNeg, Int.reduceSub, Int.reduceLE, Int.reduceLT, Int.reduceToNat, Nat.reduceAdd, Nat.reduceMul, Nat.reduceBeqDiff, Nat.reduceEqDiff, Nat.reduceLeDiff, Nat.reduceLT, Nat.reduceSub, reduceCtorEq, f4_0, f4_1, f4_2, f4_3, f2_0, f2_1, true_and, and_true, if_true, if_false, Bool.or_false, Bool.false_or, Bool.true_or, Bool.or_true, beq_self_eq_true, Bool.false_eq_true, ↓reduceIte, Nat.zero_add, Nat.add_zero, Int.reduceEq, true_or, or_true, false_or, or_false, not_true_eq_false, not_false_eq_true, true_implies, false_implies, implies_true, and_self, false_and, and_false, va_up_at, upd_at, vpL_at, Nat.left_eq_add, Nat.right_eq_add, Nat.add_eq_left, Nat.add_eq_right, Nat.add_left_cancel_iff, oI_0, oI_1, oL_0, oL_div, oI_add, oI_sub, oI_mul, oI_neg, nI_o, oI_le, oI_lt, oI_eq, oI_in, oI_nat, oI_div, emod_nf, oI_64, oI_or, oI_and, oI_shl1, oI_clr, in_bit, has_bit, oI_bit, bz_0, bz_1, bz_n0, bz_n1, bz_or, oL_add, oL_sub, oL_mul, oL_le, oL_lt, oL_eq, lcO_lt, lcO_gt, lcO_le, lcO_ge, lcO_eq, Int.toNat_natCast, tn_add, tn_sub, Decidable.not_not, Int.natCast_zero, Int.zero_add, Int.add_zero, hk', nt]
      exact ⟨fun _ => hQ h' hfr hc, fun q => (show False by omega).elim⟩
    | succ r ih =>
      intro i h' hir hfr hc
      obtain ⟨e1, e2, b1, b2⟩ := hj i (by omega)
      have hk' : h' k = _ := (hfr k (by omega)).trans hk
      have hf' : h' (k + 1) = _ := (hfr (k + 1) (by omega)).trans hf
      have ht' : h' (k + 2) = _ := (hfr (k + 2) (by omega)).trans ht
      have h1' : h' c = _ := (hfr c (by omega)).trans h1
      (refine blk_sound [6] 400 ?_); simp (disch := omega) only [blk_s, nx_s, kC_s, exI_aload_n, exI_getfield, exI_goto, exI_iaload, exI_iconst, exI_ifCond, exI_if_icmp, exI_iinc, exI_iload_n, exI_invokestatic, exI_invokevirtual, exI_istore_n, exI_return, p_X0_load, dX0_load_0, dX0_load_1, dX0_load_4, dX0_load_5, dX0_load_6, dX0_load_7, dX0_load_8, dX0_load_11, dX0_load_14, dX0_load_15, dX0_load_16, dX0_load_19, dX0_load_22, dX0_load_23, dX0_load_24, dX0_load_27, dX0_load_28, dX0_load_29, dX0_load_30, dX0_load_33, dX0_load_34, dX0_load_35, dX0_load_36, dX0_load_39, dX0_load_42, dX0_load_45, tg_11_34, jn_11_34, tg_19_20, jn_19_20, tg_42_m36, jn_42_m36, ml_0_28, a_X0_clear, p_X0_clear, fl_0_31, ml_0_37, a_X10_inSet, p_X10_inSet, fl_0_41, fl_0_44, ml_0_47, a_X0_shift, p_X0_shift, ab_clr, ab_st1, ab_st2, ab_b2, ab_q2, ab_l2, ab_p2, ab_neg, ab_i2l, ab_lcmp, ab_lshl, ab_ld, ab_sti, ab_stl, ab_inc, ab_dup, ab_dup2, ab_pop, ab_pop2, cmpP, ab_goto, ab_icmp, ab_if, ab_sw, ab_table, ab_get, ab_put, ab_iald, ab_iast, ab_lald, ab_last, ab_aald, ab_ki, ab_kl, popN, pushO, isC, ab_inv, ab_copy, ab_mx, ab_ins, ab_nr, ab_iret, ab_lret, ab_vret, cat2, isI, isL, isR, catS, List.getElem?_cons_zero, List.getElem?_cons_succ, List.set_cons_zero, List.set_cons_succ, List.length_cons, List.length_nil, List.contains_cons, List.contains_nil, Int.reduceAdd, Int.reduceNeg, Int.reduceSub, Int.reduceLE, Int.reduceLT, Int.reduceToNat, Nat.reduceAdd, Nat.reduceMul, Nat.reduceBeqDiff, Nat.reduceEqDiff, Nat.reduceLeDiff, Nat.reduceLT, Nat.reduceSub, reduceCtorEq, f4_0, f4_1, f4_2, f4_3, f2_0, f2_1, true_and, and_true, if_true, if_false, Bool.or_false, Bool.false_or, Bool.true_or, Bool.or_true, beq_self_eq_true, Bool.false_eq_true, ↓reduceIte, Nat.zero_add, Nat.add_zero, Int.reduceEq, true_or, or_true, false_or, or_false, not_true_eq_false, not_false_eq_true, true_implies, false_implies, implies_true, and_self, false_and, and_false, va_up_at, upd_at, vpL_at, Nat.left_eq_add, Nat.right_eq_add, Nat.add_eq_left, Nat.add_eq_right, Nat.add_left_cancel_iff, oI_0, oI_1, oL_0, oL_div, oI_add, oI_sub, oI_mul, oI_neg, nI_o, oI_le, oI_lt, oI_eq, oI_in, oI_nat, oI_div, emod_nf, oI_64, oI_or, oI_and, oI_shl1, oI_clr, in_bit, has_bit, oI_bit, bz_0, bz_1, bz_n0, bz_n1, bz_or, oL_add, oL_sub, oL_mul, oL_le, oL_lt, oL_eq, lcO_lt, lcO_gt, lcO_le, lcO_ge, lcO_eq, Int.toNat_natCast, tn_add, tn_sub, Decidable.not_not, Int.natCast_zero, Int.zero_add, Int.add_zero, hk', nt, hf', ht', ia]
      refine ⟨fun q => (show False by omega).elim, fun _ => sp_inSet _ x i (by omega) ?_⟩
      cases hb : x.toBitVec.getLsbD i with
      | false =>
        simp (disch := omega) only [blk_s, nx_s, kC_s, exI_aload_n, exI_getfield, exI_goto, exI_iaload, exI_iconst, exI_ifCond, exI_if_icmp, exI_iinc, exI_iload_n, exI_invokestatic, exI_invokevirtual, exI_istore_n, exI_return, p_X0_load, dX0_load_0, dX0_load_1, dX0_load_4, dX0_load_5, dX0_load_6, dX0_load_7, dX0_load_8, dX0_load_11, dX0_load_14, dX0_load_15, dX0_load_16, dX0_load_19, dX0_load_22, dX0_load_23, dX0_load_24, dX0_load_27, dX0_load_28, dX0_load_29, dX0_load_30, dX0_load_33, dX0_load_34, dX0_load_35, dX0_load_36, dX0_load_39, dX0_load_42, dX0_load_45, tg_11_34, jn_11_34, tg_19_20, jn_19_20, tg_42_m36, jn_42_m36, ml_0_28, a_X0_clear, p_X0_clear, fl_0_31, ml_0_37, a_X10_inSet, p_X10_inSet, fl_0_41, fl_0_44, ml_0_47, a_X0_shift, p_X0_shift, ab_clr, ab_st1, ab_st2, ab_b2, ab_q2, ab_l2, ab_p2, ab_neg, ab_i2l, ab_lcmp, ab_lshl, ab_ld, ab_sti, ab_stl, ab_inc, ab_dup, ab_dup2, ab_pop, ab_pop2, cmpP, ab_goto, ab_icmp, ab_if, ab_sw, ab_table, ab_get, ab_put, ab_iald, ab_iast, ab_lald, ab_last, ab_aald, ab_ki, ab_kl, popN, pushO, isC, ab_inv, ab_copy, ab_mx, ab_ins, ab_nr, ab_iret, ab_lret, ab_vret, cat2, isI, isL, isR, catS, List.getElem?_cons_zero, List.getElem?_cons_succ, List.set_cons_zero, List.set_cons_succ, List.length_cons, List.length_nil, List.contains_cons, List.contains_nil, Int.reduceAdd, Int.reduceNeg, Int.reduceSub, Int.reduceLE, Int.reduceLT, Int.reduceToNat, Nat.reduceAdd, Nat.reduceMul, Nat.reduceBeqDiff, Nat.reduceEqDiff, Nat.reduceLeDiff, Nat.reduceLT, Nat.reduceSub, reduceCtorEq, f4_0, f4_1, f4_2, f4_3, f2_0, f2_1, true_and, and_true, if_true, if_false, Bool.or_false, Bool.false_or, Bool.true_or, Bool.or_true, beq_self_eq_true, Bool.false_eq_true, ↓reduceIte, Nat.zero_add, Nat.add_zero, Int.reduceEq, true_or, or_true, false_or, or_false, not_true_eq_false, not_false_eq_true, true_implies, false_implies, implies_true, and_self, false_and, and_false, va_up_at, upd_at, vpL_at, Nat.left_eq_add, Nat.right_eq_add, Nat.add_eq_left, Nat.add_eq_right, Nat.add_left_cancel_iff, oI_0, oI_1, oL_0, oL_div, oI_add, oI_sub, oI_mul, oI_neg, nI_o, oI_le, oI_lt, oI_eq, oI_in, oI_nat, oI_div, emod_nf, oI_64, oI_or, oI_and, oI_shl1, oI_clr, in_bit, has_bit, oI_bit, bz_0, bz_1, bz_n0, bz_n1, bz_or, oL_add, oL_sub, oL_mul, oL_le, oL_lt, oL_eq, lcO_lt, lcO_gt, lcO_le, lcO_ge, lcO_eq, Int.toNat_natCast, tn_add, tn_sub, Decidable.not_not, Int.natCast_zero, Int.zero_add, Int.add_zero, hk', nt, hf', ht', ia, h1', e1, e2]
        refine ih (i + 1) h' (by omega) hfr (hc.congr (fun p q _ _ => ?_) (fun p _ => ?_))
        · simp [ldW, hb]
        · simp [ldO, hb]
      | true =>
        simp (disch := omega) only [blk_s, nx_s, kC_s, exI_aload_n, exI_getfield, exI_goto, exI_iaload, exI_iconst, exI_ifCond, exI_if_icmp, exI_iinc, exI_iload_n, exI_invokestatic, exI_invokevirtual, exI_istore_n, exI_return, p_X0_load, dX0_load_0, dX0_load_1, dX0_load_4, dX0_load_5, dX0_load_6, dX0_load_7, dX0_load_8, dX0_load_11, dX0_load_14, dX0_load_15, dX0_load_16, dX0_load_19, dX0_load_22, dX0_load_23, dX0_load_24, dX0_load_27, dX0_load_28, dX0_load_29, dX0_load_30, dX0_load_33, dX0_load_34, dX0_load_35, dX0_load_36, dX0_load_39, dX0_load_42, dX0_load_45, tg_11_34, jn_11_34, tg_19_20, jn_19_20, tg_42_m36, jn_42_m36, ml_0_28, a_X0_clear, p_X0_clear, fl_0_31, ml_0_37, a_X10_inSet, p_X10_inSet, fl_0_41, fl_0_44, ml_0_47, a_X0_shift, p_X0_shift, ab_clr, ab_st1, ab_st2, ab_b2, ab_q2, ab_l2, ab_p2, ab_neg, ab_i2l, ab_lcmp, ab_lshl, ab_ld, ab_sti, ab_stl, ab_inc, ab_dup, ab_dup2, ab_pop, ab_pop2, cmpP, ab_goto, ab_icmp, ab_if, ab_sw, ab_table, ab_get, ab_put, ab_iald, ab_iast, ab_lald, ab_last, ab_aald, ab_ki, ab_kl, popN, pushO, isC, ab_inv, ab_copy, ab_mx, ab_ins, ab_nr, ab_iret, ab_lret, ab_vret, cat2, isI, isL, isR, catS, List.getElem?_cons_zero, List.getElem?_cons_succ, List.set_cons_zero, List.set_cons_succ, List.length_cons, List.length_nil, List.contains_cons, List.contains_nil, Int.reduceAdd, Int.reduceNeg, Int.reduceSub, Int.reduceLE, Int.reduceLT, Int.reduceToNat, Nat.reduceAdd, Nat.reduceMul, Nat.reduceBeqDiff, Nat.reduceEqDiff, Nat.reduceLeDiff, Nat.reduceLT, Nat.reduceSub, reduceCtorEq, f4_0, f4_1, f4_2, f4_3, f2_0, f2_1, true_and, and_true, if_true, if_false, Bool.or_false, Bool.false_or, Bool.true_or, Bool.or_true, beq_self_eq_true, Bool.false_eq_true, ↓reduceIte, Nat.zero_add, Nat.add_zero, Int.reduceEq, true_or, or_true, false_or, or_false, not_true_eq_false, not_false_eq_true, true_implies, false_implies, implies_true, and_self, false_and, and_false, va_up_at, upd_at, vpL_at, Nat.left_eq_add, Nat.right_eq_add, Nat.add_eq_left, Nat.add_eq_right, Nat.add_left_cancel_iff, oI_0, oI_1, oL_0, oL_div, oI_add, oI_sub, oI_mul, oI_neg, nI_o, oI_le, oI_lt, oI_eq, oI_in, oI_nat, oI_div, emod_nf, oI_64, oI_or, oI_and, oI_shl1, oI_clr, in_bit, has_bit, oI_bit, bz_0, bz_1, bz_n0, bz_n1, bz_or, oL_add, oL_sub, oL_mul, oL_le, oL_lt, oL_eq, lcO_lt, lcO_gt, lcO_le, lcO_ge, lcO_eq, Int.toNat_natCast, tn_add, tn_sub, Decidable.not_not, Int.natCast_zero, Int.zero_add, Int.add_zero, hk', nt, hf', ht', ia, h1', e1, e2]
        refine ⟨by omega, by omega, sp_shift _ hc (F i) (T i) (by omega) (by omega) 1 (fun g1 f1 c1 => ?_)⟩
        simp (disch := omega) only [blk_s, nx_s, kC_s, exI_aload_n, exI_getfield, exI_goto, exI_iaload, exI_iconst, exI_ifCond, exI_if_icmp, exI_iinc, exI_iload_n, exI_invokestatic, exI_invokevirtual, exI_istore_n, exI_return, p_X0_load, dX0_load_0, dX0_load_1, dX0_load_4, dX0_load_5, dX0_load_6, dX0_load_7, dX0_load_8, dX0_load_11, dX0_load_14, dX0_load_15, dX0_load_16, dX0_load_19, dX0_load_22, dX0_load_23, dX0_load_24, dX0_load_27, dX0_load_28, dX0_load_29, dX0_load_30, dX0_load_33, dX0_load_34, dX0_load_35, dX0_load_36, dX0_load_39, dX0_load_42, dX0_load_45, tg_11_34, jn_11_34, tg_19_20, jn_19_20, tg_42_m36, jn_42_m36, ml_0_28, a_X0_clear, p_X0_clear, fl_0_31, ml_0_37, a_X10_inSet, p_X10_inSet, fl_0_41, fl_0_44, ml_0_47, a_X0_shift, p_X0_shift, ab_clr, ab_st1, ab_st2, ab_b2, ab_q2, ab_l2, ab_p2, ab_neg, ab_i2l, ab_lcmp, ab_lshl, ab_ld, ab_sti, ab_stl, ab_inc, ab_dup, ab_dup2, ab_pop, ab_pop2, cmpP, ab_goto, ab_icmp, ab_if, ab_sw, ab_table, ab_get, ab_put, ab_iald, ab_iast, ab_lald, ab_last, ab_aald, ab_ki, ab_kl, popN, pushO, isC, ab_inv, ab_copy, ab_mx, ab_ins, ab_nr, ab_iret, ab_lret, ab_vret, cat2, isI, isL, isR, catS, List.getElem?_cons_zero, List.getElem?_cons_succ, List.set_cons_zero, List.set_cons_succ, List.length_cons, List.length_nil, List.contains_cons, List.contains_nil, Int.reduceAdd, Int.reduceNeg, Int.reduceSub, Int.reduceLE, Int.reduceLT, Int.reduceToNat, Nat.reduceAdd, Nat.reduceMul, Nat.reduceBeqDiff, Nat.reduceEqDiff, Nat.reduceLeDiff, Nat.reduceLT, Nat.reduceSub, reduceCtorEq, f4_0, f4_1, f4_2, f4_3, f2_0, f2_1, true_and, and_true, if_true, if_false, Bool.or_false, Bool.false_or, Bool.true_or, Bool.or_true, beq_self_eq_true, Bool.false_eq_true, ↓reduceIte, Nat.zero_add, Nat.add_zero, Int.reduceEq, true_or, or_true, false_or, or_false, not_true_eq_false, not_false_eq_true, true_implies, false_implies, implies_true, and_self, false_and, and_false, va_up_at, upd_at, vpL_at, Nat.left_eq_add, Nat.right_eq_add, Nat.add_eq_left, Nat.add_eq_right, Nat.add_left_cancel_iff, oI_0, oI_1, oL_0, oL_div, oI_add, oI_sub, oI_mul, oI_neg, nI_o, oI_le, oI_lt, oI_eq, oI_in, oI_nat, oI_div, emod_nf, oI_64, oI_or, oI_and, oI_shl1, oI_clr, in_bit, has_bit, oI_bit, bz_0, bz_1, bz_n0, bz_n1, bz_or, oL_add, oL_sub, oL_mul, oL_le, oL_lt, oL_eq, lcO_lt, lcO_gt, lcO_le, lcO_ge, lcO_eq, Int.toNat_natCast, tn_add, tn_sub, Decidable.not_not, Int.natCast_zero, Int.zero_add, Int.add_zero]
        refine ih (i + 1) g1 (by omega) (fun j a => (f1 j a).trans (hfr j a)) (c1.congr (fun p q _ _ => ?_) (fun p _ => ?_))
        · simp only [up2, ldW, hb, true_and]
          by_cases e : p = F i ∧ q = T i
          · rw [if_pos e, if_pos ⟨e.1.symm, e.2.symm⟩, e.1, e.2]
          · rw [if_neg e, if_neg (fun q => e ⟨q.1.symm, q.2.symm⟩), Int.add_zero]
        · simp only [upI, ldO, hb, true_and]
          by_cases e : p = F i
          · rw [if_pos e, if_pos e.symm, e]
          · rw [if_neg e, if_neg (fun q => e q.symm), Int.add_zero]
  (refine blk_sound [6] 400 ?_); simp (disch := omega) only [blk_s, nx_s, kC_s, exI_aload_n, exI_getfield, exI_goto, exI_iaload, exI_iconst, exI_ifCond, exI_if_icmp, exI_iinc, exI_iload_n, exI_invokestatic, exI_invokevirtual, exI_istore_n, exI_return, p_X0_load, dX0_load_0, dX0_load_1, dX0_load_4, dX0_load_5, dX0_load_6, dX0_load_7, dX0_load_8, dX0_load_11, dX0_load_14, dX0_load_15, dX0_load_16, dX0_load_19, dX0_load_22, dX0_load_23, dX0_load_24, dX0_load_27, dX0_load_28, dX0_load_29, dX0_load_30, dX0_load_33, dX0_load_34, dX0_load_35, dX0_load_36, dX0_load_39, dX0_load_42, dX0_load_45, tg_11_34, jn_11_34, tg_19_20, jn_19_20, tg_42_m36, jn_42_m36, ml_0_28, a_X0_clear, p_X0_clear, fl_0_31, ml_0_37, a_X10_inSet, p_X10_inSet, fl_0_41, fl_0_44, ml_0_47, a_X0_shift, p_X0_shift, ab_clr, ab_st1, ab_st2, ab_b2, ab_q2, ab_l2, ab_p2, ab_neg, ab_i2l, ab_lcmp, ab_lshl, ab_ld, ab_sti, ab_stl, ab_inc, ab_dup, ab_dup2, ab_pop, ab_pop2, cmpP, ab_goto, ab_icmp, ab_if, ab_sw, ab_table, ab_get, ab_put, ab_iald, ab_iast, ab_lald, ab_last, ab_aald, ab_ki, ab_kl, popN, pushO, isC, ab_inv, ab_copy, ab_mx, ab_ins, ab_nr, ab_iret, ab_lret, ab_vret, cat2, isI, isL, isR, catS, List.getElem?_cons_zero, List.getElem?_cons_succ, List.set_cons_zero, List.set_cons_succ, List.length_cons, List.length_nil, List.contains_cons, List.contains_nil, Int.reduceAdd, Int.reduceNeg, Int.reduceSub, Int.reduceLE, Int.reduceLT, Int.reduceToNat, Nat.reduceAdd, Nat.reduceMul, Nat.reduceBeqDiff, Nat.reduceEqDiff, Nat.reduceLeDiff, Nat.reduceLT, Nat.reduceSub, reduceCtorEq, f4_0, f4_1, f4_2, f4_3, f2_0, f2_1, true_and, and_true, if_true, if_false, Bool.or_false, Bool.false_or, Bool.true_or, Bool.or_true, beq_self_eq_true, Bool.false_eq_true, ↓reduceIte, Nat.zero_add, Nat.add_zero, Int.reduceEq, true_or, or_true, false_or, or_false, not_true_eq_false, not_false_eq_true, true_implies, false_implies, implies_true, and_self, false_and, and_false, va_up_at, upd_at, vpL_at, Nat.left_eq_add, Nat.right_eq_add, Nat.add_eq_left, Nat.add_eq_right, Nat.add_left_cancel_iff, oI_0, oI_1, oL_0, oL_div, oI_add, oI_sub, oI_mul, oI_neg, nI_o, oI_le, oI_lt, oI_eq, oI_in, oI_nat, oI_div, emod_nf, oI_64, oI_or, oI_and, oI_shl1, oI_clr, in_bit, has_bit, oI_bit, bz_0, bz_1, bz_n0, bz_n1, bz_or, oL_add, oL_sub, oL_mul, oL_le, oL_lt, oL_eq, lcO_lt, lcO_gt, lcO_le, lcO_ge, lcO_eq, Int.toNat_natCast, tn_add, tn_sub, Decidable.not_not, Int.natCast_zero, Int.zero_add, Int.add_zero, h1]
  refine sp_clear _ hc0 (fun g1 f1 c1 => ?_)
  simp (disch := omega) only [blk_s, nx_s, kC_s, exI_aload_n, exI_getfield, exI_goto, exI_iaload, exI_iconst, exI_ifCond, exI_if_icmp, exI_iinc, exI_iload_n, exI_invokestatic, exI_invokevirtual, exI_istore_n, exI_return, p_X0_load, dX0_load_0, dX0_load_1, dX0_load_4, dX0_load_5, dX0_load_6, dX0_load_7, dX0_load_8, dX0_load_11, dX0_load_14, dX0_load_15, dX0_load_16, dX0_load_19, dX0_load_22, dX0_load_23, dX0_load_24, dX0_load_27, dX0_load_28, dX0_load_29, dX0_load_30, dX0_load_33, dX0_load_34, dX0_load_35, dX0_load_36, dX0_load_39, dX0_load_42, dX0_load_45, tg_11_34, jn_11_34, tg_19_20, jn_19_20, tg_42_m36, jn_42_m36, ml_0_28, a_X0_clear, p_X0_clear, fl_0_31, ml_0_37, a_X10_inSet, p_X10_inSet, fl_0_41, fl_0_44, ml_0_47, a_X0_shift, p_X0_shift, ab_clr, ab_st1, ab_st2, ab_b2, ab_q2, ab_l2, ab_p2, ab_neg, ab_i2l, ab_lcmp, ab_lshl, ab_ld, ab_sti, ab_stl, ab_inc, ab_dup, ab_dup2, ab_pop, ab_pop2, cmpP, ab_goto, ab_icmp, ab_if, ab_sw, ab_table, ab_get, ab_put, ab_iald, ab_iast, ab_lald, ab_last, ab_aald, ab_ki, ab_kl, popN, pushO, isC, ab_inv, ab_copy, ab_mx, ab_ins, ab_nr, ab_iret, ab_lret, ab_vret, cat2, isI, isL, isR, catS, List.getElem?_cons_zero, List.getElem?_cons_succ, List.set_cons_zero, List.set_cons_succ, List.length_cons, List.length_nil, List.contains_cons, List.contains_nil, Int.reduceAdd, Int.reduceNeg, Int.reduceSub, Int.reduceLE, Int.reduceLT, Int.reduceToNat, Nat.reduceAdd, Nat.reduceMul, Nat.reduceBeqDiff, Nat.reduceEqDiff, Nat.reduceLeDiff, Nat.reduceLT, Nat.reduceSub, reduceCtorEq, f4_0, f4_1, f4_2, f4_3, f2_0, f2_1, true_and, and_true, if_true, if_false, Bool.or_false, Bool.false_or, Bool.true_or, Bool.or_true, beq_self_eq_true, Bool.false_eq_true, ↓reduceIte, Nat.zero_add, Nat.add_zero, Int.reduceEq, true_or, or_true, false_or, or_false, not_true_eq_false, not_false_eq_true, true_implies, false_implies, implies_true, and_self, false_and, and_false, va_up_at, upd_at, vpL_at, Nat.left_eq_add, Nat.right_eq_add, Nat.add_eq_left, Nat.add_eq_right, Nat.add_left_cancel_iff, oI_0, oI_1, oL_0, oL_div, oI_add, oI_sub, oI_mul, oI_neg, nI_o, oI_le, oI_lt, oI_eq, oI_in, oI_nat, oI_div, emod_nf, oI_64, oI_or, oI_and, oI_shl1, oI_clr, in_bit, has_bit, oI_bit, bz_0, bz_1, bz_n0, bz_n1, bz_or, oL_add, oL_sub, oL_mul, oL_le, oL_lt, oL_eq, lcO_lt, lcO_gt, lcO_le, lcO_ge, lcO_eq, Int.toNat_natCast, tn_add, tn_sub, Decidable.not_not, Int.natCast_zero, Int.zero_add, Int.add_zero]
  exact loop A 0 g1 (by omega) f1 c1
