/-! NETS: a net at place k has its arrays at k + 1, k + 2 -/
abbrev oI : Int → Int32 := Int32.ofInt
abbrev oL : Int → Int64 := Int64.ofInt
def nt (k : Nat) (P n : Int32) : va_E := .inr (4, [.ref (k + 1), .ref (k + 2), .int P, .int n])
def ia (n : Nat) (F : Nat → Int32) : va_E := .inl (0, n, .inl F)
def NetR (h : Hp) (k P A : Nat) (F T : Nat → Nat) : Prop := ∃ FF TT : Nat → Int32, h k = nt k (Int32.ofInt P) (Int32.ofInt A) ∧ h (k + 1) = ia 16 FF ∧ h (k + 2) = ia 16 TT ∧ P ≤ 8 ∧ A ≤ 16 ∧ ∀ j, j < A → FF j = Int32.ofInt (F j) ∧ TT j = Int32.ofInt (T j) ∧ F j < P ∧ T j < P
/-- how many of the first n are p -/
def cntN (F : Nat → Nat) (p : Nat) : Nat → Nat
  | 0 => 0
  | n + 1 => cntN F p n + if F n = p then 1 else 0
theorem cntN_le (F : Nat → Nat) (p : Nat) : ∀ n, cntN F p n ≤ n
  | 0 => Nat.le_refl _
  | n + 1 => by
    have := cntN_le F p n
    simp only [cntN]
    split <;> omega
set_option maxRecDepth 100000 in
theorem sp_outOf (d : Nat) {h : Hp} {k P A : Nat} {F T : Nat → Nat} (hn : NetR h k P A F T) (p : Nat) (hp : p < 100) {Q : QT} (hQ : Q (some (.int (Int32.ofInt (cntN F p A)))) h) : Call (d + 1) MX4_outOf [.ref k, .int (Int32.ofInt p)] h Q := by
  obtain ⟨FF, TT, hk, hf, ht, hP, hA, hj⟩ := hn
  refine call_of_at (ls := [some (.ref k), some (.int (Int32.ofInt p)), none, none]) (by decide) rfl (Nat.le_of_ble_eq_true rfl) rfl ?_
  have loop : ∀ (r i : Nat), i + r = A → At MX4_outOf (d + 1) 4 [some (.ref k), some (.int (Int32.ofInt p)), some (.int (Int32.ofInt (cntN F p i))), some (.int (Int32.ofInt i))] [] h Q := by
    intro r
    induction r with
    | zero =>
      intro i hi
      refine blk_sound [4] 100 ?_
      simp only [blk_s, nx_s, kC_s, exI_aload_n, exI_getfield, exI_goto, exI_iaload, exI_iconst, exI_if_icmp, exI_iinc, exI_iload_n, exI_ireturn, exI_istore_n, p_X4_outOf, dX4_outOf_0, dX4_outOf_1, dX4_outOf_2, dX4_outOf_3, dX4_outOf_4, dX4_outOf_5, dX4_outOf_6, dX4_outOf_9, dX4_outOf_12, dX4_outOf_13, dX4_outOf_16, dX4_outOf_17, dX4_outOf_18, dX4_outOf_19, dX4_outOf_22, dX4_outOf_25, dX4_outOf_28, dX4_outOf_31, dX4_outOf_32, tg_9_22, jn_9_22, tg_19_6, jn_19_6, tg_28_m24, jn_28_m24, fl_4_22, fl_4_9, ab_clr, ab_st1, ab_st2, ab_b2, ab_q2, ab_l2, ab_p2, ab_neg, ab_i2l, ab_lcmp, ab_lshl, ab_ld, ab_sti, ab_stl, ab_inc, ab_dup, ab_dup2, ab_pop, ab_pop2, cmpP, ab_goto, ab_icmp, ab_if, ab_sw, ab_table, ab_get, ab_put, ab_iald, ab_iast, ab_lald, ab_last, ab_aald, ab_ki, ab_kl, popN, pushO, isC, ab_inv, ab_copy, ab_mx, ab_ins, ab_nr, ab_iret, ab_lret, ab_vret, cat2, isI, isL, isR, catS, List.getElem?_cons_zero, List.getElem?_cons_succ, List.set_cons_zero, List.set_cons_succ, List.length_cons, List.length_nil, List.contains_cons, List.contains_nil, Int.reduceAdd, Int.reduceNeg, Int.reduceSub, Int.reduceLE, Int.reduceLT, Int.reduceToNat, Nat.reduceAdd, Nat.reduceMul, Nat.reduceBeqDiff, Nat.reduceEqDiff, Nat.reduceLeDiff, Nat.reduceLT, Nat.reduceSub, reduceCtorEq, f4_0, f4_1, f4_2, f4_3, f2_0, f2_1, true_and, and_true, if_true, if_false, Bool.or_false, Bool.false_or, Bool.true_or, Bool.or_true, beq_self_eq_true, Bool.false_eq_true, reduceIte, Nat.zero_add, Nat.add_zero, hk, hf, nt, ia]
      simp (disch := omega) only [oI_0, oI_1, oI_add, oI_sub, oI_mul, oI_neg, nI_o, oI_le, oI_lt, oI_eq, oI_in, oI_nat, oI_div, oI_rem, oI_64, oL_add, oL_sub, oL_mul, oL_le, oL_lt, oL_eq, lc_lt, lc_gt, lc_le, lc_ge, lc_eq, Int.toNat_natCast, Decidable.not_not, Int.natCast_zero, Int.zero_add, Int.add_zero]
      rw [show i = A by omega]
      exact ⟨fun _ => hQ, fun c => absurd (Int.le_refl _) c⟩
    | succ r ih =>
      intro i hi
      obtain ⟨e1, e2, b1, b2⟩ := hj i (by omega)
      refine blk_sound [4] 100 ?_
      simp only [blk_s, nx_s, kC_s, exI_aload_n, exI_getfield, exI_goto, exI_iaload, exI_iconst, exI_if_icmp, exI_iinc, exI_iload_n, exI_ireturn, exI_istore_n, p_X4_outOf, dX4_outOf_0, dX4_outOf_1, dX4_outOf_2, dX4_outOf_3, dX4_outOf_4, dX4_outOf_5, dX4_outOf_6, dX4_outOf_9, dX4_outOf_12, dX4_outOf_13, dX4_outOf_16, dX4_outOf_17, dX4_outOf_18, dX4_outOf_19, dX4_outOf_22, dX4_outOf_25, dX4_outOf_28, dX4_outOf_31, dX4_outOf_32, tg_9_22, jn_9_22, tg_19_6, jn_19_6, tg_28_m24, jn_28_m24, fl_4_22, fl_4_9, ab_clr, ab_st1, ab_st2, ab_b2, ab_q2, ab_l2, ab_p2, ab_neg, ab_i2l, ab_lcmp, ab_lshl, ab_ld, ab_sti, ab_stl, ab_inc, ab_dup, ab_dup2, ab_pop, ab_pop2, cmpP, ab_goto, ab_icmp, ab_if, ab_sw, ab_table, ab_get, ab_put, ab_iald, ab_iast, ab_lald, ab_last, ab_aald, ab_ki, ab_kl, popN, pushO, isC, ab_inv, ab_copy, ab_mx, ab_ins, ab_nr, ab_iret, ab_lret, ab_vret, cat2, isI, isL, isR, catS, List.getElem?_cons_zero, List.getElem?_cons_succ, List.set_cons_zero, List.set_cons_succ, List.length_cons, List.length_nil, List.contains_cons, List.contains_nil, Int.reduceAdd, Int.reduceNeg, Int.reduceSub, Int.reduceLE, Int.reduceLT, Int.reduceToNat, Nat.reduceAdd, Nat.reduceMul, Nat.reduceBeqDiff, Nat.reduceEqDiff, Nat.reduceLeDiff, Nat.reduceLT, Nat.reduceSub, reduceCtorEq, f4_0, f4_1, f4_2, f4_3, f2_0, f2_1, true_and, and_true, if_true, if_false, Bool.or_false, Bool.false_or, Bool.true_or, Bool.or_true, beq_self_eq_true, Bool.false_eq_true, reduceIte, Nat.zero_add, Nat.add_zero, hk, hf, nt, ia]
      simp (disch := omega) only [oI_0, oI_1, oI_add, oI_sub, oI_mul, oI_neg, nI_o, oI_le, oI_lt, oI_eq, oI_in, oI_nat, oI_div, oI_rem, oI_64, oL_add, oL_sub, oL_mul, oL_le, oL_lt, oL_eq, lc_lt, lc_gt, lc_le, lc_ge, lc_eq, Int.toNat_natCast, Decidable.not_not, Int.natCast_zero, Int.zero_add, Int.add_zero, e1]
      have ih2 := ih (i + 1) (by omega)
      refine ⟨fun c => absurd c (by omega), fun _ => ⟨by omega, fun c => ?_, fun c => ?_⟩⟩
      · simp only [cntN, if_neg (show ¬ F i = p by omega)] at ih2
        exact ih2
      · simp only [cntN, if_pos (show F i = p by omega)] at ih2
        exact ih2
  refine blk_sound [4] 100 ?_
  simp only [blk_s, nx_s, kC_s, exI_aload_n, exI_getfield, exI_goto, exI_iaload, exI_iconst, exI_if_icmp, exI_iinc, exI_iload_n, exI_ireturn, exI_istore_n, p_X4_outOf, dX4_outOf_0, dX4_outOf_1, dX4_outOf_2, dX4_outOf_3, dX4_outOf_4, dX4_outOf_5, dX4_outOf_6, dX4_outOf_9, dX4_outOf_12, dX4_outOf_13, dX4_outOf_16, dX4_outOf_17, dX4_outOf_18, dX4_outOf_19, dX4_outOf_22, dX4_outOf_25, dX4_outOf_28, dX4_outOf_31, dX4_outOf_32, tg_9_22, jn_9_22, tg_19_6, jn_19_6, tg_28_m24, jn_28_m24, fl_4_22, fl_4_9, ab_clr, ab_st1, ab_st2, ab_b2, ab_q2, ab_l2, ab_p2, ab_neg, ab_i2l, ab_lcmp, ab_lshl, ab_ld, ab_sti, ab_stl, ab_inc, ab_dup, ab_dup2, ab_pop, ab_pop2, cmpP, ab_goto, ab_icmp, ab_if, ab_sw, ab_table, ab_get, ab_put, ab_iald, ab_iast, ab_lald, ab_last, ab_aald, ab_ki, ab_kl, popN, pushO, isC, ab_inv, ab_copy, ab_mx, ab_ins, ab_nr, ab_iret, ab_lret, ab_vret, cat2, isI, isL, isR, catS, List.getElem?_cons_zero, List.getElem?_cons_succ, List.set_cons_zero, List.set_cons_succ, List.length_cons, List.length_nil, List.contains_cons, List.contains_nil, Int.reduceAdd, Int.reduceNeg, Int.reduceSub, Int.reduceLE, Int.reduceLT, Int.reduceToNat, Nat.reduceAdd, Nat.reduceMul, Nat.reduceBeqDiff, Nat.reduceEqDiff, Nat.reduceLeDiff, Nat.reduceLT, Nat.reduceSub, reduceCtorEq, f4_0, f4_1, f4_2, f4_3, f2_0, f2_1, true_and, and_true, if_true, if_false, Bool.or_false, Bool.false_or, Bool.true_or, Bool.or_true, beq_self_eq_true, Bool.false_eq_true, reduceIte, Nat.zero_add, Nat.add_zero, hk, hf, nt, ia]
  exact loop A 0 (by omega)
