/-- a net as a row, from place o of an array on -/
def RoG (G : Nat → Int32) (o : Nat) (N : NN) : Prop := G o = Int32.ofInt N.1 ∧ G (o + 1) = Int32.ofInt N.2.1 ∧ N.1 ≤ 8 ∧ N.2.1 ≤ 16 ∧ ∀ j, j < N.2.1 → G (o + 2 + j) = Int32.ofInt (N.2.2.1 j) ∧ G (o + 18 + j) = Int32.ofInt (N.2.2.2 j) ∧ N.2.2.1 j < N.1 ∧ N.2.2.2 j < N.1
def RowG (h : Hp) (a : Nat) (N : NN) : Prop := RowR h a N.1 N.2.1 N.2.2.1 N.2.2.2
theorem RowG.ro {h : Hp} {a : Nat} {N : NN} (hr : RowG h a N) : ∃ G, h a = ia 34 G ∧ RoG G 0 N := by
  obtain ⟨G, g1, g2, g3, g4, g5, g6⟩ := hr
  exact ⟨G, g1, g2, g3, g4, g5, fun j q => by rw [Nat.zero_add, Nat.zero_add]; exact g6 j q⟩
theorem RowG.of {h : Hp} {a : Nat} {N : NN} {G : Nat → Int32} (e : h a = ia 34 G) (hr : RoG G 0 N) : RowG h a N := by
  obtain ⟨g2, g3, g4, g5, g6⟩ := hr
  exact ⟨G, e, g2, g3, g4, g5, fun j q => by have := g6 j q; rwa [Nat.zero_add, Nat.zero_add] at this⟩
def cpG (H G : Nat → Int32) (s t n : Nat) : Nat → Int32 := fun j => if t ≤ j ∧ j < t + n then G (s + (j - t)) else H j
theorem RoG.cp {H G : Nat → Int32} {s t : Nat} {N : NN} (hr : RoG G s N) : RoG (cpG H G s t 34) t N := by
  obtain ⟨g2, g3, g4, g5, g6⟩ := hr
  refine ⟨?_, ?_, g4, g5, fun j q => ?_⟩
  · rw [cpG, if_pos (by omega), show s + (t - t) = s by omega]; exact g2
  · rw [cpG, if_pos (by omega), show s + (t + 1 - t) = s + 1 by omega]; exact g3
  · obtain ⟨a, b, c⟩ := g6 j q
    refine ⟨?_, ?_, c⟩
    · rw [cpG, if_pos (by omega), show s + (t + 2 + j - t) = s + 2 + j by omega]; exact a
    · rw [cpG, if_pos (by omega), show s + (t + 18 + j - t) = s + 18 + j by omega]; exact b
theorem RoG.congr {G H : Nat → Int32} {s t : Nat} {N : NN} (hr : RoG G s N) (e : ∀ j, j < 34 → H (t + j) = G (s + j)) : RoG H t N := by
  obtain ⟨g2, g3, g4, g5, g6⟩ := hr
  refine ⟨(e 0 (by omega)).trans g2, (e 1 (by omega)).trans g3, g4, g5, fun j q => ?_⟩
  obtain ⟨a, b, c⟩ := g6 j q
  refine ⟨?_, ?_, c⟩
  · have := e (2 + j) (by omega)
    rw [← Nat.add_assoc, ← Nat.add_assoc] at this
    exact this.trans a
  · have := e (18 + j) (by omega)
    rw [← Nat.add_assoc, ← Nat.add_assoc] at this
    exact this.trans b
set_option maxRecDepth 100000 in
theorem sm_copy (d : Nat) {h : Hp} {a b s t La Lb : Nat} {G H : Nat → Int32} (ha : h a = ia La G) (hb : h b = ia Lb H) (hab : a ≠ b) (hs : s + 34 ≤ La) (ht : t + 34 ≤ Lb) (hLa : La < 1000) (hLb : Lb < 1000) {Q : QT} (hQ : ∀ h' : Hp, (∀ j, j ≠ b → h' j = h j) → h' b = ia Lb (cpG H G s t 34) → Q none h') : Call (d + 1) MX11_copy [.ref a, .int (Int32.ofInt s), .ref b, .int (Int32.ofInt t)] h Q := by
  have n0 : (a = b) = False := eq_false hab
  have n1 : (b = a) = False := eq_false (fun z => hab z.symm)
  refine call_of_at (ls := [some (.ref a), some (.int (Int32.ofInt s)), some (.ref b), some (.int (Int32.ofInt t)), none]) (by decide) rfl (Nat.le_of_ble_eq_true rfl) rfl ?_
  have loop : ∀ (r k : Nat) (g : Hp) (K : Nat → Int32), k + r = 34 → (∀ j, j ≠ b → g j = h j) → g b = ia Lb K → K = cpG H G s t k → At MX11_copy (d + 1) 3 [some (.ref a), some (.int (Int32.ofInt s)), some (.ref b), some (.int (Int32.ofInt t)), some (.int (Int32.ofInt k))] [] g Q := by
    intro r
    induction r with
    | zero =>
      intro k g K hk fg gb eK
      rw [show k = 34 by omega] at eK ⊢
      have := hQ g fg (gb.trans (by rw [eK]))
      (refine blk_sound [3, 10] 400 ?_); simp (disch := omega) only [blk_s, nx_s, kC_s, exI_aload_n, exI_bipush, exI_goto, exI_iadd, exI_iaload, exI_iastore, exI_iconst, exI_if_icmp, exI_iinc, exI_iload, exI_iload_n, exI_istore, exI_return, p_X11_copy, dX11_copy_0, dX11_copy_1, dX11_copy_3, dX11_copy_5, dX11_copy_7, dX11_copy_10, dX11_copy_11, dX11_copy_12, dX11_copy_14, dX11_copy_15, dX11_copy_16, dX11_copy_17, dX11_copy_19, dX11_copy_20, dX11_copy_21, dX11_copy_22, dX11_copy_25, dX11_copy_28, tg_7_21, jn_7_21, tg_25_m22, jn_25_m22, ab_clr, ab_st1, ab_st2, ab_b2, ab_q2, ab_l2, ab_p2, ab_neg, ab_i2l, ab_lcmp, ab_lshl, ab_ld, ab_sti, ab_stl, ab_inc, ab_dup, ab_dup2, ab_pop, ab_pop2, cmpP, ab_goto, ab_icmp, ab_if, ab_sw, ab_table, ab_get, ab_put, ab_iald, ab_iast, ab_lald, ab_last, ab_aald, ab_ki, ab_kl, popN, pushO, isC, ab_inv, ab_copy, ab_mx, ab_ins, ab_nr, ab_iret, ab_lret, ab_vret, cat2, isI, isL, isR, catS, List.getElem?_cons_zero, List.getElem?_cons_succ, List.set_cons_zero, List.set_cons_succ, List.length_cons, List.length_nil, List.contains_cons, List.contains_nil, Int.reduceAdd, Int.reduceNeg, Int.reduceSub, Int.reduceLE, Int.reduceLT, Int.reduceToNat, Nat.reduceAdd, Nat.reduceMul, Nat.reduceBeqDiff, Nat.reduceEqDiff, Nat.reduceLeDiff, Nat.reduceLT, Nat.reduceSub, reduceCtorEq, f4_0, f4_1, f4_2, f4_3, f2_0, f2_1, true_and, and_true, if_true, if_false, Bool.or_false, Bool.false_or, Bool.true_or, Bool.or_true, beq_self_eq_true, Bool.false_eq_true, ↓reduceIte, Nat.zero_add, Nat.add_zero, Int.reduceEq, true_or, or_true, false_or, or_false, not_true_eq_false, not_false_eq_true, true_implies, false_implies, implies_true, and_self, false_and, and_false, va_up_at, upd_at, vpL_at, Nat.left_eq_add, Nat.right_eq_add, Nat.add_eq_left, Nat.add_eq_right, Nat.add_left_cancel_iff, oI_0, oI_1, oL_0, oL_div, oI_add, oI_sub, oI_mul, oI_neg, nI_o, oI_le, oI_lt, oI_eq, oI_in, oI_nat, oI_div, emod_nf, oI_64, oI_or, oI_and, oI_shl1, oI_clr, in_bit, has_bit, oI_bit, bz_0, bz_1, bz_n0, bz_n1, bz_or, oL_add, oL_sub, oL_mul, oL_le, oL_lt, oL_eq, lcO_lt, lcO_gt, lcO_le, lcO_ge, lcO_eq, Int.toNat_natCast, tn_add, tn_sub, Decidable.not_not, Int.natCast_zero, Int.zero_add, Int.add_zero]
      (repeat' (first | exact this | apply And.intro | intro _)) <;> first | omega | (exfalso; omega)
    | succ r ih =>
      intro k g K hk fg gb eK
      have ga := (fg a hab).trans ha
      have := ih (k + 1) (va_up g b (ia Lb (upd K (t + k) (G (s + k))))) (upd K (t + k) (G (s + k))) (by omega) (fun j q => by ((simp only [va_up_at]); (repeat rw [if_neg (by omega)])); exact fg j q) (by simp only [va_up_at, ↓reduceIte, Nat.reduceEqDiff, Nat.left_eq_add, Nat.right_eq_add, Nat.add_eq_left, Nat.add_eq_right, Nat.add_left_cancel_iff, reduceCtorEq, nt, ia]) (by
        funext j
        rw [upd_at, eK, cpG, cpG]
        by_cases c : j = t + k
        · rw [if_pos c, if_pos (by omega), c, show t + k - t = k by omega]
        · rw [if_neg c]
          by_cases c2 : t ≤ j ∧ j < t + k
          · rw [if_pos c2, if_pos (by omega)]
          · rw [if_neg c2, if_neg (by omega)])
      (refine blk_sound [3, 28] 400 ?_); simp (disch := omega) only [blk_s, nx_s, kC_s, exI_aload_n, exI_bipush, exI_goto, exI_iadd, exI_iaload, exI_iastore, exI_iconst, exI_if_icmp, exI_iinc, exI_iload, exI_iload_n, exI_istore, exI_return, p_X11_copy, dX11_copy_0, dX11_copy_1, dX11_copy_3, dX11_copy_5, dX11_copy_7, dX11_copy_10, dX11_copy_11, dX11_copy_12, dX11_copy_14, dX11_copy_15, dX11_copy_16, dX11_copy_17, dX11_copy_19, dX11_copy_20, dX11_copy_21, dX11_copy_22, dX11_copy_25, dX11_copy_28, tg_7_21, jn_7_21, tg_25_m22, jn_25_m22, ab_clr, ab_st1, ab_st2, ab_b2, ab_q2, ab_l2, ab_p2, ab_neg, ab_i2l, ab_lcmp, ab_lshl, ab_ld, ab_sti, ab_stl, ab_inc, ab_dup, ab_dup2, ab_pop, ab_pop2, cmpP, ab_goto, ab_icmp, ab_if, ab_sw, ab_table, ab_get, ab_put, ab_iald, ab_iast, ab_lald, ab_last, ab_aald, ab_ki, ab_kl, popN, pushO, isC, ab_inv, ab_copy, ab_mx, ab_ins, ab_nr, ab_iret, ab_lret, ab_vret, cat2, isI, isL, isR, catS, List.getElem?_cons_zero, List.getElem?_cons_succ, List.set_cons_zero, List.set_cons_succ, List.length_cons, List.length_nil, List.contains_cons, List.contains_nil, Int.reduceAdd, Int.reduceNeg, Int.reduceSub, Int.reduceLE, Int.reduceLT, Int.reduceToNat, Nat.reduceAdd, Nat.reduceMul, Nat.reduceBeqDiff, Nat.reduceEqDiff, Nat.reduceLeDiff, Nat.reduceLT, Nat.reduceSub, reduceCtorEq, f4_0, f4_1, f4_2, f4_3, f2_0, f2_1, true_and, and_true, if_true, if_false, Bool.or_false, Bool.false_or, Bool.true_or, Bool.or_true, beq_self_eq_true, Bool.false_eq_true, ↓reduceIte, Nat.zero_add, Nat.add_zero, Int.reduceEq, true_or, or_true, false_or, or_false, not_true_eq_false, not_false_eq_true, true_implies, false_implies, implies_true, and_self, false_and, and_false, va_up_at, upd_at, vpL_at, Nat.left_eq_add, Nat.right_eq_add, Nat.add_eq_left, Nat.add_eq_right, Nat.add_left_cancel_iff, oI_0, oI_1, oL_0, oL_div, oI_add, oI_sub, oI_mul, oI_neg, nI_o, oI_le, oI_lt, oI_eq, oI_in, oI_nat, oI_div, emod_nf, oI_64, oI_or, oI_and, oI_shl1, oI_clr, in_bit, has_bit, oI_bit, bz_0, bz_1, bz_n0, bz_n1, bz_or, oL_add, oL_sub, oL_mul, oL_le, oL_lt, oL_eq, lcO_lt, lcO_gt, lcO_le, lcO_ge, lcO_eq, Int.toNat_natCast, tn_add, tn_sub, Decidable.not_not, Int.natCast_zero, Int.zero_add, Int.add_zero, ga, gb, ia, n0, n1]
      (repeat' (first | exact this | apply And.intro | intro _)) <;> first | omega | (exfalso; omega)
  have := loop 34 0 h H (by omega) (fun _ _ => rfl) hb (by
    funext j
    rw [cpG, if_neg (by omega)])
  (refine blk_sound [3] 400 ?_); simp (disch := omega) only [blk_s, nx_s, kC_s, exI_aload_n, exI_bipush, exI_goto, exI_iadd, exI_iaload, exI_iastore, exI_iconst, exI_if_icmp, exI_iinc, exI_iload, exI_iload_n, exI_istore, exI_return, p_X11_copy, dX11_copy_0, dX11_copy_1, dX11_copy_3, dX11_copy_5, dX11_copy_7, dX11_copy_10, dX11_copy_11, dX11_copy_12, dX11_copy_14, dX11_copy_15, dX11_copy_16, dX11_copy_17, dX11_copy_19, dX11_copy_20, dX11_copy_21, dX11_copy_22, dX11_copy_25, dX11_copy_28, tg_7_21, jn_7_21, tg_25_m22, jn_25_m22, ab_clr, ab_st1, ab_st2, ab_b2, ab_q2, ab_l2, ab_p2, ab_neg, ab_i2l, ab_lcmp, ab_lshl, ab_ld, ab_sti, ab_stl, ab_inc, ab_dup, ab_dup2, ab_pop, ab_pop2, cmpP, ab_goto, ab_icmp, ab_if, ab_sw, ab_table, ab_get, ab_put, ab_iald, ab_iast, ab_lald, ab_last, ab_aald, ab_ki, ab_kl, popN, pushO, isC, ab_inv, ab_copy, ab_mx, ab_ins, ab_nr, ab_iret, ab_lret, ab_vret, cat2, isI, isL, isR, catS, List.getElem?_cons_zero, List.getElem?_cons_succ, List.set_cons_zero, List.set_cons_succ, List.length_cons, List.length_nil, List.contains_cons, List.contains_nil, Int.reduceAdd, Int.reduceNeg, Int.reduceSub, Int.reduceLE, Int.reduceLT, Int.reduceToNat, Nat.reduceAdd, Nat.reduceMul, Nat.reduceBeqDiff, Nat.reduceEqDiff, Nat.reduceLeDiff, Nat.reduceLT, Nat.reduceSub, reduceCtorEq, f4_0, f4_1, f4_2, f4_3, f2_0, f2_1, true_and, and_true, if_true, if_false, Bool.or_false, Bool.false_or, Bool.true_or, Bool.or_true, beq_self_eq_true, Bool.false_eq_true, ↓reduceIte, Nat.zero_add, Nat.add_zero, Int.reduceEq, true_or, or_true, false_or, or_false, not_true_eq_false, not_false_eq_true, true_implies, false_implies, implies_true, and_self, false_and, and_false, va_up_at, upd_at, vpL_at, Nat.left_eq_add, Nat.right_eq_add, Nat.add_eq_left, Nat.add_eq_right, Nat.add_left_cancel_iff, oI_0, oI_1, oL_0, oL_div, oI_add, oI_sub, oI_mul, oI_neg, nI_o, oI_le, oI_lt, oI_eq, oI_in, oI_nat, oI_div, emod_nf, oI_64, oI_or, oI_and, oI_shl1, oI_clr, in_bit, has_bit, oI_bit, bz_0, bz_1, bz_n0, bz_n1, bz_or, oL_add, oL_sub, oL_mul, oL_le, oL_lt, oL_eq, lcO_lt, lcO_gt, lcO_le, lcO_ge, lcO_eq, Int.toNat_natCast, tn_add, tn_sub, Decidable.not_not, Int.natCast_zero, Int.zero_add, Int.add_zero]
  exact this
set_option maxRecDepth 100000 in
theorem sm_goes (d : Nat) {h : Hp} {a : Nat} {N : NN} (hr : RowG h a N) (p q : Nat) (hA : N.2.1 < 16) (hp : p < N.1) (hq : q < N.1) {Q : QT} (hQ : ∀ h' : Hp, (∀ j, j ≠ a → h' j = h j) → RowG h' a (addN N p q) → Q none h') : Call (d + 1) MX11_goes [.ref a, .int (Int32.ofInt p), .int (Int32.ofInt q)] h Q := by
  obtain ⟨G, g1, g2, g3, g4, g5, g6⟩ := hr
  obtain ⟨P, A, F, T⟩ := N
  simp only at *
  have := hQ (va_up (va_up (va_up h a (ia 34 (upd G (2 + A) (Int32.ofInt p)))) a (ia 34 (upd (upd G (2 + A) (Int32.ofInt p)) (18 + A) (Int32.ofInt q)))) a (ia 34 (upd (upd (upd G (2 + A) (Int32.ofInt p)) (18 + A) (Int32.ofInt q)) 1 (Int32.ofInt ((A : Int) + 1))))) (fun j z => by ((simp only [va_up_at]); (repeat rw [if_neg (by omega)]))) ⟨_, by (simp only [va_up_at, ↓reduceIte, Nat.reduceEqDiff, Nat.left_eq_add, Nat.right_eq_add, Nat.add_eq_left, Nat.add_eq_right, Nat.add_left_cancel_iff, reduceCtorEq, nt, ia]); rfl, by
      simp only [upd_at]
      rw [if_neg (by omega), if_neg (by omega), if_neg (by omega)]
      exact g2, by
      simp only [upd_at, ↓reduceIte, addN]
      rfl, g4, by show A + 1 ≤ 16; omega, fun j z => by
      have hz : j < A + 1 := z
      simp only [upd_at, addN, upN]
      by_cases c : j = A
      · subst c
        (repeat (first | rw [if_pos rfl] | rw [if_neg (by omega)] | rw [if_pos (by omega)]))
        exact ⟨rfl, rfl, hp, hq⟩
      · obtain ⟨x1, x2, x3⟩ := g6 j (by omega)
        (repeat (first | rw [if_pos rfl] | rw [if_neg (by omega)] | rw [if_pos (by omega)]))
        exact ⟨x1, x2, x3⟩⟩
  refine call_of_at (ls := [some (.ref a), some (.int (Int32.ofInt p)), some (.int (Int32.ofInt q))]) (by decide) rfl (Nat.le_of_ble_eq_true rfl) rfl ?_
  have u1 : ((1 : Nat) = 2 + A) = False := eq_false (by omega)
  have u2 : ((1 : Nat) = 18 + A) = False := eq_false (by omega)
  (refine blk_sound [] 400 ?_); simp (disch := omega) only [blk_s, nx_s, kC_s, exI_aload_n, exI_bipush, exI_dup2, exI_iadd, exI_iaload, exI_iastore, exI_iconst, exI_iload_n, exI_return, p_X11_goes, dX11_goes_0, dX11_goes_1, dX11_goes_2, dX11_goes_3, dX11_goes_4, dX11_goes_5, dX11_goes_6, dX11_goes_7, dX11_goes_8, dX11_goes_9, dX11_goes_11, dX11_goes_12, dX11_goes_13, dX11_goes_14, dX11_goes_15, dX11_goes_16, dX11_goes_17, dX11_goes_18, dX11_goes_19, dX11_goes_20, dX11_goes_21, dX11_goes_22, dX11_goes_23, dX11_goes_24, ab_clr, ab_st1, ab_st2, ab_b2, ab_q2, ab_l2, ab_p2, ab_neg, ab_i2l, ab_lcmp, ab_lshl, ab_ld, ab_sti, ab_stl, ab_inc, ab_dup, ab_dup2, ab_pop, ab_pop2, cmpP, ab_goto, ab_icmp, ab_if, ab_sw, ab_table, ab_get, ab_put, ab_iald, ab_iast, ab_lald, ab_last, ab_aald, ab_ki, ab_kl, popN, pushO, isC, ab_inv, ab_copy, ab_mx, ab_ins, ab_nr, ab_iret, ab_lret, ab_vret, cat2, isI, isL, isR, catS, List.getElem?_cons_zero, List.getElem?_cons_succ, List.set_cons_zero, List.set_cons_succ, List.length_cons, List.length_nil, List.contains_cons, List.contains_nil, Int.reduceAdd, Int.reduceNeg, Int.reduceSub, Int.reduceLE, Int.reduceLT, Int.reduceToNat, Nat.reduceAdd, Nat.reduceMul, Nat.reduceBeqDiff, Nat.reduceEqDiff, Nat.reduceLeDiff, Nat.reduceLT, Nat.reduceSub, reduceCtorEq, f4_0, f4_1, f4_2, f4_3, f2_0, f2_1, true_and, and_true, if_true, if_false, Bool.or_false, Bool.false_or, Bool.true_or, Bool.or_true, beq_self_eq_true, Bool.false_eq_true, ↓reduceIte, Nat.zero_add, Nat.add_zero, Int.reduceEq, true_or, or_true, false_or, or_false, not_true_eq_false, not_false_eq_true, true_implies, false_implies, implies_true, and_self, false_and, and_false, va_up_at, upd_at, vpL_at, Nat.left_eq_add, Nat.right_eq_add, Nat.add_eq_left, Nat.add_eq_right, Nat.add_left_cancel_iff, oI_0, oI_1, oL_0, oL_div, oI_add, oI_sub, oI_mul, oI_neg, nI_o, oI_le, oI_lt, oI_eq, oI_in, oI_nat, oI_div, emod_nf, oI_64, oI_or, oI_and, oI_shl1, oI_clr, in_bit, has_bit, oI_bit, bz_0, bz_1, bz_n0, bz_n1, bz_or, oL_add, oL_sub, oL_mul, oL_le, oL_lt, oL_eq, lcO_lt, lcO_gt, lcO_le, lcO_ge, lcO_eq, Int.toNat_natCast, tn_add, tn_sub, Decidable.not_not, Int.natCast_zero, Int.zero_add, Int.add_zero, g1, ia, g3, upd_at, u1, u2]
  (repeat' (first | exact this | apply And.intro | intro _)) <;> first | omega | (exfalso; omega)
set_option maxRecDepth 100000 in
theorem sm_turns (d : Nat) {h : Hp} {a : Nat} {N : NN} (hr : RowG h a N) (k : Nat) (hk : k < N.2.1) {Q : QT} (hQ : ∀ h' : Hp, (∀ j, j ≠ a → h' j = h j) → RowG h' a (trnN N k) → Q none h') : Call (d + 1) MX11_turns [.ref a, .int (Int32.ofInt k)] h Q := by
  obtain ⟨G, g1, g2, g3, g4, g5, g6⟩ := hr
  obtain ⟨P, A, F, T⟩ := N
  simp only at *
  obtain ⟨f1, f2, f3, f4⟩ := g6 k hk
  have := hQ (va_up (va_up h a (ia 34 (upd G (2 + k) (Int32.ofInt (T k))))) a (ia 34 (upd (upd G (2 + k) (Int32.ofInt (T k))) (18 + k) (Int32.ofInt (F k))))) (fun j z => by ((simp only [va_up_at]); (repeat rw [if_neg (by omega)]))) ⟨_, by (simp only [va_up_at, ↓reduceIte, Nat.reduceEqDiff, Nat.left_eq_add, Nat.right_eq_add, Nat.add_eq_left, Nat.add_eq_right, Nat.add_left_cancel_iff, reduceCtorEq, nt, ia]); rfl, by
      simp only [upd_at]
      rw [if_neg (by omega), if_neg (by omega)]
      exact g2, by
      simp only [upd_at]
      rw [if_neg (by omega), if_neg (by omega)]
      exact g3, g4, g5, fun j z => by
      have hz : j < A := z
      simp only [upd_at, trnN, upN]
      by_cases c : j = k
      · subst c
        (repeat (first | rw [if_pos rfl] | rw [if_neg (by omega)] | rw [if_pos (by omega)]))
        exact ⟨rfl, rfl, f4, f3⟩
      · (repeat (first | rw [if_pos rfl] | rw [if_neg (by omega)] | rw [if_pos (by omega)]))
        exact g6 j hz⟩
  refine call_of_at (ls := [some (.ref a), some (.int (Int32.ofInt k)), none]) (by decide) rfl (Nat.le_of_ble_eq_true rfl) rfl ?_
  (refine blk_sound [] 400 ?_); simp (disch := omega) only [blk_s, nx_s, kC_s, exI_aload_n, exI_bipush, exI_iadd, exI_iaload, exI_iastore, exI_iconst, exI_iload_n, exI_istore_n, exI_return, p_X11_turns, dX11_turns_0, dX11_turns_1, dX11_turns_2, dX11_turns_3, dX11_turns_4, dX11_turns_5, dX11_turns_6, dX11_turns_7, dX11_turns_8, dX11_turns_9, dX11_turns_10, dX11_turns_11, dX11_turns_13, dX11_turns_14, dX11_turns_15, dX11_turns_16, dX11_turns_17, dX11_turns_18, dX11_turns_20, dX11_turns_21, dX11_turns_22, dX11_turns_23, dX11_turns_24, ab_clr, ab_st1, ab_st2, ab_b2, ab_q2, ab_l2, ab_p2, ab_neg, ab_i2l, ab_lcmp, ab_lshl, ab_ld, ab_sti, ab_stl, ab_inc, ab_dup, ab_dup2, ab_pop, ab_pop2, cmpP, ab_goto, ab_icmp, ab_if, ab_sw, ab_table, ab_get, ab_put, ab_iald, ab_iast, ab_lald, ab_last, ab_aald, ab_ki, ab_kl, popN, pushO, isC, ab_inv, ab_copy, ab_mx, ab_ins, ab_nr, ab_iret, ab_lret, ab_vret, cat2, isI, isL, isR, catS, List.getElem?_cons_zero, List.getElem?_cons_succ, List.set_cons_zero, List.set_cons_succ, List.length_cons, List.length_nil, List.contains_cons, List.contains_nil, Int.reduceAdd, Int.reduceNeg, Int.reduceSub, Int.reduceLE, Int.reduceLT, Int.reduceToNat, Nat.reduceAdd, Nat.reduceMul, Nat.reduceBeqDiff, Nat.reduceEqDiff, Nat.reduceLeDiff, Nat.reduceLT, Nat.reduceSub, reduceCtorEq, f4_0, f4_1, f4_2, f4_3, f2_0, f2_1, true_and, and_true, if_true, if_false, Bool.or_false, Bool.false_or, Bool.true_or, Bool.or_true, beq_self_eq_true, Bool.false_eq_true, ↓reduceIte, Nat.zero_add, Nat.add_zero, Int.reduceEq, true_or, or_true, false_or, or_false, not_true_eq_false, not_false_eq_true, true_implies, false_implies, implies_true, and_self, false_and, and_false, va_up_at, upd_at, vpL_at, Nat.left_eq_add, Nat.right_eq_add, Nat.add_eq_left, Nat.add_eq_right, Nat.add_left_cancel_iff, oI_0, oI_1, oL_0, oL_div, oI_add, oI_sub, oI_mul, oI_neg, nI_o, oI_le, oI_lt, oI_eq, oI_in, oI_nat, oI_div, emod_nf, oI_64, oI_or, oI_and, oI_shl1, oI_clr, in_bit, has_bit, oI_bit, bz_0, bz_1, bz_n0, bz_n1, bz_or, oL_add, oL_sub, oL_mul, oL_le, oL_lt, oL_eq, lcO_lt, lcO_gt, lcO_le, lcO_ge, lcO_eq, Int.toNat_natCast, tn_add, tn_sub, Decidable.not_not, Int.natCast_zero, Int.zero_add, Int.add_zero, g1, ia, f1, f2]
  (repeat' (first | exact this | apply And.intro | intro _)) <;> first | omega | (exfalso; omega)
set_option maxRecDepth 100000 in
theorem sm_drops (d : Nat) {h : Hp} {a : Nat} {N : NN} (hr : RowG h a N) (k : Nat) (hk : k < N.2.1) {Q : QT} (hQ : ∀ h' : Hp, (∀ j, j ≠ a → h' j = h j) → RowG h' a (delN N k) → Q none h') : Call (d + 1) MX11_drops [.ref a, .int (Int32.ofInt k)] h Q := by
  obtain ⟨G, g1, g2, g3, g4, g5, g6⟩ := hr
  obtain ⟨P, A, F, T⟩ := N
  simp only at *
  refine call_of_at (ls := [some (.ref a), some (.int (Int32.ofInt k)), none]) (by decide) rfl (Nat.le_of_ble_eq_true rfl) rfl ?_
  have loop : ∀ (r i : Nat) (g : Hp) (K : Nat → Int32), i + r + 1 = A → k ≤ i → (∀ j, j ≠ a → g j = h j) → g a = ia 34 K → (∀ j, K j = if (2 + k ≤ j ∧ j < 2 + i) ∨ (18 + k ≤ j ∧ j < 18 + i) then G (j + 1) else G j) → At MX11_drops (d + 1) 2 [some (.ref a), some (.int (Int32.ofInt k)), some (.int (Int32.ofInt i))] [] g Q := by
    intro r
    induction r with
    | zero =>
      intro i g K hi hki fg ga eK
      have k1 : K 1 = Int32.ofInt A := by rw [eK, if_neg (by omega)]; exact g3
      have u1 : ((1 : Nat) = 2 + (A - 1)) = False := eq_false (by omega)
      have := hQ (va_up (va_up (va_up g a (ia 34 (upd K 1 (Int32.ofInt ((A : Int) - 1))))) a (ia 34 (upd (upd K 1 (Int32.ofInt ((A : Int) - 1))) (2 + (A - 1)) (Int32.ofInt 0)))) a (ia 34 (upd (upd (upd K 1 (Int32.ofInt ((A : Int) - 1))) (2 + (A - 1)) (Int32.ofInt 0)) (18 + (A - 1)) (Int32.ofInt 0)))) (fun j z => by ((simp only [va_up_at]); (repeat rw [if_neg (by omega)])); exact fg j z) ⟨_, by (simp only [va_up_at, ↓reduceIte, Nat.reduceEqDiff, Nat.left_eq_add, Nat.right_eq_add, Nat.add_eq_left, Nat.add_eq_right, Nat.add_left_cancel_iff, reduceCtorEq, nt, ia]); rfl, by
        simp only [upd_at]
        rw [if_neg (by omega), if_neg (by omega), if_neg (by omega), eK, if_neg (by omega)]
        exact g2, by
        simp only [upd_at]
        rw [if_neg (by omega), if_neg (by omega)]
        simp only [↓reduceIte]
        show _ = Int32.ofInt ((A - 1 : Nat) : Int)
        congr 1
        omega, g4, by show A - 1 ≤ 16; omega, fun j z => by
        have hz : j < A - 1 := z
        simp only [upd_at, delN, dropN]
        by_cases c : j < k
        · obtain ⟨x1, x2, x3⟩ := g6 j (by omega)
          (repeat (first | rw [if_neg (by omega)] | rw [if_pos (by omega)]))
          rw [eK, eK, if_neg (by omega), if_neg (by omega)]
          exact ⟨x1, x2, x3⟩
        · obtain ⟨x1, x2, x3⟩ := g6 (j + 1) (by omega)
          (repeat (first | rw [if_neg (by omega)] | rw [if_pos (by omega)]))
          rw [eK, eK, if_pos (by omega), if_pos (by omega)]
          exact ⟨x1, x2, x3⟩⟩
      have e1 : (A : Int) - 1 = ((A - 1 : Nat) : Int) := by omega
      (refine blk_sound [2, 11] 400 ?_); simp (disch := omega) only [blk_s, nx_s, kC_s, exI_aload_n, exI_bipush, exI_dup2, exI_goto, exI_iadd, exI_iaload, exI_iastore, exI_iconst, exI_if_icmp, exI_iinc, exI_iload_n, exI_istore_n, exI_isub, exI_return, p_X11_drops, dX11_drops_0, dX11_drops_1, dX11_drops_2, dX11_drops_3, dX11_drops_4, dX11_drops_5, dX11_drops_6, dX11_drops_7, dX11_drops_8, dX11_drops_11, dX11_drops_12, dX11_drops_13, dX11_drops_14, dX11_drops_15, dX11_drops_16, dX11_drops_17, dX11_drops_18, dX11_drops_19, dX11_drops_20, dX11_drops_21, dX11_drops_22, dX11_drops_23, dX11_drops_24, dX11_drops_26, dX11_drops_27, dX11_drops_28, dX11_drops_29, dX11_drops_31, dX11_drops_32, dX11_drops_33, dX11_drops_34, dX11_drops_35, dX11_drops_36, dX11_drops_37, dX11_drops_40, dX11_drops_43, dX11_drops_44, dX11_drops_45, dX11_drops_46, dX11_drops_47, dX11_drops_48, dX11_drops_49, dX11_drops_50, dX11_drops_51, dX11_drops_52, dX11_drops_53, dX11_drops_54, dX11_drops_55, dX11_drops_56, dX11_drops_57, dX11_drops_58, dX11_drops_59, dX11_drops_61, dX11_drops_62, dX11_drops_63, dX11_drops_64, dX11_drops_65, dX11_drops_66, dX11_drops_67, tg_8_35, jn_8_35, tg_40_m38, jn_40_m38, ab_clr, ab_st1, ab_st2, ab_b2, ab_q2, ab_l2, ab_p2, ab_neg, ab_i2l, ab_lcmp, ab_lshl, ab_ld, ab_sti, ab_stl, ab_inc, ab_dup, ab_dup2, ab_pop, ab_pop2, cmpP, ab_goto, ab_icmp, ab_if, ab_sw, ab_table, ab_get, ab_put, ab_iald, ab_iast, ab_lald, ab_last, ab_aald, ab_ki, ab_kl, popN, pushO, isC, ab_inv, ab_copy, ab_mx, ab_ins, ab_nr, ab_iret, ab_lret, ab_vret, cat2, isI, isL, isR, catS, List.getElem?_cons_zero, List.getElem?_cons_succ, List.set_cons_zero, List.set_cons_succ, List.length_cons, List.length_nil, List.contains_cons, List.contains_nil, Int.reduceAdd, Int.reduceNeg, Int.reduceSub, Int.reduceLE, Int.reduceLT, Int.reduceToNat, Nat.reduceAdd, Nat.reduceMul, Nat.reduceBeqDiff, Nat.reduceEqDiff, Nat.reduceLeDiff, Nat.reduceLT, Nat.reduceSub, reduceCtorEq, f4_0, f4_1, f4_2, f4_3, f2_0, f2_1, true_and, and_true, if_true, if_false, Bool.or_false, Bool.false_or, Bool.true_or, Bool.or_true, beq_self_eq_true, Bool.false_eq_true, ↓reduceIte, Nat.zero_add, Nat.add_zero, Int.reduceEq, true_or, or_true, false_or, or_false, not_true_eq_false, not_false_eq_true, true_implies, false_implies, implies_true, and_self, false_and, and_false, va_up_at, upd_at, vpL_at, Nat.left_eq_add, Nat.right_eq_add, Nat.add_eq_left, Nat.add_eq_right, Nat.add_left_cancel_iff, oI_0, oI_1, oL_0, oL_div, oI_add, oI_sub, oI_mul, oI_neg, nI_o, oI_le, oI_lt, oI_eq, oI_in, oI_nat, oI_div, emod_nf, oI_64, oI_or, oI_and, oI_shl1, oI_clr, in_bit, has_bit, oI_bit, bz_0, bz_1, bz_n0, bz_n1, bz_or, oL_add, oL_sub, oL_mul, oL_le, oL_lt, oL_eq, lcO_lt, lcO_gt, lcO_le, lcO_ge, lcO_eq, Int.toNat_natCast, tn_add, tn_sub, Decidable.not_not, Int.natCast_zero, Int.zero_add, Int.add_zero, ga, ia, k1, upd_at, u1]
      (repeat' (first | exact this | apply And.intro | intro _)) <;> first | omega | (exfalso; omega)
    | succ r ih =>
      intro i g K hi hki fg ga eK
      have k1 : K 1 = Int32.ofInt A := by rw [eK, if_neg (by omega)]; exact g3
      have u1 : (18 + (i + 1) = 2 + i) = False := eq_false (by omega)
      have := ih (i + 1) (va_up (va_up g a (ia 34 (upd K (2 + i) (K (2 + i + 1))))) a (ia 34 (upd (upd K (2 + i) (K (2 + i + 1))) (18 + i) (K (18 + i + 1))))) (upd (upd K (2 + i) (K (2 + i + 1))) (18 + i) (K (18 + i + 1))) (by omega) (by omega) (fun j z => by ((simp only [va_up_at]); (repeat rw [if_neg (by omega)])); exact fg j z) (by simp only [va_up_at, ↓reduceIte, Nat.reduceEqDiff, Nat.left_eq_add, Nat.right_eq_add, Nat.add_eq_left, Nat.add_eq_right, Nat.add_left_cancel_iff, reduceCtorEq, nt, ia]) (fun j => by
        simp only [upd_at]
        by_cases c1 : j = 18 + i
        · rw [if_pos c1, if_pos (by omega), eK, if_neg (by omega), c1]
        · rw [if_neg c1]
          by_cases c2 : j = 2 + i
          · rw [if_pos c2, if_pos (by omega), eK, if_neg (by omega), c2]
          · rw [if_neg c2, eK]
            by_cases c3 : (2 + k ≤ j ∧ j < 2 + i) ∨ (18 + k ≤ j ∧ j < 18 + i)
            · rw [if_pos c3, if_pos (by omega)]
            · rw [if_neg c3, if_neg (by omega)])
      have u2 : (18 + i + 1 = 2 + i) = False := eq_false (by omega)
      (refine blk_sound [2, 43] 400 ?_); simp (disch := omega) only [blk_s, nx_s, kC_s, exI_aload_n, exI_bipush, exI_dup2, exI_goto, exI_iadd, exI_iaload, exI_iastore, exI_iconst, exI_if_icmp, exI_iinc, exI_iload_n, exI_istore_n, exI_isub, exI_return, p_X11_drops, dX11_drops_0, dX11_drops_1, dX11_drops_2, dX11_drops_3, dX11_drops_4, dX11_drops_5, dX11_drops_6, dX11_drops_7, dX11_drops_8, dX11_drops_11, dX11_drops_12, dX11_drops_13, dX11_drops_14, dX11_drops_15, dX11_drops_16, dX11_drops_17, dX11_drops_18, dX11_drops_19, dX11_drops_20, dX11_drops_21, dX11_drops_22, dX11_drops_23, dX11_drops_24, dX11_drops_26, dX11_drops_27, dX11_drops_28, dX11_drops_29, dX11_drops_31, dX11_drops_32, dX11_drops_33, dX11_drops_34, dX11_drops_35, dX11_drops_36, dX11_drops_37, dX11_drops_40, dX11_drops_43, dX11_drops_44, dX11_drops_45, dX11_drops_46, dX11_drops_47, dX11_drops_48, dX11_drops_49, dX11_drops_50, dX11_drops_51, dX11_drops_52, dX11_drops_53, dX11_drops_54, dX11_drops_55, dX11_drops_56, dX11_drops_57, dX11_drops_58, dX11_drops_59, dX11_drops_61, dX11_drops_62, dX11_drops_63, dX11_drops_64, dX11_drops_65, dX11_drops_66, dX11_drops_67, tg_8_35, jn_8_35, tg_40_m38, jn_40_m38, ab_clr, ab_st1, ab_st2, ab_b2, ab_q2, ab_l2, ab_p2, ab_neg, ab_i2l, ab_lcmp, ab_lshl, ab_ld, ab_sti, ab_stl, ab_inc, ab_dup, ab_dup2, ab_pop, ab_pop2, cmpP, ab_goto, ab_icmp, ab_if, ab_sw, ab_table, ab_get, ab_put, ab_iald, ab_iast, ab_lald, ab_last, ab_aald, ab_ki, ab_kl, popN, pushO, isC, ab_inv, ab_copy, ab_mx, ab_ins, ab_nr, ab_iret, ab_lret, ab_vret, cat2, isI, isL, isR, catS, List.getElem?_cons_zero, List.getElem?_cons_succ, List.set_cons_zero, List.set_cons_succ, List.length_cons, List.length_nil, List.contains_cons, List.contains_nil, Int.reduceAdd, Int.reduceNeg, Int.reduceSub, Int.reduceLE, Int.reduceLT, Int.reduceToNat, Nat.reduceAdd, Nat.reduceMul, Nat.reduceBeqDiff, Nat.reduceEqDiff, Nat.reduceLeDiff, Nat.reduceLT, Nat.reduceSub, reduceCtorEq, f4_0, f4_1, f4_2, f4_3, f2_0, f2_1, true_and, and_true, if_true, if_false, Bool.or_false, Bool.false_or, Bool.true_or, Bool.or_true, beq_self_eq_true, Bool.false_eq_true, ↓reduceIte, Nat.zero_add, Nat.add_zero, Int.reduceEq, true_or, or_true, false_or, or_false, not_true_eq_false, not_false_eq_true, true_implies, false_implies, implies_true, and_self, false_and, and_false, va_up_at, upd_at, vpL_at, Nat.left_eq_add, Nat.right_eq_add, Nat.add_eq_left, Nat.add_eq_right, Nat.add_left_cancel_iff, oI_0, oI_1, oL_0, oL_div, oI_add, oI_sub, oI_mul, oI_neg, nI_o, oI_le, oI_lt, oI_eq, oI_in, oI_nat, oI_div, emod_nf, oI_64, oI_or, oI_and, oI_shl1, oI_clr, in_bit, has_bit, oI_bit, bz_0, bz_1, bz_n0, bz_n1, bz_or, oL_add, oL_sub, oL_mul, oL_le, oL_lt, oL_eq, lcO_lt, lcO_gt, lcO_le, lcO_ge, lcO_eq, Int.toNat_natCast, tn_add, tn_sub, Decidable.not_not, Int.natCast_zero, Int.zero_add, Int.add_zero, ga, ia, k1, upd_at, u1, u2]
      (repeat' (first | exact this | apply And.intro | intro _)) <;> first | omega | (exfalso; omega)
  have := loop (A - 1 - k) k h G (by omega) (Nat.le_refl _) (fun _ _ => rfl) g1 (fun j => by rw [if_neg (by omega)])
  (refine blk_sound [2] 400 ?_); simp (disch := omega) only [blk_s, nx_s, kC_s, exI_aload_n, exI_bipush, exI_dup2, exI_goto, exI_iadd, exI_iaload, exI_iastore, exI_iconst, exI_if_icmp, exI_iinc, exI_iload_n, exI_istore_n, exI_isub, exI_return, p_X11_drops, dX11_drops_0, dX11_drops_1, dX11_drops_2, dX11_drops_3, dX11_drops_4, dX11_drops_5, dX11_drops_6, dX11_drops_7, dX11_drops_8, dX11_drops_11, dX11_drops_12, dX11_drops_13, dX11_drops_14, dX11_drops_15, dX11_drops_16, dX11_drops_17, dX11_drops_18, dX11_drops_19, dX11_drops_20, dX11_drops_21, dX11_drops_22, dX11_drops_23, dX11_drops_24, dX11_drops_26, dX11_drops_27, dX11_drops_28, dX11_drops_29, dX11_drops_31, dX11_drops_32, dX11_drops_33, dX11_drops_34, dX11_drops_35, dX11_drops_36, dX11_drops_37, dX11_drops_40, dX11_drops_43, dX11_drops_44, dX11_drops_45, dX11_drops_46, dX11_drops_47, dX11_drops_48, dX11_drops_49, dX11_drops_50, dX11_drops_51, dX11_drops_52, dX11_drops_53, dX11_drops_54, dX11_drops_55, dX11_drops_56, dX11_drops_57, dX11_drops_58, dX11_drops_59, dX11_drops_61, dX11_drops_62, dX11_drops_63, dX11_drops_64, dX11_drops_65, dX11_drops_66, dX11_drops_67, tg_8_35, jn_8_35, tg_40_m38, jn_40_m38, ab_clr, ab_st1, ab_st2, ab_b2, ab_q2, ab_l2, ab_p2, ab_neg, ab_i2l, ab_lcmp, ab_lshl, ab_ld, ab_sti, ab_stl, ab_inc, ab_dup, ab_dup2, ab_pop, ab_pop2, cmpP, ab_goto, ab_icmp, ab_if, ab_sw, ab_table, ab_get, ab_put, ab_iald, ab_iast, ab_lald, ab_last, ab_aald, ab_ki, ab_kl, popN, pushO, isC, ab_inv, ab_copy, ab_mx, ab_ins, ab_nr, ab_iret, ab_lret, ab_vret, cat2, isI, isL, isR, catS, List.getElem?_cons_zero, List.getElem?_cons_succ, List.set_cons_zero, List.set_cons_succ, List.length_cons, List.length_nil, List.contains_cons, List.contains_nil, Int.reduceAdd, Int.reduceNeg, Int.reduceSub, Int.reduceLE, Int.reduceLT, Int.reduceToNat, Nat.reduceAdd, Nat.reduceMul, Nat.reduceBeqDiff, Nat.reduceEqDiff, Nat.reduceLeDiff, Nat.reduceLT, Nat.reduceSub, reduceCtorEq, f4_0, f4_1, f4_2, f4_3, f2_0, f2_1, true_and, and_true, if_true, if_false, Bool.or_false, Bool.false_or, Bool.true_or, Bool.or_true, beq_self_eq_true, Bool.false_eq_true, ↓reduceIte, Nat.zero_add, Nat.add_zero, Int.reduceEq, true_or, or_true, false_or, or_false, not_true_eq_false, not_false_eq_true, true_implies, false_implies, implies_true, and_self, false_and, and_false, va_up_at, upd_at, vpL_at, Nat.left_eq_add, Nat.right_eq_add, Nat.add_eq_left, Nat.add_eq_right, Nat.add_left_cancel_iff, oI_0, oI_1, oL_0, oL_div, oI_add, oI_sub, oI_mul, oI_neg, nI_o, oI_le, oI_lt, oI_eq, oI_in, oI_nat, oI_div, emod_nf, oI_64, oI_or, oI_and, oI_shl1, oI_clr, in_bit, has_bit, oI_bit, bz_0, bz_1, bz_n0, bz_n1, bz_or, oL_add, oL_sub, oL_mul, oL_le, oL_lt, oL_eq, lcO_lt, lcO_gt, lcO_le, lcO_ge, lcO_eq, Int.toNat_natCast, tn_add, tn_sub, Decidable.not_not, Int.natCast_zero, Int.zero_add, Int.add_zero]
  exact this
