/-! THE WALKER (place 70, counter 71, path 92, lastArc 93, seen 94) -/
def wkW (F T : Nat → Nat) (A fr : Nat) : Nat → Nat → Int := fun p q => ldW (fun j => fr.testBit j) F T p q A
def wkO (F : Nat → Nat) (A fr : Nat) : Nat → Int := fun p => ldO (fun j => fr.testBit j) F p A
theorem ldW_clr {F T : Nat → Nat} {p q fr k : Nat} (hk : fr.testBit k = true) : ∀ {n : Nat}, ldW (fun j => (clrB fr k).testBit j) F T p q n = ldW (fun j => fr.testBit j) F T p q n - (if k < n ∧ F k = p ∧ T k = q then 1 else 0)
  | 0 => by simp [ldW]
  | n + 1 => by
    have ih := ldW_clr (F := F) (T := T) (p := p) (q := q) hk (n := n)
    have hb := clrB_bit fr k n
    simp only [ldW]
    rw [ih]
    simp only [hb]
    by_cases e : n = k
    · subst e
      simp only [hk, decide_false, ne_eq, not_true_eq_false, Bool.and_false, Bool.false_eq_true, false_and, ↓reduceIte, true_and, Nat.lt_irrefl, Nat.lt_succ_self]
      omega
    · simp only [ne_eq, e, not_false_eq_true, decide_true, Bool.and_true]
      by_cases e2 : k < n
      · simp only [e2, show k < n + 1 by omega, true_and]
        omega
      · simp only [e2, show ¬ k < n + 1 by omega, false_and, ↓reduceIte]
        omega
theorem ldO_clr {F : Nat → Nat} {p fr k : Nat} (hk : fr.testBit k = true) : ∀ {n : Nat}, ldO (fun j => (clrB fr k).testBit j) F p n = ldO (fun j => fr.testBit j) F p n - (if k < n ∧ F k = p then 1 else 0)
  | 0 => by simp [ldO]
  | n + 1 => by
    have ih := ldO_clr (F := F) (p := p) hk (n := n)
    have hb := clrB_bit fr k n
    simp only [ldO]
    rw [ih]
    simp only [hb]
    by_cases e : n = k
    · subst e
      simp only [hk, decide_false, ne_eq, not_true_eq_false, Bool.and_false, Bool.false_eq_true, false_and, ↓reduceIte, true_and, Nat.lt_irrefl, Nat.lt_succ_self]
      omega
    · simp only [ne_eq, e, not_false_eq_true, decide_true, Bool.and_true]
      by_cases e2 : k < n
      · simp only [e2, show k < n + 1 by omega, true_and]
        omega
      · simp only [e2, show ¬ k < n + 1 by omega, false_and, ↓reduceIte]
        omega
/-- taking an arc out, and putting it back -/
theorem cnt_out {h : Hp} {c : Nat} {F T : Nat → Nat} {A fr k : Nat} (hk : fr.testBit k = true) (hkA : k < A) (hc : CntR h c (up2 (wkW F T A fr) (F k) (T k) (wkW F T A fr (F k) (T k) + -1)) (upI (wkO F A fr) (F k) (wkO F A fr (F k) + -1))) : CntR h c (wkW F T A (clrB fr k)) (wkO F A (clrB fr k)) := by
  refine hc.congr (fun p q _ _ => ?_) (fun p _ => ?_)
  · simp only [up2, wkW, ldW_clr hk]
    by_cases e : p = F k ∧ q = T k
    · obtain ⟨rfl, rfl⟩ := e
      simp only [and_self, ↓reduceIte, hkA]
      omega
    · rw [if_neg e, if_neg (fun z => e ⟨z.2.1.symm, z.2.2.symm⟩)]
      omega
  · simp only [upI, wkO, ldO_clr hk]
    by_cases e : p = F k
    · subst e
      simp only [and_self, ↓reduceIte, hkA]
      omega
    · rw [if_neg e, if_neg (fun z => e z.2.symm)]
      omega
theorem cnt_back {h : Hp} {c : Nat} {F T : Nat → Nat} {A fr k : Nat} (hk : fr.testBit k = true) (hkA : k < A) (hc : CntR h c (up2 (wkW F T A (clrB fr k)) (F k) (T k) (wkW F T A (clrB fr k) (F k) (T k) + 1)) (upI (wkO F A (clrB fr k)) (F k) (wkO F A (clrB fr k) (F k) + 1))) : CntR h c (wkW F T A fr) (wkO F A fr) := by
  refine hc.congr (fun p q _ _ => ?_) (fun p _ => ?_)
  · simp only [up2, wkW, ldW_clr hk]
    by_cases e : p = F k ∧ q = T k
    · obtain ⟨rfl, rfl⟩ := e
      simp only [and_self, ↓reduceIte, hkA]
      omega
    · rw [if_neg e, if_neg (fun z => e ⟨z.2.1.symm, z.2.2.symm⟩)]
      omega
  · simp only [upI, wkO, ldO_clr hk]
    by_cases e : p = F k
    · subst e
      simp only [and_self, ↓reduceIte, hkA]
      omega
    · rw [if_neg e, if_neg (fun z => e z.2.symm)]
      omega
/-- rows of all the arcs that are free, to the goal -/
def trS (F T : Nat → Nat) (A goal fr : Nat) : Int := trN (wkW F T A fr) (wkO F A fr) goal
def NetB (F T : Nat → Nat) (A : Nat) : Prop := BarAll F T A ∧ ∀ fr goal, goal < 8 → 0 ≤ trS F T A goal fr ∧ trS F T A goal fr < 4611686018427387904
def wk (rl sl ls : Int) : va_E := .inr (9, [.ref 71, .ref 92, .ref 93, .ref 94, .long (Int64.ofInt rl), .int (Int32.ofInt sl), .int (Int32.ofInt ls)])
/-- the walker but for its counter: what was seen, its lasts -/
def WkR (h : Hp) (sl : Nat) (S : Nat → Nat) (ls : Int) : Prop := (∃ rl, h 70 = wk rl sl ls) ∧ sl ≤ 16 ∧ (∃ PA, h 92 = ia 16 PA) ∧ (∃ LA, h 93 = ia 8 LA) ∧ ∃ SE, h 94 = ia 16 SE ∧ ∀ i, i < sl → SE i = Int32.ofInt (S i) ∧ S i < 16
theorem WkR.frame {h h' : Hp} {sl : Nat} {S : Nat → Nat} {ls : Int} (hw : WkR h sl S ls) (e : ∀ j, j = 70 ∨ (92 ≤ j ∧ j ≤ 94) → h' j = h j) : WkR h' sl S ls := by
  obtain ⟨⟨rl, h1⟩, h2, ⟨PA, h3⟩, ⟨LA, h4⟩, SE, h5, h6⟩ := hw
  exact ⟨⟨rl, (e _ (by omega)).trans h1⟩, h2, ⟨PA, (e _ (by omega)).trans h3⟩, ⟨LA, (e _ (by omega)).trans h4⟩, SE, (e _ (by omega)).trans h5, h6⟩
set_option maxRecDepth 100000 in
theorem sp_seenAt (d : Nat) {h : Hp} {sl : Nat} {S : Nat → Nat} {ls : Int} (hw : WkR h sl S ls) (z : Int) (z1 : -2147483648 ≤ z) (z2 : z < 2147483648) {Q : QT} (hQ : Q (some (.int (Int32.ofInt (if 0 ≤ z ∧ z < sl then (S z.toNat : Int) else -1)))) h) : Call (d + 1) MX9_seenAt [.ref 70, .int (Int32.ofInt z)] h Q := by
  obtain ⟨⟨rl, h1⟩, h2, ⟨PA, h3⟩, ⟨LA, h4⟩, SE, h5, h6⟩ := hw
  refine call_of_at (ls := [some (.ref 70), some (.int (Int32.ofInt z))]) (by decide) rfl (Nat.le_of_ble_eq_true rfl) rfl ?_
  (refine blk_sound [] 400 ?_); simp (disch := omega) only [blk_s, nx_s, kC_s, exI_aload_n, exI_getfield, exI_goto, exI_iaload, exI_iconst, exI_ifCond, exI_if_icmp, exI_iload_n, exI_ireturn, p_X9_seenAt, dX9_seenAt_0, dX9_seenAt_1, dX9_seenAt_4, dX9_seenAt_5, dX9_seenAt_6, dX9_seenAt_9, dX9_seenAt_12, dX9_seenAt_13, dX9_seenAt_16, dX9_seenAt_17, dX9_seenAt_18, dX9_seenAt_21, dX9_seenAt_22, tg_1_20, jn_1_20, tg_9_12, jn_9_12, tg_18_4, jn_18_4, fl_9_32, fl_9_25, ab_clr, ab_st1, ab_st2, ab_b2, ab_q2, ab_l2, ab_p2, ab_neg, ab_i2l, ab_lcmp, ab_lshl, ab_ld, ab_sti, ab_stl, ab_inc, ab_dup, ab_dup2, ab_pop, ab_pop2, cmpP, ab_goto, ab_icmp, ab_if, ab_sw, ab_table, ab_get, ab_put, ab_iald, ab_iast, ab_lald, ab_last, ab_aald, ab_ki, ab_kl, popN, pushO, isC, ab_inv, ab_copy, ab_mx, ab_ins, ab_nr, ab_iret, ab_lret, ab_vret, cat2, isI, isL, isR, catS, List.getElem?_cons_zero, List.getElem?_cons_succ, List.set_cons_zero, List.set_cons_succ, List.length_cons, List.length_nil, List.contains_cons, List.contains_nil, Int.reduceAdd, Int.reduceNeg, Int.reduceSub, Int.reduceLE, Int.reduceLT, Int.reduceToNat, Nat.reduceAdd, Nat.reduceMul, Nat.reduceBeqDiff, Nat.reduceEqDiff, Nat.reduceLeDiff, Nat.reduceLT, Nat.reduceSub, reduceCtorEq, f4_0, f4_1, f4_2, f4_3, f2_0, f2_1, true_and, and_true, if_true, if_false, Bool.or_false, Bool.false_or, Bool.true_or, Bool.or_true, beq_self_eq_true, Bool.false_eq_true, ↓reduceIte, Nat.zero_add, Nat.add_zero, Int.reduceEq, true_or, or_true, false_or, or_false, not_true_eq_false, not_false_eq_true, true_implies, false_implies, implies_true, and_self, false_and, and_false, va_up_at, upd_at, vpL_at, Nat.left_eq_add, Nat.right_eq_add, Nat.add_eq_left, Nat.add_eq_right, Nat.add_left_cancel_iff, oI_0, oI_1, oL_0, oL_div, oI_add, oI_sub, oI_mul, oI_neg, nI_o, oI_le, oI_lt, oI_eq, oI_in, oI_nat, oI_div, emod_nf, oI_64, oI_or, oI_and, oI_shl1, oI_clr, in_bit, has_bit, oI_bit, bz_0, bz_1, bz_n0, bz_n1, bz_or, oL_add, oL_sub, oL_mul, oL_le, oL_lt, oL_eq, lcO_lt, lcO_gt, lcO_le, lcO_ge, lcO_eq, Int.toNat_natCast, tn_add, tn_sub, Decidable.not_not, Int.natCast_zero, Int.zero_add, Int.add_zero, h1, wk, h5, ia]
  by_cases hc : 0 ≤ z ∧ z < sl
  · rw [if_pos hc] at hQ
    rw [(h6 z.toNat (by omega)).1]
    (repeat' (first | exact hQ | apply And.intro | intro _)) <;> first | omega | (exfalso; omega)
  · rw [if_neg hc] at hQ
    (repeat' (first | exact hQ | apply And.intro | intro _)) <;> first | omega | (exfalso; omega)
theorem poeN_lt {F T : Nat → Nat} {A : Nat} {w : Int} : ∀ {r i : Nat}, poeN F T A w r i = 0 ∨ poeN F T A w r i < i + r
  | 0, i => Or.inl rfl
  | r + 1, i => by
    simp only [poeN]
    split
    · right; omega
    · rcases poeN_lt (F := F) (T := T) (A := A) (w := w) (r := r) (i := i + 1) with h | h
      · exact Or.inl h
      · right; omega
theorem endN_lt {h : Hp} {k P A : Nat} {F T : Nat → Nat} (hn : NetR h k P A F T) (hA : 0 < A) (s : Nat) (w : Int) : endN P A F T s w < 8 := by
  have h8 := hn.lt8
  have hP : P ≤ 8 := by obtain ⟨_, _, _, _, _, e, -⟩ := hn; exact e
  unfold endN
  split
  · exact (h8 0 hA).1
  · rcases poeN_lt (F := F) (T := T) (A := A) (w := w) (r := P) (i := 0) with h | h <;> omega
theorem shapeN_lt (P A : Nat) (F T : Nat → Nat) : shapeN P A F T ≤ 2 ∧ (shapeN P A F T ≠ 0 → 0 < A) := by
  unfold shapeN
  split
  · next c => omega
  · next c =>
    have : 0 < A := by
      rcases Nat.eq_zero_or_pos A with e | e
      · exact absurd (Or.inl e) c
      · exact e
    split
    · omega
    · split
      · omega
      · split <;> omega
def allB (A : Nat) : Nat := 2 ^ A - 1
theorem allB_bit {A j : Nat} : (allB A).testBit j = decide (j < A) := Nat.testBit_two_pow_sub_one A j
/-- how many walks, by the formula -/
def wcN (P A : Nat) (F T : Nat → Nat) : Int := if shapeN P A F T = 0 then 0 else trS F T A (endN P A F T (shapeN P A F T) (-1)) (if shapeN P A F T = 1 then clrB (allB A) 0 else allB A)
theorem m1_bit {j : Nat} (hj : j < 32) : (Int32.ofInt (-1)).toBitVec.getLsbD j = true := by
  have : (Int32.ofInt (-1)).toBitVec = BitVec.allOnes 32 := by decide
  rw [this, BitVec.getLsbD_allOnes]
  simpa using hj
set_option maxRecDepth 100000 in
theorem sp_wcount (d : Nat) {h : Hp} {P A : Nat} {F T : Nat → Nat} {rl sl ls : Int} {W : Nat → Nat → Int} {O : Nat → Int} (hw : h 70 = wk rl sl ls) (hc : CntR h 71 W O) (hn : NetR h 8 P A F T) (hB : NetB F T A) {Q : QT} (hQ : ∀ h' : Hp, (∀ j, j < 71 ∨ 91 < j → h' j = h j) → (∃ W O, CntR h' 71 W O) → Q (some (.long (Int64.ofInt (wcN P A F T)))) h') : Call (d + 5) MX9_count [.ref 70, .ref 8] h Q := by
  have hA : A ≤ 16 := by obtain ⟨_, _, _, _, _, _, e, -⟩ := hn; exact e
  have hk : ∃ x y, h 8 = nt 8 x y := by obtain ⟨_, _, e, -⟩ := hn; exact ⟨_, _, e⟩
  obtain ⟨x, y, hk⟩ := hk
  obtain ⟨s1, s2⟩ := shapeN_lt P A F T
  obtain ⟨c1, -⟩ := id hc
  refine call_of_at (ls := [some (.ref 70), some (.ref 8), none]) (by decide) rfl (Nat.le_of_ble_eq_true rfl) rfl ?_
  (refine blk_sound [45] 400 ?_); simp (disch := omega) only [blk_s, nx_s, kC_s, exI_aload_n, exI_getfield, exI_iaload, exI_iconst, exI_ifCond, exI_if_icmp, exI_iload_n, exI_invokevirtual, exI_istore_n, exI_lconst, exI_lreturn, p_X9_count, dX9_count_0, dX9_count_1, dX9_count_4, dX9_count_5, dX9_count_6, dX9_count_9, dX9_count_10, dX9_count_11, dX9_count_12, dX9_count_15, dX9_count_16, dX9_count_17, dX9_count_20, dX9_count_21, dX9_count_22, dX9_count_25, dX9_count_26, dX9_count_29, dX9_count_30, dX9_count_33, dX9_count_34, dX9_count_35, dX9_count_36, dX9_count_39, dX9_count_40, dX9_count_41, dX9_count_42, dX9_count_45, dX9_count_46, dX9_count_49, dX9_count_50, dX9_count_51, dX9_count_54, dX9_count_57, tg_6_5, jn_6_5, tg_22_23, jn_22_23, ml_9_39, a_X4_shape, p_X4_shape, fl_9_12, ml_9_45, a_X0_load, p_X0_load, fl_9_49, fl_9_52, ml_9_55, a_X0_shift, p_X0_shift, ml_9_59, a_X4_finish, p_X4_finish, ml_9_63, a_X0_trailsTo, p_X0_trailsTo, ab_clr, ab_st1, ab_st2, ab_b2, ab_q2, ab_l2, ab_p2, ab_neg, ab_i2l, ab_lcmp, ab_lshl, ab_ld, ab_sti, ab_stl, ab_inc, ab_dup, ab_dup2, ab_pop, ab_pop2, cmpP, ab_goto, ab_icmp, ab_if, ab_sw, ab_table, ab_get, ab_put, ab_iald, ab_iast, ab_lald, ab_last, ab_aald, ab_ki, ab_kl, popN, pushO, isC, ab_inv, ab_copy, ab_mx, ab_ins, ab_nr, ab_iret, ab_lret, ab_vret, cat2, isI, isL, isR, catS, List.getElem?_cons_zero, List.getElem?_cons_succ, List.set_cons_zero, List.set_cons_succ, List.length_cons, List.length_nil, List.contains_cons, List.contains_nil, Int.reduceAdd, Int.reduceNeg, Int.reduceSub, Int.reduceLE, Int.reduceLT, Int.reduceToNat, Nat.reduceAdd, Nat.reduceMul, Nat.reduceBeqDiff, Nat.reduceEqDiff, Nat.reduceLeDiff, Nat.reduceLT, Nat.reduceSub, reduceCtorEq, f4_0, f4_1, f4_2, f4_3, f2_0, f2_1, true_and, and_true, if_true, if_false, Bool.or_false, Bool.false_or, Bool.true_or, Bool.or_true, beq_self_eq_true, Bool.false_eq_true, ↓reduceIte, Nat.zero_add, Nat.add_zero, Int.reduceEq, true_or, or_true, false_or, or_false, not_true_eq_false, not_false_eq_true, true_implies, false_implies, implies_true, and_self, false_and, and_false, va_up_at, upd_at, vpL_at, Nat.left_eq_add, Nat.right_eq_add, Nat.add_eq_left, Nat.add_eq_right, Nat.add_left_cancel_iff, oI_0, oI_1, oL_0, oL_div, oI_add, oI_sub, oI_mul, oI_neg, nI_o, oI_le, oI_lt, oI_eq, oI_in, oI_nat, oI_div, emod_nf, oI_64, oI_or, oI_and, oI_shl1, oI_clr, in_bit, has_bit, oI_bit, bz_0, bz_1, bz_n0, bz_n1, bz_or, oL_add, oL_sub, oL_mul, oL_le, oL_lt, oL_eq, lcO_lt, lcO_gt, lcO_le, lcO_ge, lcO_eq, Int.toNat_natCast, tn_add, tn_sub, Decidable.not_not, Int.natCast_zero, Int.zero_add, Int.add_zero, hk, nt]
  refine sp_shape _ hn ?_
  generalize hsh : shapeN P A F T = sh at s1 s2
  simp (disch := omega) only [blk_s, nx_s, kC_s, exI_aload_n, exI_getfield, exI_iaload, exI_iconst, exI_ifCond, exI_if_icmp, exI_iload_n, exI_invokevirtual, exI_istore_n, exI_lconst, exI_lreturn, p_X9_count, dX9_count_0, dX9_count_1, dX9_count_4, dX9_count_5, dX9_count_6, dX9_count_9, dX9_count_10, dX9_count_11, dX9_count_12, dX9_count_15, dX9_count_16, dX9_count_17, dX9_count_20, dX9_count_21, dX9_count_22, dX9_count_25, dX9_count_26, dX9_count_29, dX9_count_30, dX9_count_33, dX9_count_34, dX9_count_35, dX9_count_36, dX9_count_39, dX9_count_40, dX9_count_41, dX9_count_42, dX9_count_45, dX9_count_46, dX9_count_49, dX9_count_50, dX9_count_51, dX9_count_54, dX9_count_57, tg_6_5, jn_6_5, tg_22_23, jn_22_23, ml_9_39, a_X4_shape, p_X4_shape, fl_9_12, ml_9_45, a_X0_load, p_X0_load, fl_9_49, fl_9_52, ml_9_55, a_X0_shift, p_X0_shift, ml_9_59, a_X4_finish, p_X4_finish, ml_9_63, a_X0_trailsTo, p_X0_trailsTo, ab_clr, ab_st1, ab_st2, ab_b2, ab_q2, ab_l2, ab_p2, ab_neg, ab_i2l, ab_lcmp, ab_lshl, ab_ld, ab_sti, ab_stl, ab_inc, ab_dup, ab_dup2, ab_pop, ab_pop2, cmpP, ab_goto, ab_icmp, ab_if, ab_sw, ab_table, ab_get, ab_put, ab_iald, ab_iast, ab_lald, ab_last, ab_aald, ab_ki, ab_kl, popN, pushO, isC, ab_inv, ab_copy, ab_mx, ab_ins, ab_nr, ab_iret, ab_lret, ab_vret, cat2, isI, isL, isR, catS, List.getElem?_cons_zero, List.getElem?_cons_succ, List.set_cons_zero, List.set_cons_succ, List.length_cons, List.length_nil, List.contains_cons, List.contains_nil, Int.reduceAdd, Int.reduceNeg, Int.reduceSub, Int.reduceLE, Int.reduceLT, Int.reduceToNat, Nat.reduceAdd, Nat.reduceMul, Nat.reduceBeqDiff, Nat.reduceEqDiff, Nat.reduceLeDiff, Nat.reduceLT, Nat.reduceSub, reduceCtorEq, f4_0, f4_1, f4_2, f4_3, f2_0, f2_1, true_and, and_true, if_true, if_false, Bool.or_false, Bool.false_or, Bool.true_or, Bool.or_true, beq_self_eq_true, Bool.false_eq_true, ↓reduceIte, Nat.zero_add, Nat.add_zero, Int.reduceEq, true_or, or_true, false_or, or_false, not_true_eq_false, not_false_eq_true, true_implies, false_implies, implies_true, and_self, false_and, and_false, va_up_at, upd_at, vpL_at, Nat.left_eq_add, Nat.right_eq_add, Nat.add_eq_left, Nat.add_eq_right, Nat.add_left_cancel_iff, oI_0, oI_1, oL_0, oL_div, oI_add, oI_sub, oI_mul, oI_neg, nI_o, oI_le, oI_lt, oI_eq, oI_in, oI_nat, oI_div, emod_nf, oI_64, oI_or, oI_and, oI_shl1, oI_clr, in_bit, has_bit, oI_bit, bz_0, bz_1, bz_n0, bz_n1, bz_or, oL_add, oL_sub, oL_mul, oL_le, oL_lt, oL_eq, lcO_lt, lcO_gt, lcO_le, lcO_ge, lcO_eq, Int.toNat_natCast, tn_add, tn_sub, Decidable.not_not, Int.natCast_zero, Int.zero_add, Int.add_zero, hw, wk, hk, nt, c1]
  by_cases h0 : sh = 0
  · have hq := hQ h (fun _ _ => rfl) ⟨_, _, hc⟩
    rw [wcN, hsh, if_pos h0] at hq
    exact ⟨fun q => (show False by omega).elim, fun _ => hq⟩
  · refine ⟨fun _ => ?_, fun q => (show False by omega).elim⟩
    have hA0 := s2 h0
    have hgl := endN_lt hn hA0 sh (-1)
    refine sp_load _ hc hn (by omega) _ (fun g1 f1 hc1 => ?_)
    have hc2 : CntR g1 71 (wkW F T A (allB A)) (wkO F A (allB A)) := hc1.congr (fun p q _ _ => ldW_congr (fun j hj => by rw [m1_bit (by omega), allB_bit, decide_eq_true hj])) (fun p _ => ldO_congr (fun j hj => by rw [m1_bit (by omega), allB_bit, decide_eq_true hj]))
    have hn1 : NetR g1 8 P A F T := hn.frame (fun j a b => f1 j (by omega))
    have e70 : g1 70 = _ := (f1 70 (by omega)).trans hw
    obtain ⟨FF, TT, hk1, hf1, ht1, -, -, hj1⟩ := id hn1
    obtain ⟨a1, a2, a3, a4⟩ := hj1 0 hA0
    have h8 := hn.lt8 0 hA0
    have fin : ∀ (fr : Nat) (g2 : Hp), (∀ j, j < 71 ∨ 91 < j → g2 j = h j) → CntR g2 71 (wkW F T A fr) (wkO F A fr) → wcN P A F T = trS F T A (endN P A F T sh (-1)) fr → At MX9_count (d + 5) 45 [some (.ref 70), some (.ref 8), some (.int (Int32.ofInt sh))] [] g2 Q := by
      intro fr g2 f2 hc3 he
      have e70 : g2 70 = _ := (f2 70 (by omega)).trans hw
      have e8 : g2 8 = _ := (f2 8 (by omega)).trans hk
      have hn2 : NetR g2 8 P A F T := hn.frame (fun j a b => f2 j (by omega))
      obtain ⟨cc1, -⟩ := id hc3
      (refine blk_sound [] 400 ?_); simp (disch := omega) only [blk_s, nx_s, kC_s, exI_aload_n, exI_getfield, exI_iaload, exI_iconst, exI_ifCond, exI_if_icmp, exI_iload_n, exI_invokevirtual, exI_istore_n, exI_lconst, exI_lreturn, p_X9_count, dX9_count_0, dX9_count_1, dX9_count_4, dX9_count_5, dX9_count_6, dX9_count_9, dX9_count_10, dX9_count_11, dX9_count_12, dX9_count_15, dX9_count_16, dX9_count_17, dX9_count_20, dX9_count_21, dX9_count_22, dX9_count_25, dX9_count_26, dX9_count_29, dX9_count_30, dX9_count_33, dX9_count_34, dX9_count_35, dX9_count_36, dX9_count_39, dX9_count_40, dX9_count_41, dX9_count_42, dX9_count_45, dX9_count_46, dX9_count_49, dX9_count_50, dX9_count_51, dX9_count_54, dX9_count_57, tg_6_5, jn_6_5, tg_22_23, jn_22_23, ml_9_39, a_X4_shape, p_X4_shape, fl_9_12, ml_9_45, a_X0_load, p_X0_load, fl_9_49, fl_9_52, ml_9_55, a_X0_shift, p_X0_shift, ml_9_59, a_X4_finish, p_X4_finish, ml_9_63, a_X0_trailsTo, p_X0_trailsTo, ab_clr, ab_st1, ab_st2, ab_b2, ab_q2, ab_l2, ab_p2, ab_neg, ab_i2l, ab_lcmp, ab_lshl, ab_ld, ab_sti, ab_stl, ab_inc, ab_dup, ab_dup2, ab_pop, ab_pop2, cmpP, ab_goto, ab_icmp, ab_if, ab_sw, ab_table, ab_get, ab_put, ab_iald, ab_iast, ab_lald, ab_last, ab_aald, ab_ki, ab_kl, popN, pushO, isC, ab_inv, ab_copy, ab_mx, ab_ins, ab_nr, ab_iret, ab_lret, ab_vret, cat2, isI, isL, isR, catS, List.getElem?_cons_zero, List.getElem?_cons_succ, List.set_cons_zero, List.set_cons_succ, List.length_cons, List.length_nil, List.contains_cons, List.contains_nil, Int.reduceAdd, Int.reduceNeg, Int.reduceSub, Int.reduceLE, Int.reduceLT, Int.reduceToNat, Nat.reduceAdd, Nat.reduceMul, Nat.reduceBeqDiff, Nat.reduceEqDiff, Nat.reduceLeDiff, Nat.reduceLT, Nat.reduceSub, reduceCtorEq, f4_0, f4_1, f4_2, f4_3, f2_0, f2_1, true_and, and_true, if_true, if_false, Bool.or_false, Bool.false_or, Bool.true_or, Bool.or_true, beq_self_eq_true, Bool.false_eq_true, ↓reduceIte, Nat.zero_add, Nat.add_zero, Int.reduceEq, true_or, or_true, false_or, or_false, not_true_eq_false, not_false_eq_true, true_implies, false_implies, implies_true, and_self, false_and, and_false, va_up_at, upd_at, vpL_at, Nat.left_eq_add, Nat.right_eq_add, Nat.add_eq_left, Nat.add_eq_right, Nat.add_left_cancel_iff, oI_0, oI_1, oL_0, oL_div, oI_add, oI_sub, oI_mul, oI_neg, nI_o, oI_le, oI_lt, oI_eq, oI_in, oI_nat, oI_div, emod_nf, oI_64, oI_or, oI_and, oI_shl1, oI_clr, in_bit, has_bit, oI_bit, bz_0, bz_1, bz_n0, bz_n1, bz_or, oL_add, oL_sub, oL_mul, oL_le, oL_lt, oL_eq, lcO_lt, lcO_gt, lcO_le, lcO_ge, lcO_eq, Int.toNat_natCast, tn_add, tn_sub, Decidable.not_not, Int.natCast_zero, Int.zero_add, Int.add_zero, e70, wk, e8, nt, cc1]
      refine sp_finish _ hn2 hA0 sh (by omega) ?_
      simp (disch := omega) only [blk_s, nx_s, kC_s, exI_aload_n, exI_getfield, exI_iaload, exI_iconst, exI_ifCond, exI_if_icmp, exI_iload_n, exI_invokevirtual, exI_istore_n, exI_lconst, exI_lreturn, p_X9_count, dX9_count_0, dX9_count_1, dX9_count_4, dX9_count_5, dX9_count_6, dX9_count_9, dX9_count_10, dX9_count_11, dX9_count_12, dX9_count_15, dX9_count_16, dX9_count_17, dX9_count_20, dX9_count_21, dX9_count_22, dX9_count_25, dX9_count_26, dX9_count_29, dX9_count_30, dX9_count_33, dX9_count_34, dX9_count_35, dX9_count_36, dX9_count_39, dX9_count_40, dX9_count_41, dX9_count_42, dX9_count_45, dX9_count_46, dX9_count_49, dX9_count_50, dX9_count_51, dX9_count_54, dX9_count_57, tg_6_5, jn_6_5, tg_22_23, jn_22_23, ml_9_39, a_X4_shape, p_X4_shape, fl_9_12, ml_9_45, a_X0_load, p_X0_load, fl_9_49, fl_9_52, ml_9_55, a_X0_shift, p_X0_shift, ml_9_59, a_X4_finish, p_X4_finish, ml_9_63, a_X0_trailsTo, p_X0_trailsTo, ab_clr, ab_st1, ab_st2, ab_b2, ab_q2, ab_l2, ab_p2, ab_neg, ab_i2l, ab_lcmp, ab_lshl, ab_ld, ab_sti, ab_stl, ab_inc, ab_dup, ab_dup2, ab_pop, ab_pop2, cmpP, ab_goto, ab_icmp, ab_if, ab_sw, ab_table, ab_get, ab_put, ab_iald, ab_iast, ab_lald, ab_last, ab_aald, ab_ki, ab_kl, popN, pushO, isC, ab_inv, ab_copy, ab_mx, ab_ins, ab_nr, ab_iret, ab_lret, ab_vret, cat2, isI, isL, isR, catS, List.getElem?_cons_zero, List.getElem?_cons_succ, List.set_cons_zero, List.set_cons_succ, List.length_cons, List.length_nil, List.contains_cons, List.contains_nil, Int.reduceAdd, Int.reduceNeg, Int.reduceSub, Int.reduceLE, Int.reduceLT, Int.reduceToNat, Nat.reduceAdd, Nat.reduceMul, Nat.reduceBeqDiff, Nat.reduceEqDiff, Nat.reduceLeDiff, Nat.reduceLT, Nat.reduceSub, reduceCtorEq, f4_0, f4_1, f4_2, f4_3, f2_0, f2_1, true_and, and_true, if_true, if_false, Bool.or_false, Bool.false_or, Bool.true_or, Bool.or_true, beq_self_eq_true, Bool.false_eq_true, ↓reduceIte, Nat.zero_add, Nat.add_zero, Int.reduceEq, true_or, or_true, false_or, or_false, not_true_eq_false, not_false_eq_true, true_implies, false_implies, implies_true, and_self, false_and, and_false, va_up_at, upd_at, vpL_at, Nat.left_eq_add, Nat.right_eq_add, Nat.add_eq_left, Nat.add_eq_right, Nat.add_left_cancel_iff, oI_0, oI_1, oL_0, oL_div, oI_add, oI_sub, oI_mul, oI_neg, nI_o, oI_le, oI_lt, oI_eq, oI_in, oI_nat, oI_div, emod_nf, oI_64, oI_or, oI_and, oI_shl1, oI_clr, in_bit, has_bit, oI_bit, bz_0, bz_1, bz_n0, bz_n1, bz_or, oL_add, oL_sub, oL_mul, oL_le, oL_lt, oL_eq, lcO_lt, lcO_gt, lcO_le, lcO_ge, lcO_eq, Int.toNat_natCast, tn_add, tn_sub, Decidable.not_not, Int.natCast_zero, Int.zero_add, Int.add_zero, e70, wk, e8, nt, cc1]
      refine sp_trailsTo _ hc3 (ld_cb hA) _ hgl (hB.1 _ _ _).1 (fun g3 f3 hc4 => ?_)
      simp (disch := omega) only [blk_s, nx_s, kC_s, exI_aload_n, exI_getfield, exI_iaload, exI_iconst, exI_ifCond, exI_if_icmp, exI_iload_n, exI_invokevirtual, exI_istore_n, exI_lconst, exI_lreturn, p_X9_count, dX9_count_0, dX9_count_1, dX9_count_4, dX9_count_5, dX9_count_6, dX9_count_9, dX9_count_10, dX9_count_11, dX9_count_12, dX9_count_15, dX9_count_16, dX9_count_17, dX9_count_20, dX9_count_21, dX9_count_22, dX9_count_25, dX9_count_26, dX9_count_29, dX9_count_30, dX9_count_33, dX9_count_34, dX9_count_35, dX9_count_36, dX9_count_39, dX9_count_40, dX9_count_41, dX9_count_42, dX9_count_45, dX9_count_46, dX9_count_49, dX9_count_50, dX9_count_51, dX9_count_54, dX9_count_57, tg_6_5, jn_6_5, tg_22_23, jn_22_23, ml_9_39, a_X4_shape, p_X4_shape, fl_9_12, ml_9_45, a_X0_load, p_X0_load, fl_9_49, fl_9_52, ml_9_55, a_X0_shift, p_X0_shift, ml_9_59, a_X4_finish, p_X4_finish, ml_9_63, a_X0_trailsTo, p_X0_trailsTo, ab_clr, ab_st1, ab_st2, ab_b2, ab_q2, ab_l2, ab_p2, ab_neg, ab_i2l, ab_lcmp, ab_lshl, ab_ld, ab_sti, ab_stl, ab_inc, ab_dup, ab_dup2, ab_pop, ab_pop2, cmpP, ab_goto, ab_icmp, ab_if, ab_sw, ab_table, ab_get, ab_put, ab_iald, ab_iast, ab_lald, ab_last, ab_aald, ab_ki, ab_kl, popN, pushO, isC, ab_inv, ab_copy, ab_mx, ab_ins, ab_nr, ab_iret, ab_lret, ab_vret, cat2, isI, isL, isR, catS, List.getElem?_cons_zero, List.getElem?_cons_succ, List.set_cons_zero, List.set_cons_succ, List.length_cons, List.length_nil, List.contains_cons, List.contains_nil, Int.reduceAdd, Int.reduceNeg, Int.reduceSub, Int.reduceLE, Int.reduceLT, Int.reduceToNat, Nat.reduceAdd, Nat.reduceMul, Nat.reduceBeqDiff, Nat.reduceEqDiff, Nat.reduceLeDiff, Nat.reduceLT, Nat.reduceSub, reduceCtorEq, f4_0, f4_1, f4_2, f4_3, f2_0, f2_1, true_and, and_true, if_true, if_false, Bool.or_false, Bool.false_or, Bool.true_or, Bool.or_true, beq_self_eq_true, Bool.false_eq_true, ↓reduceIte, Nat.zero_add, Nat.add_zero, Int.reduceEq, true_or, or_true, false_or, or_false, not_true_eq_false, not_false_eq_true, true_implies, false_implies, implies_true, and_self, false_and, and_false, va_up_at, upd_at, vpL_at, Nat.left_eq_add, Nat.right_eq_add, Nat.add_eq_left, Nat.add_eq_right, Nat.add_left_cancel_iff, oI_0, oI_1, oL_0, oL_div, oI_add, oI_sub, oI_mul, oI_neg, nI_o, oI_le, oI_lt, oI_eq, oI_in, oI_nat, oI_div, emod_nf, oI_64, oI_or, oI_and, oI_shl1, oI_clr, in_bit, has_bit, oI_bit, bz_0, bz_1, bz_n0, bz_n1, bz_or, oL_add, oL_sub, oL_mul, oL_le, oL_lt, oL_eq, lcO_lt, lcO_gt, lcO_le, lcO_ge, lcO_eq, Int.toNat_natCast, tn_add, tn_sub, Decidable.not_not, Int.natCast_zero, Int.zero_add, Int.add_zero]
      have hq := hQ g3 (fun j a => (f3 j (by omega)).trans (f2 j a)) ⟨_, _, hc4⟩
      rw [he] at hq
      exact hq
    obtain ⟨cc1, -⟩ := id hc2
    simp (disch := omega) only [blk_s, nx_s, kC_s, exI_aload_n, exI_getfield, exI_iaload, exI_iconst, exI_ifCond, exI_if_icmp, exI_iload_n, exI_invokevirtual, exI_istore_n, exI_lconst, exI_lreturn, p_X9_count, dX9_count_0, dX9_count_1, dX9_count_4, dX9_count_5, dX9_count_6, dX9_count_9, dX9_count_10, dX9_count_11, dX9_count_12, dX9_count_15, dX9_count_16, dX9_count_17, dX9_count_20, dX9_count_21, dX9_count_22, dX9_count_25, dX9_count_26, dX9_count_29, dX9_count_30, dX9_count_33, dX9_count_34, dX9_count_35, dX9_count_36, dX9_count_39, dX9_count_40, dX9_count_41, dX9_count_42, dX9_count_45, dX9_count_46, dX9_count_49, dX9_count_50, dX9_count_51, dX9_count_54, dX9_count_57, tg_6_5, jn_6_5, tg_22_23, jn_22_23, ml_9_39, a_X4_shape, p_X4_shape, fl_9_12, ml_9_45, a_X0_load, p_X0_load, fl_9_49, fl_9_52, ml_9_55, a_X0_shift, p_X0_shift, ml_9_59, a_X4_finish, p_X4_finish, ml_9_63, a_X0_trailsTo, p_X0_trailsTo, ab_clr, ab_st1, ab_st2, ab_b2, ab_q2, ab_l2, ab_p2, ab_neg, ab_i2l, ab_lcmp, ab_lshl, ab_ld, ab_sti, ab_stl, ab_inc, ab_dup, ab_dup2, ab_pop, ab_pop2, cmpP, ab_goto, ab_icmp, ab_if, ab_sw, ab_table, ab_get, ab_put, ab_iald, ab_iast, ab_lald, ab_last, ab_aald, ab_ki, ab_kl, popN, pushO, isC, ab_inv, ab_copy, ab_mx, ab_ins, ab_nr, ab_iret, ab_lret, ab_vret, cat2, isI, isL, isR, catS, List.getElem?_cons_zero, List.getElem?_cons_succ, List.set_cons_zero, List.set_cons_succ, List.length_cons, List.length_nil, List.contains_cons, List.contains_nil, Int.reduceAdd, Int.reduceNeg, Int.reduceSub, Int.reduceLE, Int.reduceLT, Int.reduceToNat, Nat.reduceAdd, Nat.reduceMul, Nat.reduceBeqDiff, Nat.reduceEqDiff, Nat.reduceLeDiff, Nat.reduceLT, Nat.reduceSub, reduceCtorEq, f4_0, f4_1, f4_2, f4_3, f2_0, f2_1, true_and, and_true, if_true, if_false, Bool.or_false, Bool.false_or, Bool.true_or, Bool.or_true, beq_self_eq_true, Bool.false_eq_true, ↓reduceIte, Nat.zero_add, Nat.add_zero, Int.reduceEq, true_or, or_true, false_or, or_false, not_true_eq_false, not_false_eq_true, true_implies, false_implies, implies_true, and_self, false_and, and_false, va_up_at, upd_at, vpL_at, Nat.left_eq_add, Nat.right_eq_add, Nat.add_eq_left, Nat.add_eq_right, Nat.add_left_cancel_iff, oI_0, oI_1, oL_0, oL_div, oI_add, oI_sub, oI_mul, oI_neg, nI_o, oI_le, oI_lt, oI_eq, oI_in, oI_nat, oI_div, emod_nf, oI_64, oI_or, oI_and, oI_shl1, oI_clr, in_bit, has_bit, oI_bit, bz_0, bz_1, bz_n0, bz_n1, bz_or, oL_add, oL_sub, oL_mul, oL_le, oL_lt, oL_eq, lcO_lt, lcO_gt, lcO_le, lcO_ge, lcO_eq, Int.toNat_natCast, tn_add, tn_sub, Decidable.not_not, Int.natCast_zero, Int.zero_add, Int.add_zero, e70, wk, hk1, nt, cc1, hf1, ht1, ia, a1, a2]
    by_cases hs1 : sh = 1
    · refine ⟨fun q => (show False by omega).elim, fun _ => ⟨by omega, by omega, sp_shift _ hc2 (F 0) (T 0) h8.1 h8.2 (-1) (fun g2 f2 hc3 => ?_)⟩⟩
      have hc4 := cnt_out (by rw [allB_bit, decide_eq_true hA0]) hA0 hc3
      have := fin (clrB (allB A) 0) g2 (fun j a => (f2 j (by omega)).trans (f1 j (by omega))) hc4 (by rw [wcN, hsh, if_neg h0, if_pos hs1])
      simp (disch := omega) only [blk_s, nx_s, kC_s, exI_aload_n, exI_getfield, exI_iaload, exI_iconst, exI_ifCond, exI_if_icmp, exI_iload_n, exI_invokevirtual, exI_istore_n, exI_lconst, exI_lreturn, p_X9_count, dX9_count_0, dX9_count_1, dX9_count_4, dX9_count_5, dX9_count_6, dX9_count_9, dX9_count_10, dX9_count_11, dX9_count_12, dX9_count_15, dX9_count_16, dX9_count_17, dX9_count_20, dX9_count_21, dX9_count_22, dX9_count_25, dX9_count_26, dX9_count_29, dX9_count_30, dX9_count_33, dX9_count_34, dX9_count_35, dX9_count_36, dX9_count_39, dX9_count_40, dX9_count_41, dX9_count_42, dX9_count_45, dX9_count_46, dX9_count_49, dX9_count_50, dX9_count_51, dX9_count_54, dX9_count_57, tg_6_5, jn_6_5, tg_22_23, jn_22_23, ml_9_39, a_X4_shape, p_X4_shape, fl_9_12, ml_9_45, a_X0_load, p_X0_load, fl_9_49, fl_9_52, ml_9_55, a_X0_shift, p_X0_shift, ml_9_59, a_X4_finish, p_X4_finish, ml_9_63, a_X0_trailsTo, p_X0_trailsTo, ab_clr, ab_st1, ab_st2, ab_b2, ab_q2, ab_l2, ab_p2, ab_neg, ab_i2l, ab_lcmp, ab_lshl, ab_ld, ab_sti, ab_stl, ab_inc, ab_dup, ab_dup2, ab_pop, ab_pop2, cmpP, ab_goto, ab_icmp, ab_if, ab_sw, ab_table, ab_get, ab_put, ab_iald, ab_iast, ab_lald, ab_last, ab_aald, ab_ki, ab_kl, popN, pushO, isC, ab_inv, ab_copy, ab_mx, ab_ins, ab_nr, ab_iret, ab_lret, ab_vret, cat2, isI, isL, isR, catS, List.getElem?_cons_zero, List.getElem?_cons_succ, List.set_cons_zero, List.set_cons_succ, List.length_cons, List.length_nil, List.contains_cons, List.contains_nil, Int.reduceAdd, Int.reduceNeg, Int.reduceSub, Int.reduceLE, Int.reduceLT, Int.reduceToNat, Nat.reduceAdd, Nat.reduceMul, Nat.reduceBeqDiff, Nat.reduceEqDiff, Nat.reduceLeDiff, Nat.reduceLT, Nat.reduceSub, reduceCtorEq, f4_0, f4_1, f4_2, f4_3, f2_0, f2_1, true_and, and_true, if_true, if_false, Bool.or_false, Bool.false_or, Bool.true_or, Bool.or_true, beq_self_eq_true, Bool.false_eq_true, ↓reduceIte, Nat.zero_add, Nat.add_zero, Int.reduceEq, true_or, or_true, false_or, or_false, not_true_eq_false, not_false_eq_true, true_implies, false_implies, implies_true, and_self, false_and, and_false, va_up_at, upd_at, vpL_at, Nat.left_eq_add, Nat.right_eq_add, Nat.add_eq_left, Nat.add_eq_right, Nat.add_left_cancel_iff, oI_0, oI_1, oL_0, oL_div, oI_add, oI_sub, oI_mul, oI_neg, nI_o, oI_le, oI_lt, oI_eq, oI_in, oI_nat, oI_div, emod_nf, oI_64, oI_or, oI_and, oI_shl1, oI_clr, in_bit, has_bit, oI_bit, bz_0, bz_1, bz_n0, bz_n1, bz_or, oL_add, oL_sub, oL_mul, oL_le, oL_lt, oL_eq, lcO_lt, lcO_gt, lcO_le, lcO_ge, lcO_eq, Int.toNat_natCast, tn_add, tn_sub, Decidable.not_not, Int.natCast_zero, Int.zero_add, Int.add_zero]
      exact this
    · refine ⟨fun _ => ?_, fun q => (show False by omega).elim⟩
      have := fin (allB A) g1 (fun j a => f1 j (by omega)) hc2 (by rw [wcN, hsh, if_neg h0, if_neg hs1])
      exact this
