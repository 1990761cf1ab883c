/-! ONE CALL OF THE LAW: trees, walks -/
theorem NetR.rng {h : Hp} {k P A : Nat} {F T : Nat → Nat} (hn : NetR h k P A F T) : P ≤ 8 ∧ A ≤ 16 ∧ ∀ j, j < A → F j < P ∧ T j < P := by
  obtain ⟨_, _, _, _, _, a, b, c⟩ := hn
  exact ⟨a, b, fun j q => ⟨(c j q).2.2.1, (c j q).2.2.2⟩⟩
theorem chM_nil {F T : Nat → Nat} {A r : Nat} (hu : (usedN F T A).testBit r = false) : ∀ m p S, chM F T A r m p S = []
  | 0, p, S => by
    rw [chM]
    refine if_neg (fun c => ?_)
    have e := of_decide_eq_true (show decide (sprI false true F (tsT S F T) A 8 (2 ^ r) = usedN F T A) = true from c)
    have b := sprI_sub (f := false) (b := true) (F := F) (T := tsT S F T) (A := A) (i := r) (r := 8) (s := 2 ^ r) (by rw [Nat.testBit_two_pow]; simp)
    rw [e, hu] at b
    exact absurd b (by decide)
  | m + 1, p, S => by
    rw [chM]
    split
    · exact chM_nil hu m (p + 1) S
    · refine List.flatMap_eq_nil_iff.mpr (fun k _ => ?_)
      split
      · exact chM_nil hu m (p + 1) _
      · rfl
theorem used_lt {F T : Nat → Nat} {P A r : Nat} (hj : ∀ j, j < A → F j < P ∧ T j < P) (hu : (usedN F T A).testBit r = true) : r < P := by
  obtain ⟨j, q, c⟩ := used_bit.mp hu
  have := hj j q
  rcases c with c | c <;> omega
theorem ch_room {F T : Nat → Nat} {P A r : Nat} (hA : A ≤ 16) (hP : P ≤ 8) (hj : ∀ j, j < A → F j < P ∧ T j < P) : (chM F T A r P 0 0).length ≤ 1024 := by
  cases hu : (usedN F T A).testBit r with
  | true => exact tc_room hA hP hj (used_lt hj hu) hu
  | false => rw [chM_nil hu]; simp
theorem btz {z : Int} (z1 : -2147483648 ≤ z) (z2 : z < 2147483648) : BtZ z (fun j => (Int32.ofInt z).toBitVec.getLsbD j) := by
  constructor
  · intro h j hj
    have e : z = ((z.toNat : Nat) : Int) := by omega
    show (Int32.ofInt z).toBitVec.getLsbD j = z.toNat.testBit j
    rw [e, oI_bit _ _ hj, Int.toNat_natCast]
  · intro h
    have e : Int32.ofInt z = Int32.ofInt (((z + 4294967296).toNat : Nat) : Int) := by
      apply Int32.toInt_inj.mp
      rw [Int32.toInt_ofInt, Int32.toInt_ofInt, Int.toNat_of_nonneg (by omega)]
      rw [Int.bmod_def, Int.bmod_def, show ((Int32.size : Nat) : Int) = 4294967296 from rfl]
      omega
    show (Int32.ofInt z).toBitVec.getLsbD 31 = true
    rw [e, oI_bit _ _ (by omega), Nat.testBit_eq_decide_div_mod_eq]
    have : (z + 4294967296).toNat / 2 ^ 31 = 1 := by omega
    rw [this]
    rfl
set_option maxRecDepth 100000 in
theorem js_trees (d : Nat) {h : Hp} (hI : INV h) (x : Int32) {Q : QT} (hQ : ∀ (r : Int64) (h1 : Hp), (∃ v w, h1 127 = mo v w) → (∀ Q2 : QT, (∀ h2, INV h2 → Q2 (some (.long r)) h2) → Call (d + 13) MX11_trees [.ref 127, .int x] h1 Q2) → Q (some (.long r)) h1) : Call (d + 13) MX10_trees [.ref 0, .int x] h Q := by
  obtain ⟨f, n, B, ⟨P, A, F, T⟩, hs, I, sl, S, ls, tw, wl, WS, v, w, O, hC, m0, hN, o⟩ := hI
  obtain ⟨c0, c1, c2, c3, c4, c5, c6, c7, c8, c9, c10⟩ := id hC
  obtain ⟨n7, nT, nR, nS, nK, nX, nF, nA, nB, nQ, nW, n28, nO, nY, nC, nD, nE, nG, nH⟩ := id hN
  have c3 : NetR h 8 P A F T := c3
  have nR : RowR h 129 P A F T := nR
  obtain ⟨z, rfl, z1, z2⟩ := i32z x
  obtain ⟨hP, hA, hj⟩ := NetR.rng c3
  have hB : NetB F T A := net_b hA (fun j q => Nat.lt_of_lt_of_le (hj j q).2 hP)
  refine sp_trees (d + 8) c0 c6 c3 hB.1 z z1 z2 (fun h1 e1 t1 => ?_)
  have fr : ∀ j, (j < 49 ∨ 69 < j) → h1 j = h j := e1
  have hC1 : IC h1 f n B (P, A, F, T) hs I sl S ls tw wl WS := ⟨(fr 0 (by omega)).trans c0, c1.frame2 (fun j a b => fr j (by omega)), c2.frame (fun j a b => fr j (by omega)), c3.frame (fun j a b => fr j (by omega)), c4.frame (fun j a b => fr j (by omega)), c5.frame (fun j a b => fr j (by omega)), t1, c7.frame (fun j a b => fr j (by omega)), c8.frame (fun j a b => fr j (by omega)), c9.frame (fun j a b => fr j (by omega)), c10.frame (fr 126 (by omega))⟩
  have g1 : ∀ j, 126 < j → h1 j = h j := fun j a => fr j (by omega)
  have m1 := (g1 127 (by omega)).trans m0
  have o1 := (g1 149 (by omega)).trans o
  obtain ⟨n7, nT, nR, nS, nK, nX, nF, nA, nB, nQ, nW, n28, nO, nY, nC, nD, nE, nG, nH⟩ : IN h1 v f n B (P, A, F, T) hs I sl S ls tw wl WS := hN.frame (fun j a => g1 j (by omega)) (fun _ _ => rfl)
  have nR : RowR h1 129 P A F T := nR
  obtain ⟨X, hX⟩ := id nF
  refine hQ _ _ ⟨_, _, m1⟩ (fun Q2 hQ2 => ?_)
  refine sm_trees d m1 nR hX z z1 z2 (ch_room hA hP hj) (fun h2 v2 e2 m2 ev2 t2 => ?_)
  have gr : ∀ j, (j ≠ 127 ∧ j ≠ 138) → h2 j = h1 j := fun j a => e2 j a.1 a.2
  have ev : ∀ j, 0 < j ∧ j ≠ 21 → v2 j = v j := fun j a => by rw [ev2 j (by omega), upd_at, if_neg (by omega)]
  have ea : (if (decide (0 ≤ z ∧ z < P) && (usedN F T A).testBit z.toNat) = true then tcN F T A z.toNat (fun j => Nat.testBit 65535 j) else -1) = (if (decide (0 ≤ z ∧ z < P) && (usedN F T A).testBit z.toNat) = true then ((chM F T A z.toNat P 0 0).length : Int) else -1) := by
    split
    · next c =>
      have c2 := (Bool.and_eq_true _ _).mp c
      exact tc_len hA hP hj (used_lt hj c2.2) c2.2
    · rfl
  rw [ea] at hQ2
  exact hQ2 _ ⟨f, n, B, (P, A, F, T), hs, I, sl, S, ls, tw, wl, WS, v2, w, O, hC1.frame (fun j a => gr j (by omega)), m2, ⟨(ev 7 (by omega)).trans n7, nT.frame (gr 128 (by omega)) (ev 2 (by omega)), RowR.frame nR (gr 129 (by omega)), nS.frame (gr 132 (by omega)) (ev 19 (by omega)), nK.frame (gr 131 (by omega)) (gr 137 (by omega)), nX.frame2 (gr 130 (by omega)) (gr 136 (by omega)), t2, nA.frame (gr 135 (by omega)), nB.frame (gr 145 (by omega)), nQ.frame2 (gr 139 (by omega)) (gr 140 (by omega)) (gr 142 (by omega)), nW.frame (gr 141 (by omega)) (ev 27 (by omega)), (ev 28 (by omega)).trans n28, nO.frame (gr 143 (by omega)) (ev 33 (by omega)), nY.frame (gr 144 (by omega)) (ev 34 (by omega)), nC.frame (gr 133 (by omega)), nD.frame (gr 134 (by omega)), nE.frame (gr 146 (by omega)), nG.frame (gr 147 (by omega)), nH.frame (gr 148 (by omega))⟩, (gr 149 (by omega)).trans o1⟩
set_option maxRecDepth 100000 in
theorem js_walks (d : Nat) {h : Hp} (hI : INV h) {Q : QT} (hQ : ∀ (r : Int64) (h1 : Hp), (∃ v w, h1 127 = mo v w) → (∀ Q2 : QT, (∀ h2, INV h2 → Q2 (some (.long r)) h2) → Call (d + 13) MX11_walks [.ref 127] h1 Q2) → Q (some (.long r)) h1) : Call (d + 13) MX10_walks [.ref 0] h Q := by
  obtain ⟨f, n, B, ⟨P, A, F, T⟩, hs, I, sl, S, ls, tw, wl, WS, v, w, O, hC, m0, hN, o⟩ := hI
  obtain ⟨c0, c1, c2, c3, c4, c5, c6, c7, c8, c9, c10⟩ := id hC
  obtain ⟨n7, nT, nR, nS, nK, nX, nF, nA, nB, nQ, nW, n28, nO, nY, nC, nD, nE, nG, nH⟩ := id hN
  have c3 : NetR h 8 P A F T := c3
  have nR : RowR h 129 P A F T := nR
  obtain ⟨hP, hA, hj⟩ := NetR.rng c3
  have hB : NetB F T A := net_b hA (fun j q => Nat.lt_of_lt_of_le (hj j q).2 hP)
  refine sp_walks (d + 7) c0 c7 c3 hB (fun h1 e1 t1 => ?_)
  have fr : ∀ j, (j < 71 ∨ 91 < j) → h1 j = h j := e1
  have hC1 : IC h1 f n B (P, A, F, T) hs I sl S ls tw wl WS := ⟨(fr 0 (by omega)).trans c0, c1.frame2 (fun j a b => fr j (by omega)), c2.frame (fun j a b => fr j (by omega)), c3.frame (fun j a b => fr j (by omega)), c4.frame (fun j a b => fr j (by omega)), c5.frame (fun j a b => fr j (by omega)), c6.frame2 (fun j a b => fr j (by omega)), t1, c8.frame (fun j a b => fr j (by omega)), c9.frame (fun j a b => fr j (by omega)), c10.frame (fr 126 (by omega))⟩
  have g1 : ∀ j, 126 < j → h1 j = h j := fun j a => fr j (by omega)
  have m1 := (g1 127 (by omega)).trans m0
  have o1 := (g1 149 (by omega)).trans o
  obtain ⟨n7, nT, nR, nS, nK, nX, nF, nA, nB, nQ, nW, n28, nO, nY, nC, nD, nE, nG, nH⟩ : IN h1 v f n B (P, A, F, T) hs I sl S ls tw wl WS := hN.frame (fun j a => g1 j (by omega)) (fun _ _ => rfl)
  have nR : RowR h1 129 P A F T := nR
  obtain ⟨⟨q0, q1⟩, ⟨q2, q3⟩, q4, q5⟩ := id nQ
  refine hQ _ _ ⟨_, _, m1⟩ (fun Q2 hQ2 => ?_)
  refine sm_walks (d + 6) m1 nR q1 q3 (fun hs => (wyO_ok hP hA hj hs).1) (fun h2 v2 e2 m2 ev2 t2 t3 => ?_)
  have gr : ∀ j, (j ≠ 127 ∧ j ≠ 139 ∧ j ≠ 140) → h2 j = h1 j := fun j a => e2 j a.1 a.2.1 a.2.2
  have ev : ∀ j, 0 < j ∧ j ≠ 24 → v2 j = v j := fun j a => by rw [ev2 j (by omega), upd_at, if_neg (by omega)]
  have ew : wcN P A F T = (if shapeN P A F T = 0 then 0 else wyW F T A (endN P A F T (shapeN P A F T) 1) (mgN 0 F T A (endN P A F T (shapeN P A F T) (-1)) 0) (if shapeN P A F T = 1 then 1 else 0)) := wc_same hP hA hj
  rw [ew] at hQ2
  exact hQ2 _ ⟨f, n, B, (P, A, F, T), hs, I, sl, S, ls, tw, wl, WS, v2, w, O, hC1.frame (fun j a => gr j (by omega)), m2, ⟨(ev 7 (by omega)).trans n7, nT.frame (gr 128 (by omega)) (ev 2 (by omega)), RowR.frame nR (gr 129 (by omega)), nS.frame (gr 132 (by omega)) (ev 19 (by omega)), nK.frame (gr 131 (by omega)) (gr 137 (by omega)), nX.frame2 (gr 130 (by omega)) (gr 136 (by omega)), nF.frame (gr 138 (by omega)), nA.frame (gr 135 (by omega)), nB.frame (gr 145 (by omega)), ⟨t2, t3, q4, (gr 142 (by omega)).trans q5⟩, nW.frame (gr 141 (by omega)) (ev 27 (by omega)), (ev 28 (by omega)).trans n28, nO.frame (gr 143 (by omega)) (ev 33 (by omega)), nY.frame (gr 144 (by omega)) (ev 34 (by omega)), nC.frame (gr 133 (by omega)), nD.frame (gr 134 (by omega)), nE.frame (gr 146 (by omega)), nG.frame (gr 147 (by omega)), nH.frame (gr 148 (by omega))⟩, (gr 149 (by omega)).trans o1⟩
theorem tw_iff {P A n : Nat} {F T B : Nat → Nat} (hj : ∀ j, j < A → F j < P ∧ T j < P) : twB P A F T n B = true ↔ (n = A ∧ n ≠ 0 ∧ (decide (shapeN P A F T ≠ 0) && (decide (shapeN P A F T = 1 → B 0 = 0) && iwB F T A B A 0 (endN P A F T (shapeN P A F T) 1) 0)) = true) := by
  have e := vc_iw (F := F) (T := T) (A := A) (B := B) A 0 (endN P A F T (shapeN P A F T) 1) 0 (Nat.two_pow_pos A)
  rw [fr_0] at e
  unfold twB
  rw [e]
  simp only [Bool.and_eq_true, decide_eq_true_eq]
  constructor
  · rintro ⟨⟨a, b⟩, c, g⟩
    have := (shp_cases hj a).1
    exact ⟨b, by omega, a, g, c⟩
  · rintro ⟨b, -, a, g, c⟩
    exact ⟨⟨a, b⟩, c, g⟩
theorem ls_ll {F : Nat → Nat} {A goal : Nat} {S : Nat → Nat} (hF : ∀ j, j < A → F j < 8) (hS : ∀ i, i < A → S i < A) : lsN (fun p => laN F S p A) goal 8 = llM F A goal S A := by
  have hl : ∀ i, i < A → ((List.range A).map S).getD i 0 = S i := fun i q => by
    rw [List.getD_eq_getElem?_getD, List.getElem?_map, List.getElem?_range q]
    rfl
  rw [← ll_eq (l := (List.range A).map S) hF hS hl]
  unfold llN
  have : (fun p => laN F S p A) = (fun p => laN F (fun i => ((List.range A).map S).getD i 0) p A) := funext (fun p => laN_congr (fun i q => (hl i q).symm))
  rw [this]
set_option maxRecDepth 100000 in
theorem js_rank (d : Nat) {h : Hp} (hI : INV h) {Q : QT} (hQ : ∀ (r : Int64) (h1 : Hp), (∃ v w, h1 127 = mo v w) → (∀ Q2 : QT, (∀ h2, INV h2 → Q2 (some (.long r)) h2) → Call (d + 13) MX11_rank [.ref 127] h1 Q2) → Q (some (.long r)) h1) : Call (d + 13) MX10_rank [.ref 0] h Q := by
  obtain ⟨f, n, B, ⟨P, A, F, T⟩, hs, I, sl, S, ls, tw, wl, WS, v, w, O, hC, m0, hN, o⟩ := hI
  obtain ⟨c0, c1, c2, c3, c4, c5, c6, c7, c8, c9, c10⟩ := id hC
  obtain ⟨n7, nT, nR, nS, nK, nX, nF, nA, nB, nQ, nW, n28, nO, nY, nC, nD, nE, nG, nH⟩ := id hN
  have c3 : NetR h 8 P A F T := c3
  have nR : RowR h 129 P A F T := nR
  obtain ⟨hP, hA, hj⟩ := NetR.rng c3
  have hB : NetB F T A := net_b hA (fun j q => Nat.lt_of_lt_of_le (hj j q).2 hP)
  refine sp_rank (d + 5) c0 c7 c3 c1 hB (fun hc h1 e1 t1 t2 => ?_) (fun hc h1 e1 t1 t2 => ?_)
  · have fr : ∀ j, (j ≠ 1 ∧ (j < 70 ∨ 94 < j)) → h1 j = h j := fun j a => e1 j a.1 a.2
    have hC1 : IC h1 f 0 B (P, A, F, T) hs I sl S ls tw wl WS := ⟨(fr 0 (by omega)).trans c0, t1, c2.frame (fun j a b => fr j (by omega)), c3.frame (fun j a b => fr j (by omega)), c4.frame (fun j a b => fr j (by omega)), c5.frame (fun j a b => fr j (by omega)), c6.frame2 (fun j a b => fr j (by omega)), t2, c8.frame (fun j a b => fr j (by omega)), c9.frame (fun j a b => fr j (by omega)), c10.frame (fr 126 (by omega))⟩
    have g1 : ∀ j, 126 < j → h1 j = h j := fun j a => fr j (by omega)
    have m1 := (g1 127 (by omega)).trans m0
    have o1 := (g1 149 (by omega)).trans o
    obtain ⟨n7, nT, nR, nS, nK, nX, nF, nA, nB, nQ, nW, n28, nO, nY, nC, nD, nE, nG, nH⟩ : IN h1 v f n B (P, A, F, T) hs I sl S ls tw wl WS := hN.frame (fun j a => g1 j (by omega)) (fun _ _ => rfl)
    have nR : RowR h1 129 P A F T := nR
    obtain ⟨Y, hY⟩ := nW.arr
    refine hQ _ _ ⟨_, _, m1⟩ (fun Q2 hQ2 => ?_)
    refine sm_rank (d + 6) m1 nR nT nQ hY (fun hs => wyO_ok hP hA hj hs) (fun _ h2 v2 e2 m2 ev2 t3 t4 => ?_) (fun c' => absurd ((tw_iff hj).mpr c') (by rw [hc]; decide))
    have gr : ∀ j, (j ≠ 127 ∧ j ≠ 142) → h2 j = h1 j := fun j a => e2 j a.1 a.2
    have ev : ∀ j, 0 < j ∧ j ≠ 2 → v2 j = v j := fun j a => by rw [ev2 j (by omega), upd_at, if_neg (by omega)]
    exact hQ2 _ ⟨f, 0, B, (P, A, F, T), hs, I, sl, S, ls, tw, wl, WS, v2, w, O, hC1.frame (fun j a => gr j (by omega)), m2, ⟨(ev 7 (by omega)).trans n7, t3, RowR.frame nR (gr 129 (by omega)), nS.frame (gr 132 (by omega)) (ev 19 (by omega)), nK.frame (gr 131 (by omega)) (gr 137 (by omega)), nX.frame2 (gr 130 (by omega)) (gr 136 (by omega)), nF.frame (gr 138 (by omega)), nA.frame (gr 135 (by omega)), nB.frame (gr 145 (by omega)), t4, nW.frame (gr 141 (by omega)) (ev 27 (by omega)), (ev 28 (by omega)).trans n28, nO.frame (gr 143 (by omega)) (ev 33 (by omega)), nY.frame (gr 144 (by omega)) (ev 34 (by omega)), nC.frame (gr 133 (by omega)), nD.frame (gr 134 (by omega)), nE.frame (gr 146 (by omega)), nG.frame (gr 147 (by omega)), nH.frame (gr 148 (by omega))⟩, (gr 149 (by omega)).trans o1⟩
  · have hc' := (tw_iff hj).mp hc
    have hc2 := hc'.2.2
    simp only [Bool.and_eq_true, decide_eq_true_eq] at hc2
    have hSb : ∀ i, i < A → B i < A := fun i q => iwB_lt A 0 _ 0 hc2.2.2 i (by omega) (by omega)
    rw [ls_ll (fun j q => Nat.lt_of_lt_of_le (hj j q).1 hP) hSb] at t2
    have fr : ∀ j, (j ≠ 1 ∧ (j < 70 ∨ 94 < j)) → h1 j = h j := fun j a => e1 j a.1 a.2
    have hC1 : IC h1 f 0 B (P, A, F, T) hs I A B (llM F A (endN P A F T (shapeN P A F T) (-1)) B A) tw wl WS := ⟨(fr 0 (by omega)).trans c0, t1, c2.frame (fun j a b => fr j (by omega)), c3.frame (fun j a b => fr j (by omega)), c4.frame (fun j a b => fr j (by omega)), c5.frame (fun j a b => fr j (by omega)), c6.frame2 (fun j a b => fr j (by omega)), t2, c8.frame (fun j a b => fr j (by omega)), c9.frame (fun j a b => fr j (by omega)), c10.frame (fr 126 (by omega))⟩
    have g1 : ∀ j, 126 < j → h1 j = h j := fun j a => fr j (by omega)
    have m1 := (g1 127 (by omega)).trans m0
    have o1 := (g1 149 (by omega)).trans o
    obtain ⟨n7, nT, nR, nS, nK, nX, nF, nA, nB, nQ, nW, n28, nO, nY, nC, nD, nE, nG, nH⟩ : IN h1 v f n B (P, A, F, T) hs I sl S ls tw wl WS := hN.frame (fun j a => g1 j (by omega)) (fun _ _ => rfl)
    have nR : RowR h1 129 P A F T := nR
    obtain ⟨Y, hY⟩ := nW.arr
    refine hQ _ _ ⟨_, _, m1⟩ (fun Q2 hQ2 => ?_)
    refine sm_rank (d + 6) m1 nR nT nQ hY (fun hs => wyO_ok hP hA hj hs) (fun c' => absurd hc' c') (fun _ h2 v2 e2 m2 ev2 t3 t4 t5 t6 t7 => ?_)
    have gr : ∀ j, (j ≠ 127 ∧ (j < 139 ∨ 142 < j)) → h2 j = h1 j := fun j a => e2 j a.1 a.2
    have ev : ∀ j, 0 < j ∧ j ≠ 2 ∧ j ≠ 24 ∧ j ≠ 27 ∧ j ≠ 28 → v2 j = v j := fun j a => by rw [ev2 j (by omega) (by omega) (by omega) (by omega), upd_at, if_neg (by omega)]
    rw [rk_rank (e := endN P A F T (shapeN P A F T) (-1)) hP hA hj hc2.1 hc2.2.1 hc2.2.2] at hQ2
    exact hQ2 _ ⟨f, 0, B, (P, A, F, T), hs, I, A, B, (llM F A (endN P A F T (shapeN P A F T) (-1)) B A), tw, wl, WS, v2, w, O, hC1.frame (fun j a => gr j (by omega)), m2, ⟨(ev 7 (by omega)).trans n7, t3, RowR.frame nR (gr 129 (by omega)), nS.frame (gr 132 (by omega)) (ev 19 (by omega)), nK.frame (gr 131 (by omega)) (gr 137 (by omega)), nX.frame2 (gr 130 (by omega)) (gr 136 (by omega)), nF.frame (gr 138 (by omega)), nA.frame (gr 135 (by omega)), nB.frame (gr 145 (by omega)), t4, ⟨t5, hA, t7⟩, t6, nO.frame (gr 143 (by omega)) (ev 33 (by omega)), nY.frame (gr 144 (by omega)) (ev 34 (by omega)), nC.frame (gr 133 (by omega)), nD.frame (gr 134 (by omega)), nE.frame (gr 146 (by omega)), nG.frame (gr 147 (by omega)), nH.frame (gr 148 (by omega))⟩, (gr 149 (by omega)).trans o1⟩
set_option maxRecDepth 100000 in
theorem js_by (d : Nat) {h : Hp} (hI : INV h) (x : Int32) {Q : QT} (hQ : ∀ (r : Int64) (h1 : Hp), (∃ v w, h1 127 = mo v w) → (∀ Q2 : QT, (∀ h2, INV h2 → Q2 (some (.long r)) h2) → Call (d + 13) MX11_by [.ref 127, .int x] h1 Q2) → Q (some (.long r)) h1) : Call (d + 13) MX10_by [.ref 0, .int x] h Q := by
  obtain ⟨f, n, B, ⟨P, A, F, T⟩, hs, I, sl, S, ls, tw, wl, WS, v, w, O, hC, m0, hN, o⟩ := hI
  obtain ⟨c0, c1, c2, c3, c4, c5, c6, c7, c8, c9, c10⟩ := id hC
  obtain ⟨n7, nT, nR, nS, nK, nX, nF, nA, nB, nQ, nW, n28, nO, nY, nC, nD, nE, nG, nH⟩ := id hN
  have c3 : NetR h 8 P A F T := c3
  have nR : RowR h 129 P A F T := nR
  obtain ⟨z, rfl, z1, z2⟩ := i32z x
  obtain ⟨hP, hA, hj⟩ := NetR.rng c3
  have hB : NetB F T A := net_b hA (fun j q => Nat.lt_of_lt_of_le (hj j q).2 hP)
  refine sp_by (d + 7) c0 c7 c3 _ (fun h1 e1 t1 => ?_)
  have fr : ∀ j, (j < 70 ∨ 94 < j) → h1 j = h j := e1
  have hC1 : IC h1 f n B (P, A, F, T) hs I sl S ls tw wl WS := ⟨(fr 0 (by omega)).trans c0, c1.frame2 (fun j a b => fr j (by omega)), c2.frame (fun j a b => fr j (by omega)), c3.frame (fun j a b => fr j (by omega)), c4.frame (fun j a b => fr j (by omega)), c5.frame (fun j a b => fr j (by omega)), c6.frame2 (fun j a b => fr j (by omega)), t1, c8.frame (fun j a b => fr j (by omega)), c9.frame (fun j a b => fr j (by omega)), c10.frame (fr 126 (by omega))⟩
  have g1 : ∀ j, 126 < j → h1 j = h j := fun j a => fr j (by omega)
  have m1 := (g1 127 (by omega)).trans m0
  have o1 := (g1 149 (by omega)).trans o
  obtain ⟨n7, nT, nR, nS, nK, nX, nF, nA, nB, nQ, nW, n28, nO, nY, nC, nD, nE, nG, nH⟩ : IN h1 v f n B (P, A, F, T) hs I sl S ls tw wl WS := hN.frame (fun j a => g1 j (by omega)) (fun _ _ => rfl)
  have nR : RowR h1 129 P A F T := nR
  refine hQ _ _ ⟨_, _, m1⟩ (fun Q2 hQ2 => ?_)
  refine sm_by (d + 5) m1 nR nQ z z1 z2 (fun hk => (wyO_ok hP hA hj hk.1).1) (fun h2 v2 y e2 m2 ev2 t2 y1 y2 => ?_)
  have gr : ∀ j, (j ≠ 127 ∧ j ≠ 139 ∧ j ≠ 140) → h2 j = h1 j := fun j a => e2 j a.1 a.2.1 a.2.2
  have ev : ∀ j, 0 < j ∧ j ≠ 24 → v2 j = v j := fun j a => by rw [ev2 j (by omega), upd_at, if_neg (by omega)]
  have eb := by_eq hP hA hj z2 (btz z1 z2)
  have ey : byN P A F T (fun j => (Int32.ofInt z).toBitVec.getLsbD j) = y := by
    by_cases c : byK P A F T z
    · rw [eb.2 c, y2 c]
    · rw [eb.1 c, y1 c]
  rw [ey] at hQ2
  exact hQ2 _ ⟨f, n, B, (P, A, F, T), hs, I, sl, S, ls, tw, wl, WS, v2, w, O, hC1.frame (fun j a => gr j (by omega)), m2, ⟨(ev 7 (by omega)).trans n7, nT.frame (gr 128 (by omega)) (ev 2 (by omega)), RowR.frame nR (gr 129 (by omega)), nS.frame (gr 132 (by omega)) (ev 19 (by omega)), nK.frame (gr 131 (by omega)) (gr 137 (by omega)), nX.frame2 (gr 130 (by omega)) (gr 136 (by omega)), nF.frame (gr 138 (by omega)), nA.frame (gr 135 (by omega)), nB.frame (gr 145 (by omega)), t2, nW.frame (gr 141 (by omega)) (ev 27 (by omega)), (ev 28 (by omega)).trans n28, nO.frame (gr 143 (by omega)) (ev 33 (by omega)), nY.frame (gr 144 (by omega)) (ev 34 (by omega)), nC.frame (gr 133 (by omega)), nD.frame (gr 134 (by omega)), nE.frame (gr 146 (by omega)), nG.frame (gr 147 (by omega)), nH.frame (gr 148 (by omega))⟩, (gr 149 (by omega)).trans o1⟩
set_option maxRecDepth 100000 in
theorem js_first (d : Nat) {h : Hp} (hI : INV h) (x : Int32) {Q : QT} (hQ : ∀ (r : Int64) (h1 : Hp), (∃ v w, h1 127 = mo v w) → (∀ Q2 : QT, (∀ h2, INV h2 → Q2 (some (.long r)) h2) → Call (d + 13) MX11_first [.ref 127, .int x] h1 Q2) → Q (some (.long r)) h1) : Call (d + 13) MX10_first [.ref 0, .int x] h Q := by
  obtain ⟨f, n, B, ⟨P, A, F, T⟩, hs, I, sl, S, ls, tw, wl, WS, v, w, O, hC, m0, hN, o⟩ := hI
  obtain ⟨c0, c1, c2, c3, c4, c5, c6, c7, c8, c9, c10⟩ := id hC
  obtain ⟨n7, nT, nR, nS, nK, nX, nF, nA, nB, nQ, nW, n28, nO, nY, nC, nD, nE, nG, nH⟩ := id hN
  have c3 : NetR h 8 P A F T := c3
  have nR : RowR h 129 P A F T := nR
  obtain ⟨z, rfl, z1, z2⟩ := i32z x
  obtain ⟨hP, hA, hj⟩ := NetR.rng c3
  have hB : NetB F T A := net_b hA (fun j q => Nat.lt_of_lt_of_le (hj j q).2 hP)
  refine sp_first (d + 5) c0 c7 c3 hB _ (fun h1 e1 t1 => ?_)
  have fr : ∀ j, (j < 70 ∨ 94 < j) → h1 j = h j := e1
  have hC1 : IC h1 f n B (P, A, F, T) hs I sl S ls tw wl WS := ⟨(fr 0 (by omega)).trans c0, c1.frame2 (fun j a b => fr j (by omega)), c2.frame (fun j a b => fr j (by omega)), c3.frame (fun j a b => fr j (by omega)), c4.frame (fun j a b => fr j (by omega)), c5.frame (fun j a b => fr j (by omega)), c6.frame2 (fun j a b => fr j (by omega)), t1, c8.frame (fun j a b => fr j (by omega)), c9.frame (fun j a b => fr j (by omega)), c10.frame (fr 126 (by omega))⟩
  have g1 : ∀ j, 126 < j → h1 j = h j := fun j a => fr j (by omega)
  have m1 := (g1 127 (by omega)).trans m0
  have o1 := (g1 149 (by omega)).trans o
  obtain ⟨n7, nT, nR, nS, nK, nX, nF, nA, nB, nQ, nW, n28, nO, nY, nC, nD, nE, nG, nH⟩ : IN h1 v f n B (P, A, F, T) hs I sl S ls tw wl WS := hN.frame (fun j a => g1 j (by omega)) (fun _ _ => rfl)
  have nR : RowR h1 129 P A F T := nR
  refine hQ _ _ ⟨_, _, m1⟩ (fun Q2 hQ2 => ?_)
  refine sm_first (d + 5) m1 nR nQ z z1 z2 (fun hk => wyO_ok hP hA hj hk.1) (fun hs => wyO_ok hP hA hj hs) (fun h2 v2 y e2 m2 ev2 t2 y1 y2 => ?_)
  have gr : ∀ j, (j ≠ 127 ∧ j ≠ 139 ∧ j ≠ 140 ∧ j ≠ 142) → h2 j = h1 j := fun j a => e2 j a.1 a.2.1 a.2.2.1 a.2.2.2
  have ev : ∀ j, 0 < j ∧ j ≠ 24 → v2 j = v j := fun j a => by rw [ev2 j (by omega), upd_at, if_neg (by omega)]
  have eb := fir_eq hP hA hj z2 (btz z1 z2) rfl (e := endN P A F T (shapeN P A F T) (-1))
  have ey : firN P A F T (fun j => (Int32.ofInt z).toBitVec.getLsbD j) = y := by
    by_cases c : byK P A F T z ∧ wyW F T A (endN P A F T (shapeN P A F T) 1) (mgN 1 F T A (endN P A F T (shapeN P A F T) (-1)) z.toNat) (begN P A F T) ≠ 0
    · rw [eb.2 c, y2 c]
    · rw [eb.1 c, y1 c]
  rw [ey] at hQ2
  exact hQ2 _ ⟨f, n, B, (P, A, F, T), hs, I, sl, S, ls, tw, wl, WS, v2, w, O, hC1.frame (fun j a => gr j (by omega)), m2, ⟨(ev 7 (by omega)).trans n7, nT.frame (gr 128 (by omega)) (ev 2 (by omega)), RowR.frame nR (gr 129 (by omega)), nS.frame (gr 132 (by omega)) (ev 19 (by omega)), nK.frame (gr 131 (by omega)) (gr 137 (by omega)), nX.frame2 (gr 130 (by omega)) (gr 136 (by omega)), nF.frame (gr 138 (by omega)), nA.frame (gr 135 (by omega)), nB.frame (gr 145 (by omega)), t2, nW.frame (gr 141 (by omega)) (ev 27 (by omega)), (ev 28 (by omega)).trans n28, nO.frame (gr 143 (by omega)) (ev 33 (by omega)), nY.frame (gr 144 (by omega)) (ev 34 (by omega)), nC.frame (gr 133 (by omega)), nD.frame (gr 134 (by omega)), nE.frame (gr 146 (by omega)), nG.frame (gr 147 (by omega)), nH.frame (gr 148 (by omega))⟩, (gr 149 (by omega)).trans o1⟩
/-- a walk told by the class is the reference's -/
theorem wl_both {P A : Nat} {F T : Nat → Nat} (hP : P ≤ 8) (hA : A ≤ 16) (hj : ∀ j, j < A → F j < P ∧ T j < P) {z : Int} (z1 : 0 ≤ z) (z2 : z < wcN P A F T) : ∃ l, wlN P A F T z = some l ∧ (∀ i, i < A → l.getD i 0 = wkM F T A (begN P A F T) (endN P A F T (shapeN P A F T) 1) (mgN 0 F T A (endN P A F T (shapeN P A F T) (-1)) 0) (wyW F T A (endN P A F T (shapeN P A F T) 1) (mgN 0 F T A (endN P A F T (shapeN P A F T) (-1)) 0)) z i) ∧ llN F (endN P A F T (shapeN P A F T) (-1)) A l = llM F A (endN P A F T (shapeN P A F T) (-1)) (wkM F T A (begN P A F T) (endN P A F T (shapeN P A F T) 1) (mgN 0 F T A (endN P A F T (shapeN P A F T) (-1)) 0) (wyW F T A (endN P A F T (shapeN P A F T) 1) (mgN 0 F T A (endN P A F T (shapeN P A F T) (-1)) 0)) z) A := by
  have hs : shapeN P A F T ≠ 0 := shape_pos (by omega)
  obtain ⟨l, a, b⟩ := wl_wk (e := endN P A F T (shapeN P A F T) (-1)) hP hA hj hs z1 z2
  refine ⟨l, a, b, ll_eq (fun j q => Nat.lt_of_lt_of_le (hj j q).1 hP) (fun i _ => wkM_lt hA (shp_cases hj hs).1 (by unfold begN; split <;> omega) (wyO_ok hP hA hj hs).1 z1 (by rw [← wc_wy hP hA hj hs]; exact z2) i) b⟩
theorem WkC.congr {h : Hp} {sl : Nat} {S S' : Nat → Nat} {ls ls' : Int} (hw : WkC h sl S ls) (hS : ∀ i, i < sl → S i = S' i) (hl : ls = ls') : WkC h sl S' ls' := by
  obtain ⟨⟨a, b, c, g, SE, e, k⟩, r⟩ := hw
  rw [← hl]
  exact ⟨⟨a, b, c, g, SE, e, fun i q => by rw [← hS i q]; exact k i q⟩, r⟩
set_option maxRecDepth 100000 in
theorem js_drawn (d : Nat) {h : Hp} (hI : INV h) (s : Int32) {Q : QT} (hQ : ∀ (r : Int64) (h1 : Hp), (∃ v w, h1 127 = mo v w) → (∀ Q2 : QT, (∀ h2, INV h2 → Q2 (some (.long r)) h2) → Call (d + 13) MX11_drawn [.ref 127, .int s] h1 Q2) → Q (some (.long r)) h1) : Call (d + 13) MX10_drawn [.ref 0, .int s] h Q := by
  obtain ⟨f, n, B, ⟨P, A, F, T⟩, hs, I, sl, S, ls, tw, wl, WS, v, w, O, hC, m0, hN, o⟩ := hI
  obtain ⟨c0, c1, c2, c3, c4, c5, c6, c7, c8, c9, c10⟩ := id hC
  obtain ⟨n7, nT, nR, nS, nK, nX, nF, nA, nB, nQ, nW, n28, nO, nY, nC, nD, nE, nG, nH⟩ := id hN
  have c3 : NetR h 8 P A F T := c3
  have nR : RowR h 129 P A F T := nR
  obtain ⟨hP, hA, hj⟩ := NetR.rng c3
  have hB : NetB F T A := net_b hA (fun j q => Nat.lt_of_lt_of_le (hj j q).2 hP)
  obtain ⟨s0, hdr⟩ := id c10
  have hall := wc_le hP hA hj
  refine sp_drawn (d + 5) c0 c7 c3 hB hall.2 hdr s (fun hc h1 e1 t1 => ?_) (fun hc h1 b e1 t1 t2 t3 => ?_)
  · have fr : ∀ j, (j < 70 ∨ 94 < j) → h1 j = h j := e1
    have hC1 : IC h1 f n B (P, A, F, T) hs I sl S ls tw wl WS := ⟨(fr 0 (by omega)).trans c0, c1.frame2 (fun j a b => fr j (by omega)), c2.frame (fun j a b => fr j (by omega)), c3.frame (fun j a b => fr j (by omega)), c4.frame (fun j a b => fr j (by omega)), c5.frame (fun j a b => fr j (by omega)), c6.frame2 (fun j a b => fr j (by omega)), t1, c8.frame (fun j a b => fr j (by omega)), c9.frame (fun j a b => fr j (by omega)), c10.frame (fr 126 (by omega))⟩
    have g1 : ∀ j, 126 < j → h1 j = h j := fun j a => fr j (by omega)
    have m1 := (g1 127 (by omega)).trans m0
    have o1 := (g1 149 (by omega)).trans o
    obtain ⟨n7, nT, nR, nS, nK, nX, nF, nA, nB, nQ, nW, n28, nO, nY, nC, nD, nE, nG, nH⟩ : IN h1 v f n B (P, A, F, T) hs I sl S ls tw wl WS := hN.frame (fun j a => g1 j (by omega)) (fun _ _ => rfl)
    have nR : RowR h1 129 P A F T := nR
    obtain ⟨Y, hY⟩ := nW.arr
    have hk : ∀ hs : shapeN P A F T ≠ 0, wyW F T A (endN P A F T (shapeN P A F T) 1) (mgN 0 F T A (endN P A F T (shapeN P A F T) (-1)) 0) (begN P A F T) = wcN P A F T := fun hs => (wc_wy hP hA hj hs).symm
    refine hQ _ _ ⟨_, _, m1⟩ (fun Q2 hQ2 => ?_)
    refine sm_drawn (d + 6) m1 nR nQ hY (fun hs => wyO_ok hP hA hj hs) (fun hs => by rw [hk hs]; exact hall.2) s (fun _ h2 v2 e2 m2 ev2 t3 => ?_) (fun c' => absurd (hk c'.1) (by have := c'.2; omega))
    have gr : ∀ j, (j ≠ 127 ∧ j ≠ 139 ∧ j ≠ 140) → h2 j = h1 j := fun j a => e2 j a.1 a.2.1 a.2.2
    have ev : ∀ j, 0 < j ∧ j ≠ 24 → v2 j = v j := fun j a => by rw [ev2 j (by omega), upd_at, if_neg (by omega)]
    exact hQ2 _ ⟨f, n, B, (P, A, F, T), hs, I, sl, S, ls, tw, wl, WS, v2, w, O, hC1.frame (fun j a => gr j (by omega)), m2, ⟨(ev 7 (by omega)).trans n7, nT.frame (gr 128 (by omega)) (ev 2 (by omega)), RowR.frame nR (gr 129 (by omega)), nS.frame (gr 132 (by omega)) (ev 19 (by omega)), nK.frame (gr 131 (by omega)) (gr 137 (by omega)), nX.frame2 (gr 130 (by omega)) (gr 136 (by omega)), nF.frame (gr 138 (by omega)), nA.frame (gr 135 (by omega)), nB.frame (gr 145 (by omega)), t3, nW.frame (gr 141 (by omega)) (ev 27 (by omega)), (ev 28 (by omega)).trans n28, nO.frame (gr 143 (by omega)) (ev 33 (by omega)), nY.frame (gr 144 (by omega)) (ev 34 (by omega)), nC.frame (gr 133 (by omega)), nD.frame (gr 134 (by omega)), nE.frame (gr 146 (by omega)), nG.frame (gr 147 (by omega)), nH.frame (gr 148 (by omega))⟩, (gr 149 (by omega)).trans o1⟩
  · have hsn : shapeN P A F T ≠ 0 := shape_pos (by omega)
    have hk : wyW F T A (endN P A F T (shapeN P A F T) 1) (mgN 0 F T A (endN P A F T (shapeN P A F T) (-1)) 0) (begN P A F T) = wcN P A F T := (wc_wy hP hA hj hsn).symm
    have hzb : evN (wcN P A F T).toNat s < (wcN P A F T).toNat := Nat.mod_lt _ (by omega)
    obtain ⟨z, hz⟩ : ∃ z : Int, z = ((evN (wcN P A F T).toNat s : Nat) : Int) := ⟨_, rfl⟩
    rw [← hz] at t2 t3 ⊢
    have hzb : 0 ≤ z ∧ z < wcN P A F T := by omega
    obtain ⟨l, l1, l2, l3⟩ := wl_both hP hA hj hzb.1 hzb.2
    have t4 := (t3 l l1).congr l2 (by rw [l3])
    have fr : ∀ j, (j ≠ 126 ∧ (j < 70 ∨ 94 < j)) → h1 j = h j := fun j a => e1 j a.1 a.2
    have hC1 : IC h1 f n B (P, A, F, T) hs I A (wkM F T A (begN P A F T) (endN P A F T (shapeN P A F T) 1) (mgN 0 F T A (endN P A F T (shapeN P A F T) (-1)) 0) (wyW F T A (endN P A F T (shapeN P A F T) 1) (mgN 0 F T A (endN P A F T (shapeN P A F T) (-1)) 0)) z) _ tw wl WS := ⟨(fr 0 (by omega)).trans c0, c1.frame2 (fun j a b => fr j (by omega)), c2.frame (fun j a b => fr j (by omega)), c3.frame (fun j a b => fr j (by omega)), c4.frame (fun j a b => fr j (by omega)), c5.frame (fun j a b => fr j (by omega)), c6.frame2 (fun j a b => fr j (by omega)), t4, c8.frame (fun j a b => fr j (by omega)), c9.frame (fun j a b => fr j (by omega)), ⟨_, t1⟩⟩
    have g1 : ∀ j, 126 < j → h1 j = h j := fun j a => fr j (by omega)
    have m1 := (g1 127 (by omega)).trans m0
    have o1 := (g1 149 (by omega)).trans o
    obtain ⟨n7, nT, nR, nS, nK, nX, nF, nA, nB, nQ, nW, n28, nO, nY, nC, nD, nE, nG, nH⟩ : IN h1 v f n B (P, A, F, T) hs I sl S ls tw wl WS := hN.frame (fun j a => g1 j (by omega)) (fun _ _ => rfl)
    have nR : RowR h1 129 P A F T := nR
    obtain ⟨Y, hY⟩ := nW.arr
    refine hQ _ _ ⟨_, _, m1⟩ (fun Q2 hQ2 => ?_)
    refine sm_drawn (d + 6) m1 nR nQ hY (fun hs => wyO_ok hP hA hj hs) (fun hs => by rw [hk]; exact hall.2) s (fun c' => absurd ⟨hsn, by rw [hk]; omega⟩ c') (fun _ h2 v2 e2 m2 ev2 u1 u2 u3 u4 => ?_)
    rw [hk, ← hz] at u3 u4 ⊢
    have gr : ∀ j, (j ≠ 127 ∧ (j < 139 ∨ 142 < j)) → h2 j = h1 j := fun j a => e2 j a.1 a.2
    have ev : ∀ j, 0 < j ∧ j ≠ 24 ∧ j ≠ 27 ∧ j ≠ 28 ∧ j ≠ 29 → v2 j = v j := fun j a => by rw [ev2 j (by omega) (by omega) (by omega) (by omega), upd_at, if_neg (by omega)]
    exact hQ2 _ ⟨f, n, B, (P, A, F, T), hs, I, A, _, _, tw, wl, WS, v2, w, O, hC1.frame (fun j a => gr j (by omega)), m2, ⟨(ev 7 (by omega)).trans n7, nT.frame (gr 128 (by omega)) (ev 2 (by omega)), RowR.frame nR (gr 129 (by omega)), nS.frame (gr 132 (by omega)) (ev 19 (by omega)), nK.frame (gr 131 (by omega)) (gr 137 (by omega)), nX.frame2 (gr 130 (by omega)) (gr 136 (by omega)), nF.frame (gr 138 (by omega)), nA.frame (gr 135 (by omega)), nB.frame (gr 145 (by omega)), u1, ⟨u2, hA, u4⟩, u3, nO.frame (gr 143 (by omega)) (ev 33 (by omega)), nY.frame (gr 144 (by omega)) (ev 34 (by omega)), nC.frame (gr 133 (by omega)), nD.frame (gr 134 (by omega)), nE.frame (gr 146 (by omega)), nG.frame (gr 147 (by omega)), nH.frame (gr 148 (by omega))⟩, (gr 149 (by omega)).trans o1⟩
