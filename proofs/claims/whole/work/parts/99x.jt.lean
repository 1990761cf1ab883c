/-! ONE CALL OF THE LAW: methods that throw -/
def THR (k : Int) (b : Int32) (h : Hp) : Prop := INV h ∧ (∃ v w, h 127 = mo v w ∧ v 0 = Int32.ofInt k) ∧ (k = 0 → ∃ O, h 149 = la 1 O ∧ O 0 = b.toInt64)
theorem up149 {h : Hp} {e : va_E} {j : Nat} (a : j ≠ 149) : va_up h 149 e j = h j := by rw [va_up_at, if_neg a]
theorem up1 {h h1 : Hp} {e : va_E} {j : Nat} (hh : va_up h 149 e = h1) (a : j ≠ 149) : h1 j = h j := by rw [← hh]; exact up149 a
theorem at149 {h : Hp} {e : va_E} : va_up h 149 e 149 = e := by rw [va_up_at, if_pos rfl]
theorem updL0 {O : Nat → Int64} {x : Int64} : vp_updL O 0 x 0 = x := by simp [vpL_at]
theorem upd00 {v : Nat → Int32} {x : Int32} : upd v 0 x 0 = x := by rw [upd_at, if_pos rfl]
set_option maxRecDepth 100000 in
theorem jt_arc (d : Nat) {h : Hp} (hI : INV h) (x y : Int32) {Q : QT} (hQ : ∀ (k : Int) (h1 : Hp), (k = 0 ∨ k = 1) → (∃ v w, h1 127 = mo v w) → (∀ Q2 : QT, (∀ (b : Int32) (h2 : Hp), THR k b h2 → Q2 (some (.int b)) h2) → Call (d + 13) MX11_arc [.ref 127, .int x, .int y] h1 Q2) → Q (some (.int (Int32.ofInt k))) h1) : CallH (d + 13) ML_arc [(0, 10, 13, 13)] [.ref 0, .int x, .int y, .ref 149] h Q := by
  obtain ⟨f, n, B, ⟨P, A, F, T⟩, hs, I, sl, S, ls, tw, wl, WS, v, w, O, hC, m0, hN, o⟩ := hI
  obtain ⟨c0, c1, c2, c3, c4, c5, c6, c7, c8, c9, c10⟩ := id hC
  obtain ⟨n7, nT, nR, nS, nK, nX, nF, nA, nB, nQ, nW, n28, nO, nY, nC, nD, nE, nG, nH⟩ := id hN
  have c3 : NetR h 8 P A F T := c3
  have nR : RowR h 129 P A F T := nR
  obtain ⟨a, rfl, a1, a2⟩ := i32z x
  obtain ⟨b, rfl, b1, b2⟩ := i32z y
  refine sh_arc (d + 12) c0 (PQ := fun r h' => h' = h ∧ ((0 ≤ a ∧ a < A) ∧ (0 ≤ b ∧ b ≤ 1)) ∧ r = Int32.ofInt (if b = 0 then F a.toNat else T a.toNat : Nat)) (PX := fun h' => h' = h ∧ ¬ ((0 ≤ a ∧ a < A) ∧ (0 ≤ b ∧ b ≤ 1))) (fun Q' X' q1 q2 => st_arc (d + 6) c0 c3 a b a1 a2 b1 b2 (fun hc => q2 _ ⟨rfl, hc⟩) (fun hc => q1 _ _ ⟨rfl, hc, rfl⟩)) (fun r h' hp => ⟨O, by rw [hp.1]; exact o⟩) (fun r h' O' hp ho => ?_) (fun h' hp => ?_)
  · obtain ⟨eh, hc, rfl⟩ := hp
    rw [eh]
    have fr0 : ∀ j, 0 ≤ j → h j = h j := fun _ _ => rfl
    generalize hh1 : va_up h 149 _ = h1
    have a149 := (congrFun hh1 149).symm.trans at149
    have fr : ∀ j, (0 ≤ j) ∧ j ≠ 149 → h1 j = h j := fun j a => by rw [← hh1]; exact (up149 a.2).trans (fr0 j a.1)
    have hC1 : IC h1 f n B (P, A, F, T) hs I sl S ls tw wl WS := ⟨(fr 0 (by omega)).trans c0, c1.frame2 (fun j a b => fr j (by omega)), c2.frame (fun j a b => fr j (by omega)), c3.frame (fun j a b => fr j (by omega)), c4.frame (fun j a b => fr j (by omega)), c5.frame (fun j a b => fr j (by omega)), c6.frame2 (fun j a b => fr j (by omega)), c7.frame (fun j a b => fr j (by omega)), c8.frame (fun j a b => fr j (by omega)), c9.frame (fun j a b => fr j (by omega)), c10.frame (fr 126 (by omega))⟩
    have g1 : ∀ j, 126 < j ∧ j ≠ 149 → h1 j = h j := fun j a => fr j (by omega)
    have m1 := (g1 127 (by omega)).trans m0
    obtain ⟨n7, nT, nR, nS, nK, nX, nF, nA, nB, nQ, nW, n28, nO, nY, nC, nD, nE, nG, nH⟩ : IN h1 v f n B (P, A, F, T) hs I sl S ls tw wl WS := hN.frame (fun j a => g1 j (by omega)) (fun _ _ => rfl)
    have nR : RowR h1 129 P A F T := nR
    refine hQ 0 _ (Or.inl rfl) ⟨_, _, m1⟩ (fun Q2 hQ2 => ?_)
    refine sm_arc (d + 10) m1 nR a b a1 a2 b1 b2 (fun c' => absurd hc c') (fun _ h2 e2 m2 => ?_)
    have gr : ∀ j, j ≠ 127 → h2 j = h1 j := e2
    have ev : ∀ j, 0 < j → upd v 0 (Int32.ofInt 0) j = v j := fun j a => by rw [upd_at, if_neg (by omega)]
    exact hQ2 _ _ ⟨⟨f, n, B, (P, A, F, T), hs, I, sl, S, ls, tw, wl, WS, upd v 0 (Int32.ofInt 0), w, _, hC1.frame (fun j a => gr j (by omega)), m2, ⟨(ev 7 (by omega)).trans n7, nT.frame (gr 128 (by omega)) (ev 2 (by omega)), RowR.frame nR (gr 129 (by omega)), nS.frame (gr 132 (by omega)) (ev 19 (by omega)), nK.frame (gr 131 (by omega)) (gr 137 (by omega)), nX.frame2 (gr 130 (by omega)) (gr 136 (by omega)), nF.frame (gr 138 (by omega)), nA.frame (gr 135 (by omega)), nB.frame (gr 145 (by omega)), nQ.frame2 (gr 139 (by omega)) (gr 140 (by omega)) (gr 142 (by omega)), nW.frame (gr 141 (by omega)) (ev 27 (by omega)), (ev 28 (by omega)).trans n28, nO.frame (gr 143 (by omega)) (ev 33 (by omega)), nY.frame (gr 144 (by omega)) (ev 34 (by omega)), nC.frame (gr 133 (by omega)), nD.frame (gr 134 (by omega)), nE.frame (gr 146 (by omega)), nG.frame (gr 147 (by omega)), nH.frame (gr 148 (by omega))⟩, (gr 149 (by omega)).trans a149⟩, ⟨upd v 0 (Int32.ofInt 0), w, m2, upd00⟩, fun _ => ⟨_, (gr 149 (by omega)).trans a149, updL0⟩⟩
  · obtain ⟨eh, hc⟩ := hp
    rw [eh]
    have hC1 := hC
    have m1 := m0
    have o1 := o
    refine hQ 1 _ (Or.inr rfl) ⟨_, _, m1⟩ (fun Q2 hQ2 => ?_)
    refine sm_arc (d + 10) m1 nR a b a1 a2 b1 b2 (fun _ h2 e2 m2 => ?_) (fun c' => absurd c' hc)
    have gr : ∀ j, j ≠ 127 → h2 j = h j := e2
    have ev : ∀ j, 0 < j → upd v 0 (Int32.ofInt 1) j = v j := fun j a => by rw [upd_at, if_neg (by omega)]
    exact hQ2 _ _ ⟨⟨f, n, B, (P, A, F, T), hs, I, sl, S, ls, tw, wl, WS, upd v 0 (Int32.ofInt 1), w, O, hC1.frame (fun j a => gr j (by omega)), m2, ⟨(ev 7 (by omega)).trans n7, nT.frame (gr 128 (by omega)) (ev 2 (by omega)), RowR.frame nR (gr 129 (by omega)), nS.frame (gr 132 (by omega)) (ev 19 (by omega)), nK.frame (gr 131 (by omega)) (gr 137 (by omega)), nX.frame2 (gr 130 (by omega)) (gr 136 (by omega)), nF.frame (gr 138 (by omega)), nA.frame (gr 135 (by omega)), nB.frame (gr 145 (by omega)), nQ.frame2 (gr 139 (by omega)) (gr 140 (by omega)) (gr 142 (by omega)), nW.frame (gr 141 (by omega)) (ev 27 (by omega)), (ev 28 (by omega)).trans n28, nO.frame (gr 143 (by omega)) (ev 33 (by omega)), nY.frame (gr 144 (by omega)) (ev 34 (by omega)), nC.frame (gr 133 (by omega)), nD.frame (gr 134 (by omega)), nE.frame (gr 146 (by omega)), nG.frame (gr 147 (by omega)), nH.frame (gr 148 (by omega))⟩, (gr 149 (by omega)).trans o1⟩, ⟨upd v 0 (Int32.ofInt 1), w, m2, upd00⟩, fun q => absurd q (by decide)⟩
set_option maxRecDepth 100000 in
theorem jt_degree (d : Nat) {h : Hp} (hI : INV h) (x y : Int32) {Q : QT} (hQ : ∀ (k : Int) (h1 : Hp), (k = 0 ∨ k = 1) → (∃ v w, h1 127 = mo v w) → (∀ Q2 : QT, (∀ (b : Int32) (h2 : Hp), THR k b h2 → Q2 (some (.int b)) h2) → Call (d + 13) MX11_degree [.ref 127, .int x, .int y] h1 Q2) → Q (some (.int (Int32.ofInt k))) h1) : CallH (d + 13) ML_degree [(0, 10, 13, 13)] [.ref 0, .int x, .int y, .ref 149] h Q := by
  obtain ⟨f, n, B, ⟨P, A, F, T⟩, hs, I, sl, S, ls, tw, wl, WS, v, w, O, hC, m0, hN, o⟩ := hI
  obtain ⟨c0, c1, c2, c3, c4, c5, c6, c7, c8, c9, c10⟩ := id hC
  obtain ⟨n7, nT, nR, nS, nK, nX, nF, nA, nB, nQ, nW, n28, nO, nY, nC, nD, nE, nG, nH⟩ := id hN
  have c3 : NetR h 8 P A F T := c3
  have nR : RowR h 129 P A F T := nR
  obtain ⟨a, rfl, a1, a2⟩ := i32z x
  obtain ⟨b, rfl, b1, b2⟩ := i32z y
  refine sh_degree (d + 12) c0 (PQ := fun r h' => h' = h ∧ ((0 ≤ a ∧ a < P) ∧ (0 ≤ b ∧ b ≤ 1)) ∧ r = Int32.ofInt (if b = 0 then cntN F a.toNat A else cntN T a.toNat A : Nat)) (PX := fun h' => h' = h ∧ ¬ ((0 ≤ a ∧ a < P) ∧ (0 ≤ b ∧ b ≤ 1))) (fun Q' X' q1 q2 => st_degree (d + 6) c0 c3 a b a1 a2 b1 b2 (fun hc => q2 _ ⟨rfl, hc⟩) (fun hc => q1 _ _ ⟨rfl, hc, rfl⟩)) (fun r h' hp => ⟨O, by rw [hp.1]; exact o⟩) (fun r h' O' hp ho => ?_) (fun h' hp => ?_)
  · obtain ⟨eh, hc, rfl⟩ := hp
    rw [eh]
    have fr0 : ∀ j, 0 ≤ j → h j = h j := fun _ _ => rfl
    generalize hh1 : va_up h 149 _ = h1
    have a149 := (congrFun hh1 149).symm.trans at149
    have fr : ∀ j, (0 ≤ j) ∧ j ≠ 149 → h1 j = h j := fun j a => by rw [← hh1]; exact (up149 a.2).trans (fr0 j a.1)
    have hC1 : IC h1 f n B (P, A, F, T) hs I sl S ls tw wl WS := ⟨(fr 0 (by omega)).trans c0, c1.frame2 (fun j a b => fr j (by omega)), c2.frame (fun j a b => fr j (by omega)), c3.frame (fun j a b => fr j (by omega)), c4.frame (fun j a b => fr j (by omega)), c5.frame (fun j a b => fr j (by omega)), c6.frame2 (fun j a b => fr j (by omega)), c7.frame (fun j a b => fr j (by omega)), c8.frame (fun j a b => fr j (by omega)), c9.frame (fun j a b => fr j (by omega)), c10.frame (fr 126 (by omega))⟩
    have g1 : ∀ j, 126 < j ∧ j ≠ 149 → h1 j = h j := fun j a => fr j (by omega)
    have m1 := (g1 127 (by omega)).trans m0
    obtain ⟨n7, nT, nR, nS, nK, nX, nF, nA, nB, nQ, nW, n28, nO, nY, nC, nD, nE, nG, nH⟩ : IN h1 v f n B (P, A, F, T) hs I sl S ls tw wl WS := hN.frame (fun j a => g1 j (by omega)) (fun _ _ => rfl)
    have nR : RowR h1 129 P A F T := nR
    refine hQ 0 _ (Or.inl rfl) ⟨_, _, m1⟩ (fun Q2 hQ2 => ?_)
    refine sm_degree (d + 10) m1 nR a b a1 a2 b1 b2 (fun c' => absurd hc c') (fun _ h2 e2 m2 => ?_)
    have gr : ∀ j, j ≠ 127 → h2 j = h1 j := e2
    have ev : ∀ j, 0 < j → upd v 0 (Int32.ofInt 0) j = v j := fun j a => by rw [upd_at, if_neg (by omega)]
    exact hQ2 _ _ ⟨⟨f, n, B, (P, A, F, T), hs, I, sl, S, ls, tw, wl, WS, upd v 0 (Int32.ofInt 0), w, _, hC1.frame (fun j a => gr j (by omega)), m2, ⟨(ev 7 (by omega)).trans n7, nT.frame (gr 128 (by omega)) (ev 2 (by omega)), RowR.frame nR (gr 129 (by omega)), nS.frame (gr 132 (by omega)) (ev 19 (by omega)), nK.frame (gr 131 (by omega)) (gr 137 (by omega)), nX.frame2 (gr 130 (by omega)) (gr 136 (by omega)), nF.frame (gr 138 (by omega)), nA.frame (gr 135 (by omega)), nB.frame (gr 145 (by omega)), nQ.frame2 (gr 139 (by omega)) (gr 140 (by omega)) (gr 142 (by omega)), nW.frame (gr 141 (by omega)) (ev 27 (by omega)), (ev 28 (by omega)).trans n28, nO.frame (gr 143 (by omega)) (ev 33 (by omega)), nY.frame (gr 144 (by omega)) (ev 34 (by omega)), nC.frame (gr 133 (by omega)), nD.frame (gr 134 (by omega)), nE.frame (gr 146 (by omega)), nG.frame (gr 147 (by omega)), nH.frame (gr 148 (by omega))⟩, (gr 149 (by omega)).trans a149⟩, ⟨upd v 0 (Int32.ofInt 0), w, m2, upd00⟩, fun _ => ⟨_, (gr 149 (by omega)).trans a149, updL0⟩⟩
  · obtain ⟨eh, hc⟩ := hp
    rw [eh]
    have hC1 := hC
    have m1 := m0
    have o1 := o
    refine hQ 1 _ (Or.inr rfl) ⟨_, _, m1⟩ (fun Q2 hQ2 => ?_)
    refine sm_degree (d + 10) m1 nR a b a1 a2 b1 b2 (fun _ h2 e2 m2 => ?_) (fun c' => absurd c' hc)
    have gr : ∀ j, j ≠ 127 → h2 j = h j := e2
    have ev : ∀ j, 0 < j → upd v 0 (Int32.ofInt 1) j = v j := fun j a => by rw [upd_at, if_neg (by omega)]
    exact hQ2 _ _ ⟨⟨f, n, B, (P, A, F, T), hs, I, sl, S, ls, tw, wl, WS, upd v 0 (Int32.ofInt 1), w, O, hC1.frame (fun j a => gr j (by omega)), m2, ⟨(ev 7 (by omega)).trans n7, nT.frame (gr 128 (by omega)) (ev 2 (by omega)), RowR.frame nR (gr 129 (by omega)), nS.frame (gr 132 (by omega)) (ev 19 (by omega)), nK.frame (gr 131 (by omega)) (gr 137 (by omega)), nX.frame2 (gr 130 (by omega)) (gr 136 (by omega)), nF.frame (gr 138 (by omega)), nA.frame (gr 135 (by omega)), nB.frame (gr 145 (by omega)), nQ.frame2 (gr 139 (by omega)) (gr 140 (by omega)) (gr 142 (by omega)), nW.frame (gr 141 (by omega)) (ev 27 (by omega)), (ev 28 (by omega)).trans n28, nO.frame (gr 143 (by omega)) (ev 33 (by omega)), nY.frame (gr 144 (by omega)) (ev 34 (by omega)), nC.frame (gr 133 (by omega)), nD.frame (gr 134 (by omega)), nE.frame (gr 146 (by omega)), nG.frame (gr 147 (by omega)), nH.frame (gr 148 (by omega))⟩, (gr 149 (by omega)).trans o1⟩, ⟨upd v 0 (Int32.ofInt 1), w, m2, upd00⟩, fun q => absurd q (by decide)⟩
set_option maxRecDepth 100000 in
theorem jt_tree (d : Nat) {h : Hp} (hI : INV h) (x y : Int32) {Q : QT} (hQ : ∀ (k : Int) (h1 : Hp), (k = 0 ∨ k = 1) → (∃ v w, h1 127 = mo v w) → (∀ Q2 : QT, (∀ (b : Int32) (h2 : Hp), THR k b h2 → Q2 (some (.int b)) h2) → Call (d + 13) MX11_tree [.ref 127, .int x, .int y] h1 Q2) → Q (some (.int (Int32.ofInt k))) h1) : CallH (d + 13) ML_tree [(0, 10, 13, 13)] [.ref 0, .int x, .int y, .ref 149] h Q := by
  obtain ⟨f, n, B, ⟨P, A, F, T⟩, hs, I, sl, S, ls, tw, wl, WS, v, w, O, hC, m0, hN, o⟩ := hI
  obtain ⟨c0, c1, c2, c3, c4, c5, c6, c7, c8, c9, c10⟩ := id hC
  obtain ⟨n7, nT, nR, nS, nK, nX, nF, nA, nB, nQ, nW, n28, nO, nY, nC, nD, nE, nG, nH⟩ := id hN
  have c3 : NetR h 8 P A F T := c3
  have nR : RowR h 129 P A F T := nR
  obtain ⟨a, rfl, a1, a2⟩ := i32z x
  obtain ⟨b, rfl, b1, b2⟩ := i32z y
  obtain ⟨hP, hA, hj⟩ := NetR.rng c3
  have hB : NetB F T A := net_b hA (fun j q => Nat.lt_of_lt_of_le (hj j q).2 hP)
  obtain ⟨US, hUS⟩ : ∃ US, US = (decide (0 ≤ a ∧ a < P) && (usedN F T A).testBit a.toNat) := ⟨_, rfl⟩
  have hof : US = true → (∀ x, tfN (chM F T A a.toNat P 0 0) b (chM F T A a.toNat P 0 0).length 0 = some x → ofN F T A a.toNat b = (x : Int)) ∧ (tfN (chM F T A a.toNat P 0 0) b (chM F T A a.toNat P 0 0).length 0 = none → ofN F T A a.toNat b = -1) := fun hu => by
    rw [hUS] at hu
    have c2 := (Bool.and_eq_true _ _).mp hu
    exact of_tf hA hP hj (used_lt hj c2.2) c2.2 b
  have hel : ∀ x ∈ chM F T A a.toNat P 0 0, x < 65536 := chM_lt hA P 0 0 (by decide)
  have htf : ∀ x, tfN (chM F T A a.toNat P 0 0) b (chM F T A a.toNat P 0 0).length 0 = some x → x < 65536 := fun x hx => hel x (tf_iff.mp hx).1
  have hob : US = true → -1 ≤ ofN F T A a.toNat b ∧ ofN F T A a.toNat b < 65536 := fun hu => by
    cases ht : tfN (chM F T A a.toNat P 0 0) b (chM F T A a.toNat P 0 0).length 0 with
    | none => rw [(hof hu).2 ht]; decide
    | some x =>
      have := htf x ht
      rw [(hof hu).1 x ht]
      omega
  refine sh_tree (d + 12) c0 (PQ := fun r h' => (∀ j, j < 49 ∨ 69 < j → h' j = h j) ∧ TrsR h' ∧ US = true ∧ ofN F T A a.toNat b ≠ -1 ∧ r = Int32.ofInt (ofN F T A a.toNat b)) (PX := fun h' => (∀ j, j < 49 ∨ 69 < j → h' j = h j) ∧ TrsR h' ∧ (US = true → ofN F T A a.toNat b = -1)) (fun Q' X' q1 q2 => st_tree (d + 6) c0 c6 c3 hB.1 a b a1 a2 b1 b2 (by rw [← hUS]; exact hob) (fun hc h' e t => q2 _ ⟨e, t, by rw [hUS]; exact hc⟩) (fun hu hc h' e t => q1 _ _ ⟨e, t, by rw [hUS]; exact hu, hc, rfl⟩)) (fun r h' hp => ⟨O, (hp.1 149 (by omega)).trans o⟩) (fun r h' O' hp ho => ?_) (fun h' hp => ?_)
  · obtain ⟨e1, t1, hu, hc, rfl⟩ := hp
    have fr0 : ∀ j, (j < 49 ∨ 69 < j) → h' j = h j := e1
    generalize hh1 : va_up h' 149 _ = h1
    have a149 := (congrFun hh1 149).symm.trans at149
    have fr : ∀ j, (j < 49 ∨ 69 < j) ∧ j ≠ 149 → h1 j = h j := fun j a => by rw [← hh1]; exact (up149 a.2).trans (fr0 j a.1)
    have hC1 : IC h1 f n B (P, A, F, T) hs I sl S ls tw wl WS := ⟨(fr 0 (by omega)).trans c0, c1.frame2 (fun j a b => fr j (by omega)), c2.frame (fun j a b => fr j (by omega)), c3.frame (fun j a b => fr j (by omega)), c4.frame (fun j a b => fr j (by omega)), c5.frame (fun j a b => fr j (by omega)), t1.frame2 (fun j a b => up1 hh1 (by omega)), c7.frame (fun j a b => fr j (by omega)), c8.frame (fun j a b => fr j (by omega)), c9.frame (fun j a b => fr j (by omega)), c10.frame (fr 126 (by omega))⟩
    have g1 : ∀ j, 126 < j ∧ j ≠ 149 → h1 j = h j := fun j a => fr j (by omega)
    have m1 := (g1 127 (by omega)).trans m0
    obtain ⟨n7, nT, nR, nS, nK, nX, nF, nA, nB, nQ, nW, n28, nO, nY, nC, nD, nE, nG, nH⟩ : IN h1 v f n B (P, A, F, T) hs I sl S ls tw wl WS := hN.frame (fun j a => g1 j (by omega)) (fun _ _ => rfl)
    have nR : RowR h1 129 P A F T := nR
    obtain ⟨X, hX⟩ := id nF
    refine hQ 0 _ (Or.inl rfl) ⟨_, _, m1⟩ (fun Q2 hQ2 => ?_)
    refine sm_tree d m1 nR hX a b a1 a2 b1 b2 (ch_room hA hP hj) hel (fun c' => absurd ((hof hu).2 (c' (by rw [← hUS]; exact hu))) hc) (fun x _ hx h2 v2 e2 m2 ev2 t2 => ?_)
    have gr : ∀ j, (j ≠ 127 ∧ j ≠ 138) → h2 j = h1 j := fun j a => e2 j a.1 a.2
    have ev : ∀ j, 0 < j ∧ j ≠ 21 → v2 j = v j := fun j a => by rw [ev2 j (by omega), upd_at, if_neg (by omega)]
    have ex := (hof hu).1 x hx
    rw [← ex]
    exact hQ2 _ _ ⟨⟨f, n, B, (P, A, F, T), hs, I, sl, S, ls, tw, wl, WS, v2, w, _, hC1.frame (fun j a => gr j (by omega)), m2, ⟨(ev 7 (by omega)).trans n7, nT.frame (gr 128 (by omega)) (ev 2 (by omega)), RowR.frame nR (gr 129 (by omega)), nS.frame (gr 132 (by omega)) (ev 19 (by omega)), nK.frame (gr 131 (by omega)) (gr 137 (by omega)), nX.frame2 (gr 130 (by omega)) (gr 136 (by omega)), t2, nA.frame (gr 135 (by omega)), nB.frame (gr 145 (by omega)), nQ.frame2 (gr 139 (by omega)) (gr 140 (by omega)) (gr 142 (by omega)), nW.frame (gr 141 (by omega)) (ev 27 (by omega)), (ev 28 (by omega)).trans n28, nO.frame (gr 143 (by omega)) (ev 33 (by omega)), nY.frame (gr 144 (by omega)) (ev 34 (by omega)), nC.frame (gr 133 (by omega)), nD.frame (gr 134 (by omega)), nE.frame (gr 146 (by omega)), nG.frame (gr 147 (by omega)), nH.frame (gr 148 (by omega))⟩, (gr 149 (by omega)).trans a149⟩, ⟨v2, w, m2, (by rw [ev2 0 (by omega)]; exact upd00)⟩, fun _ => ⟨_, (gr 149 (by omega)).trans a149, updL0⟩⟩
  · obtain ⟨e1, t1, hc⟩ := hp
    have fr : ∀ j, (j < 49 ∨ 69 < j) → h' j = h j := e1
    have hC1 : IC h' f n B (P, A, F, T) hs I sl S ls tw wl WS := ⟨(fr 0 (by omega)).trans c0, c1.frame2 (fun j a b => fr j (by omega)), c2.frame (fun j a b => fr j (by omega)), c3.frame (fun j a b => fr j (by omega)), c4.frame (fun j a b => fr j (by omega)), c5.frame (fun j a b => fr j (by omega)), t1, c7.frame (fun j a b => fr j (by omega)), c8.frame (fun j a b => fr j (by omega)), c9.frame (fun j a b => fr j (by omega)), c10.frame (fr 126 (by omega))⟩
    have g1 : ∀ j, 126 < j → h' j = h j := fun j a => fr j (by omega)
    have m1 := (g1 127 (by omega)).trans m0
    have o1 := (g1 149 (by omega)).trans o
    obtain ⟨n7, nT, nR, nS, nK, nX, nF, nA, nB, nQ, nW, n28, nO, nY, nC, nD, nE, nG, nH⟩ : IN h' v f n B (P, A, F, T) hs I sl S ls tw wl WS := hN.frame (fun j a => g1 j (by omega)) (fun _ _ => rfl)
    have nR : RowR h' 129 P A F T := nR
    obtain ⟨X, hX⟩ := id nF
    refine hQ 1 _ (Or.inr rfl) ⟨_, _, m1⟩ (fun Q2 hQ2 => ?_)
    refine sm_tree d m1 nR hX a b a1 a2 b1 b2 (ch_room hA hP hj) hel (fun _ h2 v2 e2 m2 ev2 t2 => ?_) (fun x hu hx => absurd (((hof (by rw [hUS]; exact hu)).1 x hx).symm.trans (hc (by rw [hUS]; exact hu))) (by omega))
    have gr : ∀ j, (j ≠ 127 ∧ j ≠ 138) → h2 j = h' j := fun j a => e2 j a.1 a.2
    have ev : ∀ j, 0 < j ∧ j ≠ 21 → v2 j = v j := fun j a => by rw [ev2 j (by omega), upd_at, if_neg (by omega)]
    exact hQ2 _ _ ⟨⟨f, n, B, (P, A, F, T), hs, I, sl, S, ls, tw, wl, WS, v2, w, O, hC1.frame (fun j a => gr j (by omega)), m2, ⟨(ev 7 (by omega)).trans n7, nT.frame (gr 128 (by omega)) (ev 2 (by omega)), RowR.frame nR (gr 129 (by omega)), nS.frame (gr 132 (by omega)) (ev 19 (by omega)), nK.frame (gr 131 (by omega)) (gr 137 (by omega)), nX.frame2 (gr 130 (by omega)) (gr 136 (by omega)), t2, nA.frame (gr 135 (by omega)), nB.frame (gr 145 (by omega)), nQ.frame2 (gr 139 (by omega)) (gr 140 (by omega)) (gr 142 (by omega)), nW.frame (gr 141 (by omega)) (ev 27 (by omega)), (ev 28 (by omega)).trans n28, nO.frame (gr 143 (by omega)) (ev 33 (by omega)), nY.frame (gr 144 (by omega)) (ev 34 (by omega)), nC.frame (gr 133 (by omega)), nD.frame (gr 134 (by omega)), nE.frame (gr 146 (by omega)), nG.frame (gr 147 (by omega)), nH.frame (gr 148 (by omega))⟩, (gr 149 (by omega)).trans o1⟩, ⟨v2, w, m2, (by rw [ev2 0 (by omega)]; exact upd00)⟩, fun q => absurd q (by decide)⟩
theorem wl_bd {P A : Nat} {F T : Nat → Nat} {z : Int} {l : List Nat} (h : wlN P A F T z = some l) : 0 ≤ z ∧ z < wcN P A F T := by
  by_cases c : 0 ≤ z ∧ z < wcN P A F T
  · exact c
  · have e : wlN P A F T z = none := if_neg (by omega)
    rw [e] at h
    cases h
set_option maxRecDepth 100000 in
theorem jt_walk (d : Nat) {h : Hp} (hI : INV h) (x : Int64) {Q : QT} (hQ : ∀ (k : Int) (h1 : Hp), (k = 0 ∨ k = 1) → (∃ v w, h1 127 = mo v w) → (∀ Q2 : QT, (∀ (b : Int32) (h2 : Hp), THR k b h2 → Q2 (some (.int b)) h2) → Call (d + 13) MX11_walk [.ref 127, .long x] h1 Q2) → Q (some (.int (Int32.ofInt k))) h1) : CallH (d + 13) ML_walk [(0, 9, 12, 13)] [.ref 0, .long x, .ref 149] h Q := by
  obtain ⟨f, n, B, ⟨P, A, F, T⟩, hs, I, sl, S, ls, tw, wl, WS, v, w, O, hC, m0, hN, o⟩ := hI
  obtain ⟨c0, c1, c2, c3, c4, c5, c6, c7, c8, c9, c10⟩ := id hC
  obtain ⟨n7, nT, nR, nS, nK, nX, nF, nA, nB, nQ, nW, n28, nO, nY, nC, nD, nE, nG, nH⟩ := id hN
  have c3 : NetR h 8 P A F T := c3
  have nR : RowR h 129 P A F T := nR
  obtain ⟨z, rfl, z1, z2⟩ := i64z x
  obtain ⟨hP, hA, hj⟩ := NetR.rng c3
  have hB : NetB F T A := net_b hA (fun j q => Nat.lt_of_lt_of_le (hj j q).2 hP)
  have hk : shapeN P A F T ≠ 0 → wyW F T A (endN P A F T (shapeN P A F T) 1) (mgN 0 F T A (endN P A F T (shapeN P A F T) (-1)) 0) (begN P A F T) = wcN P A F T := fun hs => (wc_wy hP hA hj hs).symm
  refine sh_walk (d + 12) c0 (PQ := fun r h' => (∀ j, j < 70 ∨ 94 < j → h' j = h j) ∧ ∃ l, wlN P A F T z = some l ∧ WkC h' A (fun i => l.getD i 0) (llN F (endN P A F T (shapeN P A F T) (-1)) A l) ∧ r = Int32.ofInt (l.getD (A - 1) 0 : Nat)) (PX := fun h' => (∀ j, j < 70 ∨ 94 < j → h' j = h j) ∧ WkC h' sl S ls ∧ wlN P A F T z = none) (fun Q' X' q1 q2 => st_walk (d + 4) c0 c7 c3 hB z z1 z2 (fun l hl => (shp_cases hj (shape_pos (by have := wl_bd hl; omega))).1) (fun hc h' e t => q2 _ ⟨e, t, hc⟩) (fun l hl h' e t => q1 _ _ ⟨e, l, hl, t, rfl⟩)) (fun r h' hp => ⟨O, (hp.1 149 (by omega)).trans o⟩) (fun r h' O' hp ho => ?_) (fun h' hp => ?_)
  · obtain ⟨e1, l, hl, t1, rfl⟩ := hp
    have hz := wl_bd hl
    have hsn : shapeN P A F T ≠ 0 := shape_pos (by omega)
    have hA1 := (shp_cases hj hsn).1
    obtain ⟨l', l1, l2, l3⟩ := wl_both hP hA hj hz.1 hz.2
    have el : l' = l := Option.some.inj (l1.symm.trans hl)
    rw [el] at l2 l3
    have t4 := t1.congr l2 (by rw [l3])
    have fr0 : ∀ j, (j < 70 ∨ 94 < j) → h' j = h j := e1
    generalize hh1 : va_up h' 149 _ = h1
    have a149 := (congrFun hh1 149).symm.trans at149
    have fr : ∀ j, (j < 70 ∨ 94 < j) ∧ j ≠ 149 → h1 j = h j := fun j a => by rw [← hh1]; exact (up149 a.2).trans (fr0 j a.1)
    have hC1 : IC h1 f n B (P, A, F, T) hs I A (wkM F T A (begN P A F T) (endN P A F T (shapeN P A F T) 1) (mgN 0 F T A (endN P A F T (shapeN P A F T) (-1)) 0) (wyW F T A (endN P A F T (shapeN P A F T) 1) (mgN 0 F T A (endN P A F T (shapeN P A F T) (-1)) 0)) z) _ tw wl WS := ⟨(fr 0 (by omega)).trans c0, c1.frame2 (fun j a b => fr j (by omega)), c2.frame (fun j a b => fr j (by omega)), c3.frame (fun j a b => fr j (by omega)), c4.frame (fun j a b => fr j (by omega)), c5.frame (fun j a b => fr j (by omega)), c6.frame2 (fun j a b => fr j (by omega)), t4.frame (fun j a b => up1 hh1 (by omega)), c8.frame (fun j a b => fr j (by omega)), c9.frame (fun j a b => fr j (by omega)), c10.frame (fr 126 (by omega))⟩
    have g1 : ∀ j, 126 < j ∧ j ≠ 149 → h1 j = h j := fun j a => fr j (by omega)
    have m1 := (g1 127 (by omega)).trans m0
    obtain ⟨n7, nT, nR, nS, nK, nX, nF, nA, nB, nQ, nW, n28, nO, nY, nC, nD, nE, nG, nH⟩ : IN h1 v f n B (P, A, F, T) hs I sl S ls tw wl WS := hN.frame (fun j a => g1 j (by omega)) (fun _ _ => rfl)
    have nR : RowR h1 129 P A F T := nR
    obtain ⟨Y, hY⟩ := nW.arr
    refine hQ 0 _ (Or.inl rfl) ⟨_, _, m1⟩ (fun Q2 hQ2 => ?_)
    refine sm_walk (d + 6) m1 nR nQ hY (fun hs => wyO_ok hP hA hj hs) z z1 z2 (fun c' => absurd ⟨hsn, hz.1, by rw [hk hsn]; exact hz.2⟩ c') (fun _ h2 v2 e2 m2 ev2 u1 u2 u3 u4 => ?_)
    have gr : ∀ j, (j ≠ 127 ∧ (j < 139 ∨ 142 < j)) → h2 j = h1 j := fun j a => e2 j a.1 a.2
    have ev : ∀ j, 0 < j ∧ j ≠ 24 ∧ j ≠ 27 ∧ j ≠ 28 → v2 j = v j := fun j a => by rw [ev2 j (by omega) (by omega) (by omega), upd_at, if_neg (by omega)]
    rw [← l2 (A - 1) (by omega)]
    exact hQ2 _ _ ⟨⟨f, n, B, (P, A, F, T), hs, I, A, _, _, tw, wl, WS, v2, w, _, hC1.frame (fun j a => gr j (by omega)), m2, ⟨(ev 7 (by omega)).trans n7, nT.frame (gr 128 (by omega)) (ev 2 (by omega)), RowR.frame nR (gr 129 (by omega)), nS.frame (gr 132 (by omega)) (ev 19 (by omega)), nK.frame (gr 131 (by omega)) (gr 137 (by omega)), nX.frame2 (gr 130 (by omega)) (gr 136 (by omega)), nF.frame (gr 138 (by omega)), nA.frame (gr 135 (by omega)), nB.frame (gr 145 (by omega)), u1, ⟨u2, hA, u4⟩, u3, nO.frame (gr 143 (by omega)) (ev 33 (by omega)), nY.frame (gr 144 (by omega)) (ev 34 (by omega)), nC.frame (gr 133 (by omega)), nD.frame (gr 134 (by omega)), nE.frame (gr 146 (by omega)), nG.frame (gr 147 (by omega)), nH.frame (gr 148 (by omega))⟩, (gr 149 (by omega)).trans a149⟩, ⟨v2, w, m2, (by rw [ev2 0 (by omega) (by omega) (by omega)]; exact upd00)⟩, fun _ => ⟨_, (gr 149 (by omega)).trans a149, updL0⟩⟩
  · obtain ⟨e1, t1, hl⟩ := hp
    have fr : ∀ j, (j < 70 ∨ 94 < j) → h' j = h j := e1
    have hC1 : IC h' f n B (P, A, F, T) hs I sl S ls tw wl WS := ⟨(fr 0 (by omega)).trans c0, c1.frame2 (fun j a b => fr j (by omega)), c2.frame (fun j a b => fr j (by omega)), c3.frame (fun j a b => fr j (by omega)), c4.frame (fun j a b => fr j (by omega)), c5.frame (fun j a b => fr j (by omega)), c6.frame2 (fun j a b => fr j (by omega)), t1, c8.frame (fun j a b => fr j (by omega)), c9.frame (fun j a b => fr j (by omega)), c10.frame (fr 126 (by omega))⟩
    have g1 : ∀ j, 126 < j → h' j = h j := fun j a => fr j (by omega)
    have m1 := (g1 127 (by omega)).trans m0
    have o1 := (g1 149 (by omega)).trans o
    obtain ⟨n7, nT, nR, nS, nK, nX, nF, nA, nB, nQ, nW, n28, nO, nY, nC, nD, nE, nG, nH⟩ : IN h' v f n B (P, A, F, T) hs I sl S ls tw wl WS := hN.frame (fun j a => g1 j (by omega)) (fun _ _ => rfl)
    have nR : RowR h' 129 P A F T := nR
    obtain ⟨Y, hY⟩ := nW.arr
    refine hQ 1 _ (Or.inr rfl) ⟨_, _, m1⟩ (fun Q2 hQ2 => ?_)
    refine sm_walk (d + 6) m1 nR nQ hY (fun hs => wyO_ok hP hA hj hs) z z1 z2 (fun _ h2 v2 e2 m2 ev2 u1 => ?_) (fun c' => by
      obtain ⟨l', l1, -⟩ := wl_both hP hA hj c'.2.1 (by rw [← hk c'.1]; exact c'.2.2)
      exact absurd (l1.symm.trans hl) (by simp))
    have gr : ∀ j, (j ≠ 127 ∧ j ≠ 139 ∧ j ≠ 140) → h2 j = h' j := fun j a => e2 j a.1 a.2.1 a.2.2
    have ev : ∀ j, 0 < j ∧ j ≠ 24 → v2 j = v j := fun j a => by rw [ev2 j (by omega), upd_at, if_neg (by omega)]
    exact hQ2 _ _ ⟨⟨f, n, B, (P, A, F, T), hs, I, sl, S, ls, tw, wl, WS, v2, w, O, hC1.frame (fun j a => gr j (by omega)), m2, ⟨(ev 7 (by omega)).trans n7, nT.frame (gr 128 (by omega)) (ev 2 (by omega)), RowR.frame nR (gr 129 (by omega)), nS.frame (gr 132 (by omega)) (ev 19 (by omega)), nK.frame (gr 131 (by omega)) (gr 137 (by omega)), nX.frame2 (gr 130 (by omega)) (gr 136 (by omega)), nF.frame (gr 138 (by omega)), nA.frame (gr 135 (by omega)), nB.frame (gr 145 (by omega)), u1, nW.frame (gr 141 (by omega)) (ev 27 (by omega)), (ev 28 (by omega)).trans n28, nO.frame (gr 143 (by omega)) (ev 33 (by omega)), nY.frame (gr 144 (by omega)) (ev 34 (by omega)), nC.frame (gr 133 (by omega)), nD.frame (gr 134 (by omega)), nE.frame (gr 146 (by omega)), nG.frame (gr 147 (by omega)), nH.frame (gr 148 (by omega))⟩, (gr 149 (by omega)).trans o1⟩, ⟨v2, w, m2, (by rw [ev2 0 (by omega)]; exact upd00)⟩, fun q => absurd q (by decide)⟩
theorem SpR.congr {h : Hp} {ls tl sl al tr : Int} {LT D S S' : Nat → Nat} (hs : SpR h ls tl sl al tr LT D S) (hS : ∀ i : Nat, (i : Int) < sl → S i = S' i) : SpR h ls tl sl al tr LT D S' := by
  obtain ⟨a, b, c, g, e, k, q, SS, r, t⟩ := hs
  exact ⟨a, b, c, g, e, k, q, SS, r, fun i hi => by rw [← hS i hi]; exact t i hi⟩
set_option maxRecDepth 100000 in
theorem jt_word (d : Nat) {h : Hp} (hI : INV h) (x : Int64) {Q : QT} (hQ : ∀ (k : Int) (h1 : Hp), (k = 0 ∨ k = 1) → (∃ v w, h1 127 = mo v w) → (∀ Q2 : QT, (∀ (b : Int32) (h2 : Hp), THR k b h2 → Q2 (some (.int b)) h2) → Call (d + 13) MX11_word [.ref 127, .long x] h1 Q2) → Q (some (.int (Int32.ofInt k))) h1) : CallH (d + 13) ML_word [(0, 9, 12, 13)] [.ref 0, .long x, .ref 149] h Q := by
  obtain ⟨f, n, B, ⟨P, A, F, T⟩, hs, I, sl, S, ls, tw, wl, WS, v, w, O, hC, m0, hN, o⟩ := hI
  obtain ⟨c0, c1, c2, c3, c4, c5, c6, c7, c8, c9, c10⟩ := id hC
  obtain ⟨n7, nT, nR, nS, nK, nX, nF, nA, nB, nQ, nW, n28, nO, nY, nC, nD, nE, nG, nH⟩ := id hN
  have c3 : NetR h 8 P A F T := c3
  have nR : RowR h 129 P A F T := nR
  obtain ⟨z, rfl, z1, z2⟩ := i64z x
  obtain ⟨W0, O0, hc0⟩ := c8.1
  rcases tw with _ | ⟨m, C⟩
  · obtain ⟨lst, LT, D, hs'⟩ := c8.2
    refine sh_word (d + 12) c0 (PQ := fun r h' => False) (PX := fun h' => h' = h) (fun Q' X' q1 q2 => st_word (d + 5) (n := 0) c0 hs' hc0 z z1 z2 (by omega) (by omega) (by omega) (fun a b => by omega) (fun _ => q2 _ rfl) (fun a b => by omega)) (fun r h' hp => hp.elim) (fun r h' O' hp ho => hp.elim) (fun h' hp => ?_)
    rw [hp]
    have hC1 := hC
    have m1 := m0
    have o1 := o
    refine hQ 1 _ (Or.inr rfl) ⟨_, _, m1⟩ (fun Q2 hQ2 => ?_)
    refine sm_word0 (d + 8) m1 nO.1 _ (fun h2 e2 m2 => ?_)
    have gr : ∀ j, j ≠ 127 → h2 j = h j := e2
    have ev : ∀ j, 0 < j → upd v 0 (Int32.ofInt 1) j = v j := fun j a => by rw [upd_at, if_neg (by omega)]
    exact hQ2 _ _ ⟨⟨f, n, B, (P, A, F, T), hs, I, sl, S, ls, none, wl, WS, upd v 0 (Int32.ofInt 1), w, O, hC1.frame (fun j a => gr j (by omega)), m2, ⟨(ev 7 (by omega)).trans n7, nT.frame (gr 128 (by omega)) (ev 2 (by omega)), RowR.frame nR (gr 129 (by omega)), nS.frame (gr 132 (by omega)) (ev 19 (by omega)), nK.frame (gr 131 (by omega)) (gr 137 (by omega)), nX.frame2 (gr 130 (by omega)) (gr 136 (by omega)), nF.frame (gr 138 (by omega)), nA.frame (gr 135 (by omega)), nB.frame (gr 145 (by omega)), nQ.frame2 (gr 139 (by omega)) (gr 140 (by omega)) (gr 142 (by omega)), nW.frame (gr 141 (by omega)) (ev 27 (by omega)), (ev 28 (by omega)).trans n28, nO.frame (gr 143 (by omega)) (ev 33 (by omega)), nY.frame (gr 144 (by omega)) (ev 34 (by omega)), nC.frame (gr 133 (by omega)), nD.frame (gr 134 (by omega)), nE.frame (gr 146 (by omega)), nG.frame (gr 147 (by omega)), nH.frame (gr 148 (by omega))⟩, (gr 149 (by omega)).trans o1⟩, ⟨upd v 0 (Int32.ofInt 1), w, m2, upd00⟩, fun q => absurd q (by decide)⟩
  · obtain ⟨hk, LT, hs'⟩ := c8.2
    have hb0 := ww_b hk 0 (Nat.two_pow_pos _)
    have hm2 := hk.1
    have hm17 := hk.2.1
    rw [← ww_all hk] at hs'
    refine sh_word (d + 12) c0 (PQ := fun r h' => (0 ≤ z ∧ z < wwW m C 0) ∧ (∀ j, j < 95 ∨ 119 < j → h' j = h j) ∧ (∃ W O, CntR h' 96 W O) ∧ SpR h' (leS C m) m m (wwW m C 0) (caN (tlD m C) m (m - 1)) (ltN (leS C m) LT 26).2 (tlD m C) (fun i => (ltN (leS C m) LT 26).2 (slS (tlD m C) m z i).2.2.1) ∧ r = Int32.ofInt ((ltN (leS C m) LT 26).2 (slS (tlD m C) m z (m - 1)).2.2.1 : Nat)) (PX := fun h' => h' = h ∧ ¬ (0 ≤ z ∧ z < wwW m C 0)) (fun Q' X' q1 q2 => st_word (d + 5) c0 hs' hc0 z z1 z2 hb0.1 hb0.2 (fun _ => by omega) (fun a b i hi => (ww_word (LT := LT) hk a b i hi).1) (fun q => q2 _ ⟨rfl, q⟩) (fun a b h' W' O' e t1 t2 => q1 _ _ ⟨⟨a, b⟩, e, ⟨W', O', t1⟩, t2, rfl⟩)) (fun r h' hp => ⟨O, (hp.2.1 149 (by omega)).trans o⟩) (fun r h' O' hp ho => ?_) (fun h' hp => ?_)
    · obtain ⟨hz, e1, t1, t2, rfl⟩ := hp
      have hw := fun i hi => (ww_word (LT := LT) hk hz.1 hz.2 i hi).2
      have t3 := t2.congr (S' := fun i => lkW m C (wwW m C) z i) (fun i hi => hw i (by omega))
      rw [ww_all hk] at t3
      have fr0 : ∀ j, (j < 95 ∨ 119 < j) → h' j = h j := e1
      have hN : IN h v f n B (P, A, F, T) hs I sl S ls (some (m, C)) wl WS := hN
      generalize hh1 : va_up h' 149 _ = h1
      have a149 := (congrFun hh1 149).symm.trans at149
      have fr : ∀ j, (j < 95 ∨ 119 < j) ∧ j ≠ 149 → h1 j = h j := fun j a => by rw [← hh1]; exact (up149 a.2).trans (fr0 j a.1)
      have hC1 : IC h1 f n B (P, A, F, T) hs I sl S ls (some (m, C)) m (fun i => lkW m C (wwW m C) z i) := ⟨(fr 0 (by omega)).trans c0, c1.frame2 (fun j a b => fr j (by omega)), c2.frame (fun j a b => fr j (by omega)), c3.frame (fun j a b => fr j (by omega)), c4.frame (fun j a b => fr j (by omega)), c5.frame (fun j a b => fr j (by omega)), c6.frame2 (fun j a b => fr j (by omega)), c7.frame (fun j a b => fr j (by omega)), (show ToC h' (some (m, C)) m (fun i => lkW m C (wwW m C) z i) from ⟨t1, hk, LT, t3⟩).frame (fun j a b => up1 hh1 (by omega)), c9.frame (fun j a b => fr j (by omega)), c10.frame (fr 126 (by omega))⟩
      have g1 : ∀ j, 126 < j ∧ j ≠ 149 → h1 j = h j := fun j a => fr j (by omega)
      have m1 := (g1 127 (by omega)).trans m0
      obtain ⟨n7, nT, nR, nS, nK, nX, nF, nA, nB, nQ, nW, n28, nO, nY, nC, nD, nE, nG, nH⟩ : IN h1 v f n B (P, A, F, T) hs I sl S ls (some (m, C)) wl WS := hN.frame (fun j a => g1 j (by omega)) (fun _ _ => rfl)
      have nR : RowR h1 129 P A F T := nR
      obtain ⟨Y, hY⟩ := nY.arr
      refine hQ 0 _ (Or.inl rfl) ⟨_, _, m1⟩ (fun Q2 hQ2 => ?_)
      refine sm_word (d + 8) m1 hk nO.1 nO.2 ⟨nA, nB, nQ⟩ hY (ww_ok hk) (ww_b hk) z z1 z2 (fun c' => absurd hz c') (fun _ h2 v2 e2 m2 ev2 u1 u2 u3 => ?_)
      have gr : ∀ j, (j ≠ 127 ∧ j ≠ 135 ∧ j ≠ 139 ∧ j ≠ 140 ∧ j ≠ 142 ∧ j ≠ 144 ∧ j ≠ 145) → h2 j = h1 j := fun j a => e2 j a.1 a.2.1 a.2.2.1 a.2.2.2.1 a.2.2.2.2.1 a.2.2.2.2.2.1 a.2.2.2.2.2.2
      have ev : ∀ j, 0 < j ∧ j ≠ 34 → v2 j = v j := fun j a => by rw [ev2 j (by omega), upd_at, if_neg (by omega)]
      rw [← hw (m - 1) (by omega)]
      exact hQ2 _ _ ⟨⟨f, n, B, (P, A, F, T), hs, I, sl, S, ls, (some (m, C)), m, (fun i => lkW m C (wwW m C) z i), v2, w, _, hC1.frame (fun j a => gr j (by omega)), m2, ⟨(ev 7 (by omega)).trans n7, nT.frame (gr 128 (by omega)) (ev 2 (by omega)), RowR.frame nR (gr 129 (by omega)), nS.frame (gr 132 (by omega)) (ev 19 (by omega)), nK.frame (gr 131 (by omega)) (gr 137 (by omega)), nX.frame2 (gr 130 (by omega)) (gr 136 (by omega)), nF.frame (gr 138 (by omega)), u2.1, u2.2.1, u2.2.2, nW.frame (gr 141 (by omega)) (ev 27 (by omega)), (ev 28 (by omega)).trans n28, nO.frame (gr 143 (by omega)) (ev 33 (by omega)), ⟨u1, hm17, u3⟩, nC.frame (gr 133 (by omega)), nD.frame (gr 134 (by omega)), nE.frame (gr 146 (by omega)), nG.frame (gr 147 (by omega)), nH.frame (gr 148 (by omega))⟩, (gr 149 (by omega)).trans a149⟩, ⟨v2, w, m2, (by rw [ev2 0 (by omega)]; exact upd00)⟩, fun _ => ⟨_, (gr 149 (by omega)).trans a149, updL0⟩⟩
    · obtain ⟨eh, hc⟩ := hp
      rw [eh]
      have hC1 := hC
      have m1 := m0
      have o1 := o
      refine hQ 1 _ (Or.inr rfl) ⟨_, _, m1⟩ (fun Q2 hQ2 => ?_)
      obtain ⟨Y, hY⟩ := nY.arr
      refine sm_word (d + 8) m1 hk nO.1 nO.2 ⟨nA, nB, nQ⟩ hY (ww_ok hk) (ww_b hk) z z1 z2 (fun _ h2 v2 e2 m2 ev2 u2 => ?_) (fun c' => absurd c' hc)
      have gr : ∀ j, (j ≠ 127 ∧ j ≠ 135 ∧ j ≠ 139 ∧ j ≠ 140 ∧ j ≠ 145) → h2 j = h j := fun j a => e2 j a.1 a.2.1 a.2.2.1 a.2.2.2.1 a.2.2.2.2
      have ev : ∀ j, 0 < j → v2 j = v j := fun j a => by rw [ev2 j, upd_at, if_neg (by omega)]
      exact hQ2 _ _ ⟨⟨f, n, B, (P, A, F, T), hs, I, sl, S, ls, (some (m, C)), wl, WS, v2, w, O, hC1.frame (fun j a => gr j (by omega)), m2, ⟨(ev 7 (by omega)).trans n7, nT.frame (gr 128 (by omega)) (ev 2 (by omega)), RowR.frame nR (gr 129 (by omega)), nS.frame (gr 132 (by omega)) (ev 19 (by omega)), nK.frame (gr 131 (by omega)) (gr 137 (by omega)), nX.frame2 (gr 130 (by omega)) (gr 136 (by omega)), nF.frame (gr 138 (by omega)), u2.1, u2.2.1, u2.2.2, nW.frame (gr 141 (by omega)) (ev 27 (by omega)), (ev 28 (by omega)).trans n28, nO.frame (gr 143 (by omega)) (ev 33 (by omega)), nY.frame (gr 144 (by omega)) (ev 34 (by omega)), nC.frame (gr 133 (by omega)), nD.frame (gr 134 (by omega)), nE.frame (gr 146 (by omega)), nG.frame (gr 147 (by omega)), nH.frame (gr 148 (by omega))⟩, (gr 149 (by omega)).trans o1⟩, ⟨v2, w, m2, (by rw [ev2 0]; exact upd00)⟩, fun q => absurd q (by decide)⟩
