/-! ONE CALL OF THE LAW: acts -/
set_option maxRecDepth 100000 in
theorem js_add (d : Nat) {h : Hp} (hI : INV h) (x y : Int32) {Q : QT} (hQ : ∀ (r : Int32) (h1 : Hp), (∃ v w, h1 127 = mo v w) → (∀ Q2 : QT, (∀ h2, INV h2 → Q2 (some (.int r)) h2) → Call (d + 13) MX11_add [.ref 127, .int x, .int y] h1 Q2) → Q (some (.int r)) h1) : Call (d + 13) MX10_add [.ref 0, .int x, .int y] h Q := by
  obtain ⟨f, n, B, ⟨P, A, F, T⟩, hs, I, sl, S, ls, tw, wl, WS, v, w, O, hC, m0, hN, o⟩ := hI
  obtain ⟨c0, c1, c2, c3, c4, c5, c6, c7, c8, c9, c10⟩ := id hC
  obtain ⟨n7, nT, nR, nS, nK, nX, nF, nA, nB, nQ, nW, n28, nO, nY, nC, nD, nE, nG, nH⟩ := id hN
  have c3 : NetR h 8 P A F T := c3
  have nR : RowR h 129 P A F T := nR
  obtain ⟨a, rfl, a1, a2⟩ := i32z x
  obtain ⟨b, rfl, b1, b2⟩ := i32z y
  obtain ⟨hd, hh⟩ := id c4
  refine sp_add (d + 10) c0 c3 hh a b a1 a2 b1 b2 (fun hc => ?_) (fun hc h1 e1 t1 t2 => ?_)
  · have hC1 := hC
    have m1 := m0
    have o1 := o
    refine hQ _ _ ⟨_, _, m1⟩ (fun Q2 hQ2 => ?_)
    refine sm_add (d + 10) m1 nR nS a b a1 a2 b1 b2 (fun _ h2 e2 m2 => ?_) (fun c' => absurd c' hc)
    have gr : ∀ j, j ≠ 127 → h2 j = h j := e2
    have ev : ∀ j, 0 < j → upd v 0 (Int32.ofInt 0) j = v j := fun j a => by rw [upd_at, if_neg (by omega)]
    exact hQ2 _ ⟨f, n, B, (P, A, F, T), hs, I, sl, S, ls, tw, wl, WS, upd v 0 (Int32.ofInt 0), w, O, hC1.frame (fun j a => gr j (by omega)), m2, ⟨(ev 7 (by omega)).trans n7, nT.frame (gr 128 (by omega)) (ev 2 (by omega)), RowR.frame nR (gr 129 (by omega)), nS.frame (gr 132 (by omega)) (ev 19 (by omega)), nK.frame (gr 131 (by omega)) (gr 137 (by omega)), nX.frame2 (gr 130 (by omega)) (gr 136 (by omega)), nF.frame (gr 138 (by omega)), nA.frame (gr 135 (by omega)), nB.frame (gr 145 (by omega)), nQ.frame2 (gr 139 (by omega)) (gr 140 (by omega)) (gr 142 (by omega)), nW.frame (gr 141 (by omega)) (ev 27 (by omega)), (ev 28 (by omega)).trans n28, nO.frame (gr 143 (by omega)) (ev 33 (by omega)), nY.frame (gr 144 (by omega)) (ev 34 (by omega)), nC.frame (gr 133 (by omega)), nD.frame (gr 134 (by omega)), nE.frame (gr 146 (by omega)), nG.frame (gr 147 (by omega)), nH.frame (gr 148 (by omega))⟩, (gr 149 (by omega)).trans o1⟩
  · have fr : ∀ j, (j < 8 ∨ 39 < j) → h1 j = h j := e1
    have hC1 : IC h1 f n B (addN (P, A, F, T) a.toNat b.toNat) (((P, A, F, T) :: hs).take 8) I sl S ls tw wl WS := ⟨(fr 0 (by omega)).trans c0, c1.frame2 (fun j a b => fr j (by omega)), c2.frame (fun j a b => fr j (by omega)), t1, ⟨_, t2⟩, c5.frame (fun j a b => fr j (by omega)), c6.frame2 (fun j a b => fr j (by omega)), c7.frame (fun j a b => fr j (by omega)), c8.frame (fun j a b => fr j (by omega)), c9.frame (fun j a b => fr j (by omega)), c10.frame (fr 126 (by omega))⟩
    have g1 : ∀ j, 126 < j → h1 j = h j := fun j a => fr j (by omega)
    have m1 := (g1 127 (by omega)).trans m0
    have o1 := (g1 149 (by omega)).trans o
    obtain ⟨n7, nT, nR, nS, nK, nX, nF, nA, nB, nQ, nW, n28, nO, nY, nC, nD, nE, nG, nH⟩ : IN h1 v f n B (P, A, F, T) hs I sl S ls tw wl WS := hN.frame (fun j a => g1 j (by omega)) (fun _ _ => rfl)
    have nR : RowR h1 129 P A F T := nR
    refine hQ _ _ ⟨_, _, m1⟩ (fun Q2 hQ2 => ?_)
    refine sm_add (d + 10) m1 nR nS a b a1 a2 b1 b2 (fun c' => absurd hc c') (fun _ h2 v2 e2 m2 ev2 t3 t4 => ?_)
    have gr : ∀ j, (j ≠ 127 ∧ j ≠ 129 ∧ j ≠ 132) → h2 j = h1 j := fun j a => e2 j a.1 a.2.1 a.2.2
    have ev : ∀ j, 0 < j ∧ j ≠ 19 → v2 j = v j := fun j a => by rw [ev2 j (by omega), upd_at, if_neg (by omega)]
    exact hQ2 _ ⟨f, n, B, (addN (P, A, F, T) a.toNat b.toNat), (((P, A, F, T) :: hs).take 8), I, sl, S, ls, tw, wl, WS, v2, w, O, hC1.frame (fun j a => gr j (by omega)), m2, ⟨(ev 7 (by omega)).trans n7, nT.frame (gr 128 (by omega)) (ev 2 (by omega)), t3, t4, nK.frame (gr 131 (by omega)) (gr 137 (by omega)), nX.frame2 (gr 130 (by omega)) (gr 136 (by omega)), nF.frame (gr 138 (by omega)), nA.frame (gr 135 (by omega)), nB.frame (gr 145 (by omega)), nQ.frame2 (gr 139 (by omega)) (gr 140 (by omega)) (gr 142 (by omega)), nW.frame (gr 141 (by omega)) (ev 27 (by omega)), (ev 28 (by omega)).trans n28, nO.frame (gr 143 (by omega)) (ev 33 (by omega)), nY.frame (gr 144 (by omega)) (ev 34 (by omega)), nC.frame (gr 133 (by omega)), nD.frame (gr 134 (by omega)), nE.frame (gr 146 (by omega)), nG.frame (gr 147 (by omega)), nH.frame (gr 148 (by omega))⟩, (gr 149 (by omega)).trans o1⟩
set_option maxRecDepth 100000 in
theorem js_drop (d : Nat) {h : Hp} (hI : INV h) (x : Int32) {Q : QT} (hQ : ∀ (r : Int32) (h1 : Hp), (∃ v w, h1 127 = mo v w) → (∀ Q2 : QT, (∀ h2, INV h2 → Q2 (some (.int r)) h2) → Call (d + 13) MX11_drop [.ref 127, .int x] h1 Q2) → Q (some (.int r)) h1) : Call (d + 13) MX10_drop [.ref 0, .int x] h Q := by
  obtain ⟨f, n, B, ⟨P, A, F, T⟩, hs, I, sl, S, ls, tw, wl, WS, v, w, O, hC, m0, hN, o⟩ := hI
  obtain ⟨c0, c1, c2, c3, c4, c5, c6, c7, c8, c9, c10⟩ := id hC
  obtain ⟨n7, nT, nR, nS, nK, nX, nF, nA, nB, nQ, nW, n28, nO, nY, nC, nD, nE, nG, nH⟩ := id hN
  have c3 : NetR h 8 P A F T := c3
  have nR : RowR h 129 P A F T := nR
  obtain ⟨a, rfl, a1, a2⟩ := i32z x
  obtain ⟨hd, hh⟩ := id c4
  refine sp_drop (d + 10) c0 c3 hh a a1 a2 (fun hc => ?_) (fun hc h1 e1 t1 t2 => ?_)
  · have hC1 := hC
    have m1 := m0
    have o1 := o
    refine hQ _ _ ⟨_, _, m1⟩ (fun Q2 hQ2 => ?_)
    refine sm_drop (d + 10) m1 nR nS a a1 a2 (fun _ h2 e2 m2 => ?_) (fun c' => absurd c' hc)
    have gr : ∀ j, j ≠ 127 → h2 j = h j := e2
    have ev : ∀ j, 0 < j → upd v 0 (Int32.ofInt 0) j = v j := fun j a => by rw [upd_at, if_neg (by omega)]
    exact hQ2 _ ⟨f, n, B, (P, A, F, T), hs, I, sl, S, ls, tw, wl, WS, upd v 0 (Int32.ofInt 0), w, O, hC1.frame (fun j a => gr j (by omega)), m2, ⟨(ev 7 (by omega)).trans n7, nT.frame (gr 128 (by omega)) (ev 2 (by omega)), RowR.frame nR (gr 129 (by omega)), nS.frame (gr 132 (by omega)) (ev 19 (by omega)), nK.frame (gr 131 (by omega)) (gr 137 (by omega)), nX.frame2 (gr 130 (by omega)) (gr 136 (by omega)), nF.frame (gr 138 (by omega)), nA.frame (gr 135 (by omega)), nB.frame (gr 145 (by omega)), nQ.frame2 (gr 139 (by omega)) (gr 140 (by omega)) (gr 142 (by omega)), nW.frame (gr 141 (by omega)) (ev 27 (by omega)), (ev 28 (by omega)).trans n28, nO.frame (gr 143 (by omega)) (ev 33 (by omega)), nY.frame (gr 144 (by omega)) (ev 34 (by omega)), nC.frame (gr 133 (by omega)), nD.frame (gr 134 (by omega)), nE.frame (gr 146 (by omega)), nG.frame (gr 147 (by omega)), nH.frame (gr 148 (by omega))⟩, (gr 149 (by omega)).trans o1⟩
  · have fr : ∀ j, (j < 8 ∨ 39 < j) → h1 j = h j := e1
    have hC1 : IC h1 f n B (delN (P, A, F, T) a.toNat) (((P, A, F, T) :: hs).take 8) I sl S ls tw wl WS := ⟨(fr 0 (by omega)).trans c0, c1.frame2 (fun j a b => fr j (by omega)), c2.frame (fun j a b => fr j (by omega)), t1, ⟨_, t2⟩, c5.frame (fun j a b => fr j (by omega)), c6.frame2 (fun j a b => fr j (by omega)), c7.frame (fun j a b => fr j (by omega)), c8.frame (fun j a b => fr j (by omega)), c9.frame (fun j a b => fr j (by omega)), c10.frame (fr 126 (by omega))⟩
    have g1 : ∀ j, 126 < j → h1 j = h j := fun j a => fr j (by omega)
    have m1 := (g1 127 (by omega)).trans m0
    have o1 := (g1 149 (by omega)).trans o
    obtain ⟨n7, nT, nR, nS, nK, nX, nF, nA, nB, nQ, nW, n28, nO, nY, nC, nD, nE, nG, nH⟩ : IN h1 v f n B (P, A, F, T) hs I sl S ls tw wl WS := hN.frame (fun j a => g1 j (by omega)) (fun _ _ => rfl)
    have nR : RowR h1 129 P A F T := nR
    refine hQ _ _ ⟨_, _, m1⟩ (fun Q2 hQ2 => ?_)
    refine sm_drop (d + 10) m1 nR nS a a1 a2 (fun c' => absurd hc c') (fun _ h2 v2 e2 m2 ev2 t3 t4 => ?_)
    have gr : ∀ j, (j ≠ 127 ∧ j ≠ 129 ∧ j ≠ 132) → h2 j = h1 j := fun j a => e2 j a.1 a.2.1 a.2.2
    have ev : ∀ j, 0 < j ∧ j ≠ 19 → v2 j = v j := fun j a => by rw [ev2 j (by omega), upd_at, if_neg (by omega)]
    exact hQ2 _ ⟨f, n, B, (delN (P, A, F, T) a.toNat), (((P, A, F, T) :: hs).take 8), I, sl, S, ls, tw, wl, WS, v2, w, O, hC1.frame (fun j a => gr j (by omega)), m2, ⟨(ev 7 (by omega)).trans n7, nT.frame (gr 128 (by omega)) (ev 2 (by omega)), t3, t4, nK.frame (gr 131 (by omega)) (gr 137 (by omega)), nX.frame2 (gr 130 (by omega)) (gr 136 (by omega)), nF.frame (gr 138 (by omega)), nA.frame (gr 135 (by omega)), nB.frame (gr 145 (by omega)), nQ.frame2 (gr 139 (by omega)) (gr 140 (by omega)) (gr 142 (by omega)), nW.frame (gr 141 (by omega)) (ev 27 (by omega)), (ev 28 (by omega)).trans n28, nO.frame (gr 143 (by omega)) (ev 33 (by omega)), nY.frame (gr 144 (by omega)) (ev 34 (by omega)), nC.frame (gr 133 (by omega)), nD.frame (gr 134 (by omega)), nE.frame (gr 146 (by omega)), nG.frame (gr 147 (by omega)), nH.frame (gr 148 (by omega))⟩, (gr 149 (by omega)).trans o1⟩
set_option maxRecDepth 100000 in
theorem js_turn (d : Nat) {h : Hp} (hI : INV h) (x : Int32) {Q : QT} (hQ : ∀ (r : Int32) (h1 : Hp), (∃ v w, h1 127 = mo v w) → (∀ Q2 : QT, (∀ h2, INV h2 → Q2 (some (.int r)) h2) → Call (d + 13) MX11_turn [.ref 127, .int x] h1 Q2) → Q (some (.int r)) h1) : Call (d + 13) MX10_turn [.ref 0, .int x] h Q := by
  obtain ⟨f, n, B, ⟨P, A, F, T⟩, hs, I, sl, S, ls, tw, wl, WS, v, w, O, hC, m0, hN, o⟩ := hI
  obtain ⟨c0, c1, c2, c3, c4, c5, c6, c7, c8, c9, c10⟩ := id hC
  obtain ⟨n7, nT, nR, nS, nK, nX, nF, nA, nB, nQ, nW, n28, nO, nY, nC, nD, nE, nG, nH⟩ := id hN
  have c3 : NetR h 8 P A F T := c3
  have nR : RowR h 129 P A F T := nR
  obtain ⟨a, rfl, a1, a2⟩ := i32z x
  obtain ⟨hd, hh⟩ := id c4
  refine sp_turn (d + 10) c0 c3 hh a a1 a2 (fun hc => ?_) (fun hc h1 e1 t1 t2 => ?_)
  · have hC1 := hC
    have m1 := m0
    have o1 := o
    refine hQ _ _ ⟨_, _, m1⟩ (fun Q2 hQ2 => ?_)
    refine sm_turn (d + 10) m1 nR nS a a1 a2 (fun _ h2 e2 m2 => ?_) (fun c' => absurd c' hc)
    have gr : ∀ j, j ≠ 127 → h2 j = h j := e2
    have ev : ∀ j, 0 < j → upd v 0 (Int32.ofInt 0) j = v j := fun j a => by rw [upd_at, if_neg (by omega)]
    exact hQ2 _ ⟨f, n, B, (P, A, F, T), hs, I, sl, S, ls, tw, wl, WS, upd v 0 (Int32.ofInt 0), w, O, hC1.frame (fun j a => gr j (by omega)), m2, ⟨(ev 7 (by omega)).trans n7, nT.frame (gr 128 (by omega)) (ev 2 (by omega)), RowR.frame nR (gr 129 (by omega)), nS.frame (gr 132 (by omega)) (ev 19 (by omega)), nK.frame (gr 131 (by omega)) (gr 137 (by omega)), nX.frame2 (gr 130 (by omega)) (gr 136 (by omega)), nF.frame (gr 138 (by omega)), nA.frame (gr 135 (by omega)), nB.frame (gr 145 (by omega)), nQ.frame2 (gr 139 (by omega)) (gr 140 (by omega)) (gr 142 (by omega)), nW.frame (gr 141 (by omega)) (ev 27 (by omega)), (ev 28 (by omega)).trans n28, nO.frame (gr 143 (by omega)) (ev 33 (by omega)), nY.frame (gr 144 (by omega)) (ev 34 (by omega)), nC.frame (gr 133 (by omega)), nD.frame (gr 134 (by omega)), nE.frame (gr 146 (by omega)), nG.frame (gr 147 (by omega)), nH.frame (gr 148 (by omega))⟩, (gr 149 (by omega)).trans o1⟩
  · have fr : ∀ j, (j < 8 ∨ 39 < j) → h1 j = h j := e1
    have hC1 : IC h1 f n B (trnN (P, A, F, T) a.toNat) (((P, A, F, T) :: hs).take 8) I sl S ls tw wl WS := ⟨(fr 0 (by omega)).trans c0, c1.frame2 (fun j a b => fr j (by omega)), c2.frame (fun j a b => fr j (by omega)), t1, ⟨_, t2⟩, c5.frame (fun j a b => fr j (by omega)), c6.frame2 (fun j a b => fr j (by omega)), c7.frame (fun j a b => fr j (by omega)), c8.frame (fun j a b => fr j (by omega)), c9.frame (fun j a b => fr j (by omega)), c10.frame (fr 126 (by omega))⟩
    have g1 : ∀ j, 126 < j → h1 j = h j := fun j a => fr j (by omega)
    have m1 := (g1 127 (by omega)).trans m0
    have o1 := (g1 149 (by omega)).trans o
    obtain ⟨n7, nT, nR, nS, nK, nX, nF, nA, nB, nQ, nW, n28, nO, nY, nC, nD, nE, nG, nH⟩ : IN h1 v f n B (P, A, F, T) hs I sl S ls tw wl WS := hN.frame (fun j a => g1 j (by omega)) (fun _ _ => rfl)
    have nR : RowR h1 129 P A F T := nR
    refine hQ _ _ ⟨_, _, m1⟩ (fun Q2 hQ2 => ?_)
    refine sm_turn (d + 10) m1 nR nS a a1 a2 (fun c' => absurd hc c') (fun _ h2 v2 e2 m2 ev2 t3 t4 => ?_)
    have gr : ∀ j, (j ≠ 127 ∧ j ≠ 129 ∧ j ≠ 132) → h2 j = h1 j := fun j a => e2 j a.1 a.2.1 a.2.2
    have ev : ∀ j, 0 < j ∧ j ≠ 19 → v2 j = v j := fun j a => by rw [ev2 j (by omega), upd_at, if_neg (by omega)]
    exact hQ2 _ ⟨f, n, B, (trnN (P, A, F, T) a.toNat), (((P, A, F, T) :: hs).take 8), I, sl, S, ls, tw, wl, WS, v2, w, O, hC1.frame (fun j a => gr j (by omega)), m2, ⟨(ev 7 (by omega)).trans n7, nT.frame (gr 128 (by omega)) (ev 2 (by omega)), t3, t4, nK.frame (gr 131 (by omega)) (gr 137 (by omega)), nX.frame2 (gr 130 (by omega)) (gr 136 (by omega)), nF.frame (gr 138 (by omega)), nA.frame (gr 135 (by omega)), nB.frame (gr 145 (by omega)), nQ.frame2 (gr 139 (by omega)) (gr 140 (by omega)) (gr 142 (by omega)), nW.frame (gr 141 (by omega)) (ev 27 (by omega)), (ev 28 (by omega)).trans n28, nO.frame (gr 143 (by omega)) (ev 33 (by omega)), nY.frame (gr 144 (by omega)) (ev 34 (by omega)), nC.frame (gr 133 (by omega)), nD.frame (gr 134 (by omega)), nE.frame (gr 146 (by omega)), nG.frame (gr 147 (by omega)), nH.frame (gr 148 (by omega))⟩, (gr 149 (by omega)).trans o1⟩
set_option maxRecDepth 100000 in
theorem js_undo (d : Nat) {h : Hp} (hI : INV h) {Q : QT} (hQ : ∀ (r : Int32) (h1 : Hp), (∃ v w, h1 127 = mo v w) → (∀ Q2 : QT, (∀ h2, INV h2 → Q2 (some (.int r)) h2) → Call (d + 13) MX11_undo [.ref 127] h1 Q2) → Q (some (.int r)) h1) : Call (d + 13) MX10_undo [.ref 0] h Q := by
  obtain ⟨f, n, B, N, hs, I, sl, S, ls, tw, wl, WS, v, w, O, hC, m0, hN, o⟩ := hI
  obtain ⟨c0, c1, c2, c3, c4, c5, c6, c7, c8, c9, c10⟩ := id hC
  obtain ⟨n7, nT, nR, nS, nK, nX, nF, nA, nB, nQ, nW, n28, nO, nY, nC, nD, nE, nG, nH⟩ := id hN
  obtain ⟨hd, hh⟩ := id c4
  rcases hs with _ | ⟨N0, hs⟩
  · have hC1 := hC
    have m1 := m0
    have o1 := o
    refine sp_undo0 (d + 10) c0 c3.shape hh (hQ _ _ ⟨_, _, m1⟩ (fun Q2 hQ2 => ?_))
    refine sm_undo0 (d + 10) m1 nS (fun h2 e2 m2 => ?_)
    have gr : ∀ j, j ≠ 127 → h2 j = h j := e2
    have ev : ∀ j, 0 < j → upd v 0 (Int32.ofInt 0) j = v j := fun j a => by rw [upd_at, if_neg (by omega)]
    exact hQ2 _ ⟨f, n, B, N, [], I, sl, S, ls, tw, wl, WS, upd v 0 (Int32.ofInt 0), w, O, hC1.frame (fun j a => gr j (by omega)), m2, ⟨(ev 7 (by omega)).trans n7, nT.frame (gr 128 (by omega)) (ev 2 (by omega)), RowR.frame nR (gr 129 (by omega)), nS.frame (gr 132 (by omega)) (ev 19 (by omega)), nK.frame (gr 131 (by omega)) (gr 137 (by omega)), nX.frame2 (gr 130 (by omega)) (gr 136 (by omega)), nF.frame (gr 138 (by omega)), nA.frame (gr 135 (by omega)), nB.frame (gr 145 (by omega)), nQ.frame2 (gr 139 (by omega)) (gr 140 (by omega)) (gr 142 (by omega)), nW.frame (gr 141 (by omega)) (ev 27 (by omega)), (ev 28 (by omega)).trans n28, nO.frame (gr 143 (by omega)) (ev 33 (by omega)), nY.frame (gr 144 (by omega)) (ev 34 (by omega)), nC.frame (gr 133 (by omega)), nD.frame (gr 134 (by omega)), nE.frame (gr 146 (by omega)), nG.frame (gr 147 (by omega)), nH.frame (gr 148 (by omega))⟩, (gr 149 (by omega)).trans o1⟩
  · refine sp_undo (d + 10) c0 c3.shape hh (fun h1 e1 t1 t2 => ?_)
    have fr : ∀ j, (j < 8 ∨ 11 < j) → h1 j = h j := e1
    have hN : IN h v f n B N (N0 :: hs) I sl S ls tw wl WS := hN
    have hC1 : IC h1 f n B N0 hs I sl S ls tw wl WS := ⟨(fr 0 (by omega)).trans c0, c1.frame2 (fun j a b => fr j (by omega)), c2.frame (fun j a b => fr j (by omega)), t2, ⟨_, t1⟩, c5.frame (fun j a b => fr j (by omega)), c6.frame2 (fun j a b => fr j (by omega)), c7.frame (fun j a b => fr j (by omega)), c8.frame (fun j a b => fr j (by omega)), c9.frame (fun j a b => fr j (by omega)), c10.frame (fr 126 (by omega))⟩
    have g1 : ∀ j, 126 < j → h1 j = h j := fun j a => fr j (by omega)
    have m1 := (g1 127 (by omega)).trans m0
    have o1 := (g1 149 (by omega)).trans o
    obtain ⟨n7, nT, nR, nS, nK, nX, nF, nA, nB, nQ, nW, n28, nO, nY, nC, nD, nE, nG, nH⟩ : IN h1 v f n B N (N0 :: hs) I sl S ls tw wl WS := hN.frame (fun j a => g1 j (by omega)) (fun _ _ => rfl)
    refine hQ _ _ ⟨_, _, m1⟩ (fun Q2 hQ2 => ?_)
    refine sm_undo (d + 10) m1 nR nS (fun h2 v2 e2 m2 ev2 t3 t4 => ?_)
    have gr : ∀ j, (j ≠ 127 ∧ j ≠ 129) → h2 j = h1 j := fun j a => e2 j a.1 a.2
    have ev : ∀ j, 0 < j ∧ j ≠ 19 → v2 j = v j := fun j a => by rw [ev2 j (by omega), upd_at, if_neg (by omega)]
    exact hQ2 _ ⟨f, n, B, N0, hs, I, sl, S, ls, tw, wl, WS, v2, w, O, hC1.frame (fun j a => gr j (by omega)), m2, ⟨(ev 7 (by omega)).trans n7, nT.frame (gr 128 (by omega)) (ev 2 (by omega)), t3, t4, nK.frame (gr 131 (by omega)) (gr 137 (by omega)), nX.frame2 (gr 130 (by omega)) (gr 136 (by omega)), nF.frame (gr 138 (by omega)), nA.frame (gr 135 (by omega)), nB.frame (gr 145 (by omega)), nQ.frame2 (gr 139 (by omega)) (gr 140 (by omega)) (gr 142 (by omega)), nW.frame (gr 141 (by omega)) (ev 27 (by omega)), (ev 28 (by omega)).trans n28, nO.frame (gr 143 (by omega)) (ev 33 (by omega)), nY.frame (gr 144 (by omega)) (ev 34 (by omega)), nC.frame (gr 133 (by omega)), nD.frame (gr 134 (by omega)), nE.frame (gr 146 (by omega)), nG.frame (gr 147 (by omega)), nH.frame (gr 148 (by omega))⟩, (gr 149 (by omega)).trans o1⟩
set_option maxRecDepth 100000 in
theorem js_image (d : Nat) {h : Hp} (hI : INV h) (x : Int32) {Q : QT} (hQ : ∀ (r : Int32) (h1 : Hp), (∃ v w, h1 127 = mo v w) → (∀ Q2 : QT, (∀ h2, INV h2 → Q2 (some (.int r)) h2) → Call (d + 13) MX11_image [.ref 127, .int x] h1 Q2) → Q (some (.int r)) h1) : Call (d + 13) MX10_image [.ref 0, .int x] h Q := by
  obtain ⟨f, n, B, N, hs, I, sl, S, ls, tw, wl, WS, v, w, O, hC, m0, hN, o⟩ := hI
  obtain ⟨c0, c1, c2, c3, c4, c5, c6, c7, c8, c9, c10⟩ := id hC
  obtain ⟨n7, nT, nR, nS, nK, nX, nF, nA, nB, nQ, nW, n28, nO, nY, nC, nD, nE, nG, nH⟩ := id hN
  obtain ⟨z, rfl, z1, z2⟩ := i32z x
  refine sp_image (d + 11) c0 c3 c5 z z1 z2 (fun hc => ?_) (fun hc h1 e1 t1 => ?_)
  · have hC1 := hC
    have m1 := m0
    have o1 := o
    refine hQ _ _ ⟨_, _, m1⟩ (fun Q2 hQ2 => ?_)
    refine sm_image (d + 11) m1 nR nK z z1 z2 (fun _ h2 e2 m2 => ?_) (fun c' => absurd c' hc)
    have gr : ∀ j, j ≠ 127 → h2 j = h j := e2
    have ev : ∀ j, 0 < j → upd v 0 (Int32.ofInt 0) j = v j := fun j a => by rw [upd_at, if_neg (by omega)]
    exact hQ2 _ ⟨f, n, B, N, hs, I, sl, S, ls, tw, wl, WS, upd v 0 (Int32.ofInt 0), w, O, hC1.frame (fun j a => gr j (by omega)), m2, ⟨(ev 7 (by omega)).trans n7, nT.frame (gr 128 (by omega)) (ev 2 (by omega)), RowR.frame nR (gr 129 (by omega)), nS.frame (gr 132 (by omega)) (ev 19 (by omega)), nK.frame (gr 131 (by omega)) (gr 137 (by omega)), nX.frame2 (gr 130 (by omega)) (gr 136 (by omega)), nF.frame (gr 138 (by omega)), nA.frame (gr 135 (by omega)), nB.frame (gr 145 (by omega)), nQ.frame2 (gr 139 (by omega)) (gr 140 (by omega)) (gr 142 (by omega)), nW.frame (gr 141 (by omega)) (ev 27 (by omega)), (ev 28 (by omega)).trans n28, nO.frame (gr 143 (by omega)) (ev 33 (by omega)), nY.frame (gr 144 (by omega)) (ev 34 (by omega)), nC.frame (gr 133 (by omega)), nD.frame (gr 134 (by omega)), nE.frame (gr 146 (by omega)), nG.frame (gr 147 (by omega)), nH.frame (gr 148 (by omega))⟩, (gr 149 (by omega)).trans o1⟩
  · have fr : ∀ j, (j < 41 ∨ 47 < j) → h1 j = h j := e1
    have hC1 : IC h1 f n B N hs (fun i => if i = z.toNat then some N else I i) sl S ls tw wl WS := ⟨(fr 0 (by omega)).trans c0, c1.frame2 (fun j a b => fr j (by omega)), c2.frame (fun j a b => fr j (by omega)), c3.frame (fun j a b => fr j (by omega)), c4.frame (fun j a b => fr j (by omega)), t1, c6.frame2 (fun j a b => fr j (by omega)), c7.frame (fun j a b => fr j (by omega)), c8.frame (fun j a b => fr j (by omega)), c9.frame (fun j a b => fr j (by omega)), c10.frame (fr 126 (by omega))⟩
    have g1 : ∀ j, 126 < j → h1 j = h j := fun j a => fr j (by omega)
    have m1 := (g1 127 (by omega)).trans m0
    have o1 := (g1 149 (by omega)).trans o
    obtain ⟨n7, nT, nR, nS, nK, nX, nF, nA, nB, nQ, nW, n28, nO, nY, nC, nD, nE, nG, nH⟩ : IN h1 v f n B N hs I sl S ls tw wl WS := hN.frame (fun j a => g1 j (by omega)) (fun _ _ => rfl)
    refine hQ _ _ ⟨_, _, m1⟩ (fun Q2 hQ2 => ?_)
    refine sm_image (d + 11) m1 nR nK z z1 z2 (fun c' => absurd hc c') (fun _ h2 e2 m2 t2 => ?_)
    have gr : ∀ j, (j ≠ 127 ∧ j ≠ 131 ∧ j ≠ 137) → h2 j = h1 j := fun j a => e2 j a.1 a.2.1 a.2.2
    have ev : ∀ j, 0 < j → upd v 0 (Int32.ofInt 0) j = v j := fun j a => by rw [upd_at, if_neg (by omega)]
    exact hQ2 _ ⟨f, n, B, N, hs, (fun i => if i = z.toNat then some N else I i), sl, S, ls, tw, wl, WS, upd v 0 (Int32.ofInt 0), w, O, hC1.frame (fun j a => gr j (by omega)), m2, ⟨(ev 7 (by omega)).trans n7, nT.frame (gr 128 (by omega)) (ev 2 (by omega)), RowR.frame nR (gr 129 (by omega)), nS.frame (gr 132 (by omega)) (ev 19 (by omega)), t2, nX.frame2 (gr 130 (by omega)) (gr 136 (by omega)), nF.frame (gr 138 (by omega)), nA.frame (gr 135 (by omega)), nB.frame (gr 145 (by omega)), nQ.frame2 (gr 139 (by omega)) (gr 140 (by omega)) (gr 142 (by omega)), nW.frame (gr 141 (by omega)) (ev 27 (by omega)), (ev 28 (by omega)).trans n28, nO.frame (gr 143 (by omega)) (ev 33 (by omega)), nY.frame (gr 144 (by omega)) (ev 34 (by omega)), nC.frame (gr 133 (by omega)), nD.frame (gr 134 (by omega)), nE.frame (gr 146 (by omega)), nG.frame (gr 147 (by omega)), nH.frame (gr 148 (by omega))⟩, (gr 149 (by omega)).trans o1⟩
set_option maxRecDepth 100000 in
theorem js_restore (d : Nat) {h : Hp} (hI : INV h) (x : Int32) {Q : QT} (hQ : ∀ (r : Int32) (h1 : Hp), (∃ v w, h1 127 = mo v w) → (∀ Q2 : QT, (∀ h2, INV h2 → Q2 (some (.int r)) h2) → Call (d + 13) MX11_restore [.ref 127, .int x] h1 Q2) → Q (some (.int r)) h1) : Call (d + 13) MX10_restore [.ref 0, .int x] h Q := by
  obtain ⟨f, n, B, N, hs, I, sl, S, ls, tw, wl, WS, v, w, O, hC, m0, hN, o⟩ := hI
  obtain ⟨c0, c1, c2, c3, c4, c5, c6, c7, c8, c9, c10⟩ := id hC
  obtain ⟨n7, nT, nR, nS, nK, nX, nF, nA, nB, nQ, nW, n28, nO, nY, nC, nD, nE, nG, nH⟩ := id hN
  obtain ⟨z, rfl, z1, z2⟩ := i32z x
  obtain ⟨hd, hh⟩ := id c4
  refine sp_restore (d + 11) c0 c3.shape hh c5 z z1 z2 (fun hc => ?_) (fun N0 ha hb hc h1 e1 t1 t2 => ?_)
  · have hC1 := hC
    have m1 := m0
    have o1 := o
    refine hQ _ _ ⟨_, _, m1⟩ (fun Q2 hQ2 => ?_)
    refine sm_restore (d + 11) m1 nR nS nK z z1 z2 (fun _ h2 e2 m2 => ?_) (fun N0 c1' c2' c' => absurd ((hc c1' c2').symm.trans c') (by simp))
    have gr : ∀ j, j ≠ 127 → h2 j = h j := e2
    have ev : ∀ j, 0 < j → upd v 0 (Int32.ofInt 0) j = v j := fun j a => by rw [upd_at, if_neg (by omega)]
    exact hQ2 _ ⟨f, n, B, N, hs, I, sl, S, ls, tw, wl, WS, upd v 0 (Int32.ofInt 0), w, O, hC1.frame (fun j a => gr j (by omega)), m2, ⟨(ev 7 (by omega)).trans n7, nT.frame (gr 128 (by omega)) (ev 2 (by omega)), RowR.frame nR (gr 129 (by omega)), nS.frame (gr 132 (by omega)) (ev 19 (by omega)), nK.frame (gr 131 (by omega)) (gr 137 (by omega)), nX.frame2 (gr 130 (by omega)) (gr 136 (by omega)), nF.frame (gr 138 (by omega)), nA.frame (gr 135 (by omega)), nB.frame (gr 145 (by omega)), nQ.frame2 (gr 139 (by omega)) (gr 140 (by omega)) (gr 142 (by omega)), nW.frame (gr 141 (by omega)) (ev 27 (by omega)), (ev 28 (by omega)).trans n28, nO.frame (gr 143 (by omega)) (ev 33 (by omega)), nY.frame (gr 144 (by omega)) (ev 34 (by omega)), nC.frame (gr 133 (by omega)), nD.frame (gr 134 (by omega)), nE.frame (gr 146 (by omega)), nG.frame (gr 147 (by omega)), nH.frame (gr 148 (by omega))⟩, (gr 149 (by omega)).trans o1⟩
  · have fr : ∀ j, (j < 8 ∨ 11 < j) → h1 j = h j := e1
    have hC1 : IC h1 f n B N0 [] I sl S ls tw wl WS := ⟨(fr 0 (by omega)).trans c0, c1.frame2 (fun j a b => fr j (by omega)), c2.frame (fun j a b => fr j (by omega)), t1, ⟨_, t2⟩, c5.frame (fun j a b => fr j (by omega)), c6.frame2 (fun j a b => fr j (by omega)), c7.frame (fun j a b => fr j (by omega)), c8.frame (fun j a b => fr j (by omega)), c9.frame (fun j a b => fr j (by omega)), c10.frame (fr 126 (by omega))⟩
    have g1 : ∀ j, 126 < j → h1 j = h j := fun j a => fr j (by omega)
    have m1 := (g1 127 (by omega)).trans m0
    have o1 := (g1 149 (by omega)).trans o
    obtain ⟨n7, nT, nR, nS, nK, nX, nF, nA, nB, nQ, nW, n28, nO, nY, nC, nD, nE, nG, nH⟩ : IN h1 v f n B N hs I sl S ls tw wl WS := hN.frame (fun j a => g1 j (by omega)) (fun _ _ => rfl)
    refine hQ _ _ ⟨_, _, m1⟩ (fun Q2 hQ2 => ?_)
    refine sm_restore (d + 11) m1 nR nS nK z z1 z2 (fun c' => absurd ((c' ha hb).symm.trans hc) (by simp)) (fun N1 _ _ c' h2 v2 e2 m2 ev2 t3 t4 => ?_)
    have eN : N1 = N0 := Option.some.inj (c'.symm.trans hc)
    rw [eN] at t3
    have gr : ∀ j, (j ≠ 127 ∧ j ≠ 129) → h2 j = h1 j := fun j a => e2 j a.1 a.2
    have ev : ∀ j, 0 < j ∧ j ≠ 19 → v2 j = v j := fun j a => by rw [ev2 j (by omega), upd_at, if_neg (by omega)]
    exact hQ2 _ ⟨f, n, B, N0, [], I, sl, S, ls, tw, wl, WS, v2, w, O, hC1.frame (fun j a => gr j (by omega)), m2, ⟨(ev 7 (by omega)).trans n7, nT.frame (gr 128 (by omega)) (ev 2 (by omega)), t3, t4, nK.frame (gr 131 (by omega)) (gr 137 (by omega)), nX.frame2 (gr 130 (by omega)) (gr 136 (by omega)), nF.frame (gr 138 (by omega)), nA.frame (gr 135 (by omega)), nB.frame (gr 145 (by omega)), nQ.frame2 (gr 139 (by omega)) (gr 140 (by omega)) (gr 142 (by omega)), nW.frame (gr 141 (by omega)) (ev 27 (by omega)), (ev 28 (by omega)).trans n28, nO.frame (gr 143 (by omega)) (ev 33 (by omega)), nY.frame (gr 144 (by omega)) (ev 34 (by omega)), nC.frame (gr 133 (by omega)), nD.frame (gr 134 (by omega)), nE.frame (gr 146 (by omega)), nG.frame (gr 147 (by omega)), nH.frame (gr 148 (by omega))⟩, (gr 149 (by omega)).trans o1⟩
set_option maxRecDepth 100000 in
theorem js_braid (d : Nat) {h : Hp} (hI : INV h) (x y : Int32) {Q : QT} (hQ : ∀ (r : Int32) (h1 : Hp), (∃ v w, h1 127 = mo v w) → (∀ Q2 : QT, (∀ h2, INV h2 → Q2 (some (.int r)) h2) → Call (d + 13) MX11_braid [.ref 127, .int x, .int y] h1 Q2) → Q (some (.int r)) h1) : Call (d + 13) MX10_braid [.ref 0, .int x, .int y] h Q := by
  obtain ⟨f, n, B, N, hs, I, sl, S, ls, tw, wl, WS, v, w, O, hC, m0, hN, o⟩ := hI
  obtain ⟨c0, c1, c2, c3, c4, c5, c6, c7, c8, c9, c10⟩ := id hC
  obtain ⟨n7, nT, nR, nS, nK, nX, nF, nA, nB, nQ, nW, n28, nO, nY, nC, nD, nE, nG, nH⟩ := id hN
  obtain ⟨a, rfl, a1, a2⟩ := i32z x
  obtain ⟨b, rfl, b1, b2⟩ := i32z y
  obtain ⟨hd, hh⟩ := id c4
  refine sp_braid (d + 9) c0 c3 hh a b a1 a2 b1 b2 (fun hc => ?_) (fun hc h1 e1 t1 t2 => ?_)
  · have hC1 := hC
    have m1 := m0
    have o1 := o
    refine hQ _ _ ⟨_, _, m1⟩ (fun Q2 hQ2 => ?_)
    refine sm_braid (d + 10) m1 nR nS a b a1 a2 b1 b2 (fun _ h2 e2 m2 => ?_) (fun c' => absurd c' hc)
    have gr : ∀ j, j ≠ 127 → h2 j = h j := e2
    have ev : ∀ j, 0 < j → upd v 0 (Int32.ofInt 0) j = v j := fun j a => by rw [upd_at, if_neg (by omega)]
    exact hQ2 _ ⟨f, n, B, N, hs, I, sl, S, ls, tw, wl, WS, upd v 0 (Int32.ofInt 0), w, O, hC1.frame (fun j a => gr j (by omega)), m2, ⟨(ev 7 (by omega)).trans n7, nT.frame (gr 128 (by omega)) (ev 2 (by omega)), RowR.frame nR (gr 129 (by omega)), nS.frame (gr 132 (by omega)) (ev 19 (by omega)), nK.frame (gr 131 (by omega)) (gr 137 (by omega)), nX.frame2 (gr 130 (by omega)) (gr 136 (by omega)), nF.frame (gr 138 (by omega)), nA.frame (gr 135 (by omega)), nB.frame (gr 145 (by omega)), nQ.frame2 (gr 139 (by omega)) (gr 140 (by omega)) (gr 142 (by omega)), nW.frame (gr 141 (by omega)) (ev 27 (by omega)), (ev 28 (by omega)).trans n28, nO.frame (gr 143 (by omega)) (ev 33 (by omega)), nY.frame (gr 144 (by omega)) (ev 34 (by omega)), nC.frame (gr 133 (by omega)), nD.frame (gr 134 (by omega)), nE.frame (gr 146 (by omega)), nG.frame (gr 147 (by omega)), nH.frame (gr 148 (by omega))⟩, (gr 149 (by omega)).trans o1⟩
  · have fr : ∀ j, (j < 8 ∨ 39 < j) → h1 j = h j := e1
    have hC1 : IC h1 f n B (rwK a.toNat (b.toNat - 1), rwK a.toNat b.toNat, (fun x => x / a.toNat), fun x => Nat.mod x (rwK a.toNat (b.toNat - 1))) ((N :: hs).take 8) I sl S ls tw wl WS := ⟨(fr 0 (by omega)).trans c0, c1.frame2 (fun j a b => fr j (by omega)), c2.frame (fun j a b => fr j (by omega)), t1, ⟨_, t2⟩, c5.frame (fun j a b => fr j (by omega)), c6.frame2 (fun j a b => fr j (by omega)), c7.frame (fun j a b => fr j (by omega)), c8.frame (fun j a b => fr j (by omega)), c9.frame (fun j a b => fr j (by omega)), c10.frame (fr 126 (by omega))⟩
    have g1 : ∀ j, 126 < j → h1 j = h j := fun j a => fr j (by omega)
    have m1 := (g1 127 (by omega)).trans m0
    have o1 := (g1 149 (by omega)).trans o
    obtain ⟨n7, nT, nR, nS, nK, nX, nF, nA, nB, nQ, nW, n28, nO, nY, nC, nD, nE, nG, nH⟩ : IN h1 v f n B N hs I sl S ls tw wl WS := hN.frame (fun j a => g1 j (by omega)) (fun _ _ => rfl)
    refine hQ _ _ ⟨_, _, m1⟩ (fun Q2 hQ2 => ?_)
    refine sm_braid (d + 10) m1 nR nS a b a1 a2 b1 b2 (fun c' => absurd hc c') (fun _ h2 v2 e2 m2 ev2 t3 t4 => ?_)
    have gr : ∀ j, (j ≠ 127 ∧ j ≠ 129 ∧ j ≠ 132) → h2 j = h1 j := fun j a => e2 j a.1 a.2.1 a.2.2
    have ev : ∀ j, 0 < j ∧ j ≠ 19 → v2 j = v j := fun j a => by rw [ev2 j (by omega), upd_at, if_neg (by omega)]
    exact hQ2 _ ⟨f, n, B, (rwK a.toNat (b.toNat - 1), rwK a.toNat b.toNat, (fun x => x / a.toNat), fun x => Nat.mod x (rwK a.toNat (b.toNat - 1))), ((N :: hs).take 8), I, sl, S, ls, tw, wl, WS, v2, w, O, hC1.frame (fun j a => gr j (by omega)), m2, ⟨(ev 7 (by omega)).trans n7, nT.frame (gr 128 (by omega)) (ev 2 (by omega)), t3, t4, nK.frame (gr 131 (by omega)) (gr 137 (by omega)), nX.frame2 (gr 130 (by omega)) (gr 136 (by omega)), nF.frame (gr 138 (by omega)), nA.frame (gr 135 (by omega)), nB.frame (gr 145 (by omega)), nQ.frame2 (gr 139 (by omega)) (gr 140 (by omega)) (gr 142 (by omega)), nW.frame (gr 141 (by omega)) (ev 27 (by omega)), (ev 28 (by omega)).trans n28, nO.frame (gr 143 (by omega)) (ev 33 (by omega)), nY.frame (gr 144 (by omega)) (ev 34 (by omega)), nC.frame (gr 133 (by omega)), nD.frame (gr 134 (by omega)), nE.frame (gr 146 (by omega)), nG.frame (gr 147 (by omega)), nH.frame (gr 148 (by omega))⟩, (gr 149 (by omega)).trans o1⟩
set_option maxRecDepth 100000 in
theorem js_deeds (d : Nat) {h : Hp} (hI : INV h) (x s : Int32) {Q : QT} (hQ : ∀ (r : Int32) (h1 : Hp), (∃ v w, h1 127 = mo v w) → (∀ Q2 : QT, (∀ h2, INV h2 → Q2 (some (.int r)) h2) → Call (d + 13) MX11_deeds [.ref 127, .int x, .int s] h1 Q2) → Q (some (.int r)) h1) : Call (d + 13) MX10_deeds [.ref 0, .int x, .int s] h Q := by
  obtain ⟨f, n, B, N, hs, I, sl, S, ls, tw, wl, WS, v, w, O, hC, m0, hN, o⟩ := hI
  obtain ⟨c0, c1, c2, c3, c4, c5, c6, c7, c8, c9, c10⟩ := id hC
  obtain ⟨n7, nT, nR, nS, nK, nX, nF, nA, nB, nQ, nW, n28, nO, nY, nC, nD, nE, nG, nH⟩ := id hN
  obtain ⟨a, rfl, a1, a2⟩ := i32z x
  obtain ⟨hd, hh⟩ := id c4
  obtain ⟨s0, hdr⟩ := id c10
  refine sp_deeds (d + 8) c0 c3 hh hdr a a1 a2 s (fun hc => ?_) (fun hc h1 e1 t1 t2 t3 t4 => ?_)
  · have hC1 := hC
    have m1 := m0
    have o1 := o
    obtain ⟨LC, nC'⟩ := id nC
    obtain ⟨LD, nD'⟩ := id nD
    refine hQ _ _ ⟨_, _, m1⟩ (fun Q2 hQ2 => ?_)
    refine sm_deeds (d + 9) m1 nR nS nD' nC' a a1 a2 s (fun _ h2 e2 m2 => ?_) (fun c' => absurd c' hc)
    have gr : ∀ j, j ≠ 127 → h2 j = h j := e2
    have ev : ∀ j, 0 < j → upd v 0 (Int32.ofInt 0) j = v j := fun j a => by rw [upd_at, if_neg (by omega)]
    exact hQ2 _ ⟨f, n, B, N, hs, I, sl, S, ls, tw, wl, WS, upd v 0 (Int32.ofInt 0), w, O, hC1.frame (fun j a => gr j (by omega)), m2, ⟨(ev 7 (by omega)).trans n7, nT.frame (gr 128 (by omega)) (ev 2 (by omega)), RowR.frame nR (gr 129 (by omega)), nS.frame (gr 132 (by omega)) (ev 19 (by omega)), nK.frame (gr 131 (by omega)) (gr 137 (by omega)), nX.frame2 (gr 130 (by omega)) (gr 136 (by omega)), nF.frame (gr 138 (by omega)), nA.frame (gr 135 (by omega)), nB.frame (gr 145 (by omega)), nQ.frame2 (gr 139 (by omega)) (gr 140 (by omega)) (gr 142 (by omega)), nW.frame (gr 141 (by omega)) (ev 27 (by omega)), (ev 28 (by omega)).trans n28, nO.frame (gr 143 (by omega)) (ev 33 (by omega)), nY.frame (gr 144 (by omega)) (ev 34 (by omega)), nC.frame (gr 133 (by omega)), nD.frame (gr 134 (by omega)), nE.frame (gr 146 (by omega)), nG.frame (gr 147 (by omega)), nH.frame (gr 148 (by omega))⟩, (gr 149 (by omega)).trans o1⟩
  · have fr : ∀ j, (j ≠ 126 ∧ (j < 8 ∨ 39 < j)) → h1 j = h j := fun j a => e1 j a.1 a.2
    have t5 : HisE h1 (if (dsN a.toNat (s, N, 0)).2.2 = 0 then hs else ((N :: hs).take 8)) := by
      split
      · next q => exact ⟨_, t3 q⟩
      · next q => exact ⟨_, t4 (by omega)⟩
    have hC1 : IC h1 f n B (dsN a.toNat (s, N, 0)).2.1 (if (dsN a.toNat (s, N, 0)).2.2 = 0 then hs else ((N :: hs).take 8)) I sl S ls tw wl WS := ⟨(fr 0 (by omega)).trans c0, c1.frame2 (fun j a b => fr j (by omega)), c2.frame (fun j a b => fr j (by omega)), t2, t5, c5.frame (fun j a b => fr j (by omega)), c6.frame2 (fun j a b => fr j (by omega)), c7.frame (fun j a b => fr j (by omega)), c8.frame (fun j a b => fr j (by omega)), c9.frame (fun j a b => fr j (by omega)), ⟨_, t1⟩⟩
    have g1 : ∀ j, 126 < j → h1 j = h j := fun j a => fr j (by omega)
    have m1 := (g1 127 (by omega)).trans m0
    have o1 := (g1 149 (by omega)).trans o
    obtain ⟨n7, nT, nR, nS, nK, nX, nF, nA, nB, nQ, nW, n28, nO, nY, nC, nD, nE, nG, nH⟩ : IN h1 v f n B N hs I sl S ls tw wl WS := hN.frame (fun j a => g1 j (by omega)) (fun _ _ => rfl)
    obtain ⟨LC, nC'⟩ := id nC
    obtain ⟨LD, nD'⟩ := id nD
    refine hQ _ _ ⟨_, _, m1⟩ (fun Q2 hQ2 => ?_)
    refine sm_deeds (d + 9) m1 nR nS nD' nC' a a1 a2 s (fun c' => absurd hc c') (fun _ h2 v2 e2 m2 ev2 u1 u2 u3 u4 u5 => ?_)
    have u6 : SnR h2 v2 (if (dsN a.toNat (s, N, 0)).2.2 = 0 then hs else ((N :: hs).take 8)) := by
      split
      · next q => exact u4 q
      · next q => exact u5 (by omega)
    have gr : ∀ j, (j ≠ 127 ∧ j ≠ 129 ∧ j ≠ 132 ∧ j ≠ 133 ∧ j ≠ 134) → h2 j = h1 j := fun j a => e2 j a.1 a.2.1 a.2.2.1 a.2.2.2.1 a.2.2.2.2
    have ev : ∀ j, 0 < j ∧ j ≠ 19 ∧ j ≠ 29 → v2 j = v j := fun j a => by rw [ev2 j (by omega) (by omega), upd_at, if_neg (by omega)]
    exact hQ2 _ ⟨f, n, B, (dsN a.toNat (s, N, 0)).2.1, (if (dsN a.toNat (s, N, 0)).2.2 = 0 then hs else ((N :: hs).take 8)), I, sl, S, ls, tw, wl, WS, v2, w, O, hC1.frame (fun j a => gr j (by omega)), m2, ⟨(ev 7 (by omega)).trans n7, nT.frame (gr 128 (by omega)) (ev 2 (by omega)), u1, u6, nK.frame (gr 131 (by omega)) (gr 137 (by omega)), nX.frame2 (gr 130 (by omega)) (gr 136 (by omega)), nF.frame (gr 138 (by omega)), nA.frame (gr 135 (by omega)), nB.frame (gr 145 (by omega)), nQ.frame2 (gr 139 (by omega)) (gr 140 (by omega)) (gr 142 (by omega)), nW.frame (gr 141 (by omega)) (ev 27 (by omega)), (ev 28 (by omega)).trans n28, nO.frame (gr 143 (by omega)) (ev 33 (by omega)), nY.frame (gr 144 (by omega)) (ev 34 (by omega)), u3, u2, nE.frame (gr 146 (by omega)), nG.frame (gr 147 (by omega)), nH.frame (gr 148 (by omega))⟩, (gr 149 (by omega)).trans o1⟩
