/-! ONE CALL OF THE LAW: the class answers, the reference answers the same, and both hold one state again -/
set_option maxRecDepth 100000 in
theorem js_fault (d : Nat) {h : Hp} (hI : INV h) {Q : QT} (hQ : ∀ (r : Int32) (h1 : Hp), (∃ v w, h1 127 = mo v w) → (∀ Q2 : QT, (∀ h2, INV h2 → Q2 (some (.int r)) h2) → Call (d + 13) MX11_fault [.ref 127] h1 Q2) → Q (some (.int r)) h1) : Call (d + 13) MX10_fault [.ref 0] h Q := by
  obtain ⟨f, n, B, N, hs, I, sl, S, ls, tw, wl, WS, v, w, O, hC, m0, hN, o⟩ := hI
  obtain ⟨c0, c1, c2, c3, c4, c5, c6, c7, c8, c9, c10⟩ := id hC
  obtain ⟨n7, nT, nR, nS, nK, nX, nF, nA, nB, nQ, nW, n28, nO, nY, nC, nD, nE, nG, nH⟩ := id hN
  have hC1 := hC
  have m1 := m0
  have o1 := o
  refine sp_fault (d + 12) c0 (hQ _ _ ⟨_, _, m1⟩ (fun Q2 hQ2 => ?_))
  refine sm_fault (d + 12) m1 (fun h2 e2 m2 => ?_)
  have gr : ∀ j, j ≠ 127 → h2 j = h j := e2
  have ev : ∀ j, 0 < j → upd v 0 (Int32.ofInt 0) j = v j := fun j a => by rw [upd_at, if_neg (by omega)]
  rw [n7]
  exact hQ2 _ ⟨f, n, B, N, hs, I, sl, S, ls, tw, wl, WS, upd v 0 (Int32.ofInt 0), w, O, hC1.frame (fun j a => gr j (by omega)), m2, ⟨(ev 7 (by omega)).trans n7, nT.frame (gr 128 (by omega)) (ev 2 (by omega)), RowR.frame nR (gr 129 (by omega)), nS.frame (gr 132 (by omega)) (ev 19 (by omega)), nK.frame (gr 131 (by omega)) (gr 137 (by omega)), nX.frame2 (gr 130 (by omega)) (gr 136 (by omega)), nF.frame (gr 138 (by omega)), nA.frame (gr 135 (by omega)), nB.frame (gr 145 (by omega)), nQ.frame2 (gr 139 (by omega)) (gr 140 (by omega)) (gr 142 (by omega)), nW.frame (gr 141 (by omega)) (ev 27 (by omega)), (ev 28 (by omega)).trans n28, nO.frame (gr 143 (by omega)) (ev 33 (by omega)), nY.frame (gr 144 (by omega)) (ev 34 (by omega)), nC.frame (gr 133 (by omega)), nD.frame (gr 134 (by omega)), nE.frame (gr 146 (by omega)), nG.frame (gr 147 (by omega)), nH.frame (gr 148 (by omega))⟩, (gr 149 (by omega)).trans o1⟩
set_option maxRecDepth 100000 in
theorem js_end (d : Nat) {h : Hp} (hI : INV h) (x : Int32) {Q : QT} (hQ : ∀ (r : Int32) (h1 : Hp), (∃ v w, h1 127 = mo v w) → (∀ Q2 : QT, (∀ h2, INV h2 → Q2 (some (.int r)) h2) → Call (d + 13) MX11_end [.ref 127, .int x] h1 Q2) → Q (some (.int r)) h1) : Call (d + 13) MX10_end [.ref 0, .int x] h Q := by
  obtain ⟨f, n, B, N, hs, I, sl, S, ls, tw, wl, WS, v, w, O, hC, m0, hN, o⟩ := hI
  obtain ⟨c0, c1, c2, c3, c4, c5, c6, c7, c8, c9, c10⟩ := id hC
  obtain ⟨n7, nT, nR, nS, nK, nX, nF, nA, nB, nQ, nW, n28, nO, nY, nC, nD, nE, nG, nH⟩ := id hN
  obtain ⟨z, rfl, z1, z2⟩ := i32z x
  refine sp_end (d + 11) c0 c1 z z1 z2 (fun h1 e1 t1 => ?_)
  have fr : ∀ j, j ≠ 1 → h1 j = h j := e1
  have hC1 : IC h1 f (if 0 ≤ z ∧ z ≤ n then z.toNat else n) B N hs I sl S ls tw wl WS := ⟨(fr 0 (by omega)).trans c0, t1, c2.frame (fun j a b => fr j (by omega)), c3.frame (fun j a b => fr j (by omega)), c4.frame (fun j a b => fr j (by omega)), c5.frame (fun j a b => fr j (by omega)), c6.frame2 (fun j a b => fr j (by omega)), c7.frame (fun j a b => fr j (by omega)), c8.frame (fun j a b => fr j (by omega)), c9.frame (fun j a b => fr j (by omega)), c10.frame (fr 126 (by omega))⟩
  have g1 : ∀ j, 126 < j → h1 j = h j := fun j a => fr j (by omega)
  have m1 := (g1 127 (by omega)).trans m0
  have o1 := (g1 149 (by omega)).trans o
  obtain ⟨n7, nT, nR, nS, nK, nX, nF, nA, nB, nQ, nW, n28, nO, nY, nC, nD, nE, nG, nH⟩ : IN h1 v f n B N hs I sl S ls tw wl WS := hN.frame (fun j a => g1 j (by omega)) (fun _ _ => rfl)
  refine hQ _ _ ⟨_, _, m1⟩ (fun Q2 hQ2 => ?_)
  refine sm_end (d + 12) m1 nT z z1 z2 (fun h2 v2 e2 m2 ev2 t2 => ?_)
  have gr : ∀ j, j ≠ 127 → h2 j = h1 j := e2
  have ev : ∀ j, 0 < j ∧ j ≠ 2 → v2 j = v j := fun j a => by rw [ev2 j (by omega), upd_at, if_neg (by omega)]
  exact hQ2 _ ⟨f, (if 0 ≤ z ∧ z ≤ n then z.toNat else n), B, N, hs, I, sl, S, ls, tw, wl, WS, v2, w, O, hC1.frame (fun j a => gr j (by omega)), m2, ⟨(ev 7 (by omega)).trans n7, t2, RowR.frame nR (gr 129 (by omega)), nS.frame (gr 132 (by omega)) (ev 19 (by omega)), nK.frame (gr 131 (by omega)) (gr 137 (by omega)), nX.frame2 (gr 130 (by omega)) (gr 136 (by omega)), nF.frame (gr 138 (by omega)), nA.frame (gr 135 (by omega)), nB.frame (gr 145 (by omega)), nQ.frame2 (gr 139 (by omega)) (gr 140 (by omega)) (gr 142 (by omega)), nW.frame (gr 141 (by omega)) (ev 27 (by omega)), (ev 28 (by omega)).trans n28, nO.frame (gr 143 (by omega)) (ev 33 (by omega)), nY.frame (gr 144 (by omega)) (ev 34 (by omega)), nC.frame (gr 133 (by omega)), nD.frame (gr 134 (by omega)), nE.frame (gr 146 (by omega)), nG.frame (gr 147 (by omega)), nH.frame (gr 148 (by omega))⟩, (gr 149 (by omega)).trans o1⟩
set_option maxRecDepth 100000 in
theorem js_feed (d : Nat) {h : Hp} (hI : INV h) (a b c e g : Int32) {Q : QT} (hQ : ∀ (r : Int32) (h1 : Hp), (∃ v w, h1 127 = mo v w) → (∀ Q2 : QT, (∀ h2, INV h2 → Q2 (some (.int r)) h2) → Call (d + 13) MX11_feed [.ref 127, .int a, .int b, .int c, .int e, .int g] h1 Q2) → Q (some (.int r)) h1) : Call (d + 13) MX10_feed [.ref 0, .int a, .int b, .int c, .int e, .int g] h Q := by
  obtain ⟨f, n, B, N, hs, I, sl, S, ls, tw, wl, WS, v, w, O, hC, m0, hN, o⟩ := hI
  obtain ⟨c0, c1, c2, c3, c4, c5, c6, c7, c8, c9, c10⟩ := id hC
  obtain ⟨n7, nT, nR, nS, nK, nX, nF, nA, nB, nQ, nW, n28, nO, nY, nC, nD, nE, nG, nH⟩ := id hN
  refine sp_feed (d + 11) c0 c1 a b c e g (fun hc => ?_) (fun hc h1 e1 t1 => ?_)
  · have hC1 := hC
    have m1 := m0
    have o1 := o
    refine hQ _ _ ⟨_, _, m1⟩ (fun Q2 hQ2 => ?_)
    refine sm_feed (d + 11) m1 nT a b c e g (fun _ h2 e2 m2 => ?_) (fun c' => absurd c' (by omega))
    have gr : ∀ j, j ≠ 127 → h2 j = h j := e2
    have ev : ∀ j, 0 < j → upd v 0 (Int32.ofInt 0) j = v j := fun j a => by rw [upd_at, if_neg (by omega)]
    exact hQ2 _ ⟨f, n, B, N, hs, I, sl, S, ls, tw, wl, WS, upd v 0 (Int32.ofInt 0), w, O, hC1.frame (fun j a => gr j (by omega)), m2, ⟨(ev 7 (by omega)).trans n7, nT.frame (gr 128 (by omega)) (ev 2 (by omega)), RowR.frame nR (gr 129 (by omega)), nS.frame (gr 132 (by omega)) (ev 19 (by omega)), nK.frame (gr 131 (by omega)) (gr 137 (by omega)), nX.frame2 (gr 130 (by omega)) (gr 136 (by omega)), nF.frame (gr 138 (by omega)), nA.frame (gr 135 (by omega)), nB.frame (gr 145 (by omega)), nQ.frame2 (gr 139 (by omega)) (gr 140 (by omega)) (gr 142 (by omega)), nW.frame (gr 141 (by omega)) (ev 27 (by omega)), (ev 28 (by omega)).trans n28, nO.frame (gr 143 (by omega)) (ev 33 (by omega)), nY.frame (gr 144 (by omega)) (ev 34 (by omega)), nC.frame (gr 133 (by omega)), nD.frame (gr 134 (by omega)), nE.frame (gr 146 (by omega)), nG.frame (gr 147 (by omega)), nH.frame (gr 148 (by omega))⟩, (gr 149 (by omega)).trans o1⟩
  · have fr : ∀ j, (j ≠ 1 ∧ j ≠ 2) → h1 j = h j := fun j a => e1 j a.1 a.2
    have hC1 : IC h1 f (n + 20) (pushB (pushB (pushB (pushB (pushB B n a) (n + 4) b) (n + 8) c) (n + 12) e) (n + 16) g) N hs I sl S ls tw wl WS := ⟨(fr 0 (by omega)).trans c0, t1, c2.frame (fun j a b => fr j (by omega)), c3.frame (fun j a b => fr j (by omega)), c4.frame (fun j a b => fr j (by omega)), c5.frame (fun j a b => fr j (by omega)), c6.frame2 (fun j a b => fr j (by omega)), c7.frame (fun j a b => fr j (by omega)), c8.frame (fun j a b => fr j (by omega)), c9.frame (fun j a b => fr j (by omega)), c10.frame (fr 126 (by omega))⟩
    have g1 : ∀ j, 126 < j → h1 j = h j := fun j a => fr j (by omega)
    have m1 := (g1 127 (by omega)).trans m0
    have o1 := (g1 149 (by omega)).trans o
    obtain ⟨n7, nT, nR, nS, nK, nX, nF, nA, nB, nQ, nW, n28, nO, nY, nC, nD, nE, nG, nH⟩ : IN h1 v f n B N hs I sl S ls tw wl WS := hN.frame (fun j a => g1 j (by omega)) (fun _ _ => rfl)
    refine hQ _ _ ⟨_, _, m1⟩ (fun Q2 hQ2 => ?_)
    refine sm_feed (d + 11) m1 nT a b c e g (fun c' => absurd c' (by omega)) (fun _ h2 v2 e2 m2 ev2 t2 => ?_)
    have gr : ∀ j, (j ≠ 127 ∧ j ≠ 128) → h2 j = h1 j := fun j a => e2 j a.1 a.2
    have ev : ∀ j, 0 < j ∧ j ≠ 2 → v2 j = v j := fun j a => by rw [ev2 j (by omega), upd_at, if_neg (by omega)]
    exact hQ2 _ ⟨f, (n + 20), (pushB (pushB (pushB (pushB (pushB B n a) (n + 4) b) (n + 8) c) (n + 12) e) (n + 16) g), N, hs, I, sl, S, ls, tw, wl, WS, v2, w, O, hC1.frame (fun j a => gr j (by omega)), m2, ⟨(ev 7 (by omega)).trans n7, t2, RowR.frame nR (gr 129 (by omega)), nS.frame (gr 132 (by omega)) (ev 19 (by omega)), nK.frame (gr 131 (by omega)) (gr 137 (by omega)), nX.frame2 (gr 130 (by omega)) (gr 136 (by omega)), nF.frame (gr 138 (by omega)), nA.frame (gr 135 (by omega)), nB.frame (gr 145 (by omega)), nQ.frame2 (gr 139 (by omega)) (gr 140 (by omega)) (gr 142 (by omega)), nW.frame (gr 141 (by omega)) (ev 27 (by omega)), (ev 28 (by omega)).trans n28, nO.frame (gr 143 (by omega)) (ev 33 (by omega)), nY.frame (gr 144 (by omega)) (ev 34 (by omega)), nC.frame (gr 133 (by omega)), nD.frame (gr 134 (by omega)), nE.frame (gr 146 (by omega)), nG.frame (gr 147 (by omega)), nH.frame (gr 148 (by omega))⟩, (gr 149 (by omega)).trans o1⟩
set_option maxRecDepth 100000 in
theorem js_kind (d : Nat) {h : Hp} (hI : INV h) {Q : QT} (hQ : ∀ (r : Int32) (h1 : Hp), (∃ v w, h1 127 = mo v w) → (∀ Q2 : QT, (∀ h2, INV h2 → Q2 (some (.int r)) h2) → Call (d + 13) MX11_kind [.ref 127] h1 Q2) → Q (some (.int r)) h1) : Call (d + 13) MX10_kind [.ref 0] h Q := by
  obtain ⟨f, n, B, N, hs, I, sl, S, ls, tw, wl, WS, v, w, O, hC, m0, hN, o⟩ := hI
  obtain ⟨c0, c1, c2, c3, c4, c5, c6, c7, c8, c9, c10⟩ := id hC
  obtain ⟨n7, nT, nR, nS, nK, nX, nF, nA, nB, nQ, nW, n28, nO, nY, nC, nD, nE, nG, nH⟩ := id hN
  have hC1 := hC
  have m1 := m0
  have o1 := o
  refine sp_kind (d + 8) c0 c3 (hQ _ _ ⟨_, _, m1⟩ (fun Q2 hQ2 => ?_))
  refine sm_kind (d + 8) m1 nR (fun h2 e2 m2 => ?_)
  have gr : ∀ j, j ≠ 127 → h2 j = h j := e2
  have ev : ∀ j, 0 < j → upd v 0 (Int32.ofInt 0) j = v j := fun j a => by rw [upd_at, if_neg (by omega)]
  exact hQ2 _ ⟨f, n, B, N, hs, I, sl, S, ls, tw, wl, WS, upd v 0 (Int32.ofInt 0), w, O, hC1.frame (fun j a => gr j (by omega)), m2, ⟨(ev 7 (by omega)).trans n7, nT.frame (gr 128 (by omega)) (ev 2 (by omega)), RowR.frame nR (gr 129 (by omega)), nS.frame (gr 132 (by omega)) (ev 19 (by omega)), nK.frame (gr 131 (by omega)) (gr 137 (by omega)), nX.frame2 (gr 130 (by omega)) (gr 136 (by omega)), nF.frame (gr 138 (by omega)), nA.frame (gr 135 (by omega)), nB.frame (gr 145 (by omega)), nQ.frame2 (gr 139 (by omega)) (gr 140 (by omega)) (gr 142 (by omega)), nW.frame (gr 141 (by omega)) (ev 27 (by omega)), (ev 28 (by omega)).trans n28, nO.frame (gr 143 (by omega)) (ev 33 (by omega)), nY.frame (gr 144 (by omega)) (ev 34 (by omega)), nC.frame (gr 133 (by omega)), nD.frame (gr 134 (by omega)), nE.frame (gr 146 (by omega)), nG.frame (gr 147 (by omega)), nH.frame (gr 148 (by omega))⟩, (gr 149 (by omega)).trans o1⟩
set_option maxRecDepth 100000 in
theorem js_ends (d : Nat) {h : Hp} (hI : INV h) (x : Int32) {Q : QT} (hQ : ∀ (r : Int32) (h1 : Hp), (∃ v w, h1 127 = mo v w) → (∀ Q2 : QT, (∀ h2, INV h2 → Q2 (some (.int r)) h2) → Call (d + 13) MX11_ends [.ref 127, .int x] h1 Q2) → Q (some (.int r)) h1) : Call (d + 13) MX10_ends [.ref 0, .int x] h Q := by
  obtain ⟨f, n, B, N, hs, I, sl, S, ls, tw, wl, WS, v, w, O, hC, m0, hN, o⟩ := hI
  obtain ⟨c0, c1, c2, c3, c4, c5, c6, c7, c8, c9, c10⟩ := id hC
  obtain ⟨n7, nT, nR, nS, nK, nX, nF, nA, nB, nQ, nW, n28, nO, nY, nC, nD, nE, nG, nH⟩ := id hN
  obtain ⟨z, rfl, z1, z2⟩ := i32z x
  have hC1 := hC
  have m1 := m0
  have o1 := o
  refine sp_ends (d + 8) c0 c3 z z1 z2 (hQ _ _ ⟨_, _, m1⟩ (fun Q2 hQ2 => ?_))
  refine sm_ends (d + 7) m1 nR z z1 z2 (fun h2 e2 m2 => ?_)
  have gr : ∀ j, j ≠ 127 → h2 j = h j := e2
  have ev : ∀ j, 0 < j → upd v 0 (Int32.ofInt 0) j = v j := fun j a => by rw [upd_at, if_neg (by omega)]
  exact hQ2 _ ⟨f, n, B, N, hs, I, sl, S, ls, tw, wl, WS, upd v 0 (Int32.ofInt 0), w, O, hC1.frame (fun j a => gr j (by omega)), m2, ⟨(ev 7 (by omega)).trans n7, nT.frame (gr 128 (by omega)) (ev 2 (by omega)), RowR.frame nR (gr 129 (by omega)), nS.frame (gr 132 (by omega)) (ev 19 (by omega)), nK.frame (gr 131 (by omega)) (gr 137 (by omega)), nX.frame2 (gr 130 (by omega)) (gr 136 (by omega)), nF.frame (gr 138 (by omega)), nA.frame (gr 135 (by omega)), nB.frame (gr 145 (by omega)), nQ.frame2 (gr 139 (by omega)) (gr 140 (by omega)) (gr 142 (by omega)), nW.frame (gr 141 (by omega)) (ev 27 (by omega)), (ev 28 (by omega)).trans n28, nO.frame (gr 143 (by omega)) (ev 33 (by omega)), nY.frame (gr 144 (by omega)) (ev 34 (by omega)), nC.frame (gr 133 (by omega)), nD.frame (gr 134 (by omega)), nE.frame (gr 146 (by omega)), nG.frame (gr 147 (by omega)), nH.frame (gr 148 (by omega))⟩, (gr 149 (by omega)).trans o1⟩
set_option maxRecDepth 100000 in
theorem js_walkAt (d : Nat) {h : Hp} (hI : INV h) (x : Int32) {Q : QT} (hQ : ∀ (r : Int32) (h1 : Hp), (∃ v w, h1 127 = mo v w) → (∀ Q2 : QT, (∀ h2, INV h2 → Q2 (some (.int r)) h2) → Call (d + 13) MX11_walkAt [.ref 127, .int x] h1 Q2) → Q (some (.int r)) h1) : Call (d + 13) MX10_walkAt [.ref 0, .int x] h Q := by
  obtain ⟨f, n, B, N, hs, I, sl, S, ls, tw, wl, WS, v, w, O, hC, m0, hN, o⟩ := hI
  obtain ⟨c0, c1, c2, c3, c4, c5, c6, c7, c8, c9, c10⟩ := id hC
  obtain ⟨n7, nT, nR, nS, nK, nX, nF, nA, nB, nQ, nW, n28, nO, nY, nC, nD, nE, nG, nH⟩ := id hN
  obtain ⟨z, rfl, z1, z2⟩ := i32z x
  have hC1 := hC
  have m1 := m0
  have o1 := o
  refine sp_walkAt (d + 11) c0 c7 z z1 z2 (hQ _ _ ⟨_, _, m1⟩ (fun Q2 hQ2 => ?_))
  refine sm_walkAt (d + 11) m1 nW.1 nW.2.1 nW.2.2 z z1 z2 (fun h2 e2 m2 => ?_)
  have gr : ∀ j, j ≠ 127 → h2 j = h j := e2
  have ev : ∀ j, 0 < j → upd v 0 (Int32.ofInt 0) j = v j := fun j a => by rw [upd_at, if_neg (by omega)]
  exact hQ2 _ ⟨f, n, B, N, hs, I, sl, S, ls, tw, wl, WS, upd v 0 (Int32.ofInt 0), w, O, hC1.frame (fun j a => gr j (by omega)), m2, ⟨(ev 7 (by omega)).trans n7, nT.frame (gr 128 (by omega)) (ev 2 (by omega)), RowR.frame nR (gr 129 (by omega)), nS.frame (gr 132 (by omega)) (ev 19 (by omega)), nK.frame (gr 131 (by omega)) (gr 137 (by omega)), nX.frame2 (gr 130 (by omega)) (gr 136 (by omega)), nF.frame (gr 138 (by omega)), nA.frame (gr 135 (by omega)), nB.frame (gr 145 (by omega)), nQ.frame2 (gr 139 (by omega)) (gr 140 (by omega)) (gr 142 (by omega)), nW.frame (gr 141 (by omega)) (ev 27 (by omega)), (ev 28 (by omega)).trans n28, nO.frame (gr 143 (by omega)) (ev 33 (by omega)), nY.frame (gr 144 (by omega)) (ev 34 (by omega)), nC.frame (gr 133 (by omega)), nD.frame (gr 134 (by omega)), nE.frame (gr 146 (by omega)), nG.frame (gr 147 (by omega)), nH.frame (gr 148 (by omega))⟩, (gr 149 (by omega)).trans o1⟩
set_option maxRecDepth 100000 in
theorem js_lasts (d : Nat) {h : Hp} (hI : INV h) {Q : QT} (hQ : ∀ (r : Int32) (h1 : Hp), (∃ v w, h1 127 = mo v w) → (∀ Q2 : QT, (∀ h2, INV h2 → Q2 (some (.int r)) h2) → Call (d + 13) MX11_lasts [.ref 127] h1 Q2) → Q (some (.int r)) h1) : Call (d + 13) MX10_lasts [.ref 0] h Q := by
  obtain ⟨f, n, B, N, hs, I, sl, S, ls, tw, wl, WS, v, w, O, hC, m0, hN, o⟩ := hI
  obtain ⟨c0, c1, c2, c3, c4, c5, c6, c7, c8, c9, c10⟩ := id hC
  obtain ⟨n7, nT, nR, nS, nK, nX, nF, nA, nB, nQ, nW, n28, nO, nY, nC, nD, nE, nG, nH⟩ := id hN
  have hC1 := hC
  have m1 := m0
  have o1 := o
  refine sp_lasts (d + 12) c0 c7 (hQ _ _ ⟨_, _, m1⟩ (fun Q2 hQ2 => ?_))
  refine sm_lasts (d + 12) m1 (fun h2 e2 m2 => ?_)
  have gr : ∀ j, j ≠ 127 → h2 j = h j := e2
  have ev : ∀ j, 0 < j → upd v 0 (Int32.ofInt 0) j = v j := fun j a => by rw [upd_at, if_neg (by omega)]
  rw [n28]
  exact hQ2 _ ⟨f, n, B, N, hs, I, sl, S, ls, tw, wl, WS, upd v 0 (Int32.ofInt 0), w, O, hC1.frame (fun j a => gr j (by omega)), m2, ⟨(ev 7 (by omega)).trans n7, nT.frame (gr 128 (by omega)) (ev 2 (by omega)), RowR.frame nR (gr 129 (by omega)), nS.frame (gr 132 (by omega)) (ev 19 (by omega)), nK.frame (gr 131 (by omega)) (gr 137 (by omega)), nX.frame2 (gr 130 (by omega)) (gr 136 (by omega)), nF.frame (gr 138 (by omega)), nA.frame (gr 135 (by omega)), nB.frame (gr 145 (by omega)), nQ.frame2 (gr 139 (by omega)) (gr 140 (by omega)) (gr 142 (by omega)), nW.frame (gr 141 (by omega)) (ev 27 (by omega)), (ev 28 (by omega)).trans n28, nO.frame (gr 143 (by omega)) (ev 33 (by omega)), nY.frame (gr 144 (by omega)) (ev 34 (by omega)), nC.frame (gr 133 (by omega)), nD.frame (gr 134 (by omega)), nE.frame (gr 146 (by omega)), nG.frame (gr 147 (by omega)), nH.frame (gr 148 (by omega))⟩, (gr 149 (by omega)).trans o1⟩
theorem ToC.any {h : Hp} {tw : Option (Nat × (Nat → Nat))} {wl : Nat} {WS : Nat → Nat} (ht : ToC h tw wl WS) : ∃ (lst tl al tr : Int) (LT D : Nat → Nat), SpR h lst tl wl al tr LT D WS := by
  obtain ⟨-, b⟩ := ht
  cases tw with
  | none =>
    obtain ⟨lst, LT, D, c⟩ := b
    exact ⟨_, _, _, _, _, _, c⟩
  | some x =>
    obtain ⟨k, LT, c⟩ := b
    exact ⟨_, _, _, _, _, _, c⟩
set_option maxRecDepth 100000 in
theorem js_letterAt (d : Nat) {h : Hp} (hI : INV h) (x : Int32) {Q : QT} (hQ : ∀ (r : Int32) (h1 : Hp), (∃ v w, h1 127 = mo v w) → (∀ Q2 : QT, (∀ h2, INV h2 → Q2 (some (.int r)) h2) → Call (d + 13) MX11_letterAt [.ref 127, .int x] h1 Q2) → Q (some (.int r)) h1) : Call (d + 13) MX10_letterAt [.ref 0, .int x] h Q := by
  obtain ⟨f, n, B, N, hs, I, sl, S, ls, tw, wl, WS, v, w, O, hC, m0, hN, o⟩ := hI
  obtain ⟨c0, c1, c2, c3, c4, c5, c6, c7, c8, c9, c10⟩ := id hC
  obtain ⟨n7, nT, nR, nS, nK, nX, nF, nA, nB, nQ, nW, n28, nO, nY, nC, nD, nE, nG, nH⟩ := id hN
  obtain ⟨z, rfl, z1, z2⟩ := i32z x
  obtain ⟨lst, tl, al, tr, LT, D, hs'⟩ := c8.any
  have hC1 := hC
  have m1 := m0
  have o1 := o
  refine sp_letterAt (d + 11) c0 hs' z z1 z2 (hQ _ _ ⟨_, _, m1⟩ (fun Q2 hQ2 => ?_))
  refine sm_letterAt (d + 11) m1 nY.1 nY.2.1 nY.2.2 z z1 z2 (fun h2 e2 m2 => ?_)
  have gr : ∀ j, j ≠ 127 → h2 j = h j := e2
  have ev : ∀ j, 0 < j → upd v 0 (Int32.ofInt 0) j = v j := fun j a => by rw [upd_at, if_neg (by omega)]
  exact hQ2 _ ⟨f, n, B, N, hs, I, sl, S, ls, tw, wl, WS, upd v 0 (Int32.ofInt 0), w, O, hC1.frame (fun j a => gr j (by omega)), m2, ⟨(ev 7 (by omega)).trans n7, nT.frame (gr 128 (by omega)) (ev 2 (by omega)), RowR.frame nR (gr 129 (by omega)), nS.frame (gr 132 (by omega)) (ev 19 (by omega)), nK.frame (gr 131 (by omega)) (gr 137 (by omega)), nX.frame2 (gr 130 (by omega)) (gr 136 (by omega)), nF.frame (gr 138 (by omega)), nA.frame (gr 135 (by omega)), nB.frame (gr 145 (by omega)), nQ.frame2 (gr 139 (by omega)) (gr 140 (by omega)) (gr 142 (by omega)), nW.frame (gr 141 (by omega)) (ev 27 (by omega)), (ev 28 (by omega)).trans n28, nO.frame (gr 143 (by omega)) (ev 33 (by omega)), nY.frame (gr 144 (by omega)) (ev 34 (by omega)), nC.frame (gr 133 (by omega)), nD.frame (gr 134 (by omega)), nE.frame (gr 146 (by omega)), nG.frame (gr 147 (by omega)), nH.frame (gr 148 (by omega))⟩, (gr 149 (by omega)).trans o1⟩
set_option maxRecDepth 100000 in
theorem js_now (d : Nat) {h : Hp} (hI : INV h) (x : Int32) {Q : QT} (hQ : ∀ (r : Int32) (h1 : Hp), (∃ v w, h1 127 = mo v w) → (∀ Q2 : QT, (∀ h2, INV h2 → Q2 (some (.int r)) h2) → Call (d + 13) MX11_now [.ref 127, .int x] h1 Q2) → Q (some (.int r)) h1) : Call (d + 13) MX10_now [.ref 0, .int x] h Q := by
  obtain ⟨f, n, B, N, hs, I, sl, S, ls, tw, wl, WS, v, w, O, hC, m0, hN, o⟩ := hI
  obtain ⟨c0, c1, c2, c3, c4, c5, c6, c7, c8, c9, c10⟩ := id hC
  obtain ⟨n7, nT, nR, nS, nK, nX, nF, nA, nB, nQ, nW, n28, nO, nY, nC, nD, nE, nG, nH⟩ := id hN
  obtain ⟨z, rfl, z1, z2⟩ := i32z x
  obtain ⟨hd, c4'⟩ := c4
  have c4 : HisE h hs := ⟨hd, c4'⟩
  have hC1 := hC
  have m1 := m0
  have o1 := o
  refine sp_now (d + 9) c0 c3 c4' c1 z z1 z2 (hQ _ _ ⟨_, _, m1⟩ (fun Q2 hQ2 => ?_))
  refine sm_now (d + 9) m1 nR nS.1 nT.1 z z1 z2 (fun h2 e2 m2 => ?_)
  have gr : ∀ j, j ≠ 127 → h2 j = h j := e2
  have ev : ∀ j, 0 < j → upd v 0 (Int32.ofInt 0) j = v j := fun j a => by rw [upd_at, if_neg (by omega)]
  exact hQ2 _ ⟨f, n, B, N, hs, I, sl, S, ls, tw, wl, WS, upd v 0 (Int32.ofInt 0), w, O, hC1.frame (fun j a => gr j (by omega)), m2, ⟨(ev 7 (by omega)).trans n7, nT.frame (gr 128 (by omega)) (ev 2 (by omega)), RowR.frame nR (gr 129 (by omega)), nS.frame (gr 132 (by omega)) (ev 19 (by omega)), nK.frame (gr 131 (by omega)) (gr 137 (by omega)), nX.frame2 (gr 130 (by omega)) (gr 136 (by omega)), nF.frame (gr 138 (by omega)), nA.frame (gr 135 (by omega)), nB.frame (gr 145 (by omega)), nQ.frame2 (gr 139 (by omega)) (gr 140 (by omega)) (gr 142 (by omega)), nW.frame (gr 141 (by omega)) (ev 27 (by omega)), (ev 28 (by omega)).trans n28, nO.frame (gr 143 (by omega)) (ev 33 (by omega)), nY.frame (gr 144 (by omega)) (ev 34 (by omega)), nC.frame (gr 133 (by omega)), nD.frame (gr 134 (by omega)), nE.frame (gr 146 (by omega)), nG.frame (gr 147 (by omega)), nH.frame (gr 148 (by omega))⟩, (gr 149 (by omega)).trans o1⟩
set_option maxRecDepth 100000 in
theorem js_lack (d : Nat) {h : Hp} (hI : INV h) {Q : QT} (hQ : ∀ (r : Int32) (h1 : Hp), (∃ v w, h1 127 = mo v w) → (∀ Q2 : QT, (∀ h2, INV h2 → Q2 (some (.int r)) h2) → Call (d + 13) MX11_lack [.ref 127] h1 Q2) → Q (some (.int r)) h1) : Call (d + 13) MX10_lack [.ref 0] h Q := by
  obtain ⟨f, n, B, N, hs, I, sl, S, ls, tw, wl, WS, v, w, O, hC, m0, hN, o⟩ := hI
  obtain ⟨c0, c1, c2, c3, c4, c5, c6, c7, c8, c9, c10⟩ := id hC
  obtain ⟨n7, nT, nR, nS, nK, nX, nF, nA, nB, nQ, nW, n28, nO, nY, nC, nD, nE, nG, nH⟩ := id hN
  have hC1 := hC
  have m1 := m0
  have o1 := o
  refine sp_lack (d + 9) c0 c3 (hQ _ _ ⟨_, _, m1⟩ (fun Q2 hQ2 => ?_))
  refine sm_lack (d + 9) m1 nR (fun h2 e2 m2 => ?_)
  have gr : ∀ j, j ≠ 127 → h2 j = h j := e2
  have ev : ∀ j, 0 < j → upd v 0 (Int32.ofInt 0) j = v j := fun j a => by rw [upd_at, if_neg (by omega)]
  exact hQ2 _ ⟨f, n, B, N, hs, I, sl, S, ls, tw, wl, WS, upd v 0 (Int32.ofInt 0), w, O, hC1.frame (fun j a => gr j (by omega)), m2, ⟨(ev 7 (by omega)).trans n7, nT.frame (gr 128 (by omega)) (ev 2 (by omega)), RowR.frame nR (gr 129 (by omega)), nS.frame (gr 132 (by omega)) (ev 19 (by omega)), nK.frame (gr 131 (by omega)) (gr 137 (by omega)), nX.frame2 (gr 130 (by omega)) (gr 136 (by omega)), nF.frame (gr 138 (by omega)), nA.frame (gr 135 (by omega)), nB.frame (gr 145 (by omega)), nQ.frame2 (gr 139 (by omega)) (gr 140 (by omega)) (gr 142 (by omega)), nW.frame (gr 141 (by omega)) (ev 27 (by omega)), (ev 28 (by omega)).trans n28, nO.frame (gr 143 (by omega)) (ev 33 (by omega)), nY.frame (gr 144 (by omega)) (ev 34 (by omega)), nC.frame (gr 133 (by omega)), nD.frame (gr 134 (by omega)), nE.frame (gr 146 (by omega)), nG.frame (gr 147 (by omega)), nH.frame (gr 148 (by omega))⟩, (gr 149 (by omega)).trans o1⟩
