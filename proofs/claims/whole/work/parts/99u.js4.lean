/-! ONE CALL OF THE LAW: words, flows, the text -/
set_option maxRecDepth 100000 in
theorem js_again (d : Nat) {h : Hp} (hI : INV h) {Q : QT} (hQ : ∀ (r : Int32) (h1 : Hp), (∃ v w, h1 127 = mo v w) → (∀ Q2 : QT, (∀ h2, INV h2 → Q2 (some (.int r)) h2) → Call (d + 13) MX11_again [.ref 127] h1 Q2) → Q (some (.int r)) h1) : Call (d + 13) MX10_again [.ref 0] h Q := by
  obtain ⟨f, n, B, ⟨P, A, F, T⟩, hs, I, sl, S, ls, tw, wl, WS, v, w, O, hC, m0, hN, o⟩ := hI
  obtain ⟨c0, c1, c2, c3, c4, c5, c6, c7, c8, c9, c10⟩ := id hC
  obtain ⟨n7, nT, nR, nS, nK, nX, nF, nA, nB, nQ, nW, n28, nO, nY, nC, nD, nE, nG, nH⟩ := id hN
  have c3 : NetR h 8 P A F T := c3
  have nR : RowR h 129 P A F T := nR
  obtain ⟨hP, hA, hj⟩ := NetR.rng c3
  have hB : NetB F T A := net_b hA (fun j q => Nat.lt_of_lt_of_le (hj j q).2 hP)
  refine sp_again (d + 9) c0 c3 c9 (fun h1 e1 t1 => ?_)
  have fr : ∀ j, (j < 120 ∨ 125 < j) → h1 j = h j := e1
  have hC1 : IC h1 f n B (P, A, F, T) hs I sl S ls tw wl WS := ⟨(fr 0 (by omega)).trans c0, c1.frame2 (fun j a b => fr j (by omega)), c2.frame (fun j a b => fr j (by omega)), c3.frame (fun j a b => fr j (by omega)), c4.frame (fun j a b => fr j (by omega)), c5.frame (fun j a b => fr j (by omega)), c6.frame2 (fun j a b => fr j (by omega)), c7.frame (fun j a b => fr j (by omega)), c8.frame (fun j a b => fr j (by omega)), t1, c10.frame (fr 126 (by omega))⟩
  have g1 : ∀ j, 126 < j → h1 j = h j := fun j a => fr j (by omega)
  have m1 := (g1 127 (by omega)).trans m0
  have o1 := (g1 149 (by omega)).trans o
  obtain ⟨n7, nT, nR, nS, nK, nX, nF, nA, nB, nQ, nW, n28, nO, nY, nC, nD, nE, nG, nH⟩ : IN h1 v f n B (P, A, F, T) hs I sl S ls tw wl WS := hN.frame (fun j a => g1 j (by omega)) (fun _ _ => rfl)
  have nR : RowR h1 129 P A F T := nR
  obtain ⟨x1, y1⟩ := id nE
  obtain ⟨x2, y2⟩ := id nG
  obtain ⟨x3, y3⟩ := id nH
  refine hQ _ _ ⟨_, _, m1⟩ (fun Q2 hQ2 => ?_)
  refine sm_again (d + 8) m1 nR y1 y2 y3 17 (fun _ hst => (ag_eq hP hA hj hst).1) (fun h2 e2 m2 t2 t3 t4 => ?_)
  have gr : ∀ j, (j ≠ 127 ∧ (j < 146 ∨ 148 < j)) → h2 j = h1 j := fun j a => e2 j a.1 a.2
  have ev : ∀ j, 0 < j → upd v 0 (Int32.ofInt 0) j = v j := fun j a => by rw [upd_at, if_neg (by omega)]
  have es := stg_strong (F := F) (T := T) (A := A) (fun j q => ⟨Nat.lt_of_lt_of_le (hj j q).1 hP, Nat.lt_of_lt_of_le (hj j q).2 hP⟩)
  have ea : (if A = 0 ∨ strongB F T A = false then -1 else agN P A F T) = (if A = 0 ∨ stgB F T A A = false then -1 else smN (agX F T P A 17 (fun _ => 0)) A) := by
    rw [es]
    split
    · rfl
    · next c => exact (ag_eq hP hA hj (by rw [es]; cases hb : strongB F T A with | true => rfl | false => exact absurd (Or.inr hb) c)).2
  rw [ea] at hQ2
  exact hQ2 _ ⟨f, n, B, (P, A, F, T), hs, I, sl, S, ls, tw, wl, WS, upd v 0 (Int32.ofInt 0), w, O, hC1.frame (fun j a => gr j (by omega)), m2, ⟨(ev 7 (by omega)).trans n7, nT.frame (gr 128 (by omega)) (ev 2 (by omega)), RowR.frame nR (gr 129 (by omega)), nS.frame (gr 132 (by omega)) (ev 19 (by omega)), nK.frame (gr 131 (by omega)) (gr 137 (by omega)), nX.frame2 (gr 130 (by omega)) (gr 136 (by omega)), nF.frame (gr 138 (by omega)), nA.frame (gr 135 (by omega)), nB.frame (gr 145 (by omega)), nQ.frame2 (gr 139 (by omega)) (gr 140 (by omega)) (gr 142 (by omega)), nW.frame (gr 141 (by omega)) (ev 27 (by omega)), (ev 28 (by omega)).trans n28, nO.frame (gr 143 (by omega)) (ev 33 (by omega)), nY.frame (gr 144 (by omega)) (ev 34 (by omega)), nC.frame (gr 133 (by omega)), nD.frame (gr 134 (by omega)), t2, t3, t4⟩, (gr 149 (by omega)).trans o1⟩
set_option maxRecDepth 100000 in
theorem js_righted (d : Nat) {h : Hp} (hI : INV h) (x : Int32) {Q : QT} (hQ : ∀ (r : Int32) (h1 : Hp), (∃ v w, h1 127 = mo v w) → (∀ Q2 : QT, (∀ h2, INV h2 → Q2 (some (.int r)) h2) → Call (d + 13) MX11_righted [.ref 127, .int x] h1 Q2) → Q (some (.int r)) h1) : Call (d + 13) MX10_righted [.ref 0, .int x] h Q := by
  obtain ⟨f, n, B, ⟨P, A, F, T⟩, hs, I, sl, S, ls, tw, wl, WS, v, w, O, hC, m0, hN, o⟩ := hI
  obtain ⟨c0, c1, c2, c3, c4, c5, c6, c7, c8, c9, c10⟩ := id hC
  obtain ⟨n7, nT, nR, nS, nK, nX, nF, nA, nB, nQ, nW, n28, nO, nY, nC, nD, nE, nG, nH⟩ := id hN
  have c3 : NetR h 8 P A F T := c3
  have nR : RowR h 129 P A F T := nR
  obtain ⟨z, rfl, z1, z2⟩ := i32z x
  obtain ⟨hP, hA, hj⟩ := NetR.rng c3
  have hB : NetB F T A := net_b hA (fun j q => Nat.lt_of_lt_of_le (hj j q).2 hP)
  refine sp_righted (d + 9) c0 c3 c9 z z1 z2 (fun h1 e1 t1 => ?_)
  have fr : ∀ j, (j < 120 ∨ 125 < j) → h1 j = h j := e1
  have hC1 : IC h1 f n B (P, A, F, T) hs I sl S ls tw wl WS := ⟨(fr 0 (by omega)).trans c0, c1.frame2 (fun j a b => fr j (by omega)), c2.frame (fun j a b => fr j (by omega)), c3.frame (fun j a b => fr j (by omega)), c4.frame (fun j a b => fr j (by omega)), c5.frame (fun j a b => fr j (by omega)), c6.frame2 (fun j a b => fr j (by omega)), c7.frame (fun j a b => fr j (by omega)), c8.frame (fun j a b => fr j (by omega)), t1, c10.frame (fr 126 (by omega))⟩
  have g1 : ∀ j, 126 < j → h1 j = h j := fun j a => fr j (by omega)
  have m1 := (g1 127 (by omega)).trans m0
  have o1 := (g1 149 (by omega)).trans o
  obtain ⟨n7, nT, nR, nS, nK, nX, nF, nA, nB, nQ, nW, n28, nO, nY, nC, nD, nE, nG, nH⟩ : IN h1 v f n B (P, A, F, T) hs I sl S ls tw wl WS := hN.frame (fun j a => g1 j (by omega)) (fun _ _ => rfl)
  have nR : RowR h1 129 P A F T := nR
  obtain ⟨⟨q0, q1⟩, ⟨q2, q3⟩, q4, q5⟩ := id nQ
  refine hQ _ _ ⟨_, _, m1⟩ (fun Q2 hQ2 => ?_)
  refine sm_righted (d + 10) m1 nR q1 z z1 z2 (fun h2 e2 m2 t2 => ?_)
  have gr : ∀ j, (j ≠ 127 ∧ j ≠ 140) → h2 j = h1 j := fun j a => e2 j a.1 a.2
  have ev : ∀ j, 0 < j → upd v 0 (Int32.ofInt 0) j = v j := fun j a => by rw [upd_at, if_neg (by omega)]
  have ea : (if z < 0 ∨ 1 < z ∨ turN P A F T = -1 then -1 else if z = 0 then (pcN 32 (turN P A F T).toNat : Int) else turN P A F T) = (if z < 0 ∨ 1 < z then -1 else match rsM F T P A (A + 1) 0 with | none => -1 | some x => if z = 0 then (x.1 : Int) else (x.2 : Int)) := by
    by_cases c : z < 0 ∨ 1 < z
    · rw [if_pos c, if_pos (by omega)]
    · rcases tur_eq hP hA hj with ⟨a, b⟩ | ⟨s, a, b⟩
      · rw [if_pos (Or.inr (Or.inr a)), if_neg c, b]
      · rw [if_neg (by omega), if_neg c, b, a, Int.toNat_natCast]
  rw [ea] at hQ2
  exact hQ2 _ ⟨f, n, B, (P, A, F, T), hs, I, sl, S, ls, tw, wl, WS, upd v 0 (Int32.ofInt 0), w, O, hC1.frame (fun j a => gr j (by omega)), m2, ⟨(ev 7 (by omega)).trans n7, nT.frame (gr 128 (by omega)) (ev 2 (by omega)), RowR.frame nR (gr 129 (by omega)), nS.frame (gr 132 (by omega)) (ev 19 (by omega)), nK.frame (gr 131 (by omega)) (gr 137 (by omega)), nX.frame2 (gr 130 (by omega)) (gr 136 (by omega)), nF.frame (gr 138 (by omega)), nA.frame (gr 135 (by omega)), nB.frame (gr 145 (by omega)), ⟨t2, ⟨q2, (gr 139 (by omega)).trans q3⟩, q4, (gr 142 (by omega)).trans q5⟩, nW.frame (gr 141 (by omega)) (ev 27 (by omega)), (ev 28 (by omega)).trans n28, nO.frame (gr 143 (by omega)) (ev 33 (by omega)), nY.frame (gr 144 (by omega)) (ev 34 (by omega)), nC.frame (gr 133 (by omega)), nD.frame (gr 134 (by omega)), nE.frame (gr 146 (by omega)), nG.frame (gr 147 (by omega)), nH.frame (gr 148 (by omega))⟩, (gr 149 (by omega)).trans o1⟩
set_option maxRecDepth 100000 in
theorem js_words (d : Nat) {h : Hp} (hI : INV h) {Q : QT} (hQ : ∀ (r : Int64) (h1 : Hp), (∃ v w, h1 127 = mo v w) → (∀ Q2 : QT, (∀ h2, INV h2 → Q2 (some (.long r)) h2) → Call (d + 13) MX11_words [.ref 127] h1 Q2) → Q (some (.long r)) h1) : Call (d + 13) MX10_words [.ref 0] h Q := by
  obtain ⟨f, n, B, N, hs, I, sl, S, ls, tw, wl, WS, v, w, O, hC, m0, hN, o⟩ := hI
  obtain ⟨c0, c1, c2, c3, c4, c5, c6, c7, c8, c9, c10⟩ := id hC
  obtain ⟨n7, nT, nR, nS, nK, nX, nF, nA, nB, nQ, nW, n28, nO, nY, nC, nD, nE, nG, nH⟩ := id hN
  obtain ⟨lst, tl, al, tr, LT, D, hs'⟩ := c8.any
  obtain ⟨W0, O0, hc0⟩ := c8.1
  refine sp_words mat_ok (d + 5) c0 c1 hs' hc0 (fun hc h1 e1 t1 => ?_) (fun hc h1 W1 O1 e1 t1 t2 t3 => ?_)
  · have fr : ∀ j, j ≠ 1 → h1 j = h j := e1
    have hC1 : IC h1 f 0 B N hs I sl S ls tw wl WS := ⟨(fr 0 (by omega)).trans c0, t1, c2.frame (fun j a b => fr j (by omega)), c3.frame (fun j a b => fr j (by omega)), c4.frame (fun j a b => fr j (by omega)), c5.frame (fun j a b => fr j (by omega)), c6.frame2 (fun j a b => fr j (by omega)), c7.frame (fun j a b => fr j (by omega)), c8.frame (fun j a b => fr j (by omega)), c9.frame (fun j a b => fr j (by omega)), c10.frame (fr 126 (by omega))⟩
    have g1 : ∀ j, 126 < j → h1 j = h j := fun j a => fr j (by omega)
    have m1 := (g1 127 (by omega)).trans m0
    have o1 := (g1 149 (by omega)).trans o
    obtain ⟨n7, nT, nR, nS, nK, nX, nF, nA, nB, nQ, nW, n28, nO, nY, nC, nD, nE, nG, nH⟩ : IN h1 v f n B N hs I sl S ls tw wl WS := hN.frame (fun j a => g1 j (by omega)) (fun _ _ => rfl)
    obtain ⟨TW, hTW⟩ := nO.arr
    refine hQ _ _ ⟨_, _, m1⟩ (fun Q2 hQ2 => ?_)
    refine sm_words (d + 8) m1 nT hTW ⟨nA, nB, nQ⟩ (fun hk => ww_ok hk) (fun _ h2 v2 e2 m2 ev2 t3 => ?_) (fun c' => absurd c' hc)
    have gr : ∀ j, j ≠ 127 → h2 j = h1 j := e2
    have ev : ∀ j, 0 < j ∧ j ≠ 2 → v2 j = v j := fun j a => by rw [ev2 j (by omega), upd_at, if_neg (by omega)]
    exact hQ2 _ ⟨f, 0, B, N, hs, I, sl, S, ls, tw, wl, WS, v2, w, O, hC1.frame (fun j a => gr j (by omega)), m2, ⟨(ev 7 (by omega)).trans n7, t3, RowR.frame nR (gr 129 (by omega)), nS.frame (gr 132 (by omega)) (ev 19 (by omega)), nK.frame (gr 131 (by omega)) (gr 137 (by omega)), nX.frame2 (gr 130 (by omega)) (gr 136 (by omega)), nF.frame (gr 138 (by omega)), nA.frame (gr 135 (by omega)), nB.frame (gr 145 (by omega)), nQ.frame2 (gr 139 (by omega)) (gr 140 (by omega)) (gr 142 (by omega)), nW.frame (gr 141 (by omega)) (ev 27 (by omega)), (ev 28 (by omega)).trans n28, nO.frame (gr 143 (by omega)) (ev 33 (by omega)), nY.frame (gr 144 (by omega)) (ev 34 (by omega)), nC.frame (gr 133 (by omega)), nD.frame (gr 134 (by omega)), nE.frame (gr 146 (by omega)), nG.frame (gr 147 (by omega)), nH.frame (gr 148 (by omega))⟩, (gr 149 (by omega)).trans o1⟩
  · have fr : ∀ j, (j ≠ 1 ∧ (j < 95 ∨ 119 < j)) → h1 j = h j := fun j a => e1 j a.1 a.2
    have hC1 : IC h1 f 0 B N hs I sl S ls (some (n, B)) wl WS := ⟨(fr 0 (by omega)).trans c0, t1, c2.frame (fun j a b => fr j (by omega)), c3.frame (fun j a b => fr j (by omega)), c4.frame (fun j a b => fr j (by omega)), c5.frame (fun j a b => fr j (by omega)), c6.frame2 (fun j a b => fr j (by omega)), c7.frame (fun j a b => fr j (by omega)), ⟨⟨W1, O1, t2⟩, hc, LT, t3⟩, c9.frame (fun j a b => fr j (by omega)), c10.frame (fr 126 (by omega))⟩
    have g1 : ∀ j, 126 < j → h1 j = h j := fun j a => fr j (by omega)
    have m1 := (g1 127 (by omega)).trans m0
    have o1 := (g1 149 (by omega)).trans o
    obtain ⟨n7, nT, nR, nS, nK, nX, nF, nA, nB, nQ, nW, n28, nO, nY, nC, nD, nE, nG, nH⟩ : IN h1 v f n B N hs I sl S ls tw wl WS := hN.frame (fun j a => g1 j (by omega)) (fun _ _ => rfl)
    obtain ⟨TW, hTW⟩ := nO.arr
    refine hQ _ _ ⟨_, _, m1⟩ (fun Q2 hQ2 => ?_)
    refine sm_words (d + 8) m1 nT hTW ⟨nA, nB, nQ⟩ (fun hk => ww_ok hk) (fun c' => absurd hc c') (fun _ h2 v2 e2 m2 ev2 u1 u2 u3 u4 => ?_)
    have gr : ∀ j, (j ≠ 127 ∧ j ≠ 135 ∧ j ≠ 139 ∧ j ≠ 140 ∧ j ≠ 143 ∧ j ≠ 145) → h2 j = h1 j := fun j a => e2 j a.1 a.2.1 a.2.2.1 a.2.2.2.1 a.2.2.2.2.1 a.2.2.2.2.2
    have ev : ∀ j, 0 < j ∧ j ≠ 2 ∧ j ≠ 33 → v2 j = v j := fun j a => by rw [ev2 j (by omega) (by omega), upd_at, if_neg (by omega)]
    rw [← ww_all hc] at hQ2
    exact hQ2 _ ⟨f, 0, B, N, hs, I, sl, S, ls, (some (n, B)), wl, WS, v2, w, O, hC1.frame (fun j a => gr j (by omega)), m2, ⟨(ev 7 (by omega)).trans n7, u2, RowR.frame nR (gr 129 (by omega)), nS.frame (gr 132 (by omega)) (ev 19 (by omega)), nK.frame (gr 131 (by omega)) (gr 137 (by omega)), nX.frame2 (gr 130 (by omega)) (gr 136 (by omega)), nF.frame (gr 138 (by omega)), u4.1, u4.2.1, u4.2.2, nW.frame (gr 141 (by omega)) (ev 27 (by omega)), (ev 28 (by omega)).trans n28, ⟨u1, u3⟩, nY.frame (gr 144 (by omega)) (ev 34 (by omega)), nC.frame (gr 133 (by omega)), nD.frame (gr 134 (by omega)), nE.frame (gr 146 (by omega)), nG.frame (gr 147 (by omega)), nH.frame (gr 148 (by omega))⟩, (gr 149 (by omega)).trans o1⟩
set_option maxRecDepth 100000 in
theorem js_wordRank (d : Nat) {h : Hp} (hI : INV h) {Q : QT} (hQ : ∀ (r : Int64) (h1 : Hp), (∃ v w, h1 127 = mo v w) → (∀ Q2 : QT, (∀ h2, INV h2 → Q2 (some (.long r)) h2) → Call (d + 13) MX11_wordRank [.ref 127] h1 Q2) → Q (some (.long r)) h1) : Call (d + 13) MX10_wordRank [.ref 0] h Q := by
  obtain ⟨f, n, B, N, hs, I, sl, S, ls, tw, wl, WS, v, w, O, hC, m0, hN, o⟩ := hI
  obtain ⟨c0, c1, c2, c3, c4, c5, c6, c7, c8, c9, c10⟩ := id hC
  obtain ⟨n7, nT, nR, nS, nK, nX, nF, nA, nB, nQ, nW, n28, nO, nY, nC, nD, nE, nG, nH⟩ := id hN
  have hC1 := hC
  have m1 := m0
  have o1 := o
  rcases tw with _ | ⟨m, C⟩
  · obtain ⟨lst, LT, D, hs'⟩ := c8.2
    refine sp_wordRank (d + 12) c0 hs' (hQ _ _ ⟨_, _, m1⟩ (fun Q2 hQ2 => ?_))
    refine sm_wordRank0 (d + 8) m1 nO.1 (fun h2 e2 m2 => ?_)
    have gr : ∀ j, j ≠ 127 → h2 j = h j := e2
    have ev : ∀ j, 0 < j → upd v 0 (Int32.ofInt 0) j = v j := fun j a => by rw [upd_at, if_neg (by omega)]
    exact hQ2 _ ⟨f, n, B, N, hs, I, sl, S, ls, none, wl, WS, upd v 0 (Int32.ofInt 0), w, O, hC1.frame (fun j a => gr j (by omega)), m2, ⟨(ev 7 (by omega)).trans n7, nT.frame (gr 128 (by omega)) (ev 2 (by omega)), RowR.frame nR (gr 129 (by omega)), nS.frame (gr 132 (by omega)) (ev 19 (by omega)), nK.frame (gr 131 (by omega)) (gr 137 (by omega)), nX.frame2 (gr 130 (by omega)) (gr 136 (by omega)), nF.frame (gr 138 (by omega)), nA.frame (gr 135 (by omega)), nB.frame (gr 145 (by omega)), nQ.frame2 (gr 139 (by omega)) (gr 140 (by omega)) (gr 142 (by omega)), nW.frame (gr 141 (by omega)) (ev 27 (by omega)), (ev 28 (by omega)).trans n28, nO.frame (gr 143 (by omega)) (ev 33 (by omega)), nY.frame (gr 144 (by omega)) (ev 34 (by omega)), nC.frame (gr 133 (by omega)), nD.frame (gr 134 (by omega)), nE.frame (gr 146 (by omega)), nG.frame (gr 147 (by omega)), nH.frame (gr 148 (by omega))⟩, (gr 149 (by omega)).trans o1⟩
  · obtain ⟨hk, LT, hs'⟩ := c8.2
    obtain ⟨kx, k1, k2⟩ := ww_rank hk
    refine sp_wordRank (d + 12) c0 hs' (hQ _ _ ⟨_, _, m1⟩ (fun Q2 hQ2 => ?_))
    refine sm_wordRank (d + 8) m1 hk nO.1 nO.2 ⟨nA, nB, nQ⟩ (ww_ok hk) k1 (fun h2 e2 m2 t2 => ?_)
    have gr : ∀ j, (j ≠ 127 ∧ j ≠ 135 ∧ j ≠ 139 ∧ j ≠ 140 ∧ j ≠ 145) → h2 j = h j := fun j a => e2 j a.1 a.2.1 a.2.2.1 a.2.2.2.1 a.2.2.2.2
    have ev : ∀ j, 0 < j → upd v 0 (Int32.ofInt 0) j = v j := fun j a => by rw [upd_at, if_neg (by omega)]
    rw [k2]
    exact hQ2 _ ⟨f, n, B, N, hs, I, sl, S, ls, (some (m, C)), wl, WS, upd v 0 (Int32.ofInt 0), w, O, hC1.frame (fun j a => gr j (by omega)), m2, ⟨(ev 7 (by omega)).trans n7, nT.frame (gr 128 (by omega)) (ev 2 (by omega)), RowR.frame nR (gr 129 (by omega)), nS.frame (gr 132 (by omega)) (ev 19 (by omega)), nK.frame (gr 131 (by omega)) (gr 137 (by omega)), nX.frame2 (gr 130 (by omega)) (gr 136 (by omega)), nF.frame (gr 138 (by omega)), t2.1, t2.2.1, t2.2.2, nW.frame (gr 141 (by omega)) (ev 27 (by omega)), (ev 28 (by omega)).trans n28, nO.frame (gr 143 (by omega)) (ev 33 (by omega)), nY.frame (gr 144 (by omega)) (ev 34 (by omega)), nC.frame (gr 133 (by omega)), nD.frame (gr 134 (by omega)), nE.frame (gr 146 (by omega)), nG.frame (gr 147 (by omega)), nH.frame (gr 148 (by omega))⟩, (gr 149 (by omega)).trans o1⟩
theorem pz_k {B : Nat → Nat} {n : Nat} : ∀ (r i : Nat) (s : PS), 0 ≤ (pzN B n r i s).2.1 ∧ (pzN B n r i s).2.1 ≤ 3
  | 0, i, s => by rw [pzN]; exact (show (0 : Int) ≤ 1 ∧ (1 : Int) ≤ 3 by decide)
  | r + 1, i, s => by
    rw [pzN]
    split
    · exact (show (0 : Int) ≤ 1 ∧ (1 : Int) ≤ 3 by decide)
    · split
      · split
        · exact (show (0 : Int) ≤ 0 ∧ (0 : Int) ≤ 3 by decide)
        · exact (show (0 : Int) ≤ 1 ∧ (1 : Int) ≤ 3 by decide)
      · split
        · exact pz_k r _ _
        · exact accN_k _ _
set_option maxRecDepth 100000 in
theorem js_net (d : Nat) {h : Hp} (hI : INV h) {Q : QT} (hQ : ∀ (r : Int32) (h1 : Hp), (∃ v w, h1 127 = mo v w) → (∀ Q2 : QT, (∀ h2, INV h2 → Q2 (some (.int r)) h2) → Call (d + 13) MX11_net [.ref 127] h1 Q2) → Q (some (.int r)) h1) : Call (d + 13) MX10_net [.ref 0] h Q := by
  obtain ⟨f, n, B, N, hs, I, sl, S, ls, tw, wl, WS, v, w, O, hC, m0, hN, o⟩ := hI
  obtain ⟨c0, c1, c2, c3, c4, c5, c6, c7, c8, c9, c10⟩ := id hC
  obtain ⟨n7, nT, nR, nS, nK, nX, nF, nA, nB, nQ, nW, n28, nO, nY, nC, nD, nE, nG, nH⟩ := id hN
  obtain ⟨hd, hh⟩ := id c4
  refine sp_net (d + 7) c0 c1 c2 c3.shape hh (fun h1 sp z hz e1 t0 t1 t2 t3 t4 => ?_)
  have hk : 0 ≤ z.2.1 ∧ z.2.1 ≤ 3 := by rw [hz]; exact pz_k _ _ _
  have eq0 : Int32.ofInt z.2.1 = Int32.ofInt 0 ↔ z.2.1 = 0 := by rw [oI_eq (by omega) (by omega) (by omega) (by omega)]
  have hsp : ∀ z' : Int × Int × PS, z' = pzN B n 541 0 (0, 0, 0, (0, 0, fun _ => 0, fun _ => 0), fun _ => 0) → z.1 = z'.1 ∧ z.2.1 = z'.2.1 ∧ z.2.2.2.2.2 = z'.2.2.2.2.2 := fun z' hz' => by
    have := pz_sp (B := B) (n := n) (r := 541) (i := 0) (s := (0, 0, sp, (0, 0, fun _ => 0, fun _ => 0), fun _ => 0)) (s' := (0, 0, 0, (0, 0, fun _ => 0, fun _ => 0), fun _ => 0)) ⟨rfl, rfl, rfl, fun q => absurd (show (0 : Int) = 3 from q) (by decide)⟩
    rw [← hz, ← hz'] at this
    exact ⟨this.1, this.2.1, this.2.2.2.2.1⟩
  by_cases c : z.2.1 = 0
  · have t5 := t3 (eq0.mpr c)
    have fr : ∀ j, (j ≠ 0 ∧ j ≠ 1 ∧ (j < 3 ∨ 7 < j) ∧ (j < 8 ∨ 11 < j)) → h1 j = h j := fun j a => e1 j a.1 a.2.1 a.2.2.1 a.2.2.2
    have hC1 : IC h1 z.2.1 0 B z.2.2.2.2.2.1 [] I sl S ls tw wl WS := ⟨t0, t1, t2, t5.1, ⟨_, t5.2⟩, c5.frame (fun j a b => fr j (by omega)), c6.frame2 (fun j a b => fr j (by omega)), c7.frame (fun j a b => fr j (by omega)), c8.frame (fun j a b => fr j (by omega)), c9.frame (fun j a b => fr j (by omega)), c10.frame (fr 126 (by omega))⟩
    have g1 : ∀ j, 126 < j → h1 j = h j := fun j a => fr j (by omega)
    have m1 := (g1 127 (by omega)).trans m0
    have o1 := (g1 149 (by omega)).trans o
    obtain ⟨n7, nT, nR, nS, nK, nX, nF, nA, nB, nQ, nW, n28, nO, nY, nC, nD, nE, nG, nH⟩ : IN h1 v f n B N hs I sl S ls tw wl WS := hN.frame (fun j a => g1 j (by omega)) (fun _ _ => rfl)
    refine hQ _ _ ⟨_, _, m1⟩ (fun Q2 hQ2 => ?_)
    refine sm_net (d + 8) m1 nT nR nS nX (fun h2 v2 w2 z' hz' e2 m2 ev2 v0 u1 u2 u3 u4 u5 => ?_)
    obtain ⟨p1, p2, p3⟩ := hsp z' hz'
    have u6 := u4 (by rw [← p2]; exact c)
    have gr : ∀ j, (j ≠ 127 ∧ j ≠ 129 ∧ j ≠ 130 ∧ j ≠ 136) → h2 j = h1 j := fun j a => e2 j a.1 a.2.1 a.2.2.1 a.2.2.2
    have ev : ∀ j, 8 < j ∧ j ≠ 19 → v2 j = v j := fun j a => ev2 j (by omega) (by omega) (by omega) (by omega) (by omega) (by omega) (by omega) (by omega) (by omega)
    rw [← p3] at u6
    rw [← p2] at u3
    rw [← p1]
    exact hQ2 _ ⟨z.2.1, 0, B, z.2.2.2.2.2.1, [], I, sl, S, ls, tw, wl, WS, v2, w2, O, hC1.frame (fun j a => gr j (by omega)), m2, ⟨u3, u1, u6.1, u6.2, nK.frame (gr 131 (by omega)) (gr 137 (by omega)), u2, nF.frame (gr 138 (by omega)), nA.frame (gr 135 (by omega)), nB.frame (gr 145 (by omega)), nQ.frame2 (gr 139 (by omega)) (gr 140 (by omega)) (gr 142 (by omega)), nW.frame (gr 141 (by omega)) (ev 27 (by omega)), (ev 28 (by omega)).trans n28, nO.frame (gr 143 (by omega)) (ev 33 (by omega)), nY.frame (gr 144 (by omega)) (ev 34 (by omega)), nC.frame (gr 133 (by omega)), nD.frame (gr 134 (by omega)), nE.frame (gr 146 (by omega)), nG.frame (gr 147 (by omega)), nH.frame (gr 148 (by omega))⟩, (gr 149 (by omega)).trans o1⟩
  · have t5 := t4 (fun q => c (eq0.mp q))
    have fr : ∀ j, (j ≠ 0 ∧ j ≠ 1 ∧ (j < 3 ∨ 7 < j)) → h1 j = h j := fun j a => by
      by_cases q : j < 8 ∨ 11 < j
      · exact e1 j a.1 a.2.1 a.2.2 q
      · exact t5 j (by omega) (by omega)
    have hC1 : IC h1 z.2.1 0 B N hs I sl S ls tw wl WS := ⟨t0, t1, t2, c3.frame (fun j a b => fr j (by omega)), c4.frame (fun j a b => fr j (by omega)), c5.frame (fun j a b => fr j (by omega)), c6.frame2 (fun j a b => fr j (by omega)), c7.frame (fun j a b => fr j (by omega)), c8.frame (fun j a b => fr j (by omega)), c9.frame (fun j a b => fr j (by omega)), c10.frame (fr 126 (by omega))⟩
    have g1 : ∀ j, 126 < j → h1 j = h j := fun j a => fr j (by omega)
    have m1 := (g1 127 (by omega)).trans m0
    have o1 := (g1 149 (by omega)).trans o
    obtain ⟨n7, nT, nR, nS, nK, nX, nF, nA, nB, nQ, nW, n28, nO, nY, nC, nD, nE, nG, nH⟩ : IN h1 v f n B N hs I sl S ls tw wl WS := hN.frame (fun j a => g1 j (by omega)) (fun _ _ => rfl)
    refine hQ _ _ ⟨_, _, m1⟩ (fun Q2 hQ2 => ?_)
    refine sm_net (d + 8) m1 nT nR nS nX (fun h2 v2 w2 z' hz' e2 m2 ev2 v0 u1 u2 u3 u4 u5 => ?_)
    obtain ⟨p1, p2, p3⟩ := hsp z' hz'
    have u6 := u5 (by rw [← p2]; exact c)
    have gr : ∀ j, (j ≠ 127 ∧ j ≠ 129 ∧ j ≠ 130 ∧ j ≠ 136) → h2 j = h1 j := fun j a => e2 j a.1 a.2.1 a.2.2.1 a.2.2.2
    have ev : ∀ j, 8 < j ∧ j ≠ 19 → v2 j = v j := fun j a => ev2 j (by omega) (by omega) (by omega) (by omega) (by omega) (by omega) (by omega) (by omega) (by omega)
    rw [← p2] at u3
    rw [← p1]
    exact hQ2 _ ⟨z.2.1, 0, B, N, hs, I, sl, S, ls, tw, wl, WS, v2, w2, O, hC1.frame (fun j a => gr j (by omega)), m2, ⟨u3, u1, u6.1, u6.2, nK.frame (gr 131 (by omega)) (gr 137 (by omega)), u2, nF.frame (gr 138 (by omega)), nA.frame (gr 135 (by omega)), nB.frame (gr 145 (by omega)), nQ.frame2 (gr 139 (by omega)) (gr 140 (by omega)) (gr 142 (by omega)), nW.frame (gr 141 (by omega)) (ev 27 (by omega)), (ev 28 (by omega)).trans n28, nO.frame (gr 143 (by omega)) (ev 33 (by omega)), nY.frame (gr 144 (by omega)) (ev 34 (by omega)), nC.frame (gr 133 (by omega)), nD.frame (gr 134 (by omega)), nE.frame (gr 146 (by omega)), nG.frame (gr 147 (by omega)), nH.frame (gr 148 (by omega))⟩, (gr 149 (by omega)).trans o1⟩
