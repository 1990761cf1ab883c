/-! BOTH SIDES TOGETHER: one state of numbers, nets and words that both objects hold -/
theorem RdS.frame {h h' : Hp} (hr : RdS h) (e : ∀ j, 3 ≤ j → j ≤ 7 → h' j = h j) : RdS h' := by
  obtain ⟨i, rows, aw, sp, fk, NM, a, b, c, d, g⟩ := hr
  exact ⟨i, rows, aw, sp, fk, NM, (e 3 (by omega) (by omega)).trans a, b, c, d.frame (fun j p q => e j (by omega) (by omega)), (e 7 (by omega) (by omega)).trans g⟩
theorem TapeR.frame2 {h h' : Hp} {n : Nat} {B : Nat → Nat} (ht : TapeR h n B) (e : ∀ j, 1 ≤ j → j ≤ 2 → h' j = h j) : TapeR h' n B := by
  obtain ⟨BB, a, b, c⟩ := ht
  exact ⟨BB, (e 1 (by omega) (by omega)).trans a, (e 2 (by omega) (by omega)).trans b, c⟩
theorem TrsR.frame2 {h h' : Hp} (ht : TrsR h) (e : ∀ j, 48 ≤ j → j ≤ 69 → h' j = h j) : TrsR h' := by
  obtain ⟨a, W, O, b⟩ := ht
  exact ⟨(e 48 (by omega) (by omega)).trans a, W, O, b.frame (fun j p q => e j (by omega) (by omega))⟩
def HisE (h : Hp) (hs : List NN) : Prop := ∃ hd, HistR h hd hs
theorem HisE.frame {h h' : Hp} {hs : List NN} (hh : HisE h hs) (e : ∀ j, 11 ≤ j → j ≤ 39 → h' j = h j) : HisE h' hs := by
  obtain ⟨hd, a⟩ := hh
  exact ⟨hd, a.frame e⟩
def DrwE (h : Hp) : Prop := ∃ s0, DrawR h s0
theorem DrwE.frame {h h' : Hp} (hh : DrwE h) (e : h' 126 = h 126) : DrwE h' := by
  obtain ⟨s, a⟩ := hh
  exact ⟨s, e.trans a⟩
/-- the word that was told, and the one that was looked at, in the class -/
def ToC (h : Hp) (tw : Option (Nat × (Nat → Nat))) (wl : Nat) (WS : Nat → Nat) : Prop := (∃ W O, CntR h 96 W O) ∧ match tw with
  | none => ∃ (lst : Int) (LT D : Nat → Nat), SpR h lst 0 wl 0 (-1) LT D WS
  | some (m, C) => telK m C ∧ ∃ LT, SpR h (leS C m) m wl (spN (ctW (tlD m C) 0 (m - 1)) (ctO (tlD m C) 0 (m - 1)) (tlD m C (m - 1))) (caN (tlD m C) m (m - 1)) (ltN (leS C m) LT 26).2 (tlD m C) WS
theorem ToC.frame {h h' : Hp} {tw : Option (Nat × (Nat → Nat))} {wl : Nat} {WS : Nat → Nat} (ht : ToC h tw wl WS) (e : ∀ j, 95 ≤ j → j ≤ 119 → h' j = h j) : ToC h' tw wl WS := by
  obtain ⟨⟨W, O, a⟩, b⟩ := ht
  refine ⟨⟨W, O, a.frame (fun j p q => e j (by omega) (by omega))⟩, ?_⟩
  cases tw with
  | none =>
    obtain ⟨lst, LT, D, c⟩ := b
    exact ⟨lst, LT, D, c.frame (fun j p => e j (by omega) (by omega))⟩
  | some x =>
    obtain ⟨k, LT, c⟩ := b
    exact ⟨k, LT, c.frame (fun j p => e j (by omega) (by omega))⟩
/-- .. in the reference -/
def ToM (h : Hp) (v : Nat → Int32) (tw : Option (Nat × (Nat → Nat))) : Prop := match tw with
  | none => v 33 = Int32.ofInt 0 ∧ ∃ TW, h 143 = ia 17 TW
  | some (m, C) => v 33 = Int32.ofInt m ∧ AI h 143 17 m (fun i => (C i : Int))
theorem ToM.frame {h h' : Hp} {v v' : Nat → Int32} {tw : Option (Nat × (Nat → Nat))} (ht : ToM h v tw) (e : h' 143 = h 143) (ev : v' 33 = v 33) : ToM h' v' tw := by
  cases tw with
  | none =>
    obtain ⟨a, TW, b⟩ := ht
    exact ⟨ev.trans a, TW, e.trans b⟩
  | some x =>
    obtain ⟨a, b⟩ := ht
    exact ⟨ev.trans a, b.frame e⟩
theorem ToM.arr {h : Hp} {v : Nat → Int32} {tw : Option (Nat × (Nat → Nat))} (ht : ToM h v tw) : ∃ TW, h 143 = ia 17 TW := by
  cases tw with
  | none => exact ht.2
  | some x =>
    obtain ⟨a, G, b, -⟩ := ht
    exact ⟨G, b⟩
def WlM (h : Hp) (v : Nat → Int32) (sl : Nat) (S : Nat → Nat) : Prop := v 27 = Int32.ofInt sl ∧ sl ≤ 16 ∧ AI h 141 16 sl (fun i => (S i : Int))
theorem WlM.frame {h h' : Hp} {v v' : Nat → Int32} {sl : Nat} {S : Nat → Nat} (ht : WlM h v sl S) (e : h' 141 = h 141) (ev : v' 27 = v 27) : WlM h' v' sl S := ⟨ev.trans ht.1, ht.2.1, ht.2.2.frame e⟩
theorem WlM.arr {h : Hp} {v : Nat → Int32} {sl : Nat} {S : Nat → Nat} (ht : WlM h v sl S) : ∃ Y, h 141 = ia 16 Y := by
  obtain ⟨-, -, G, b, -⟩ := ht
  exact ⟨G, b⟩
def WyM (h : Hp) (v : Nat → Int32) (wl : Nat) (WS : Nat → Nat) : Prop := v 34 = Int32.ofInt wl ∧ wl ≤ 17 ∧ AI h 144 17 wl (fun i => (WS i : Int))
theorem WyM.frame {h h' : Hp} {v v' : Nat → Int32} {sl : Nat} {S : Nat → Nat} (ht : WyM h v sl S) (e : h' 144 = h 144) (ev : v' 34 = v 34) : WyM h' v' sl S := ⟨ev.trans ht.1, ht.2.1, ht.2.2.frame e⟩
theorem WyM.arr {h : Hp} {v : Nat → Int32} {sl : Nat} {S : Nat → Nat} (ht : WyM h v sl S) : ∃ Y, h 144 = ia 17 Y := by
  obtain ⟨-, -, G, b, -⟩ := ht
  exact ⟨G, b⟩
def IaE (h : Hp) (a n : Nat) : Prop := ∃ G, h a = ia n G
theorem IaE.frame {h h' : Hp} {a n : Nat} (x : IaE h a n) (e : h' a = h a) : IaE h' a n := by
  obtain ⟨G, g⟩ := x
  exact ⟨G, e.trans g⟩
theorem RxS.frame2 {h h' : Hp} (x : RxS h) (e : h' 130 = h 130) (e2 : h' 136 = h 136) : RxS h' := by
  obtain ⟨⟨G, a⟩, NM, b⟩ := x
  exact ⟨⟨G, e.trans a⟩, NM, e2.trans b⟩
theorem SqR.frame2 {h h' : Hp} (x : SqR h) (e1 : h' 139 = h 139) (e2 : h' 140 = h 140) (e3 : h' 142 = h 142) : SqR h' := by
  obtain ⟨⟨G, a⟩, ⟨L, b⟩, Y, c⟩ := x
  exact ⟨⟨G, e2.trans a⟩, ⟨L, e1.trans b⟩, Y, e3.trans c⟩
def IC (h : Hp) (f : Int) (n : Nat) (B : Nat → Nat) (N : NN) (hs : List NN) (I : Nat → Option NN) (sl : Nat) (S : Nat → Nat) (ls : Int) (tw : Option (Nat × (Nat → Nat))) (wl : Nat) (WS : Nat → Nat) : Prop :=
  h 0 = rwo f ∧ TapeR h n B ∧ RdS h ∧ NetG h 8 N ∧ HisE h hs ∧ ImR h I ∧ TrsR h ∧ WkC h sl S ls ∧ ToC h tw wl WS ∧ FlR h ∧ DrwE h
def IN (h : Hp) (v : Nat → Int32) (f : Int) (n : Nat) (B : Nat → Nat) (N : NN) (hs : List NN) (I : Nat → Option NN) (sl : Nat) (S : Nat → Nat) (ls : Int) (tw : Option (Nat × (Nat → Nat))) (wl : Nat) (WS : Nat → Nat) : Prop :=
  v 7 = Int32.ofInt f ∧ TpR h v n B ∧ RowG h 129 N ∧ SnR h v hs ∧ KpR h I ∧ RxS h ∧ IaE h 138 1024 ∧ IaE h 135 34 ∧ IaE h 145 9 ∧ SqR h ∧ WlM h v sl S ∧ v 28 = Int32.ofInt ls ∧ ToM h v tw ∧ WyM h v wl WS ∧ IaE h 133 34 ∧ IaE h 134 34 ∧ IaE h 146 16 ∧ IaE h 147 8 ∧ IaE h 148 8
def INV (h : Hp) : Prop := ∃ (f : Int) (n : Nat) (B : Nat → Nat) (N : NN) (hs : List NN) (I : Nat → Option NN) (sl : Nat) (S : Nat → Nat) (ls : Int) (tw : Option (Nat × (Nat → Nat))) (wl : Nat) (WS : Nat → Nat) (v : Nat → Int32) (w : Int64) (O : Nat → Int64),
  IC h f n B N hs I sl S ls tw wl WS ∧ h 127 = mo v w ∧ IN h v f n B N hs I sl S ls tw wl WS ∧ h 149 = la 1 O
theorem IC.frame {h h' : Hp} {f : Int} {n : Nat} {B : Nat → Nat} {N : NN} {hs : List NN} {I : Nat → Option NN} {sl : Nat} {S : Nat → Nat} {ls : Int} {tw : Option (Nat × (Nat → Nat))} {wl : Nat} {WS : Nat → Nat} (hc : IC h f n B N hs I sl S ls tw wl WS) (fr : ∀ j, j < 127 → h' j = h j) : IC h' f n B N hs I sl S ls tw wl WS := by
  obtain ⟨c0, c1, c2, c3, c4, c5, c6, c7, c8, c9, c10⟩ := hc
  exact ⟨(fr 0 (by omega)).trans c0, c1.frame2 (fun j a b => fr j (by omega)), c2.frame (fun j a b => fr j (by omega)), c3.frame (fun j a b => fr j (by omega)), c4.frame (fun j a b => fr j (by omega)), c5.frame (fun j a b => fr j (by omega)), c6.frame2 (fun j a b => fr j (by omega)), c7.frame (fun j a b => fr j (by omega)), c8.frame (fun j a b => fr j (by omega)), c9.frame (fun j a b => fr j (by omega)), c10.frame (fr 126 (by omega))⟩
theorem IN.frame {h h' : Hp} {v v' : Nat → Int32} {f : Int} {n : Nat} {B : Nat → Nat} {N : NN} {hs : List NN} {I : Nat → Option NN} {sl : Nat} {S : Nat → Nat} {ls : Int} {tw : Option (Nat × (Nat → Nat))} {wl : Nat} {WS : Nat → Nat} (hc : IN h v f n B N hs I sl S ls tw wl WS) (gr : ∀ j, 127 < j ∧ j < 149 → h' j = h j) (ev : ∀ j, 0 < j ∧ j ≠ 24 → v' j = v j) : IN h' v' f n B N hs I sl S ls tw wl WS := by
  obtain ⟨n7, nT, nR, nS, nK, nX, nF, nA, nB, nQ, nW, n28, nO, nY, nC, nD, nE, nG, nH⟩ := hc
  exact ⟨(ev 7 (by omega)).trans n7, nT.frame (gr 128 (by omega)) (ev 2 (by omega)), RowR.frame nR (gr 129 (by omega)), nS.frame (gr 132 (by omega)) (ev 19 (by omega)), nK.frame (gr 131 (by omega)) (gr 137 (by omega)), nX.frame2 (gr 130 (by omega)) (gr 136 (by omega)), nF.frame (gr 138 (by omega)), nA.frame (gr 135 (by omega)), nB.frame (gr 145 (by omega)), nQ.frame2 (gr 139 (by omega)) (gr 140 (by omega)) (gr 142 (by omega)), nW.frame (gr 141 (by omega)) (ev 27 (by omega)), (ev 28 (by omega)).trans n28, nO.frame (gr 143 (by omega)) (ev 33 (by omega)), nY.frame (gr 144 (by omega)) (ev 34 (by omega)), nC.frame (gr 133 (by omega)), nD.frame (gr 134 (by omega)), nE.frame (gr 146 (by omega)), nG.frame (gr 147 (by omega)), nH.frame (gr 148 (by omega))⟩
theorem i32z (x : Int32) : ∃ z : Int, x = Int32.ofInt z ∧ -2147483648 ≤ z ∧ z < 2147483648 := by
  have a := x.minValue_le_toInt
  have b := x.toInt_le
  have e1 : Int32.minValue.toInt = -2147483648 := by decide
  have e2 : Int32.maxValue.toInt = 2147483647 := by decide
  exact ⟨x.toInt, (Int32.ofInt_toInt x).symm, by omega, by omega⟩
theorem i64z (x : Int64) : ∃ z : Int, x = Int64.ofInt z ∧ -9223372036854775808 ≤ z ∧ z < 9223372036854775808 := by
  have a := x.minValue_le_toInt
  have b := x.toInt_le
  have e1 : Int64.minValue.toInt = -9223372036854775808 := by decide
  have e2 : Int64.maxValue.toInt = 9223372036854775807 := by decide
  exact ⟨x.toInt, (Int64.ofInt_toInt x).symm, by omega, by omega⟩
theorem updv {v v' : Nat → Int32} {x : Int32} {P : Nat → Prop} (h : ∀ j, P j → v' j = upd v 0 x j) : ∀ j, 0 < j → P j → v' j = v j := fun j hj hp => by rw [h j hp, upd_at, if_neg (by omega)]
