theorem acc_neg {s : PS} : (accN (-1) s).1 = 1 := by
  unfold accN accRow accName accPoint isNm
  simp only [show ¬ ((-1 : Int) = 17278420) by omega, show ¬ ((-1 : Int) = 1603) by omega, show ¬ ((-1 : Int) = 0) by omega, if_false, show decide ((0 : Int) < -1 ∧ True ∧ True) = false by decide, ne_eq, not_false_eq_true]
  split
  · rfl
  · split
    · simp
    · split
      · simp
      · rfl
/-- where reading stops, and why -/
def PzF (B : Nat → Nat) (n i k : Nat) (R : Int × Int × PS) : Prop := R.1 = -1 - (nfN B n i : Int) ∧ R.2.1 = (if nkN B n i = 1 then 1 else k : Nat)
theorem pz_f1 {B : Nat → Nat} {n r i k : Nat} {s : PS} (hi : i ≤ n) (hr : n + 1 ≤ r + i) (h : nkN B n i = 1) : PzF B n i k (pzN B n r i s) := by
  obtain ⟨-, p2, p3⟩ := pz_at (s := s) hi hr
  unfold PzF
  rw [if_pos h]
  rcases tk_1 h with ⟨a, b, c⟩ | ⟨a, b, c, e⟩
  · rw [p2 ⟨a, b⟩, c]
    exact ⟨by simp, rfl⟩
  · rw [p3 a b, e, if_neg (by rw [acc_neg]; omega), c, acc_neg]
    exact ⟨rfl, rfl⟩
theorem pz_f0 {B : Nat → Nat} {n r i : Nat} {s : PS} (hi : i ≤ n) (hr : n + 1 ≤ r + i) (h : nkN B n i = 0) (hs : s.2.1 ≠ 0) : PzF B n i 1 (pzN B n r i s) := by
  obtain ⟨p1, -, -⟩ := pz_at (s := s) hi hr
  unfold PzF
  rw [if_neg (by omega), p1 h, if_neg hs, (tk_0 hi h).2.2]
  exact ⟨rfl, rfl⟩
theorem tk_23 {B : Nat → Nat} {n i : Nat} (h : nkN B n i = 2 ∨ nkN B n i = 3) : ¬ (500 < n ∧ 500 ≤ njN B n i) ∧ njN B n i < n ∧ nfN B n i = njN B n i ∧ naN B n i = teN B n (njN B n i) ∧ njN B n i < naN B n i ∧ naN B n i ≤ n := by
  rcases h with h | h
  · obtain ⟨a, b, c, d, e, f, -⟩ := tk_2 h
    exact ⟨a, b, c, d, e, f⟩
  · obtain ⟨a, b, c, d, e, f, -⟩ := tk_3 h
    exact ⟨a, b, c, d, e, f⟩
theorem pz_f {B : Nat → Nat} {n r i k : Nat} {s : PS} (hi : i ≤ n) (hr : n + 1 ≤ r + i) (h : nkN B n i = 2 ∨ nkN B n i = 3) (hk : k ≠ 0) (ha : (accN (tkN B n (njN B n i)) s).1 = k) : PzF B n i k (pzN B n r i s) := by
  obtain ⟨-, -, p3⟩ := pz_at (s := s) hi hr
  obtain ⟨a, b, c, d, e, f⟩ := tk_23 h
  unfold PzF
  rw [if_neg (by omega), p3 a b, if_neg (by rw [ha]; omega), c]
  exact ⟨rfl, ha⟩
theorem pz_ok {B : Nat → Nat} {n r i : Nat} {s s' : PS} (hi : i ≤ n) (hr : n + 1 ≤ r + i) (h : nkN B n i = 2 ∨ nkN B n i = 3) (ha : accN (tkN B n (njN B n i)) s = (0, s')) : pzN B n r i s = pzN B n (r - 1) (naN B n i) s' ∧ i < naN B n i ∧ naN B n i ≤ n ∧ n + 1 ≤ (r - 1) + naN B n i := by
  obtain ⟨-, -, p3⟩ := pz_at (s := s) hi hr
  obtain ⟨a, b, c, d, e, f⟩ := tk_23 h
  have hj := tk_j (B := B) hi
  rw [p3 a b, ha, if_pos rfl, d]
  rw [d] at e f
  exact ⟨rfl, by omega, f, by omega⟩
/-- the reference's reading goes on, or stopped -/
def RxS (h : Hp) : Prop := (∃ G, h 130 = ia 34 G) ∧ ∃ NM, h 136 = la 8 NM
theorem RdM.sh {h : Hp} {N : NN} {nm : Nat → Int} (hr : RdM h N nm) : RxS h := by
  obtain ⟨⟨G, a, _⟩, NM, _, b, _⟩ := hr
  exact ⟨⟨G, a⟩, NM, b⟩
def RvK (v v' : Nat → Int32) : Prop := ∀ j, j ≠ 4 → j ≠ 5 → j ≠ 6 → j ≠ 7 → j ≠ 8 → v' j = v j
def RhK (h h' : Hp) : Prop := ∀ j, j ≠ 127 → j ≠ 130 → j ≠ 136 → h' j = h j
/-- it goes on at token i, the class's reading being as far -/
def RgO (B : Nat → Nat) (n : Nat) (h : Hp) (v : Nat → Int32) (R : Int × Int × PS) (rows : Int) (lo : Nat) (h' : Hp) : Prop := ∃ (v' : Nat → Int32) (w' : Int64) (r' i' : Nat) (sp : Int) (N : NN) (nm : Nat → Int), RhK h h' ∧ h' 127 = mo v' w' ∧ RvK v v' ∧ v' 7 = v 7 ∧ TkR B n i' v' w' ∧ RdM h' N nm ∧ lo < i' ∧ i' ≤ n ∧ n + 1 ≤ r' + i' ∧ pzN B n r' i' (rows, 4, sp, N, nm) = R
def RgF (h : Hp) (v : Nat → Int32) (R : Int × Int × PS) (h' : Hp) : Prop := ∃ (v' : Nat → Int32) (w' : Int64) (x : Int), RhK h h' ∧ h' 127 = mo v' w' ∧ RvK v v' ∧ RxS h' ∧ v' 7 = Int32.ofInt R.2.1 ∧ v' 8 = Int32.ofInt x ∧ R.1 = -1 - x ∧ 0 ≤ x ∧ x ≤ 540 ∧ R.2.1 ≠ 0
set_option maxRecDepth 100000 in
/-- refusing at a token -/
theorem sm_badF (d : Nat) {h0 h : Hp} {v0 v : Nat → Int32} {w : Int64} (hk0 : RhK h0 h) (hv0 : RvK v0 v) (e0 : h 127 = mo v w) {B : Nat → Nat} {n i : Nat} (hn : n ≤ 540) (hi : i ≤ n) (ht : TkR B n i v w) (hs : RxS h) (k : Nat) (hk : 1 ≤ k ∧ k < 10) {R : Int × Int × PS} (hR : PzF B n i k R) {Q : QT} (hQ : ∀ h', RgF h0 v0 R h' → Q (some (.int (bz false))) h') : Call (d + 1) MX11_bad [.ref 127, .int (Int32.ofInt k)] h Q := by
  refine sm_bad d e0 ht k hk.2 (fun h' f' g' => hQ h' ⟨_, w, nfN B n i, fun j x y z => (f' j x).trans (hk0 j x y z), g', fun j x1 x2 x3 x4 x5 => by simp only [upd_at, if_neg x4, if_neg x5]; exact hv0 j x1 x2 x3 x4 x5, ?_, ?_, ?_, hR.1, by omega, ?_, ?_⟩)
  · obtain ⟨⟨G, a⟩, NM, b⟩ := hs
    exact ⟨⟨G, (f' 130 (by omega)).trans a⟩, NM, (f' 136 (by omega)).trans b⟩
  · simp only [upd_at]
    rw [hR.2]
    rfl
  · simp only [upd_at, ↓reduceIte]
  · have hj := tk_j (B := B) hi
    unfold nfN
    split <;> omega
  · rw [hR.2]
    split <;> omega
