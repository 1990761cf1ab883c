/-! WALKS: by the formula and by the table -/
theorem smN_two {f : Nat → Int} : ∀ {n : Nat}, (∀ j, j < n → 0 ≤ f j) → ∀ i j, i < j → j < n → f i + f j ≤ smN f n
  | 0, _, i, j, _, h => by omega
  | n + 1, h, i, j, hij, hj => by
    have h0 := h n (by omega)
    simp only [smN]
    by_cases c : j = n
    · have := (smN_nn (f := f) (n := n) (fun k q => h k (by omega))).2 i (by omega)
      rw [c]; omega
    · have := smN_two (f := f) (n := n) (fun k q => h k (by omega)) i j hij (by omega)
      omega
theorem xs_out {F T : Nat → Nat} {P A p : Nat} (h : ∀ j, j < A → F j < P ∧ T j < P) (hp : P ≤ p) : xsI F T A p = 0 := by
  have : ∀ (G : Nat → Nat) n, (∀ j, j < n → G j < P) → cntN G p n = 0 := fun G n => by
    induction n with
    | zero => intro _; rfl
    | succ n ih =>
      intro hG
      rw [cntN, ih (fun j q => hG j (by omega)), if_neg (by have := hG n (by omega); omega)]
  unfold xsI
  rw [this F A (fun j q => (h j q).1), this T A (fun j q => (h j q).2)]
  rfl
theorem shp_StG {P A : Nat} {F T : Nat → Nat} (hP : P ≤ 8) (hA : A ≤ 16) (h : ∀ j, j < A → F j < P ∧ T j < P) (hs : shapeN P A F T ≠ 0) : StG F T A (endN P A F T (shapeN P A F T) 1) (endN P A F T (shapeN P A F T) (-1)) := by
  have e1 := end_lt h hs 1 (Or.inl rfl)
  have e2 := end_lt h hs (-1) (Or.inr rfl)
  refine ⟨hA, by omega, by omega, fun j q => by have := h j q; omega, fun p _ => ?_⟩
  by_cases cp : P ≤ p
  · rw [xs_out h cp, if_neg (by omega), if_neg (by omega)]; rfl
  obtain ⟨c1, c2, c3, c4⟩ := shp_cases h hs
  rcases c4 with ⟨c4, c5⟩ | ⟨c4, c5⟩
  · rw [c4, c5 p (by omega), show endN P A F T 1 1 = F 0 from if_pos rfl, show endN P A F T 1 (-1) = F 0 from if_pos rfl]
    omega
  · rw [c4]
    have q1 := poe_spec (F := F) (T := T) (A := A) (w := 1) P 0 (by obtain ⟨j, a, b⟩ := c5 1 (Or.inl rfl); exact ⟨j, by omega, by omega, b⟩)
    have q2 := poe_spec (F := F) (T := T) (A := A) (w := -1) P 0 (by obtain ⟨j, a, b⟩ := c5 (-1) (Or.inr rfl); exact ⟨j, by omega, by omega, b⟩)
    rw [show endN P A F T 2 1 = poeN F T A 1 P 0 from if_neg (by decide), show endN P A F T 2 (-1) = poeN F T A (-1) P 0 from if_neg (by decide)]
    generalize poeN F T A 1 P 0 = b at q1 ⊢
    generalize poeN F T A (-1) P 0 = g at q2 ⊢
    have hk1 : lkN F T A P ≤ 1 := by
      have := shp_knd h
      unfold kndN at this
      by_cases z : A = 0 ∨ joinB F T A = false ∨ 1 < lkN F T A P
      · rw [if_pos z] at this; omega
      · have z2 : ¬ 1 < lkN F T A P := fun y => z (Or.inr (Or.inr y))
        omega
    have hx := c3 p (by omega)
    -- one with more out, one with more in
    have u1 : xsI F T A p = 1 → p = b := fun z => by
      apply Classical.byContradiction
      intro hne
      have nn : ∀ j, j < P → 0 ≤ (fun q => if 0 < xsI F T A q then xsI F T A q else 0) j := fun j _ => by show 0 ≤ ite _ _ _; split <;> omega
      rw [lk_sm] at hk1
      rcases Nat.lt_or_gt_of_ne hne with y | y
      · have := smN_two nn p b y (by omega)
        simp only [z, q1.2.2.1] at this
        simp at this
        omega
      · have := smN_two nn b p y (by omega)
        simp only [z, q1.2.2.1] at this
        simp at this
        omega
    have u2 : xsI F T A p = -1 → p = g := fun z => by
      apply Classical.byContradiction
      intro hne
      have nn : ∀ j, j < P → 0 ≤ (fun q => if xsI F T A q < 0 then -xsI F T A q else 0) j := fun j _ => by show 0 ≤ ite _ _ _; split <;> omega
      rw [lk_ng h] at hk1
      rcases Nat.lt_or_gt_of_ne hne with y | y
      · have := smN_two nn p g y (by omega)
        simp only [z, q2.2.2.1] at this
        simp at this
        omega
      · have := smN_two nn g p y (by omega)
        simp only [z, q2.2.2.1] at this
        simp at this
        omega
    have hbg : b ≠ g := fun z => by
      have a1 := q1.2.2.1
      have a2 := q2.2.2.1
      rw [z] at a1
      omega
    by_cases d1 : p = b
    · rw [if_pos d1, if_neg (by omega), d1, q1.2.2.1]; omega
    · by_cases d2 : p = g
      · rw [if_neg d1, if_pos d2, d2, q2.2.2.1]; omega
      · rw [if_neg d1, if_neg d2]
        have : xsI F T A p ≠ 1 := fun z => d1 (u1 z)
        have : xsI F T A p ≠ -1 := fun z => d2 (u2 z)
        omega
/-- the table's entries are what the formula says -/
theorem wy_tr {F T : Nat → Nat} {A b goal e t p : Nat} (h : StG F T A b goal) (ht : t < 2 ^ A) (hw : whI F T A b t = (p : Int)) : wyW F T A b (mgN 0 F T A e 0) t = trS F T A goal (frN A t) := by
  unfold wyW
  rw [if_neg (by omega), hw, Int.toNat_natCast]
  have := pcN_le A t
  exact et_tr h (A - pcN A t) t p ht (by omega) hw
theorem wy_b {F T : Nat → Nat} {A b goal how e tr t : Nat} (h : StG F T A b goal) (ht : t < 2 ^ A) : 0 ≤ wyW F T A b (mgN how F T A e tr) t ∧ wyW F T A b (mgN how F T A e tr) t ≤ 20922789888000 := by
  by_cases c : whI F T A b t = -1
  · unfold wyW
    rw [if_pos c]
    split <;> omega
  · have wb := whI_b (F := F) (T := T) (A := A) (b := b) (s := t)
    obtain ⟨p, hp⟩ : ∃ p : Nat, whI F T A b t = p := ⟨(whI F T A b t).toNat, by omega⟩
    have e1 := wy_tr (e := 0) h ht hp
    have e2 := tr_le (F := F) (T := T) h.1 (fun j hj => (h.2.2.2.1 j hj).2) (frN A t) goal h.2.2.1
    have e3 : wyW F T A b (mgN how F T A e tr) t ≤ wyW F T A b (mgN 0 F T A 0 0) t := by
      unfold wyW
      rw [if_neg c, if_neg c]
      exact et_le _ _ _
    refine ⟨?_, by omega⟩
    unfold wyW
    rw [if_neg c]
    exact et_nn _ _ _
theorem ws_one {F : Nat → Nat} {mg : Nat → Nat → Bool} {W : Nat → Int} {t p k : Nat} : ∀ {m : Nat}, k < m → (∀ j, k < j → j < m → ¬ (F j = p ∧ mg t j = true)) → wsN F mg W t p m - wsN F mg W t p k = if F k = p ∧ mg t k = true then W (t ||| 2 ^ k) else 0
  | 0, h, _ => by omega
  | m + 1, h, ha => by
    rw [wsN]
    by_cases c : k = m
    · subst c
      by_cases c2 : F k = p ∧ mg t k = true
      · rw [if_pos ⟨by omega, c2.2⟩, if_pos c2]; omega
      · rw [if_neg (fun z => c2 ⟨by omega, z.2⟩), if_neg c2]; omega
    · have := ws_one (F := F) (mg := mg) (W := W) (t := t) (p := p) (k := k) (m := m) (by omega) (fun j a b => ha j a (by omega))
      rw [if_neg (fun z => ha m (by omega) (by omega) ⟨by omega, z.2⟩), Int.add_zero]
      exact this
theorem ldO_0 {F : Nat → Nat} {fr p : Nat} : ∀ {n : Nat}, ldO (fun j => fr.testBit j) F p n = 0 → ∀ j, j < n → ¬ (fr.testBit j = true ∧ F j = p)
  | 0, _, j, hj => by omega
  | n + 1, h, j, hj => by
    have nn : ∀ n, 0 ≤ ldO (fun j => fr.testBit j) F p n := fun n => by
      induction n with
      | zero => simp [ldO]
      | succ n ih => simp only [ldO]; split <;> omega
    have n0 := nn n
    rw [ldO] at h
    by_cases c : fr.testBit n = true ∧ F n = p
    · rw [if_pos c] at h; omega
    · rw [if_neg c] at h
      by_cases e : j = n
      · rw [e]; exact c
      · exact ldO_0 (n := n) (by omega) j (by omega)
/-- the arc of a rank -/
theorem ch_lr {F T : Nat → Nat} {A b goal e t p : Nat} (h : StG F T A b goal) (ht : t < 2 ^ A) (hw : whI F T A b t = (p : Int)) : ∀ (r k : Nat) (l : Int), k + r = A → 0 ≤ l → l < wsN F (mgN 0 F T A e 0) (wyW F T A b (mgN 0 F T A e 0)) t p A - wsN F (mgN 0 F T A e 0) (wyW F T A b (mgN 0 F T A e 0)) t p k → chN F T A goal p (frN A t) r k l = some (lrC F (mgN 0 F T A e 0) (wyW F T A b (mgN 0 F T A e 0)) t p r k l)
  | 0, k, l, hk, h1, h2 => by
    rw [show k = A by omega] at h2
    omega
  | r + 1, k, l, hk, h1, h2 => by
    have hb := fr_bit (k := k) ht
    rw [decide_eq_true (show k < A by omega), Bool.true_and] at hb
    simp only [chN, lrC]
    rw [mg_any]
    by_cases c : (frN A t).testBit k = true ∧ F k = p
    · have hbt : t.testBit k = false := by
        rw [c.1] at hb
        cases z : t.testBit k
        · rfl
        · rw [z] at hb; exact absurd hb (by simp)
      have hw2 := wh_step (F := F) (T := T) (A := A) (b := b) (s := t) (k := k) (by rw [hw, c.2]) (by omega) hbt (h.2.2.2.1 k (by omega)).2
      have hv := wy_tr (e := e) h (set_lt ht (show k < A by omega)) hw2
      rw [fr_set ht (by omega)] at hv
      rw [if_pos c, if_pos (show (F k : Int) = (p : Int) ∧ (!t.testBit k) = true from ⟨by omega, by rw [hbt]; rfl⟩), hv]
      have hmg : mgN 0 F T A e 0 t k = true := by rw [mg_any, hbt]; rfl
      by_cases c2 : l < trS F T A goal (clrB (frN A t) k)
      · rw [if_pos (Or.inr c2), if_pos c2]
      · have c3 : ¬ wkO F A (clrB (frN A t) k) p = 0 := fun z => by
          have hno := ldO_0 (n := A) z
          have := ws_one (F := F) (mg := mgN 0 F T A e 0) (W := wyW F T A b (mgN 0 F T A e 0)) (t := t) (p := p) (k := k) (m := A) (by omega) (fun j a b' q => hno j b' ⟨by
            rw [clrB_bit, fr_bit ht, decide_eq_true b', decide_eq_true (show j ≠ k by omega)]
            have := q.2
            rw [mg_any] at this
            rw [this]; rfl, q.1⟩)
          rw [if_pos ⟨c.2, hmg⟩, hv] at this
          omega
        rw [if_neg (show ¬ (wkO F A (clrB (frN A t) k) p = 0 ∨ l < trS F T A goal (clrB (frN A t) k)) from fun z => z.elim c3 c2), if_neg c2]
        refine ch_lr h ht hw r (k + 1) _ (by omega) (by omega) ?_
        rw [wsN, if_pos ⟨by omega, hmg⟩, hv]
        omega
    · have c' : ¬ ((F k : Int) = p ∧ (!t.testBit k) = true) := fun z => c ⟨by rw [hb]; exact z.2, by omega⟩
      rw [if_neg c, if_neg c']
      refine ch_lr h ht hw r (k + 1) l (by omega) h1 ?_
      rw [wsN, if_neg (fun z => c' ⟨z.1, by rw [← mg_any (F := F) (T := T) (A := A) (e := e) (tr := 0)]; exact z.2⟩), Int.add_zero]
      exact h2
/-- the walk of a rank -/
theorem bp_lr {F T : Nat → Nat} {A b goal e : Nat} (h : StG F T A b goal) : ∀ (n t p : Nat) (l : Int), t < 2 ^ A → pcN A t + n = A → whI F T A b t = (p : Int) → 0 ≤ l → l < wyW F T A b (mgN 0 F T A e 0) t → bpN F T A goal n p (frN A t) l = some (lrL F T A b (mgN 0 F T A e 0) (wyW F T A b (mgN 0 F T A e 0)) n t l)
  | 0, t, p, l, _, _, _, _, _ => rfl
  | n + 1, t, p, l, ht, hn, hw, h1, h2 => by
    have hWt := wy_ok (F := F) (T := T) (A := A) (b := b) (how := 0) (e := e) (tr := 0) (fun j hj => (h.2.2.2.1 j hj).2) t ht
    have hne : t ≠ 2 ^ A - 1 := fun z => by rw [z, pc_all] at hn; omega
    rw [if_neg hne, if_neg (by omega), hw] at hWt
    have hc := ch_lr (e := e) h ht hw A 0 l (by omega) h1 (by rw [← hWt, wsN]; omega)
    have ok := lrC_ok (F := F) (mg := mgN 0 F T A e 0) (W := wyW F T A b (mgN 0 F T A e 0)) (t := t) (p := (p : Int)) (A := A) A 0 l (by omega) h1 (by rw [← hWt, wsN]; omega)
    rw [bpN, hc, lrL, hw]
    obtain ⟨kl, hkl⟩ : ∃ kl, lrC F (mgN 0 F T A e 0) (wyW F T A b (mgN 0 F T A e 0)) t (p : Int) A 0 l = kl := ⟨_, rfl⟩
    rw [hkl] at ok ⊢
    obtain ⟨k, l'⟩ := kl
    obtain ⟨o1, o2, o3, o4, o5⟩ := ok
    have hbt := mgN_bit o3
    have hw2 := wh_step (F := F) (T := T) (A := A) (b := b) (s := t) (k := k) (by rw [hw]; exact o2.symm) o1 hbt (h.2.2.2.1 k o1).2
    simp only
    rw [← fr_set ht o1, bp_lr h n (t ||| 2 ^ k) (T k) l' (set_lt ht o1) (by rw [pc_set o1 hbt]; omega) hw2 o4 o5]
    rfl
theorem fr_0 {A : Nat} : frN A 0 = allB A := by unfold frN allB; exact Nat.xor_zero _
theorem clr_fr {A : Nat} (hA : 0 < A) : frN A 1 = clrB (allB A) 0 := by
  have := fr_set (A := A) (t := 0) (k := 0) (Nat.pow_pos (by decide)) hA
  rw [fr_0] at this
  exact this
/-- where walks begin to be chosen -/
theorem beg_wh {P A : Nat} {F T : Nat → Nat} (hP : P ≤ 8) (h : ∀ j, j < A → F j < P ∧ T j < P) (hs : shapeN P A F T ≠ 0) : begN P A F T < 2 ^ A ∧ pcN A (begN P A F T) = begN P A F T ∧ whI F T A (endN P A F T (shapeN P A F T) 1) (begN P A F T) = ((if shapeN P A F T = 1 then T 0 else endN P A F T (shapeN P A F T) 1 : Nat) : Int) ∧ frN A (begN P A F T) = (if shapeN P A F T = 1 then clrB (allB A) 0 else allB A) := by
  have hc := shp_cases h hs
  have e1 := end_lt h hs 1 (Or.inl rfl)
  have hp2 : 2 ^ 1 ≤ 2 ^ A := Nat.pow_le_pow_right (by decide) hc.1
  unfold begN
  by_cases c : shapeN P A F T = 1
  · rw [if_pos c, if_pos c, if_pos c]
    have h0 := h 0 hc.1
    refine ⟨by omega, pc_pow (k := 0) hc.1, ?_, clr_fr hc.1⟩
    have hb : endN P A F T (shapeN P A F T) 1 = F 0 := by rw [c]; exact if_pos rfl
    have := wh_step (F := F) (T := T) (A := A) (b := endN P A F T (shapeN P A F T) 1) (s := 0) (k := 0) (by rw [wh_0 (by omega), hb]) hc.1 (by simp) (by omega)
    exact this
  · rw [if_neg c, if_neg c, if_neg c]
    exact ⟨by omega, pcN_zero A, wh_0 (by omega), fr_0⟩
theorem wc_wy {P A e : Nat} {F T : Nat → Nat} (hP : P ≤ 8) (hA : A ≤ 16) (h : ∀ j, j < A → F j < P ∧ T j < P) (hs : shapeN P A F T ≠ 0) : wcN P A F T = wyW F T A (endN P A F T (shapeN P A F T) 1) (mgN 0 F T A e 0) (begN P A F T) := by
  obtain ⟨b1, b2, b3, b4⟩ := beg_wh hP h hs
  rw [wy_tr (shp_StG hP hA h hs) b1 b3, b4]
  unfold wcN
  rw [if_neg hs]
theorem wl_wk {P A e : Nat} {F T : Nat → Nat} (hP : P ≤ 8) (hA : A ≤ 16) (h : ∀ j, j < A → F j < P ∧ T j < P) (hs : shapeN P A F T ≠ 0) {z : Int} (z1 : 0 ≤ z) (z2 : z < wcN P A F T) : ∃ l, wlN P A F T z = some l ∧ ∀ i, i < A → l.getD i 0 = wkM F T A (begN P A F T) (endN P A F T (shapeN P A F T) 1) (mgN 0 F T A e 0) (wyW F T A (endN P A F T (shapeN P A F T) 1) (mgN 0 F T A e 0)) z i := by
  obtain ⟨b1, b2, b3, b4⟩ := beg_wh hP h hs
  have hg := shp_StG hP hA h hs
  have hc := shp_cases h hs
  rw [wc_wy (e := e) hP hA h hs] at z2
  have bl := begN_le (P := P) (A := A) (F := F) (T := T)
  have hbp := bp_lr (e := e) hg (A - begN P A F T) (begN P A F T) _ z b1 (by rw [b2]; omega) b3 z1 z2
  unfold wlN
  rw [if_pos ⟨z1, by rw [wc_wy (e := e) hP hA h hs]; exact z2⟩]
  by_cases c : shapeN P A F T = 1
  · have eb : begN P A F T = 1 := if_pos c
    rw [b4, if_pos c, if_pos c, eb] at hbp
    obtain ⟨A', rfl⟩ : ∃ A', A = A' + 1 := ⟨A - 1, by have := hc.1; omega⟩
    have hb : endN P (A' + 1) F T (shapeN P (A' + 1) F T) 1 = F 0 := by rw [c]; exact if_pos rfl
    refine ⟨0 :: lrL F T (A' + 1) (endN P (A' + 1) F T (shapeN P (A' + 1) F T) 1) (mgN 0 F T (A' + 1) e 0) (wyW F T (A' + 1) (endN P (A' + 1) F T (shapeN P (A' + 1) F T) 1) (mgN 0 F T (A' + 1) e 0)) A' 1 z, ?_, fun i hi => ?_⟩
    · have h0 : chN F T (A' + 1) (endN P (A' + 1) F T (shapeN P (A' + 1) F T) (-1)) (endN P (A' + 1) F T (shapeN P (A' + 1) F T) 1) (allB (A' + 1)) (A' + 1) 0 z = some (0, z) := by
        rw [chN, if_pos ⟨by rw [allB_bit]; simp, hb.symm⟩, if_pos]
        right
        rw [wy_tr hg b1 b3, b4, if_pos c] at z2
        exact z2
      show bpN F T (A' + 1) _ (A' + 1) _ _ _ = _
      rw [bpN, h0]
      simp only
      rw [show A' + 1 - 1 = A' by omega] at hbp
      rw [hbp]
      rfl
    · unfold wkM
      rw [eb]
      cases i with
      | zero => rfl
      | succ i =>
        rw [if_neg (by omega)]
        rfl
  · have eb : begN P A F T = 0 := if_neg c
    rw [b4, if_neg c, if_neg c, eb, Nat.sub_zero] at hbp
    refine ⟨_, hbp, fun i hi => ?_⟩
    unfold wkM
    rw [eb, if_neg (by omega)]
    rfl
/-! told walks -/
theorem vc_iw {F T : Nat → Nat} {A : Nat} {B : Nat → Nat} : ∀ (r i p t : Nat), t < 2 ^ A → vcB F T A B r i p (frN A t) = iwB F T A B r i p t
  | 0, _, _, _, _ => rfl
  | r + 1, i, p, t, ht => by
    rw [vcB, iwB]
    by_cases c : B i < A
    · have hb := fr_bit (k := B i) ht
      rw [decide_eq_true c, Bool.true_and] at hb
      by_cases c2 : t.testBit (B i) = false ∧ F (B i) = p
      · rw [if_pos ⟨c, c2⟩, decide_eq_true ⟨c, by rw [hb, c2.1]; rfl, c2.2⟩, Bool.true_and, ← fr_set ht c]
        exact vc_iw r (i + 1) _ _ (set_lt ht c)
      · rw [if_neg (fun z => c2 z.2), decide_eq_false (fun z => c2 ⟨by
          have := z.2.1
          rw [hb] at this
          cases y : t.testBit (B i)
          · rfl
          · rw [y] at this; exact absurd this (by simp), z.2.2⟩), Bool.false_and]
    · rw [if_neg (fun z => c z.1), decide_eq_false (fun z => c z.1), Bool.false_and]
theorem rk_ahK {F T : Nat → Nat} {A b goal e t p : Nat} (h : StG F T A b goal) (ht : t < 2 ^ A) (hw : whI F T A b t = (p : Int)) : ∀ k, k ≤ A → rkK F T A goal p (frN A t) k = ahK F (wyW F T A b (mgN 0 F T A e 0)) t p k
  | 0, _ => rfl
  | k + 1, hk => by
    have ih := rk_ahK (e := e) h ht hw k (by omega)
    have hb := fr_bit (k := k) ht
    rw [decide_eq_true (show k < A by omega), Bool.true_and] at hb
    rw [rkK, ahK]
    by_cases c : t.testBit k = false ∧ F k = p
    · have hw2 := wh_step (F := F) (T := T) (A := A) (b := b) (s := t) (k := k) (by rw [hw, c.2]) (by omega) c.1 (h.2.2.2.1 k (by omega)).2
      have hv := wy_tr (e := e) h (set_lt ht (show k < A by omega)) hw2
      rw [if_pos ⟨by rw [hb, c.1]; rfl, c.2⟩, if_pos c, ih, hv, fr_set ht (by omega)]
    · rw [if_neg (fun z => c ⟨by
        have := z.1
        rw [hb] at this
        cases y : t.testBit k
        · rfl
        · rw [y] at this; exact absurd this (by simp), z.2⟩), if_neg c, ih, Int.add_zero]
theorem rk_ahL {F T : Nat → Nat} {A b goal e : Nat} (h : StG F T A b goal) {L : Nat → Nat} : ∀ (r i p t : Nat) (ah : Int), t < 2 ^ A → whI F T A b t = (p : Int) → iwB F T A L r i p t = true → rkP F T A goal L r i p (frN A t) ah = ah + ahL F (wyW F T A b (mgN 0 F T A e 0)) L r i t
  | 0, _, _, _, ah, _, _, _ => by simp [rkP, ahL]
  | r + 1, i, p, t, ah, ht, hw, hi => by
    rw [iwB] at hi
    split at hi
    · next c =>
      have hw2 := wh_step (F := F) (T := T) (A := A) (b := b) (s := t) (k := L i) (by rw [hw, c.2.2]) c.1 c.2.1 (h.2.2.2.1 _ c.1).2
      rw [rkP, ahL, ← fr_set ht c.1, rk_ahL (e := e) h r (i + 1) _ _ _ (set_lt ht c.1) hw2 hi, rk_ahK (e := e) h ht hw _ (by omega), c.2.2]
      omega
    · exact absurd hi (by simp)
theorem rk_rank {P A e : Nat} {F T : Nat → Nat} (hP : P ≤ 8) (hA : A ≤ 16) (h : ∀ j, j < A → F j < P ∧ T j < P) (hs : shapeN P A F T ≠ 0) {L : Nat → Nat} (h1 : shapeN P A F T = 1 → L 0 = 0) (hi : iwB F T A L A 0 (endN P A F T (shapeN P A F T) 1) 0 = true) : rkN P A F T (shapeN P A F T) L = ahL F (wyW F T A (endN P A F T (shapeN P A F T) 1) (mgN 0 F T A e 0)) L (A - begN P A F T) (begN P A F T) (begN P A F T) := by
  have hg := shp_StG hP hA h hs
  have hc := shp_cases h hs
  have e1 := end_lt h hs 1 (Or.inl rfl)
  have := rk_ahL (e := e) hg (L := L) A 0 _ 0 0 (Nat.pow_pos (by decide)) (wh_0 (by omega)) hi
  unfold rkN
  rw [fr_0] at this
  rw [this, Int.zero_add]
  by_cases c : shapeN P A F T = 1
  · have eb : begN P A F T = 1 := if_pos c
    obtain ⟨A', rfl⟩ : ∃ A', A = A' + 1 := ⟨A - 1, by have := hc.1; omega⟩
    rw [eb, ahL, h1 c, ahK, Int.zero_add]
    rfl
  · have eb : begN P A F T = 0 := if_neg c
    rw [eb, Nat.sub_zero]
