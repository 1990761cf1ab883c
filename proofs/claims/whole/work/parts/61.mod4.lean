theorem smN_nn {f : Nat → Int} : ∀ {n : Nat}, (∀ j, j < n → 0 ≤ f j) → 0 ≤ smN f n ∧ ∀ j, j < n → f j ≤ smN f n
  | 0, _ => ⟨Int.le_refl _, fun j q => absurd q (by omega)⟩
  | n + 1, h => by
    have ih := smN_nn (f := f) (n := n) (fun j q => h j (by omega))
    have h0 := h n (by omega)
    simp only [smN]
    refine ⟨by omega, fun j q => ?_⟩
    by_cases c : j = n
    · rw [c]; omega
    · have := ih.2 j (by omega)
      omega
theorem smN_sub {f g : Nat → Int} : ∀ n, smN (fun i => f i - g i) n = smN f n - smN g n
  | 0 => by simp [smN]
  | n + 1 => by
    simp only [smN, smN_sub n]
    omega
theorem smN_add {f g : Nat → Int} : ∀ n, smN (fun i => f i + g i) n = smN f n + smN g n
  | 0 => by simp [smN]
  | n + 1 => by
    simp only [smN, smN_add n]
    omega
theorem smN_congr {f g : Nat → Int} : ∀ {n : Nat}, (∀ j, j < n → f j = g j) → smN f n = smN g n
  | 0, _ => rfl
  | n + 1, h => by
    simp only [smN]
    rw [smN_congr (n := n) (fun j q => h j (by omega)), h n (by omega)]
theorem smN_zero : ∀ n, smN (fun _ => 0) n = 0
  | 0 => rfl
  | n + 1 => by simp [smN, smN_zero n]
theorem smN_one {k : Nat} : ∀ n, smN (fun p => if p = k then 1 else 0) n = if k < n then 1 else 0
  | 0 => by simp [smN]
  | n + 1 => by
    simp only [smN, smN_one n]
    by_cases c : n = k
    · rw [if_neg (by omega), if_pos c, if_pos (by omega)]; rfl
    · rw [if_neg c]
      by_cases e : k < n
      · rw [if_pos e, if_pos (by omega)]; rfl
      · rw [if_neg e, if_neg (by omega)]; rfl
theorem cnt_sum {F : Nat → Nat} {P : Nat} : ∀ {A : Nat}, (∀ j, j < A → F j < P) → smN (fun p => (cntN F p A : Int)) P = A
  | 0, _ => by simp only [cntN]; exact smN_zero P
  | A + 1, h => by
    have ih := cnt_sum (F := F) (P := P) (A := A) (fun j q => h j (by omega))
    have e : smN (fun p => (cntN F p (A + 1) : Int)) P = smN (fun p => (cntN F p A : Int) + (if p = F A then 1 else 0)) P := smN_congr (fun j _ => by
      rw [cntN]
      by_cases c : F A = j
      · rw [if_pos c, if_pos c.symm]; omega
      · rw [if_neg c, if_neg (fun z => c z.symm)]; omega)
    rw [e, smN_add, ih, smN_one, if_pos (h A (by omega))]
    omega
theorem xs_sum {F T : Nat → Nat} {P A : Nat} (h : ∀ j, j < A → F j < P ∧ T j < P) : smN (fun p => xsI F T A p) P = 0 := by
  simp only [xsI]
  rw [smN_sub, cnt_sum (fun j q => (h j q).1), cnt_sum (fun j q => (h j q).2)]
  omega
theorem lk_sm {F T : Nat → Nat} {A : Nat} : ∀ n, lkN F T A n = smN (fun p => if 0 < xsI F T A p then xsI F T A p else 0) n
  | 0 => rfl
  | n + 1 => by simp only [lkN, smN, lk_sm n]
theorem lk_ng {F T : Nat → Nat} {P A : Nat} (h : ∀ j, j < A → F j < P ∧ T j < P) : lkN F T A P = smN (fun p => if xsI F T A p < 0 then -xsI F T A p else 0) P := by
  have e := xs_sum h
  have e2 : smN (fun p => xsI F T A p) P = smN (fun p => (if 0 < xsI F T A p then xsI F T A p else 0) - (if xsI F T A p < 0 then -xsI F T A p else 0)) P := smN_congr (fun j _ => by
    by_cases c : 0 < xsI F T A j
    · rw [if_pos c, if_neg (by omega)]; omega
    · by_cases c2 : xsI F T A j < 0
      · rw [if_neg c, if_pos c2]; omega
      · rw [if_neg c, if_neg c2]; omega)
  rw [e2, smN_sub, ← lk_sm] at e
  omega
theorem lk_ge {F T : Nat → Nat} {P A j : Nat} (h : ∀ j, j < A → F j < P ∧ T j < P) (hj : j < P) : xsI F T A j ≤ lkN F T A P ∧ -xsI F T A j ≤ lkN F T A P := by
  have h1 := (smN_nn (f := fun p => if 0 < xsI F T A p then xsI F T A p else 0) (n := P) (fun j _ => by show 0 ≤ ite _ _ _; split <;> omega)).2 j hj
  have h2 := (smN_nn (f := fun p => if xsI F T A p < 0 then -xsI F T A p else 0) (n := P) (fun j _ => by show 0 ≤ ite _ _ _; split <;> omega)).2 j hj
  rw [← lk_sm] at h1
  rw [← lk_ng h] at h2
  have hb := lk_sm (F := F) (T := T) (A := A) P
  have := (smN_nn (f := fun p => if 0 < xsI F T A p then xsI F T A p else 0) (n := P) (fun j _ => by show 0 ≤ ite _ _ _; split <;> omega)).1
  rw [← lk_sm] at this
  (try simp only at h1); (try simp only at h2)
  refine ⟨?_, ?_⟩
  · by_cases c : 0 < xsI F T A j
    · rw [if_pos c] at h1; exact h1
    · omega
  · by_cases c : xsI F T A j < 0
    · rw [if_pos c] at h2; exact h2
    · omega
theorem gv_spec {F T : Nat → Nat} {A : Nat} : ∀ p, (∀ g, gvN F T A p = some g → (∀ j, j < p → -1 ≤ xsI F T A j ∧ xsI F T A j ≤ 1) ∧ lkN F T A p = g) ∧ (gvN F T A p = none → ∃ j, j < p ∧ (1 < xsI F T A j ∨ xsI F T A j < -1))
  | 0 => ⟨fun g h => by simp only [gvN, Option.some.injEq] at h; exact ⟨fun j q => absurd q (by omega), by rw [lkN, ← h]; rfl⟩, fun h => by simp [gvN] at h⟩
  | p + 1 => by
    have ih := gv_spec (F := F) (T := T) (A := A) p
    have hx : (cntN F p A : Int) - (cntN T p A : Int) = xsI F T A p := rfl
    simp only [gvN, hx]
    cases hg : gvN F T A p with
    | none =>
      refine ⟨fun g h => by simp at h, fun _ => ?_⟩
      obtain ⟨j, a, b⟩ := ih.2 hg
      exact ⟨j, by omega, b⟩
    | some g' =>
      obtain ⟨i1, i2⟩ := ih.1 g' hg
      simp only
      by_cases c : xsI F T A p > 1 ∨ xsI F T A p < -1
      · rw [if_pos c]
        exact ⟨fun g h => by simp at h, fun _ => ⟨p, by omega, c⟩⟩
      · rw [if_neg c]
        have i3 : ∀ j, j < p + 1 → -1 ≤ xsI F T A j ∧ xsI F T A j ≤ 1 := fun j q => by
          by_cases e : j = p
          · rw [e]; omega
          · exact i1 j (by omega)
        by_cases c2 : xsI F T A p = 1
        · rw [if_pos c2]
          refine ⟨fun g h => ⟨i3, ?_⟩, fun h => by simp at h⟩
          simp only [Option.some.injEq] at h
          rw [lkN, if_pos (by omega), i2]
          omega
        · rw [if_neg c2]
          refine ⟨fun g h => ⟨i3, ?_⟩, fun h => by simp at h⟩
          simp only [Option.some.injEq] at h
          rw [lkN, if_neg (by omega), i2]
          omega
theorem shp_knd {P A : Nat} {F T : Nat → Nat} (h : ∀ j, j < A → F j < P ∧ T j < P) : kndN P A F T = shapeN P A F T := by
  unfold kndN shapeN
  by_cases c : A = 0 ∨ joinB F T A = false
  · rw [if_pos c, if_pos (by rcases c with c | c; exact Or.inl c; exact Or.inr (Or.inl c))]
  rw [if_neg c]
  have gs := gv_spec (F := F) (T := T) (A := A) P
  cases hg : gvN F T A P with
  | none =>
    obtain ⟨j, a, b⟩ := gs.2 hg
    have := lk_ge h a
    exact if_pos (Or.inr (Or.inr (by omega)))
  | some g =>
    have e := (gs.1 g hg).2
    simp only
    by_cases c1 : 1 < lkN F T A P
    · rw [if_pos (Or.inr (Or.inr c1)), if_neg (by omega), if_neg (by omega)]
    · rw [if_neg (fun z => by
        rcases z with z | z | z
        · exact c (Or.inl z)
        · exact c (Or.inr z)
        · exact c1 z)]
      by_cases c2 : lkN F T A P = 0
      · rw [if_pos c2, if_pos (by omega)]
      · rw [if_neg c2, if_neg (by omega), if_pos (by omega)]
theorem offs_bit {F T : Nat → Nat} {A j : Nat} {sg : Int} : ∀ n, (offsN F T A sg n).testBit j = decide (j < n ∧ 0 < xsI F T A j * sg)
  | 0 => by simp [offsN]
  | n + 1 => by
    have ih := offs_bit (F := F) (T := T) (A := A) (j := j) (sg := sg) n
    have hx : (cntN F n A : Int) - (cntN T n A : Int) = xsI F T A n := rfl
    simp only [offsN, hx]
    by_cases c : 0 < xsI F T A n * sg
    · rw [if_pos c, set_bit, ih]
      by_cases e : j = n
      · rw [e, decide_eq_true (p := n = n) rfl, Bool.or_true, decide_eq_true ⟨by omega, c⟩]
      · rw [decide_eq_false e, Bool.or_false]
        apply decide_eq_decide.mpr
        constructor
        · rintro ⟨a, b⟩; exact ⟨by omega, b⟩
        · rintro ⟨a, b⟩; exact ⟨by omega, b⟩
    · rw [if_neg c, ih]
      apply decide_eq_decide.mpr
      constructor
      · rintro ⟨a, b⟩; exact ⟨by omega, b⟩
      · rintro ⟨a, b⟩
        refine ⟨?_, b⟩
        by_cases e : j = n
        · rw [e] at b; exact absurd b c
        · omega
theorem poe_spec {F T : Nat → Nat} {A : Nat} {w : Int} : ∀ r i, (∃ j, i ≤ j ∧ j < i + r ∧ xsI F T A j = w) → i ≤ poeN F T A w r i ∧ poeN F T A w r i < i + r ∧ xsI F T A (poeN F T A w r i) = w ∧ ∀ j, i ≤ j → j < poeN F T A w r i → xsI F T A j ≠ w
  | 0, i, ⟨j, a, b, c⟩ => by omega
  | r + 1, i, ⟨j, a, b, c⟩ => by
    have hx : (cntN F i A : Int) - (cntN T i A : Int) = xsI F T A i := rfl
    simp only [poeN, hx]
    by_cases e : xsI F T A i = w
    · rw [if_pos e]
      exact ⟨Nat.le_refl _, by omega, e, fun j a b => absurd b (by omega)⟩
    · rw [if_neg e]
      have hne : j ≠ i := fun z => e (z ▸ c)
      obtain ⟨i1, i2, i3, i4⟩ := poe_spec r (i + 1) ⟨j, by omega, by omega, c⟩
      refine ⟨by omega, by omega, i3, fun j' a' b' => ?_⟩
      by_cases z : j' = i
      · rw [z]; exact e
      · exact i4 j' (by omega) b'
theorem shp_cases {P A : Nat} {F T : Nat → Nat} (h : ∀ j, j < A → F j < P ∧ T j < P) (hs : shapeN P A F T ≠ 0) : 0 < A ∧ joinB F T A = true ∧ (∀ j, j < P → -1 ≤ xsI F T A j ∧ xsI F T A j ≤ 1) ∧ ((shapeN P A F T = 1 ∧ ∀ j, j < P → xsI F T A j = 0) ∨ (shapeN P A F T = 2 ∧ ∀ w : Int, w = 1 ∨ w = -1 → ∃ j, j < P ∧ xsI F T A j = w)) := by
  unfold shapeN at hs ⊢
  by_cases c : A = 0 ∨ joinB F T A = false
  · rw [if_pos c] at hs; exact absurd rfl hs
  rw [if_neg c] at hs ⊢
  have gs := gv_spec (F := F) (T := T) (A := A) P
  have hj : joinB F T A = true := by
    cases hb : joinB F T A with
    | true => rfl
    | false => exact absurd (Or.inr hb) c
  cases hg : gvN F T A P with
  | none => rw [hg] at hs; exact absurd rfl hs
  | some g =>
    obtain ⟨g1, g2⟩ := gs.1 g hg
    rw [hg] at hs
    simp only at hs ⊢
    refine ⟨by omega, hj, g1, ?_⟩
    by_cases c0 : g = 0
    · left
      rw [if_pos c0]
      refine ⟨rfl, fun j q => ?_⟩
      have := lk_ge h q
      omega
    · right
      rw [if_neg c0] at hs ⊢
      by_cases c1 : g = 1
      · rw [if_pos c1]
        refine ⟨rfl, fun w hw => ?_⟩
        apply Classical.byContradiction
        intro hn
        have hn' : ∀ j, j < P → xsI F T A j ≠ w := fun j q z => hn ⟨j, q, z⟩
        have e1 := lk_sm (F := F) (T := T) (A := A) P
        have e2 := lk_ng h
        rcases hw with rfl | rfl
        · rw [smN_congr (g := fun _ => 0) (fun j q => by have := hn' j q; have := g1 j q; show ite _ _ _ = (0 : Int); rw [if_neg (by omega)]), smN_zero] at e1
          omega
        · rw [smN_congr (g := fun _ => 0) (fun j q => by have := hn' j q; have := g1 j q; show ite _ _ _ = (0 : Int); rw [if_neg (by omega)]), smN_zero] at e2
          omega
      · rw [if_neg c1] at hs; exact absurd rfl hs
theorem end_offs {P A : Nat} {F T : Nat → Nat} (h : ∀ j, j < A → F j < P ∧ T j < P) (hs : shapeN P A F T = 2) (w : Int) (hw : w = 1 ∨ w = -1) : endN P A F T 2 w < P ∧ (offsN F T A w P).testBit (endN P A F T 2 w) = true ∧ ∀ j, j < endN P A F T 2 w → (offsN F T A w P).testBit j = false := by
  obtain ⟨h1, h2, h3, h4⟩ := shp_cases h (by omega)
  rcases h4 with h4 | h4
  · omega
  obtain ⟨j, j1, j2⟩ := h4.2 w hw
  obtain ⟨i1, i2, i3, i4⟩ := poe_spec (F := F) (T := T) (A := A) (w := w) P 0 ⟨j, by omega, by omega, j2⟩
  rw [show endN P A F T 2 w = poeN F T A w P 0 from if_neg (by decide)]
  refine ⟨by omega, ?_, fun j q => ?_⟩
  · rw [offs_bit]
    refine decide_eq_true ⟨by omega, ?_⟩
    rw [i3]
    rcases hw with rfl | rfl <;> decide
  · rw [offs_bit]
    refine decide_eq_false (fun z => ?_)
    have := h3 j z.1
    have n := i4 j (by omega) q
    have z2 := z.2
    rcases hw with rfl | rfl <;> omega
