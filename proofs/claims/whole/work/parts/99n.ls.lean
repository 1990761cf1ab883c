/-! WALKS THAT LEAVE BY A TREE -/
def GdL (F T : Nat → Nat) (A goal tr fr : Nat) : Prop := ∃ ρ : Nat → Nat, ∀ q, q ≠ goal → (∃ k, k < A ∧ fr.testBit k = true ∧ F k = q) → ∃ k, k < A ∧ fr.testBit k = true ∧ tr.testBit k = true ∧ F k = q ∧ (∀ j, j < A → fr.testBit j = true → tr.testBit j = true → F j = q → j = k) ∧ (T k = goal ∨ ρ (T k) < ρ q)
theorem clr_iff {s k j : Nat} : (clrB s k).testBit j = true ↔ s.testBit j = true ∧ j ≠ k := by
  rw [clrB_bit, Bool.and_eq_true, decide_eq_true_eq]
/-- an arc is gone that decides nothing -/
theorem GdL.same {F T : Nat → Nat} {A goal tr fr k0 : Nat} (h : F k0 = goal ∨ (tr.testBit k0 = false ∧ ∃ j, j < A ∧ fr.testBit j = true ∧ F j = F k0 ∧ j ≠ k0)) : GdL F T A goal tr (clrB fr k0) ↔ GdL F T A goal tr fr := by
  have e1 : ∀ q, q ≠ goal → ((∃ k, k < A ∧ (clrB fr k0).testBit k = true ∧ F k = q) ↔ ∃ k, k < A ∧ fr.testBit k = true ∧ F k = q) := fun q hq => by
    constructor
    · rintro ⟨k, a, b, c⟩
      exact ⟨k, a, (clr_iff.mp b).1, c⟩
    · rintro ⟨k, a, b, c⟩
      by_cases z : k = k0
      · rcases h with h | ⟨h, j, j1, j2, j3, j4⟩
        · rw [← c, z] at hq; exact absurd h hq
        · exact ⟨j, j1, clr_iff.mpr ⟨j2, j4⟩, by rw [j3, ← z]; exact c⟩
      · exact ⟨k, a, clr_iff.mpr ⟨b, z⟩, c⟩
  have e2 : ∀ k, F k ≠ goal → tr.testBit k = true → k ≠ k0 := fun k a b z => by
    rcases h with h | ⟨h, -⟩
    · rw [z] at a; exact a h
    · rw [z, h] at b; exact absurd b (by decide)
  constructor
  · rintro ⟨ρ, hρ⟩
    refine ⟨ρ, fun q hq hx => ?_⟩
    obtain ⟨k, a, b, c, d, e, f⟩ := hρ q hq ((e1 q hq).mpr hx)
    exact ⟨k, a, (clr_iff.mp b).1, c, d, fun j j1 j2 j3 j4 => e j j1 (clr_iff.mpr ⟨j2, e2 j (by rw [j4]; exact hq) j3⟩) j3 j4, f⟩
  · rintro ⟨ρ, hρ⟩
    refine ⟨ρ, fun q hq hx => ?_⟩
    obtain ⟨k, a, b, c, d, e, f⟩ := hρ q hq ((e1 q hq).mp hx)
    exact ⟨k, a, clr_iff.mpr ⟨b, e2 k (by rw [d]; exact hq) c⟩, c, d, fun j j1 j2 j3 j4 => e j j1 (clr_iff.mp j2).1 j3 j4, f⟩
/-- the last arc out of a point is gone, into which nothing leads -/
theorem GdL.last {F T : Nat → Nat} {A goal tr fr k0 : Nat} (h0 : k0 < A) (hf : fr.testBit k0 = true) (ht : tr.testBit k0 = true) (h1 : ∀ j, j < A → fr.testBit j = true → F j = F k0 → j = k0) (h2 : ∀ j, j < A → fr.testBit j = true → T j ≠ F k0) : GdL F T A goal tr (clrB fr k0) ↔ GdL F T A goal tr fr := by
  constructor
  · rintro ⟨ρ, hρ⟩
    refine ⟨fun q => if q = F k0 then ρ (T k0) + 1 else ρ q, fun q hq hx => ?_⟩
    by_cases z : q = F k0
    · refine ⟨k0, h0, hf, ht, z.symm, fun j j1 j2 j3 j4 => h1 j j1 j2 (j4.trans z), Or.inr ?_⟩
      simp only [if_neg (h2 k0 h0 hf), if_pos z]
      omega
    · obtain ⟨k, a, b, c⟩ := hx
      obtain ⟨k, a, b, c, d, e, f⟩ := hρ q hq ⟨k, a, clr_iff.mpr ⟨b, fun y => z (by rw [← c, y])⟩, c⟩
      have hb := clr_iff.mp b
      refine ⟨k, a, hb.1, c, d, fun j j1 j2 j3 j4 => e j j1 (clr_iff.mpr ⟨j2, fun y => z (by rw [← j4, y])⟩) j3 j4, ?_⟩
      simp only [if_neg (h2 k a hb.1), if_neg z]
      exact f
  · rintro ⟨ρ, hρ⟩
    refine ⟨ρ, fun q hq hx => ?_⟩
    obtain ⟨k, a, b, c⟩ := hx
    have hb := clr_iff.mp b
    have z : q ≠ F k0 := fun z => hb.2 (h1 k a hb.1 (c.trans z))
    obtain ⟨k, a, b, c, d, e, f⟩ := hρ q hq ⟨k, a, hb.1, c⟩
    exact ⟨k, a, clr_iff.mpr ⟨b, fun y => z (by rw [← d, y])⟩, c, d, fun j j1 j2 j3 j4 => e j j1 (clr_iff.mp j2).1 j3 j4, f⟩
theorem ldO_sm {S : Nat → Bool} {F : Nat → Nat} {p : Nat} : ∀ n, ldO S F p n = smN (fun k => if S k = true ∧ F k = p then 1 else 0) n
  | 0 => rfl
  | n + 1 => by rw [ldO, smN, ldO_sm n]
theorem lst_iff {F : Nat → Nat} {s k : Nat} : ∀ n, lstB F s k n = true ↔ ∀ i, i < n → i ≠ k → F i = F k → s.testBit i = true
  | 0 => by simp [lstB]
  | n + 1 => by
    rw [lstB, Bool.and_eq_true, lst_iff n]
    constructor
    · rintro ⟨a, b⟩ i h1 h2 h3
      by_cases e : i = n
      · rw [e] at h2 h3 ⊢
        rw [decide_eq_true (And.intro h2 h3)] at b
        simpa using b
      · exact a i (by omega) h2 h3
    · intro h
      refine ⟨fun i h1 => h i (by omega), ?_⟩
      by_cases e : n ≠ k ∧ F n = F k
      · rw [decide_eq_true e, h n (by omega) e.1 e.2]; rfl
      · rw [decide_eq_false e]; rfl
theorem sm_ex {X : Nat → Prop} [DecidablePred X] : ∀ {n : Nat}, 0 < smN (fun k => if X k then (1 : Int) else 0) n → ∃ k, k < n ∧ X k
  | 0, h => by simp [smN] at h
  | n + 1, h => by
    simp only [smN] at h
    by_cases c : X n
    · exact ⟨n, by omega, c⟩
    · rw [if_neg c] at h
      obtain ⟨k, a, b⟩ := sm_ex (X := X) (n := n) (by omega)
      exact ⟨k, by omega, b⟩
theorem sm_no {X : Nat → Prop} [DecidablePred X] {n : Nat} (h : smN (fun k => if X k then (1 : Int) else 0) n ≤ 0) (k : Nat) (hk : k < n) : ¬ X k := fun z => by
  have := (smN_nn (f := fun k => if X k then (1 : Int) else 0) (n := n) (fun j _ => by show 0 ≤ ite _ _ _; split <;> omega)).2 k hk
  simp only [if_pos z] at this
  omega
theorem sm_un {X : Nat → Prop} [DecidablePred X] {n : Nat} (h : smN (fun k => if X k then (1 : Int) else 0) n ≤ 1) (i j : Nat) (hi : i < n) (hj : j < n) (xi : X i) (xj : X j) : i = j := by
  have nn : ∀ j, j < n → 0 ≤ (fun k => if X k then (1 : Int) else 0) j := fun j _ => by show 0 ≤ ite _ _ _; split <;> omega
  rcases Nat.lt_trichotomy i j with q | q | q
  · have := smN_two nn i j q hj
    simp only [if_pos xi, if_pos xj] at this
    omega
  · exact q
  · have := smN_two nn j i q hi
    simp only [if_pos xi, if_pos xj] at this
    omega
theorem or_none {goal : Nat} {O : Nat → Int} (h : ∀ q, O q = 0) : ∀ m, orN goal O m = 1
  | 0 => by rw [orN, h]; rfl
  | m + 1 => by rw [orN, if_neg (by rw [h]; omega)]; exact or_none h m
theorem fr_full {A t : Nat} (ht : t < 2 ^ A) (h : pcN A t = A) : frN A t = 0 := by
  unfold frN; rw [pc_full ht h, Nat.xor_self]
theorem fr_some {A t : Nat} (ht : t < 2 ^ A) (h : pcN A t ≠ A) : ∃ k, k < A ∧ (frN A t).testBit k = true := by
  apply Classical.byContradiction
  intro hz
  have : t = 2 ^ A - 1 := by
    apply Nat.eq_of_testBit_eq
    intro i
    rw [Nat.testBit_two_pow_sub_one]
    by_cases c : i < A
    · rw [decide_eq_true c]
      apply Classical.byContradiction
      intro z
      refine hz ⟨i, c, ?_⟩
      rw [fr_bit ht, decide_eq_true c, Bool.eq_false_iff.mpr z]; rfl
    · rw [decide_eq_false c]
      exact Nat.testBit_lt_two_pow (Nat.lt_of_lt_of_le ht (Nat.pow_le_pow_right (by decide) (by omega)))
  rw [this, pc_all] at h
  exact h rfl
theorem mg_ls {F T : Nat → Nat} {A e tr t k : Nat} : mgN 1 F T A e tr t k = true ↔ t.testBit k = false ∧ (F k = e ∨ lstB F t k A = tr.testBit k) := by
  unfold mgN
  cases t.testBit k with
  | true => simp
  | false =>
    simp only [Bool.false_eq_true, ↓reduceIte, true_and]
    by_cases c : F k = e
    · simp [c]
    · simp [c]
theorem sm_const {X : Nat → Prop} [DecidablePred X] {g : Nat → Int} {V : Int} : ∀ {n : Nat}, (∀ k, k < n → X k → g k = V) → smN (fun k => if X k then g k else 0) n = smN (fun k => if X k then (1 : Int) else 0) n * V
  | 0, _ => by simp [smN]
  | n + 1, h => by
    have ih := sm_const (X := X) (g := g) (V := V) (n := n) (fun k hk => h k (by omega))
    simp only [smN]
    rw [ih]
    by_cases c : X n
    · rw [if_pos c, if_pos c, h n (by omega) c]; grind
    · rw [if_neg c, if_neg c]; grind
theorem et_ls {F T : Nat → Nat} {A b goal tr : Nat} (h : StG F T A b goal) : ∀ (n t p : Nat), t < 2 ^ A → pcN A t + n = A → whI F T A b t = (p : Int) →
    (GdL F T A goal tr (frN A t) → etT F T A (mgN 1 F T A goal tr) n p t = orN goal (wkO F A (frN A t)) 8) ∧ (¬ GdL F T A goal tr (frN A t) → etT F T A (mgN 1 F T A goal tr) n p t = 0)
  | 0, t, p, ht, hn, hw => by
    have e0 := fr_full ht (by omega)
    rw [e0, etT]
    have z1 : ∀ q, wkO F A 0 q = 0 := fun q => by
      unfold wkO
      rw [ldO_sm, smN_congr (g := fun _ => 0) (fun k _ => if_neg (by simp)), smN_zero]
    refine ⟨fun _ => (or_none z1 8).symm, fun hn => absurd ⟨fun _ => 0, fun q _ hx => ?_⟩ hn⟩
    obtain ⟨k, a, b, c⟩ := hx
    simp at b
  | n + 1, t, p, ht, hn, hw => by
    obtain ⟨h1, h2, h3, h4, h5⟩ := id h
    have hbal := h.bal ht hw
    obtain ⟨w1, w2⟩ := whI_iff.mp hw
    have hfb : ∀ k, k < A → ((frN A t).testBit k = true ↔ t.testBit k = false) := fun k hk => by
      rw [fr_bit ht, decide_eq_true hk, Bool.true_and]
      cases t.testBit k <;> simp
    have ih : ∀ k, k < A → (frN A t).testBit k = true → F k = p → (GdL F T A goal tr (clrB (frN A t) k) → etT F T A (mgN 1 F T A goal tr) n (T k) (t ||| 2 ^ k) = orN goal (deO (wkO F A (frN A t)) p) 8) ∧ (¬ GdL F T A goal tr (clrB (frN A t) k) → etT F T A (mgN 1 F T A goal tr) n (T k) (t ||| 2 ^ k) = 0) := fun k hk hb hp => by
      have hbt := (hfb k hk).mp hb
      have hw2 := wh_step (F := F) (T := T) (A := A) (b := b) (s := t) (k := k) (by rw [hw, hp]) hk hbt (h4 k hk).2
      have := et_ls (tr := tr) h n (t ||| 2 ^ k) (T k) (set_lt ht hk) (by rw [pc_set hk hbt]; omega) hw2
      rw [fr_set ht hk, (wk_clr (F := F) (T := T) hb hk).2, hp] at this
      exact this
    have hO : ∀ q, wkO F A (frN A t) q = smN (fun k => if (frN A t).testBit k = true ∧ F k = q then 1 else 0) A := fun q => ldO_sm A
    have hI : ∀ q, inW (wkW F T A (frN A t)) q = smN (fun k => if (frN A t).testBit k = true ∧ T k = q then 1 else 0) A := fun q => in_sum (fun j hj => (h4 j hj).1)
    have hO16 : ∀ q, 0 ≤ wkO F A (frN A t) q ∧ wkO F A (frN A t) q ≤ 16 := fun q => by
      have := ldO_b (S := fun j => (frN A t).testBit j) (F := F) (p := q) (n := A)
      unfold wkO
      omega
    obtain ⟨fr, hfr⟩ : ∃ fr, fr = frN A t := ⟨_, rfl⟩
    rw [← hfr] at hbal hfb ih hO hI hO16 ⊢
    obtain ⟨O, hOd⟩ : ∃ O, O = wkO F A fr := ⟨_, rfl⟩
    rw [← hOd] at hbal ih hO hO16 ⊢
    have hne : ∃ k, k < A ∧ fr.testBit k = true := by rw [hfr]; exact fr_some ht (by omega)
    rw [etT]
    by_cases cg : p = goal
    · -- at the goal
      have e1 : smN (fun k => if F k = p ∧ mgN 1 F T A goal tr t k = true then etT F T A (mgN 1 F T A goal tr) n (T k) (t ||| 2 ^ k) else 0) A = smN (fun k => if fr.testBit k = true ∧ F k = p then etT F T A (mgN 1 F T A goal tr) n (T k) (t ||| 2 ^ k) else 0) A := smN_congr (fun k hk => by
        by_cases c : fr.testBit k = true ∧ F k = p
        · rw [if_pos c, if_pos ⟨c.2, mg_ls.mpr ⟨(hfb k hk).mp c.1, Or.inl (c.2.trans cg)⟩⟩]
        · rw [if_neg c, if_neg (fun z => c ⟨(hfb k hk).mpr (mg_ls.mp z.2).1, z.1⟩)])
      have same : ∀ k, k < A → fr.testBit k = true ∧ F k = p → (GdL F T A goal tr (clrB fr k) ↔ GdL F T A goal tr fr) := fun k _ c => GdL.same (Or.inl (c.2.trans cg))
      rw [e1]
      constructor
      · intro hg
        rw [sm_const (V := orN goal (deO O p) 8) (fun k hk c => (ih k hk c.1 c.2).1 ((same k hk c).mpr hg)), ← hO p]
        have hpos : 0 < O goal := by
          apply Classical.byContradiction
          intro hz
          have hz0 : O goal = 0 := by have := (hO16 goal).1; omega
          have hin : inW (wkW F T A fr) goal = 0 := by
            have := hbal goal h3
            rw [if_pos cg.symm, if_pos rfl] at this
            omega
          rw [hI goal] at hin
          have noin := sm_no (Int.le_of_eq hin)
          rw [hO goal] at hz0
          have noout := sm_no (Int.le_of_eq hz0)
          obtain ⟨ρ, hρ⟩ := hg
          have fall : ∀ m q, ρ q = m → q ≠ goal → (∃ k, k < A ∧ fr.testBit k = true ∧ F k = q) → False := by
            intro m
            induction m using Nat.strongRecOn with
            | ind m ihm =>
              intro q hq hqg hx
              obtain ⟨k, a, b, c, d, e, f⟩ := hρ q hqg hx
              have hT8 := (h4 k a).2
              have hTg : T k ≠ goal := fun z => noin k a ⟨b, z⟩
              rcases f with f | f
              · exact hTg f
              · refine ihm _ (by omega) (T k) rfl hTg ?_
                have hb2 := hbal (T k) hT8
                rw [if_neg hTg, hI (T k), hO (T k)] at hb2
                have h6 : 0 < smN (fun i => if fr.testBit i = true ∧ T i = T k then (1 : Int) else 0) A := by
                  apply Classical.byContradiction
                  intro hz
                  exact sm_no (X := fun i => fr.testBit i = true ∧ T i = T k) (by omega) k a ⟨b, rfl⟩
                have h7 : 0 < smN (fun i => if fr.testBit i = true ∧ F i = T k then (1 : Int) else 0) A := by
                  have : (0 : Int) ≤ (if T k = p then 1 else 0) := by split <;> omega
                  omega
                obtain ⟨i, i1, i2⟩ := sm_ex h7
                exact ⟨i, i1, i2.1, i2.2⟩
          obtain ⟨k, a, b⟩ := hne
          exact fall _ (F k) rfl (fun z => noout k a ⟨b, z⟩) ⟨k, a, b, rfl⟩
        have h16 := (hO16 goal).2
        rw [orN_goal (O := O) (O' := deO O p) (by rw [deO_at, if_pos cg.symm, cg]) (fun q hq => by rw [deO_at, if_neg (by rw [cg]; exact hq)]) hpos h16 8, cg]
        grind
      · intro hg
        rw [sm_const (V := 0) (fun k hk c => (ih k hk c.1 c.2).2 (fun z => hg ((same k hk c).mp z))), Int.mul_zero]
    · -- elsewhere
      have hbp := hbal p w1
      rw [if_pos rfl, if_neg cg] at hbp
      have hin0 : 0 ≤ inW (wkW F T A fr) p := by
        rw [hI p]
        exact (smN_nn (fun j _ => by show 0 ≤ ite _ _ _; split <;> omega)).1
      have hgoalk : ∀ k, F k = p → F k ≠ goal := fun k z y => cg (z.symm.trans y)
      by_cases c1 : O p = 1
      · -- its last arc
        have hin : inW (wkW F T A fr) p = 0 := by omega
        rw [hI p] at hin
        have noin := sm_no (Int.le_of_eq hin)
        have ho1 := hO p
        rw [c1] at ho1
        obtain ⟨k0, k1, k2⟩ := sm_ex (n := A) (X := fun k => fr.testBit k = true ∧ F k = p) (by omega)
        have un : ∀ j, j < A → fr.testBit j = true ∧ F j = p → j = k0 := fun j a b => sm_un (X := fun k => fr.testBit k = true ∧ F k = p) (by omega) j k0 a k1 b k2
        have hl : lstB F t k0 A = true := (lst_iff A).mpr (fun i i1 i2 i3 => by
          cases hb : t.testBit i with
          | true => rfl
          | false => exact absurd (un i i1 ⟨(hfb i i1).mpr hb, i3.trans k2.2⟩) i2)
        have e1 : smN (fun k => if F k = p ∧ mgN 1 F T A goal tr t k = true then etT F T A (mgN 1 F T A goal tr) n (T k) (t ||| 2 ^ k) else 0) A = if tr.testBit k0 = true then etT F T A (mgN 1 F T A goal tr) n (T k0) (t ||| 2 ^ k0) else 0 := by
          have := smN_mulr (fun q => if q = k0 then (1 : Int) else 0) (if tr.testBit k0 = true then etT F T A (mgN 1 F T A goal tr) n (T k0) (t ||| 2 ^ k0) else 0) A
          rw [smN_one, if_pos k1, Int.one_mul] at this
          rw [← this]
          refine smN_congr (fun k hk => ?_)
          by_cases z : k = k0
          · rw [if_pos z, Int.one_mul, z]
            by_cases zt : tr.testBit k0 = true
            · rw [if_pos zt, if_pos ⟨k2.2, mg_ls.mpr ⟨(hfb k0 k1).mp k2.1, Or.inr (by rw [hl, zt])⟩⟩]
            · rw [if_neg zt, if_neg (fun y => by
                rcases (mg_ls.mp y.2).2 with x | x
                · exact hgoalk k0 k2.2 x
                · rw [hl] at x; exact zt x.symm)]
          · rw [if_neg z, Int.zero_mul, if_neg (fun y => z (un k hk ⟨(hfb k hk).mpr (mg_ls.mp y.2).1, y.1⟩))]
        rw [e1]
        have hor := orN_de (goal := goal) (here := p) (O := O) (O' := deO O p) cg (by rw [deO_at, if_pos rfl]) (fun q hq => by rw [deO_at, if_neg hq]) (by omega) (by omega) (7 - p)
        rw [show p + 1 + (7 - p) = 8 by omega, if_pos c1, Int.mul_one] at hor
        by_cases zt : tr.testBit k0 = true
        · rw [if_pos zt, hor]
          have same : GdL F T A goal tr (clrB fr k0) ↔ GdL F T A goal tr fr := GdL.last k1 k2.1 zt (fun j a b c => un j a ⟨b, c.trans k2.2⟩) (fun j a b c => noin j a ⟨b, c.trans k2.2⟩)
          exact ⟨fun hg => (ih k0 k1 k2.1 k2.2).1 (same.mpr hg), fun hg => (ih k0 k1 k2.1 k2.2).2 (fun z => hg (same.mp z))⟩
        · rw [if_neg zt]
          refine ⟨fun hg => ?_, fun _ => rfl⟩
          exfalso
          obtain ⟨ρ, hρ⟩ := hg
          obtain ⟨k, a, b, c, d, -⟩ := hρ p cg ⟨k0, k1, k2.1, k2.2⟩
          rw [un k a ⟨b, d⟩] at c
          exact zt c
      · -- more than one
        have c2 : 2 ≤ O p := by omega
        have other : ∀ k, ∃ j, j < A ∧ fr.testBit j = true ∧ F j = p ∧ j ≠ k := fun k => by
          apply Classical.byContradiction
          intro hz
          have : smN (fun j => if fr.testBit j = true ∧ F j = p then (1 : Int) else 0) A ≤ smN (fun j => if j = k then 1 else 0) A := smN_le (fun j hj => by
            by_cases c : fr.testBit j = true ∧ F j = p
            · have : j = k := Classical.byContradiction (fun y => hz ⟨j, hj, c.1, c.2, y⟩)
              rw [if_pos c, if_pos this]
              exact Int.le_refl _
            · rw [if_neg c]; split <;> omega)
          rw [smN_one, ← hO p] at this
          split at this <;> omega
        have hl : ∀ k, k < A → F k = p → lstB F t k A = false := fun k hk hp => by
          cases hb : lstB F t k A with
          | false => rfl
          | true =>
            obtain ⟨j, j1, j2, j3, j4⟩ := other k
            have := (lst_iff A).mp hb j j1 j4 (j3.trans hp.symm)
            rw [(hfb j j1).mp j2] at this
            exact absurd this (by decide)
        have e1 : smN (fun k => if F k = p ∧ mgN 1 F T A goal tr t k = true then etT F T A (mgN 1 F T A goal tr) n (T k) (t ||| 2 ^ k) else 0) A = smN (fun k => if (fr.testBit k = true ∧ F k = p) ∧ tr.testBit k = false then etT F T A (mgN 1 F T A goal tr) n (T k) (t ||| 2 ^ k) else 0) A := smN_congr (fun k hk => by
          by_cases c : (fr.testBit k = true ∧ F k = p) ∧ tr.testBit k = false
          · rw [if_pos c, if_pos ⟨c.1.2, mg_ls.mpr ⟨(hfb k hk).mp c.1.1, Or.inr (by rw [hl k hk c.1.2, c.2])⟩⟩]
          · rw [if_neg c, if_neg (fun z => by
              obtain ⟨m1, m2⟩ := mg_ls.mp z.2
              rcases m2 with m2 | m2
              · exact hgoalk k z.1 m2
              · rw [hl k hk z.1] at m2
                exact c ⟨⟨(hfb k hk).mpr m1, z.1⟩, m2.symm⟩)])
        have same : ∀ k, k < A → (fr.testBit k = true ∧ F k = p) ∧ tr.testBit k = false → (GdL F T A goal tr (clrB fr k) ↔ GdL F T A goal tr fr) := fun k _ c => by
          obtain ⟨j, j1, j2, j3, j4⟩ := other k
          exact GdL.same (Or.inr ⟨c.2, j, j1, j2, by rw [j3, c.1.2], j4⟩)
        rw [e1]
        constructor
        · intro hg
          rw [sm_const (V := orN goal (deO O p) 8) (fun k hk c => (ih k hk c.1.1 c.1.2).1 ((same k hk c).mpr hg))]
          have hor := orN_de (goal := goal) (here := p) (O := O) (O' := deO O p) cg (by rw [deO_at, if_pos rfl]) (fun q hq => by rw [deO_at, if_neg hq]) (by omega) (hO16 p).2 (7 - p)
          rw [show p + 1 + (7 - p) = 8 by omega, if_neg c1] at hor
          rw [hor]
          obtain ⟨ρ, hρ⟩ := id hg
          obtain ⟨j, j1, j2, j3, j4⟩ := other 99
          obtain ⟨k, a, b, c, d, e, f⟩ := hρ p cg ⟨j, j1, j2, j3⟩
          have hcount : smN (fun k => if (fr.testBit k = true ∧ F k = p) ∧ tr.testBit k = false then (1 : Int) else 0) A = O p - 1 := by
            have h8 := smN_one (k := k) A
            rw [if_pos a] at h8
            have h9 : smN (fun i => (if (fr.testBit i = true ∧ F i = p) ∧ tr.testBit i = false then (1 : Int) else 0) + (if i = k then 1 else 0)) A = smN (fun i => if fr.testBit i = true ∧ F i = p then 1 else 0) A := smN_congr (fun i hi => by
              by_cases ci : fr.testBit i = true ∧ F i = p
              · rw [if_pos ci]
                cases hti : tr.testBit i with
                | true => rw [if_neg (fun z => absurd z.2 (by decide)), if_pos (e i hi ci.1 hti ci.2)]; rfl
                | false =>
                  rw [if_pos ⟨ci, rfl⟩, if_neg (fun z => by rw [z, c] at hti; exact absurd hti (by decide))]; rfl
              · rw [if_neg ci, if_neg (fun z => ci z.1), if_neg (fun z => ci (by rw [z]; exact ⟨b, d⟩))]; rfl)
            rw [smN_add, h8, ← hO p] at h9
            omega
          rw [hcount]
          grind
        · intro hg
          rw [sm_const (V := 0) (fun k hk c => (ih k hk c.1.1 c.1.2).2 (fun z => hg ((same k hk c).mp z))), Int.mul_zero]
theorem tl_some {F : Nat → Nat} {A goal : Nat} {S : Nat → Bool} : ∀ {r k : Nat} {la la' : Nat → Int}, tlN F A goal S r k la = some la' → (∀ j, k ≤ j → j < k + r → S j = true → j < A ∧ F j ≠ goal ∧ la' (F j) = (j : Int)) ∧ (∀ q, la' q = la q ∨ ∃ j, k ≤ j ∧ j < k + r ∧ S j = true ∧ F j = q ∧ la' q = (j : Int)) ∧ (∀ q, la q ≠ -1 → la' q = la q)
  | 0, k, la, la', h => by
    simp only [tlN, Option.some.injEq] at h
    rw [h]
    exact ⟨fun j a b => by omega, fun q => Or.inl rfl, fun q _ => rfl⟩
  | r + 1, k, la, la', h => by
    rw [tlN] at h
    split at h
    · next c =>
      obtain ⟨a, b, d⟩ := tl_some h
      refine ⟨fun j x y s => ?_, fun q => ?_, d⟩
      · by_cases e : j = k
        · rw [e, c] at s; exact absurd s (by decide)
        · exact a j (by omega) (by omega) s
      · rcases b q with b | ⟨j, x, y, s⟩
        · exact Or.inl b
        · exact Or.inr ⟨j, by omega, by omega, s⟩
    · next c =>
      split at h
      · next c2 =>
        obtain ⟨a, b, d⟩ := tl_some h
        have hk : la' (F k) = (k : Int) := by
          rw [d (F k) (by unfold upI; rw [if_pos rfl]; omega)]
          unfold upI; rw [if_pos rfl]
        refine ⟨fun j x y s => ?_, fun q => ?_, fun q hq => ?_⟩
        · by_cases e : j = k
          · rw [e]; exact ⟨c2.1, c2.2.1, hk⟩
          · exact a j (by omega) (by omega) s
        · rcases b q with b | ⟨j, x, y, s⟩
          · by_cases e : q = F k
            · right
              have hs : S k = true := by
                cases hb : S k with
                | true => rfl
                | false => exact absurd hb c
              exact ⟨k, by omega, by omega, hs, e.symm, by rw [e]; exact hk⟩
            · left
              rw [b]; unfold upI; rw [if_neg e]
          · exact Or.inr ⟨j, by omega, by omega, s⟩
        · have hqk : q ≠ F k := fun z => hq (by rw [z]; exact c2.2.2)
          rw [d q (by unfold upI; rw [if_neg hqk]; exact hq)]
          unfold upI; rw [if_neg hqk]
      · simp at h
theorem tl_none {F : Nat → Nat} {A goal : Nat} {S : Nat → Bool} : ∀ {r k : Nat} {la : Nat → Int}, tlN F A goal S r k la = none → ∃ j, k ≤ j ∧ j < k + r ∧ S j = true ∧ (¬ j < A ∨ F j = goal ∨ la (F j) ≠ -1 ∨ ∃ i, k ≤ i ∧ i < j ∧ S i = true ∧ F i = F j)
  | 0, k, la, h => by simp [tlN] at h
  | r + 1, k, la, h => by
    rw [tlN] at h
    split at h
    · next c =>
      obtain ⟨j, a, b, s, e⟩ := tl_none h
      refine ⟨j, by omega, by omega, s, ?_⟩
      rcases e with e | e | e | ⟨i, x, y, w⟩
      · exact Or.inl e
      · exact Or.inr (Or.inl e)
      · exact Or.inr (Or.inr (Or.inl e))
      · exact Or.inr (Or.inr (Or.inr ⟨i, by omega, y, w⟩))
    · next c =>
      have hs : S k = true := by
        cases hb : S k with
        | true => rfl
        | false => exact absurd hb c
      split at h
      · next c2 =>
        obtain ⟨j, a, b, s, e⟩ := tl_none h
        refine ⟨j, by omega, by omega, s, ?_⟩
        rcases e with e | e | e | ⟨i, x, y, w⟩
        · exact Or.inl e
        · exact Or.inr (Or.inl e)
        · by_cases z : F j = F k
          · exact Or.inr (Or.inr (Or.inr ⟨k, by omega, by omega, hs, z.symm⟩))
          · unfold upI at e
            rw [if_neg z] at e
            exact Or.inr (Or.inr (Or.inl e))
        · exact Or.inr (Or.inr (Or.inr ⟨i, by omega, y, w⟩))
      · next c2 =>
        refine ⟨k, by omega, by omega, hs, ?_⟩
        by_cases d1 : k < A
        · by_cases d2 : F k = goal
          · exact Or.inr (Or.inl d2)
          · by_cases d3 : la (F k) = -1
            · exact absurd ⟨d1, d2, d3⟩ c2
            · exact Or.inr (Or.inr (Or.inl d3))
        · exact Or.inl d1
theorem cm_iff {T : Nat → Nat} {la : Nat → Int} {goal used : Nat} : ∀ {r p : Nat}, cmP T la goal used r p = true ↔ ∀ q, p ≤ q → q < p + r → used.testBit q = true → cmN T la goal 8 q = true
  | 0, p => by
    simp only [cmP, true_iff]
    intro q a b; omega
  | r + 1, p => by
    rw [cmP]
    split
    · next c =>
      simp only [Bool.false_eq_true, false_iff]
      intro h
      have := h p (by omega) (by omega) c.1
      rw [c.2] at this
      exact absurd this (by decide)
    · next c =>
      rw [cm_iff]
      constructor
      · intro h q a b u
        by_cases e : q = p
        · rw [e] at u ⊢
          cases hb : cmN T la goal 8 p with
          | true => rfl
          | false => exact absurd ⟨u, hb⟩ c
        · exact h q (by omega) (by omega) u
      · intro h q a b u
        exact h q (by omega) (by omega) u
/-- ranks need not pass seven -/
def rkC (ρ : Nat → Nat) (q : Nat) : Nat := (List.range 8).countP (fun x => decide (ρ x < ρ q))
theorem rkC_lt {ρ : Nat → Nat} {x q : Nat} (hx : x < 8) (h : ρ x < ρ q) : rkC ρ x < rkC ρ q := by
  unfold rkC
  rw [cnt_add (X := fun y => decide (ρ y < ρ q)) (Y := fun y => decide (ρ y < ρ x)) (Z := fun y => decide (ρ x ≤ ρ y ∧ ρ y < ρ q)) (List.range 8) (fun y _ => by
    simp only [decide_eq_true_eq]
    omega)]
  have : 0 < (List.range 8).countP (fun y => decide (ρ x ≤ ρ y ∧ ρ y < ρ q)) := List.countP_pos_iff.mpr ⟨x, List.mem_range.mpr hx, by simp only [decide_eq_true_eq]; omega⟩
  omega
theorem rkC_8 {ρ : Nat → Nat} {q : Nat} (hq : q < 8) : rkC ρ q < 8 := by
  unfold rkC
  have hle := List.countP_le_length (p := fun x => decide (ρ x < ρ q)) (l := List.range 8)
  rw [List.length_range] at hle
  rcases Nat.lt_or_ge ((List.range 8).countP (fun x => decide (ρ x < ρ q))) 8 with c | c
  · exact c
  · have := List.countP_eq_length.mp (show (List.range 8).countP (fun x => decide (ρ x < ρ q)) = (List.range 8).length by rw [List.length_range]; omega) q (List.mem_range.mpr hq)
    simp at this
theorem cnt_pos {F : Nat → Nat} {q : Nat} : ∀ {n : Nat}, 0 < cntN F q n ↔ ∃ k, k < n ∧ F k = q
  | 0 => by simp [cntN]
  | n + 1 => by
    rw [cntN]
    constructor
    · intro h
      by_cases c : F n = q
      · exact ⟨n, by omega, c⟩
      · rw [if_neg c] at h
        obtain ⟨k, a, b⟩ := cnt_pos.mp h
        exact ⟨k, by omega, b⟩
    · rintro ⟨k, a, b⟩
      by_cases c : k = n
      · rw [if_pos (by rw [← c]; exact b)]; omega
      · have := (cnt_pos (F := F) (q := q) (n := n)).mpr ⟨k, by omega, b⟩
        omega
theorem tk_gd {F T : Nat → Nat} {P A b goal tr fr : Nat} {S : Nat → Bool} (h : StG F T A b goal) (hPT : ∀ j, j < A → F j < P ∧ T j < P) (hS : ∀ j, j < 32 → S j = tr.testBit j) (htr : tr < 2 ^ A) (hng : ∀ k, k < A → tr.testBit k = true → F k ≠ goal) (hfr : ∀ k, k < A → F k ≠ goal → fr.testBit k = true) :
    (∀ la, tkL P A F T goal S = some la → GdL F T A goal tr fr ∧ (∀ k, k < A → tr.testBit k = true → la (F k) = (k : Int)) ∧ ∀ q, la q = -1 ∨ ∃ k, k < A ∧ tr.testBit k = true ∧ F k = q ∧ la q = (k : Int)) ∧ (tkL P A F T goal S = none → ¬ GdL F T A goal tr fr) := by
  obtain ⟨h1, h2, h3, h4, h5⟩ := h
  have hA : ∀ k, tr.testBit k = true → k < A := fun k hk => by
    rcases Nat.lt_or_ge k A with c | c
    · exact c
    · rw [Nat.testBit_lt_two_pow (Nat.lt_of_lt_of_le htr (Nat.pow_le_pow_right (by decide) c))] at hk
      exact absurd hk (by decide)
  have hout : ∀ q, q ≠ goal → (usedN F T A).testBit q = true → ∃ k, k < A ∧ F k = q := fun q hq hu => by
    obtain ⟨j, a, c⟩ := used_bit.mp hu
    rcases c with c | c
    · exact ⟨j, a, c.symm⟩
    · have q8 : q < 8 := by rw [c]; exact (h4 j a).2
      have hx := h5 q q8
      rw [if_neg hq] at hx
      have hc : 0 < cntN T q A := cnt_pos.mpr ⟨j, a, c.symm⟩
      unfold xsI at hx
      have : 0 < cntN F q A := by
        have : (0 : Int) ≤ (if q = b then 1 else 0) := by split <;> omega
        omega
      exact cnt_pos.mp this
  unfold tkL
  cases ht : tlN F A goal S 32 0 (fun _ => -1) with
  | none =>
    refine ⟨fun la hl => by simp at hl, fun _ hg => ?_⟩
    obtain ⟨ρ, hρ⟩ := hg
    obtain ⟨j, a, c, s, e⟩ := tl_none ht
    rw [hS j (by omega)] at s
    have hj := hA j s
    have hjg := hng j hj s
    rcases e with e | e | e | ⟨i, i1, i2, i3, i4⟩
    · exact e hj
    · exact hjg e
    · exact e rfl
    · rw [hS i (by omega)] at i3
      obtain ⟨k, k1, k2, k3, k4, k5, -⟩ := hρ (F j) hjg ⟨j, hj, hfr j hj hjg, rfl⟩
      have e1 := k5 j hj (hfr j hj hjg) s rfl
      have e2 := k5 i (hA i i3) (hfr i (hA i i3) (by rw [i4]; exact hjg)) i3 i4
      omega
  | some la =>
    obtain ⟨t1, t2, -⟩ := tl_some ht
    have la1 : ∀ k, k < A → tr.testBit k = true → la (F k) = (k : Int) := fun k hk hb => (t1 k (by omega) (by omega) (by rw [hS k (by omega)]; exact hb)).2.2
    have la2 : ∀ q, la q = -1 ∨ ∃ k, k < A ∧ tr.testBit k = true ∧ F k = q ∧ la q = (k : Int) := fun q => by
      rcases t2 q with x | ⟨j, a, c, s, e, w⟩
      · exact Or.inl x
      · rw [hS j (by omega)] at s
        exact Or.inr ⟨j, hA j s, s, e, w⟩
    simp only
    by_cases c : cmP T la goal (usedN F T A) P 0 = true
    · rw [if_pos c]
      refine ⟨fun la' hl => ?_, fun hl => by simp at hl⟩
      simp only [Option.some.injEq] at hl
      rw [← hl]
      refine ⟨?_, la1, la2⟩
      have hcm := cm_iff.mp c
      have hall : ∀ q, ∃ s, (∃ s', cmN T la goal s' q = true) → cmN T la goal s q = true ∧ ∀ m, m < s → ¬ cmN T la goal m q = true := fun q => by
        by_cases hx : ∃ s', cmN T la goal s' q = true
        · obtain ⟨s, x, y⟩ := least_ex hx
          exact ⟨s, fun _ => ⟨x, y⟩⟩
        · exact ⟨0, fun z => absurd z hx⟩
      refine ⟨fun q => Classical.choose (hall q), fun q hq hx => ?_⟩
      obtain ⟨k0, k1, k2, k3⟩ := hx
      have hu : (usedN F T A).testBit q = true := used_bit.mpr ⟨k0, k1, Or.inl k3.symm⟩
      have hq8 := hcm q (by omega) (by have := (hPT k0 k1).1; omega) hu
      obtain ⟨s1, s2⟩ := Classical.choose_spec (hall q) ⟨8, hq8⟩
      have ex : ∃ k, k < A ∧ tr.testBit k = true ∧ F k = q ∧ la q = (k : Int) := by
        rcases la2 q with z | z
        · rw [cmN, if_neg hq, if_pos z] at hq8
          exact absurd hq8 (by decide)
        · exact z
      obtain ⟨k, x1, x2, x3, x4⟩ := ex
      refine ⟨k, x1, hfr k x1 (by rw [x3]; exact hq), x2, x3, fun j j1 _ j3 j4 => ?_, Or.inr ?_⟩
      · have := la1 j j1 j3
        rw [j4] at this
        omega
      · show Classical.choose (hall (T k)) < Classical.choose (hall q)
        have hs2 := Classical.choose_spec (hall (T k))
        generalize Classical.choose (hall q) = s at s1 s2 ⊢
        generalize Classical.choose (hall (T k)) = s' at hs2 ⊢
        cases s with
        | zero =>
          rw [cmN] at s1
          exact absurd (of_decide_eq_true s1) hq
        | succ s =>
          rw [cmN, if_neg hq, if_neg (by omega), x4, Int.toNat_natCast] at s1
          have := (hs2 ⟨s, s1⟩).2
          rcases Nat.lt_or_ge s s' with y | y
          · exact absurd s1 (this s y)
          · omega
    · rw [if_neg c]
      refine ⟨fun la' hl => by simp at hl, fun _ hg => c (cm_iff.mpr (fun q _ hqP hu => ?_))⟩
      obtain ⟨ρ, hρ⟩ := hg
      have main : ∀ s q, q < 8 → (usedN F T A).testBit q = true → rkC ρ q < s → cmN T la goal s q = true := by
        intro s
        induction s with
        | zero => intro q _ _ hr; omega
        | succ s ih =>
          intro q hq8 hu hr
          rw [cmN]
          by_cases hg : q = goal
          · rw [if_pos hg]
          · rw [if_neg hg]
            obtain ⟨k0, k1, k2⟩ := hout q hg hu
            obtain ⟨k, x1, x2, x3, x4, x5, x6⟩ := hρ q hg ⟨k0, k1, hfr k0 k1 (by rw [k2]; exact hg), k2⟩
            have hl := la1 k x1 x3
            rw [x4] at hl
            rw [if_neg (by omega), hl, Int.toNat_natCast]
            rcases x6 with x6 | x6
            · rw [x6]
              cases s with
              | zero => rw [cmN]; exact decide_eq_true rfl
              | succ s => rw [cmN, if_pos rfl]
            · have hT8 := (h4 k x1).2
              have := rkC_lt hT8 x6
              exact ih (T k) hT8 (used_bit.mpr ⟨k, x1, Or.inr rfl⟩) (by omega)
      have q8 : q < 8 := by
        obtain ⟨j, a, e⟩ := used_bit.mp hu
        have := h4 j a
        omega
      exact main 8 q q8 hu (rkC_8 q8)
theorem ldO_cnt {S : Nat → Bool} {F : Nat → Nat} {p : Nat} : ∀ {n : Nat}, (∀ k, k < n → F k = p → S k = true) → ldO S F p n = cntN F p n
  | 0, _ => rfl
  | n + 1, h => by
    rw [ldO, cntN, ldO_cnt (fun k a => h k (by omega))]
    by_cases c : F n = p
    · rw [if_pos ⟨h n (by omega) c, c⟩, if_pos c]; rfl
    · rw [if_neg (fun z => c z.2), if_neg c]; rfl
theorem lb_or {F : Nat → Nat} {A goal sh : Nat} {O : Nat → Int} (hg : O goal = if sh = 1 then (cntN F goal A : Int) - 1 else (cntN F goal A : Int)) (ho : ∀ q, q ≠ goal → O q = cntN F q A) : ∀ m, lbN F A goal sh m * (if goal < m then 1 else facI (O goal)) = orN goal O m
  | 0 => by rw [lbN, if_neg (by omega), orN, Int.one_mul]
  | m + 1 => by
    have ih := lb_or hg ho m
    rw [lbN, orN]
    by_cases c : m = goal
    · rw [if_neg (show ¬ goal < m by omega)] at ih
      rw [if_pos (show goal < m + 1 by omega), if_neg (show ¬ (m ≠ goal ∧ 0 < O m) from fun z => z.1 c), ← ih, Int.mul_one, hg]
      have e : (if m ≠ goal ∨ sh = 1 then (cntN F m A : Int) - 1 else (cntN F m A : Int)) = if sh = 1 then (cntN F goal A : Int) - 1 else (cntN F goal A : Int) := by
        rw [c]
        by_cases c2 : sh = 1
        · rw [if_pos (Or.inr c2), if_pos c2]
        · rw [if_neg (show ¬ (goal ≠ goal ∨ sh = 1) from fun z => by rcases z with z | z; exact z rfl; exact c2 z), if_neg c2]
      rw [e]
    · have e : (if goal < m + 1 then (1 : Int) else facI (O goal)) = if goal < m then 1 else facI (O goal) := by
        by_cases z : goal < m
        · rw [if_pos z, if_pos (show goal < m + 1 by omega)]
        · rw [if_neg z, if_neg (show ¬ goal < m + 1 by omega)]
      rw [e, if_pos (show m ≠ goal ∨ sh = 1 from Or.inl c)]
      generalize (if goal < m then (1 : Int) else facI (O goal)) = X at ih ⊢
      by_cases c2 : 0 < O m
      · rw [if_pos (show m ≠ goal ∧ 0 < O m from ⟨c, c2⟩), ← ih, ho m c]
        generalize lbN F A goal sh m = Y
        generalize facI ((cntN F m A : Int) - 1) = Z
        grind
      · rw [if_neg (show ¬ (m ≠ goal ∧ 0 < O m) from fun z => c2 z.2), ← ih]
        have : (cntN F m A : Int) = 0 := by
          rw [ho m c] at c2
          omega
        rw [this, show facI ((0 : Int) - 1) = 1 from rfl, Int.mul_one]
theorem or_ext {goal : Nat} {O : Nat → Int} {P : Nat} (h : ∀ q, P ≤ q → O q ≤ 0) : ∀ m, orN goal O (P + m) = orN goal O P
  | 0 => rfl
  | m + 1 => by
    rw [show P + (m + 1) = P + m + 1 by omega, orN, if_neg (fun z => by have := h (P + m) (by omega); omega)]
    exact or_ext h m
/-- what is free when walks begin to be chosen -/
theorem beg_out {P A : Nat} {F T : Nat → Nat} (hP : P ≤ 8) (h : ∀ j, j < A → F j < P ∧ T j < P) (hs : shapeN P A F T ≠ 0) : (∀ k, k < A → F k ≠ endN P A F T (shapeN P A F T) (-1) → (frN A (begN P A F T)).testBit k = true) ∧ orN (endN P A F T (shapeN P A F T) (-1)) (wkO F A (frN A (begN P A F T))) 8 = lbN F A (endN P A F T (shapeN P A F T) (-1)) (shapeN P A F T) P := by
  obtain ⟨b1, b2, b3, b4⟩ := beg_wh hP h hs
  have hc := shp_cases h hs
  have e2 := end_lt h hs (-1) (Or.inr rfl)
  have hgo : shapeN P A F T = 1 → endN P A F T (shapeN P A F T) (-1) = F 0 := fun c => by rw [c]; exact if_pos rfl
  have hfr : ∀ k, k < A → F k ≠ endN P A F T (shapeN P A F T) (-1) → (frN A (begN P A F T)).testBit k = true := fun k hk hne => by
    rw [fr_bit b1, decide_eq_true hk, Bool.true_and]
    unfold begN
    by_cases c : shapeN P A F T = 1
    · rw [if_pos c]
      have : k ≠ 0 := fun z => hne (by rw [hgo c, z])
      have : Nat.testBit 1 k = false := by
        rw [show (1 : Nat) = 2 ^ 0 from rfl, Nat.testBit_two_pow]
        exact decide_eq_false (fun z => this z.symm)
      rw [this]; rfl
    · rw [if_neg c, Nat.zero_testBit]; rfl
  refine ⟨hfr, ?_⟩
  generalize hgd : endN P A F T (shapeN P A F T) (-1) = goal at *
  have ho : ∀ q, q ≠ goal → wkO F A (frN A (begN P A F T)) q = cntN F q A := fun q hq => ldO_cnt (fun k a b => hfr k a (by rw [b]; exact hq))
  have hg : wkO F A (frN A (begN P A F T)) goal = if shapeN P A F T = 1 then (cntN F goal A : Int) - 1 else (cntN F goal A : Int) := by
    by_cases c : shapeN P A F T = 1
    · rw [if_pos c, b4, if_pos c, (wk_clr (F := F) (T := T) (fr := allB A) (k := 0) (by rw [allB_bit]; exact decide_eq_true hc.1) hc.1).2, deO_at, if_pos (hgo c), ← hgo c]
      unfold wkO
      rw [ldO_cnt (fun k a _ => by rw [allB_bit]; exact decide_eq_true a)]
    · rw [if_neg c, b4, if_neg c]
      exact ldO_cnt (fun k a _ => by rw [allB_bit]; exact decide_eq_true a)
  have hz : ∀ q, P ≤ q → wkO F A (frN A (begN P A F T)) q ≤ 0 := fun q hq => by
    rw [ho q (by omega)]
    have : ¬ 0 < cntN F q A := fun z => by
      obtain ⟨k, a, b⟩ := cnt_pos.mp z
      have := (h k a).1
      omega
    omega
  have := or_ext (goal := goal) hz (8 - P)
  rw [show P + (8 - P) = 8 by omega] at this
  rw [this, ← lb_or hg ho P, if_pos e2, Int.mul_one]
theorem wy_et {F T : Nat → Nat} {A b : Nat} {mg : Nat → Nat → Bool} {t p : Nat} (hw : whI F T A b t = (p : Int)) : wyW F T A b mg t = etT F T A mg (A - pcN A t) p t := by
  unfold wyW
  rw [if_neg (by omega), hw, Int.toNat_natCast]
theorem fac_pos : ∀ n, 0 < facN n
  | 0 => by simp [facN]
  | n + 1 => by rw [facN]; exact Nat.mul_pos (by omega) (fac_pos n)
theorem facI_pos (z : Int) : 0 < facI z := by
  unfold facI
  split
  · have := fac_pos z.toNat; omega
  · decide
theorem orN_pos {goal : Nat} {O : Nat → Int} : ∀ m, 0 < orN goal O m
  | 0 => by rw [orN]; exact facI_pos _
  | m + 1 => by
    rw [orN]
    split
    · exact Int.mul_pos (orN_pos m) (facI_pos _)
    · exact orN_pos m
/-- bits of a number as an int has them -/
def BtZ (z : Int) (S : Nat → Bool) : Prop := (0 ≤ z → ∀ j, j < 32 → S j = z.toNat.testBit j) ∧ (z < 0 → S 31 = true)
theorem tk_none {P A : Nat} {F T : Nat → Nat} {z : Int} {S : Nat → Bool} (hA : A ≤ 16) (z2 : z < 2147483648) (hS : BtZ z S) (hs : shapeN P A F T ≠ 0) (hk : ¬ byK P A F T z) : tkL P A F T (endN P A F T (shapeN P A F T) (-1)) S = none := by
  have ex : ∃ j, j < 32 ∧ S j = true ∧ (¬ j < A ∨ F j = endN P A F T (shapeN P A F T) (-1)) := by
    by_cases c : 0 ≤ z
    · by_cases c2 : z < (2 ^ A : Nat)
      · have : ¬ ∀ k, k < A → z.toNat.testBit k = true → F k ≠ endN P A F T (shapeN P A F T) (-1) := fun y => hk ⟨hs, c, c2, y⟩
        apply Classical.byContradiction
        intro hn
        refine this (fun k a b d => hn ⟨k, by omega, by rw [hS.1 c k (by omega)]; exact b, Or.inr d⟩)
      · apply Classical.byContradiction
        intro hn
        have : z.toNat < 2 ^ A := Nat.lt_pow_two_of_testBit _ (fun i hi => by
          cases hb : z.toNat.testBit i with
          | false => rfl
          | true =>
            have h32 : i < 32 := by
              rcases Nat.lt_or_ge i 32 with q | q
              · exact q
              · rw [Nat.testBit_lt_two_pow (Nat.lt_of_lt_of_le (show z.toNat < 2 ^ 31 by omega) (Nat.pow_le_pow_right (by decide) (by omega)))] at hb
                exact absurd hb (by decide)
            exact absurd ⟨i, h32, by rw [hS.1 c i h32]; exact hb, Or.inl (by omega)⟩ hn)
        omega
    · exact ⟨31, by omega, hS.2 (by omega), Or.inl (by omega)⟩
  obtain ⟨j, j1, j2, j3⟩ := ex
  unfold tkL
  cases ht : tlN F A (endN P A F T (shapeN P A F T) (-1)) S 32 0 (fun _ => -1) with
  | none => rfl
  | some la =>
    have := (tl_some ht).1 j (by omega) (by omega) j2
    rcases j3 with j3 | j3
    · exact absurd this.1 j3
    · exact absurd j3 this.2.1
/-- walks that leave by a set, counted -/
theorem by_eq {P A : Nat} {F T : Nat → Nat} (hP : P ≤ 8) (hA : A ≤ 16) (h : ∀ j, j < A → F j < P ∧ T j < P) {z : Int} (z2 : z < 2147483648) {S : Nat → Bool} (hS : BtZ z S) :
    (¬ byK P A F T z → byN P A F T S = 0) ∧ (byK P A F T z → byN P A F T S = wyW F T A (endN P A F T (shapeN P A F T) 1) (mgN 1 F T A (endN P A F T (shapeN P A F T) (-1)) z.toNat) (begN P A F T)) := by
  constructor
  · intro hk
    unfold byN
    by_cases c : shapeN P A F T = 0
    · rw [if_pos c]
    · rw [if_neg c, tk_none hA z2 hS c hk]
  · intro hk
    obtain ⟨hs, k1, k2, k3⟩ := id hk
    obtain ⟨b1, b2, b3, b4⟩ := beg_wh hP h hs
    have hg := shp_StG hP hA h hs
    obtain ⟨o1, o2⟩ := beg_out hP h hs
    have htk := tk_gd (P := P) (tr := z.toNat) (fr := frN A (begN P A F T)) hg h (hS.1 k1) (by omega) k3 o1
    have bl := begN_le (P := P) (A := A) (F := F) (T := T)
    have hc := shp_cases h hs
    have het := et_ls (tr := z.toNat) hg (A - pcN A (begN P A F T)) (begN P A F T) _ b1 (by omega) b3
    unfold byN
    rw [if_neg hs, wy_et b3]
    cases ht : tkL P A F T (endN P A F T (shapeN P A F T) (-1)) S with
    | none => exact (het.2 (htk.2 ht)).symm
    | some la => rw [het.1 (htk.1 la ht).1, o2]
/-- what may be gone along keeps the tree -/
theorem gd_step {F T : Nat → Nat} {A b goal tr t p k : Nat} (h : StG F T A b goal) (ht : t < 2 ^ A) (hw : whI F T A b t = (p : Int)) (hk : k < A) (hp : F k = p) (hm : mgN 1 F T A goal tr t k = true) (hg : GdL F T A goal tr (frN A t)) : GdL F T A goal tr (clrB (frN A t) k) := by
  obtain ⟨h1, h2, h3, h4, h5⟩ := id h
  have hbal := h.bal ht hw
  obtain ⟨w1, w2⟩ := whI_iff.mp hw
  have hfb : ∀ k, k < A → ((frN A t).testBit k = true ↔ t.testBit k = false) := fun k hk => by
    rw [fr_bit ht, decide_eq_true hk, Bool.true_and]
    cases t.testBit k <;> simp
  obtain ⟨m1, m2⟩ := mg_ls.mp hm
  by_cases cg : F k = goal
  · exact (GdL.same (Or.inl cg)).mpr hg
  · have m3 : lstB F t k A = tr.testBit k := m2.resolve_left cg
    cases hb : tr.testBit k with
    | true =>
      rw [hb] at m3
      have un : ∀ j, j < A → (frN A t).testBit j = true → F j = F k → j = k := fun j a c d => by
        apply Classical.byContradiction
        intro z
        have := (lst_iff A).mp m3 j a z d
        rw [(hfb j a).mp c] at this
        exact absurd this (by decide)
      have ho : wkO F A (frN A t) p ≤ 1 := by
        unfold wkO
        rw [ldO_sm]
        have : smN (fun j => if (frN A t).testBit j = true ∧ F j = p then (1 : Int) else 0) A ≤ smN (fun j => if j = k then 1 else 0) A := smN_le (fun j hj => by
          by_cases c : (frN A t).testBit j = true ∧ F j = p
          · rw [if_pos c, if_pos (un j hj c.1 (c.2.trans hp.symm))]
            exact Int.le_refl _
          · rw [if_neg c]; split <;> omega)
        rw [smN_one, if_pos hk] at this
        exact this
      have hbp := hbal p w1
      rw [if_pos rfl, if_neg (by rw [← hp]; exact cg), in_sum (fun j hj => (h4 j hj).1)] at hbp
      have noin := sm_no (X := fun j => (frN A t).testBit j = true ∧ T j = p) (n := A) (by omega)
      exact (GdL.last hk ((hfb k hk).mpr m1) hb un (fun j a c d => noin j a ⟨c, d.trans hp⟩)).mpr hg
    | false =>
      rw [hb] at m3
      refine (GdL.same (Or.inr ⟨hb, ?_⟩)).mpr hg
      apply Classical.byContradiction
      intro hz
      have : lstB F t k A = true := (lst_iff A).mpr (fun i a c d => by
        cases hbi : t.testBit i with
        | true => rfl
        | false => exact absurd ⟨i, a, (hfb i a).mpr hbi, d, c⟩ hz)
      rw [this] at m3
      exact absurd m3 (by decide)
theorem lrC_least {F : Nat → Nat} {mg : Nat → Nat → Bool} {W : Nat → Int} {t : Nat} {p : Int} {k1 : Nat} (h1 : (F k1 : Int) = p ∧ mg t k1 = true) (h2 : 0 < W (t ||| 2 ^ k1)) : ∀ (r k : Nat), k ≤ k1 → k1 < k + r → (∀ j, k ≤ j → j < k1 → ¬ ((F j : Int) = p ∧ mg t j = true)) → lrC F mg W t p r k 0 = (k1, 0)
  | 0, k, a, b, _ => by omega
  | r + 1, k, a, b, h3 => by
    rw [lrC]
    by_cases c : k = k1
    · rw [c, if_pos h1, if_pos h2]
    · rw [if_neg (h3 k (by omega) (by omega))]
      exact lrC_least h1 h2 r (k + 1) (by omega) (by omega) (fun j x y => h3 j (by omega) y)
theorem lfK_least {F : Nat → Nat} {la : Nat → Int} {p fr k1 : Nat} (h1 : fr.testBit k1 = true ∧ F k1 = p ∧ la p ≠ k1) : ∀ (r k : Nat), k ≤ k1 → k1 < k + r → (∀ j, k ≤ j → j < k1 → ¬ (fr.testBit j = true ∧ F j = p ∧ la p ≠ j)) → lfK F la p fr r k = (k1 : Int)
  | 0, k, a, b, _ => by omega
  | r + 1, k, a, b, h3 => by
    rw [lfK]
    by_cases c : k = k1
    · rw [c, if_pos h1]
    · rw [if_neg (h3 k (by omega) (by omega))]
      exact lfK_least h1 r (k + 1) (by omega) (by omega) (fun j x y => h3 j (by omega) y)
theorem lfK_none {F : Nat → Nat} {la : Nat → Int} {p fr : Nat} : ∀ (r k : Nat), (∀ j, k ≤ j → j < k + r → ¬ (fr.testBit j = true ∧ F j = p ∧ la p ≠ j)) → lfK F la p fr r k = if la p ≠ -1 ∧ fr.testBit (la p).toNat = true then la p else -1
  | 0, k, _ => by rw [lfK]
  | r + 1, k, h3 => by
    rw [lfK, if_neg (h3 k (by omega) (by omega))]
    exact lfK_none r (k + 1) (fun j x y => h3 j (by omega) (by omega))
/-- the first walk that leaves by a tree -/
theorem ff_lr {F T : Nat → Nat} {A b goal tr : Nat} {la : Nat → Int} (h : StG F T A b goal) (hng : ∀ k, k < A → tr.testBit k = true → F k ≠ goal) (la1 : ∀ k, k < A → tr.testBit k = true → la (F k) = (k : Int)) (la2 : ∀ q, la q = -1 ∨ ∃ k, k < A ∧ tr.testBit k = true ∧ F k = q ∧ la q = (k : Int)) :
    ∀ (n t p : Nat), t < 2 ^ A → pcN A t + n = A → whI F T A b t = (p : Int) → GdL F T A goal tr (frN A t) →
    ffN F T A la n p (frN A t) = some (lrL F T A b (mgN 1 F T A goal tr) (wyW F T A b (mgN 1 F T A goal tr)) n t 0) ∧ ∀ (L : Nat → Nat) (i : Nat), (∀ j, j < n → L (i + j) = (lrL F T A b (mgN 1 F T A goal tr) (wyW F T A b (mgN 1 F T A goal tr)) n t 0).getD j 0) → iwB F T A L n i p t = true
  | 0, t, p, ht, hn, hw, hg => by
    rw [ffN, lrL]
    exact ⟨rfl, fun L i _ => rfl⟩
  | n + 1, t, p, ht, hn, hw, hg => by
    obtain ⟨h1, h2, h3, h4, h5⟩ := id h
    have hfb : ∀ k, k < A → ((frN A t).testBit k = true ↔ t.testBit k = false) := fun k hk => by
      rw [fr_bit ht, decide_eq_true hk, Bool.true_and]
      cases t.testBit k <;> simp
    have val : ∀ k, k < A → F k = p ∧ mgN 1 F T A goal tr t k = true → GdL F T A goal tr (frN A (t ||| 2 ^ k)) ∧ whI F T A b (t ||| 2 ^ k) = (T k : Int) ∧ pcN A (t ||| 2 ^ k) + n = A ∧ 0 < wyW F T A b (mgN 1 F T A goal tr) (t ||| 2 ^ k) := fun k hk c => by
      have hbt := (mg_ls.mp c.2).1
      have hg2 := gd_step h ht hw hk c.1 c.2 hg
      rw [← fr_set ht hk] at hg2
      have hw2 := wh_step (F := F) (T := T) (A := A) (b := b) (s := t) (k := k) (by rw [hw, c.1]) hk hbt (h4 k hk).2
      have hpc : pcN A (t ||| 2 ^ k) + n = A := by rw [pc_set hk hbt]; omega
      refine ⟨hg2, hw2, hpc, ?_⟩
      rw [wy_et hw2, show A - pcN A (t ||| 2 ^ k) = n by omega, (et_ls (tr := tr) h n _ _ (set_lt ht hk) hpc hw2).1 hg2]
      exact orN_pos 8
    have hex : ∃ k, k < A ∧ F k = p ∧ mgN 1 F T A goal tr t k = true := by
      apply Classical.byContradiction
      intro hz
      have he := (et_ls (tr := tr) h (n + 1) t p ht hn hw).1 hg
      rw [etT, smN_congr (g := fun _ => 0) (fun k hk => if_neg (fun c => hz ⟨k, hk, c⟩)), smN_zero] at he
      have := orN_pos (goal := goal) (O := wkO F A (frN A t)) 8
      omega
    obtain ⟨k1, ⟨k1A, k1p, k1m⟩, kmin⟩ := least_ex hex
    obtain ⟨v1, v2, v3, v4⟩ := val k1 k1A ⟨k1p, k1m⟩
    have hlc : lrC F (mgN 1 F T A goal tr) (wyW F T A b (mgN 1 F T A goal tr)) t (whI F T A b t) A 0 0 = (k1, 0) := by
      rw [hw]
      exact lrC_least ⟨by omega, k1m⟩ v4 A 0 (by omega) (by omega) (fun j _ y z => kmin j y ⟨by omega, by omega, z.2⟩)
    have tr_la : ∀ k, k < A → F k = p → (tr.testBit k = true ↔ la p = (k : Int)) := fun k hk hp => by
      constructor
      · intro hb
        have := la1 k hk hb
        rw [hp] at this
        exact this
      · intro hl
        rcases la2 p with z | ⟨j, j1, j2, j3, j4⟩
        · omega
        · have : j = k := by omega
          rw [← this]; exact j2
    have hlf : lfK F la p (frN A t) A 0 = (k1 : Int) := by
      obtain ⟨m1, m2⟩ := mg_ls.mp k1m
      have hf1 := (hfb k1 k1A).mpr m1
      by_cases c : F k1 = goal ∨ tr.testBit k1 = false
      · have hl : la p ≠ k1 := fun z => by
          have hb := (tr_la k1 k1A k1p).mpr z
          rcases c with c | c
          · exact hng k1 k1A hb c
          · rw [c] at hb; exact absurd hb (by decide)
        refine lfK_least ⟨hf1, k1p, hl⟩ A 0 (by omega) (by omega) (fun j _ y z => kmin j y ⟨by omega, z.2.1, mg_ls.mpr ⟨(hfb j (by omega)).mp z.1, ?_⟩⟩)
        by_cases cg : F j = goal
        · exact Or.inl cg
        · right
          have htj : tr.testBit j = false := by
            cases hb : tr.testBit j with
            | false => rfl
            | true => exact absurd ((tr_la j (by omega) z.2.1).mp hb) z.2.2
          rw [htj]
          cases hb : lstB F t j A with
          | false => rfl
          | true =>
            have := (lst_iff A).mp hb k1 k1A (by omega) (by rw [k1p, z.2.1])
            rw [m1] at this
            exact absurd this (by decide)
      · have cg : F k1 ≠ goal := fun z => c (Or.inl z)
        have hb : tr.testBit k1 = true := by
          cases hb : tr.testBit k1 with
          | true => rfl
          | false => exact absurd (Or.inr hb) c
        have hl := (tr_la k1 k1A k1p).mp hb
        have hlst : lstB F t k1 A = true := by rw [m2.resolve_left cg]; exact hb
        rw [lfK_none A 0 (fun j _ y z => by
          have hjA : j < A := by omega
          by_cases e : j = k1
          · rw [e] at z; exact z.2.2 hl
          · have := (lst_iff A).mp hlst j hjA e (by rw [k1p, z.2.1])
            rw [(hfb j hjA).mp z.1] at this
            exact absurd this (by decide)), hl, Int.toNat_natCast, if_pos ⟨by omega, hf1⟩]
    have ih := ff_lr h hng la1 la2 n (t ||| 2 ^ k1) (T k1) (set_lt ht k1A) v3 v2 v1
    rw [ffN, hlf, if_neg (by omega), Int.toNat_natCast, ← fr_set ht k1A, ih.1, lrL, hlc]
    refine ⟨rfl, fun L i hL => ?_⟩
    have h0 := hL 0 (by omega)
    simp only [Nat.add_zero, List.getD_cons_zero] at h0
    rw [iwB, h0, if_pos ⟨k1A, (mg_ls.mp k1m).1, k1p⟩]
    exact ih.2 L (i + 1) (fun j hj => by
      have := hL (j + 1) (by omega)
      simp only [List.getD_cons_succ] at this
      rw [show i + 1 + j = i + (j + 1) by omega]
      exact this)
theorem iw_congr {F T : Nat → Nat} {A : Nat} {L L' : Nat → Nat} : ∀ {r i p t : Nat}, (∀ j, i ≤ j → j < i + r → L j = L' j) → iwB F T A L r i p t = iwB F T A L' r i p t
  | 0, _, _, _, _ => rfl
  | r + 1, i, p, t, h => by
    rw [iwB, iwB, h i (by omega) (by omega)]
    split
    · exact iw_congr (fun j a b => h j (by omega) (by omega))
    · rfl
theorem ahL_congr {F : Nat → Nat} {W : Nat → Int} {L L' : Nat → Nat} : ∀ {r i t : Nat}, (∀ j, i ≤ j → j < i + r → L j = L' j) → ahL F W L r i t = ahL F W L' r i t
  | 0, _, _, _ => rfl
  | r + 1, i, t, h => by
    rw [ahL, ahL, h i (by omega) (by omega), ahL_congr (fun j a b => h j (by omega) (by omega))]
/-- the rank of the first walk that leaves by a set -/
theorem fir_eq {P A : Nat} {F T : Nat → Nat} (hP : P ≤ 8) (hA : A ≤ 16) (h : ∀ j, j < A → F j < P ∧ T j < P) {z : Int} (z2 : z < 2147483648) {S : Nat → Bool} (hS : BtZ z S) {W : Nat → Int} (hW : W = wyW F T A (endN P A F T (shapeN P A F T) 1) (mgN 1 F T A (endN P A F T (shapeN P A F T) (-1)) z.toNat)) {e : Nat} :
    (¬ (byK P A F T z ∧ W (begN P A F T) ≠ 0) → firN P A F T S = -1) ∧ (byK P A F T z ∧ W (begN P A F T) ≠ 0 → firN P A F T S = ahL F (wyW F T A (endN P A F T (shapeN P A F T) 1) (mgN 0 F T A e 0)) (wkM F T A (begN P A F T) (endN P A F T (shapeN P A F T) 1) (mgN 1 F T A (endN P A F T (shapeN P A F T) (-1)) z.toNat) W 0) (A - begN P A F T) (begN P A F T) (begN P A F T)) := by
  by_cases hk : byK P A F T z
  · obtain ⟨hs, k1, k2, k3⟩ := id hk
    obtain ⟨b1, b2, b3, b4⟩ := beg_wh hP h hs
    have hg := shp_StG hP hA h hs
    obtain ⟨o1, o2⟩ := beg_out hP h hs
    have htk := tk_gd (P := P) (tr := z.toNat) (fr := frN A (begN P A F T)) hg h (hS.1 k1) (by omega) k3 o1
    have bl := begN_le (P := P) (A := A) (F := F) (T := T)
    have hc := shp_cases h hs
    have e1 := end_lt h hs 1 (Or.inl rfl)
    have het := et_ls (tr := z.toNat) hg (A - pcN A (begN P A F T)) (begN P A F T) _ b1 (by omega) b3
    rw [← wy_et b3 (mg := mgN 1 F T A (endN P A F T (shapeN P A F T) (-1)) z.toNat), ← hW] at het
    unfold firN
    rw [if_neg hs]
    cases ht : tkL P A F T (endN P A F T (shapeN P A F T) (-1)) S with
    | none => exact ⟨fun _ => rfl, fun y => absurd (het.2 (htk.2 ht)) y.2⟩
    | some la =>
      obtain ⟨g1, la1, la2⟩ := htk.1 la ht
      have hpos := het.1 g1
      have hp2 := orN_pos (goal := endN P A F T (shapeN P A F T) (-1)) (O := wkO F A (frN A (begN P A F T))) 8
      refine ⟨fun y => absurd ⟨hk, by omega⟩ y, fun _ => ?_⟩
      have h0A : (0 : Nat) < 2 ^ A := Nat.pow_pos (by decide)
      have g0 : GdL F T A (endN P A F T (shapeN P A F T) (-1)) z.toNat (frN A 0) := by
        by_cases c : shapeN P A F T = 1
        · have eb : begN P A F T = 1 := if_pos c
          rw [eb, clr_fr hc.1, ← fr_0] at g1
          exact (GdL.same (Or.inl (by rw [c]; exact (if_pos rfl).symm))).mp g1
        · have eb : begN P A F T = 0 := if_neg c
          rw [eb] at g1
          exact g1
      have hff := ff_lr (la := la) hg k3 la1 la2 A 0 _ h0A (by rw [pcN_zero]; omega) (wh_0 (by omega)) g0
      rw [fr_0, ← hW] at hff
      simp only
      rw [hff.1]
      simp only
      have hiw := hff.2 (fun i => (lrL F T A (endN P A F T (shapeN P A F T) 1) (mgN 1 F T A (endN P A F T (shapeN P A F T) (-1)) z.toNat) W A 0 0).getD i 0) 0 (fun j _ => by rw [Nat.zero_add])
      by_cases c : shapeN P A F T = 1
      · have eb : begN P A F T = 1 := if_pos c
        obtain ⟨A', rfl⟩ : ∃ A', A = A' + 1 := ⟨A - 1, by have := hc.1; omega⟩
        have hb : endN P (A' + 1) F T (shapeN P (A' + 1) F T) 1 = F 0 := by rw [c]; exact if_pos rfl
        have hgl : endN P (A' + 1) F T (shapeN P (A' + 1) F T) (-1) = F 0 := by rw [c]; exact if_pos rfl
        have hlc : lrC F (mgN 1 F T (A' + 1) (endN P (A' + 1) F T (shapeN P (A' + 1) F T) (-1)) z.toNat) W 0 (whI F T (A' + 1) (endN P (A' + 1) F T (shapeN P (A' + 1) F T) 1) 0) (A' + 1) 0 0 = (0, 0) := by
          rw [wh_0 (by omega), hb]
          refine lrC_least ⟨rfl, mg_ls.mpr ⟨by simp, Or.inl hgl.symm⟩⟩ ?_ (A' + 1) 0 (by omega) (by omega) (fun j _ y => by omega)
          rw [eb] at hpos
          rw [show 0 ||| 2 ^ 0 = 1 from rfl, hpos]
          rw [eb] at hp2
          exact hp2
        have hlr : lrL F T (A' + 1) (endN P (A' + 1) F T (shapeN P (A' + 1) F T) 1) (mgN 1 F T (A' + 1) (endN P (A' + 1) F T (shapeN P (A' + 1) F T) (-1)) z.toNat) W (A' + 1) 0 0 = 0 :: lrL F T (A' + 1) (endN P (A' + 1) F T (shapeN P (A' + 1) F T) 1) (mgN 1 F T (A' + 1) (endN P (A' + 1) F T (shapeN P (A' + 1) F T) (-1)) z.toNat) W A' 1 0 := by
          rw [lrL, hlc]
          rfl
        rw [rk_rank (e := e) hP hA h hs (fun _ => by rw [hlr]; rfl) hiw, eb]
        refine ahL_congr (fun j j1 j2 => ?_)
        unfold wkM
        rw [if_neg (by omega), hlr]
        obtain ⟨j', rfl⟩ : ∃ j', j = j' + 1 := ⟨j - 1, by omega⟩
        rfl
      · have eb : begN P A F T = 0 := if_neg c
        rw [rk_rank (e := e) hP hA h hs (fun y => absurd y c) hiw, eb]
        refine ahL_congr (fun j j1 j2 => ?_)
        unfold wkM
        rw [if_neg (by omega)]
        rfl
  · refine ⟨fun _ => ?_, fun y => absurd y.1 hk⟩
    unfold firN
    by_cases c : shapeN P A F T = 0
    · rw [if_pos c]
    · rw [if_neg c, tk_none hA z2 hS c hk]
