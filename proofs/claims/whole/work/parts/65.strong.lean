/-! CLOSURES: what one comes to is the least closed set -/
theorem sprA_min {f : Bool} {F T : Nat → Nat} {s n i : Nat} {X : Nat → Bool} (h1 : ∀ i, s.testBit i = true → X i = true) (h2 : f = true → X (F n) = true → X (T n) = true) (h : (sprA f F T s n).testBit i = true) : X i = true := by
  unfold sprA at h
  split at h
  · next c =>
    rw [set_bit, Bool.or_eq_true, decide_eq_true_eq] at h
    rw [Bool.and_eq_true] at c
    rcases h with h | h
    · exact h1 i h
    · rw [h]
      exact h2 c.1 (h1 _ c.2)
  · exact h1 i h
theorem sprK_min {f b : Bool} {F T : Nat → Nat} {X : Nat → Bool} {s : Nat} (h1 : ∀ i, s.testBit i = true → X i = true) : ∀ {n : Nat}, (∀ j, j < n → (f = true → X (F j) = true → X (T j) = true) ∧ (b = true → X (T j) = true → X (F j) = true)) → ∀ i, (sprK f b F T n s).testBit i = true → X i = true
  | 0, _, i, h => h1 i h
  | n + 1, h2, i, h => by
    have ih := sprK_min (f := f) (b := b) (F := F) (T := T) h1 (n := n) (fun j q => h2 j (by omega))
    exact sprA_min (fun i => sprA_min ih (h2 n (by omega)).1) (h2 n (by omega)).2 h
theorem sprI_min {f b : Bool} {F T : Nat → Nat} {X : Nat → Bool} {A : Nat} (h2 : ∀ j, j < A → (f = true → X (F j) = true → X (T j) = true) ∧ (b = true → X (T j) = true → X (F j) = true)) : ∀ {r s : Nat}, (∀ i, s.testBit i = true → X i = true) → ∀ i, (sprI f b F T A r s).testBit i = true → X i = true
  | 0, s, h1, i, h => h1 i h
  | r + 1, s, h1, i, h => by
    rw [sprI] at h
    split at h
    · exact h1 i h
    · exact sprI_min h2 (fun i => sprK_min h1 h2 i) i h
theorem sprI_sub {f b : Bool} {F T : Nat → Nat} {A i : Nat} : ∀ {r s : Nat}, s.testBit i = true → (sprI f b F T A r s).testBit i = true
  | 0, s, h => h
  | r + 1, s, h => by
    rw [sprI]
    split
    · exact h
    · exact sprI_sub (sprK_sub h)
theorem sprI_fix {f b : Bool} {F T : Nat → Nat} {A : Nat} (hj : ∀ j, j < A → F j < 8 ∧ T j < 8) : ∀ {r s : Nat}, s < 2 ^ 8 → 9 ≤ r + pcN 8 s → sprK f b F T A (sprI f b F T A r s) = sprI f b F T A r s
  | 0, s, hs, hp => by
    have := pcN_le 8 s
    omega
  | r + 1, s, hs, hp => by
    rw [sprI]
    by_cases c : sprK f b F T A s = s
    · rw [if_pos c, c]
    · rw [if_neg c]
      have l := sprK_lt (f := f) (b := b) hs hj
      have := (pc_mono (n := 8) (fun i => sprK_sub (f := f) (b := b) (F := F) (T := T) (n := A)) hs l).2 (fun z => c z.symm)
      exact sprI_fix hj l (by omega)
theorem sprK_pre {f b : Bool} {F T : Nat → Nat} {s i : Nat} : ∀ {m n : Nat}, (sprK f b F T n s).testBit i = true → (sprK f b F T (n + m) s).testBit i = true
  | 0, n, h => h
  | m + 1, n, h => by
    have ih := sprK_pre (f := f) (b := b) (F := F) (T := T) (s := s) (m := m) h
    exact sprA_sub (sprA_sub ih)
theorem sprK_cl {f b : Bool} {F T : Nat → Nat} {A X : Nat} (h : sprK f b F T A X = X) {j : Nat} (hj : j < A) : (f = true → X.testBit (F j) = true → X.testBit (T j) = true) ∧ (b = true → X.testBit (T j) = true → X.testBit (F j) = true) := by
  have up : ∀ i, (sprK f b F T (j + 1) X).testBit i = true → X.testBit i = true := fun i q => by
    have := sprK_pre (f := f) (b := b) (F := F) (T := T) (m := A - (j + 1)) q
    rw [show j + 1 + (A - (j + 1)) = A by omega, h] at this
    exact this
  have k0 : ∀ i, X.testBit i = true → (sprK f b F T j X).testBit i = true := fun i q => sprK_sub q
  refine ⟨fun hf q => up _ ?_, fun hb q => up _ ?_⟩
  · refine sprA_sub ?_
    unfold sprA
    rw [if_pos (by rw [k0 _ q, hf]; rfl), set_bit, decide_eq_true rfl, Bool.or_true]
  · show (sprA b T F _ j).testBit _ = true
    rw [sprA, if_pos (by rw [sprA_sub (k0 _ q), hb]; rfl), set_bit, decide_eq_true rfl, Bool.or_true]
theorem used_bit {F T : Nat → Nat} {i : Nat} : ∀ {n : Nat}, (usedN F T n).testBit i = true ↔ ∃ j, j < n ∧ (i = F j ∨ i = T j)
  | 0 => by
    simp [usedN]
  | n + 1 => by
    have ih := used_bit (F := F) (T := T) (i := i) (n := n)
    simp only [usedN]
    rw [Nat.testBit_or, Nat.testBit_or, Bool.or_eq_true, Bool.or_eq_true, ih, Nat.testBit_two_pow, Nat.testBit_two_pow, decide_eq_true_eq, decide_eq_true_eq]
    constructor
    · rintro (⟨j, a, b⟩ | b | b)
      · exact ⟨j, by omega, b⟩
      · exact ⟨n, by omega, Or.inl b.symm⟩
      · exact ⟨n, by omega, Or.inr b.symm⟩
    · rintro ⟨j, a, b⟩
      by_cases c : j = n
      · subst c
        rcases b with b | b
        · exact Or.inr (Or.inl b.symm)
        · exact Or.inr (Or.inr b.symm)
      · exact Or.inl ⟨j, by omega, b⟩
theorem reach_used {f b : Bool} {F T : Nat → Nat} {A p r : Nat} (hp : (usedN F T A).testBit p = true) : ∀ i, (sprI f b F T A r (2 ^ p)).testBit i = true → (usedN F T A).testBit i = true :=
  sprI_min (fun j q => ⟨fun _ _ => used_bit.mpr ⟨j, q, Or.inr rfl⟩, fun _ _ => used_bit.mpr ⟨j, q, Or.inl rfl⟩⟩) (fun i h => by
    rw [Nat.testBit_two_pow, decide_eq_true_eq] at h
    rw [← h]; exact hp)
theorem nat_ext {x y : Nat} (h1 : ∀ i, x.testBit i = true → y.testBit i = true) (h2 : ∀ i, y.testBit i = true → x.testBit i = true) : x = y := by
  apply Nat.eq_of_testBit_eq
  intro i
  cases hx : x.testBit i with
  | true => rw [h1 i hx]
  | false =>
    cases hy : y.testBit i with
    | true => rw [h2 i hy] at hx; exact absurd hx (by decide)
    | false => rfl
theorem stg_all {F T : Nat → Nat} {A : Nat} : ∀ {k : Nat}, stgB F T A k = true ↔ ∀ j, j < k → sprI true false F T A 8 (2 ^ F j) = usedN F T A ∧ sprI true false F T A 8 (2 ^ T j) = usedN F T A
  | 0 => ⟨fun _ j q => absurd q (by omega), fun _ => rfl⟩
  | k + 1 => by
    have ih := stg_all (F := F) (T := T) (A := A) (k := k)
    simp only [stgB, Bool.and_eq_true, decide_eq_true_eq, ih]
    constructor
    · rintro ⟨a, b⟩ j q
      by_cases c : j = k
      · rw [c]; exact b
      · exact a j (by omega)
    · intro a
      exact ⟨fun j q => a j (by omega), a k (by omega)⟩
theorem two_bit (p i : Nat) : (2 ^ p).testBit i = true ↔ p = i := by
  rw [Nat.testBit_two_pow, decide_eq_true_eq]
/-- strong from all points, or from one and to one -/
theorem stg_strong {F T : Nat → Nat} {A : Nat} (hj : ∀ j, j < A → F j < 8 ∧ T j < 8) : stgB F T A A = strongB F T A := by
  have cl : ∀ (f b : Bool) p, p < 8 → sprK f b F T A (sprI f b F T A 8 (2 ^ p)) = sprI f b F T A 8 (2 ^ p) := fun f b p hp => sprI_fix hj (Nat.pow_lt_pow_right (by decide) hp) (by rw [pc_pow hp]; omega)
  have self : ∀ (f b : Bool) p, (sprI f b F T A 8 (2 ^ p)).testBit p = true := fun f b p => sprI_sub ((two_bit p p).mpr rfl)
  by_cases c0 : A = 0
  · rw [show strongB F T A = true from decide_eq_true (Or.inl c0), c0]; rfl
  have u0 : (usedN F T A).testBit (F 0) = true := used_bit.mpr ⟨0, by omega, Or.inl rfl⟩
  have h08 := (hj 0 (by omega)).1
  have u8 : ∀ q, (usedN F T A).testBit q = true → q < 8 := fun q hq => by
    obtain ⟨j, a, b⟩ := used_bit.mp hq
    have := hj j a
    omega
  rw [strongB]
  by_cases c : stgB F T A A = true
  · rw [c]
    rw [stg_all] at c
    refine (decide_eq_true (Or.inr ⟨(c 0 (by omega)).1, nat_ext (reach_used u0) (fun q hq => ?_)⟩)).symm
    apply Classical.byContradiction
    intro hn
    have hfq : sprI true false F T A 8 (2 ^ q) = usedN F T A := by
      obtain ⟨j, a, b⟩ := used_bit.mp hq
      rcases b with b | b
      · rw [b]; exact (c j a).1
      · rw [b]; exact (c j a).2
    have := sprI_min (f := true) (b := false) (F := F) (T := T) (A := A) (X := fun i => !(sprI false true F T A 8 (2 ^ F 0)).testBit i) (fun j hjA => ⟨fun _ z => by
      have k := (sprK_cl (cl false true (F 0) h08) hjA).2 rfl
      simp only [Bool.not_eq_true'] at z ⊢
      cases hb : (sprI false true F T A 8 (2 ^ F 0)).testBit (T j) with
      | false => rfl
      | true => rw [k hb] at z; exact absurd z (by decide), fun z => absurd z (by decide)⟩) (r := 8) (s := 2 ^ q) (fun i hi => by
      rw [two_bit] at hi
      subst hi
      simp only [Bool.not_eq_true']
      exact Bool.eq_false_iff.mpr hn) (F 0) (by rw [hfq]; exact u0)
    rw [self] at this
    exact absurd this (by decide)
  · rw [Bool.eq_false_iff.mpr c]
    refine (decide_eq_false (fun z => c ?_)).symm
    rcases z with z | ⟨z1, z2⟩
    · exact absurd z c0
    rw [stg_all]
    have main : ∀ q, (usedN F T A).testBit q = true → sprI true false F T A 8 (2 ^ q) = usedN F T A := fun q hq => by
      refine nat_ext (reach_used hq) ?_
      have h0 : (sprI true false F T A 8 (2 ^ q)).testBit (F 0) = true := by
        apply Classical.byContradiction
        intro hn
        have := sprI_min (f := false) (b := true) (F := F) (T := T) (A := A) (X := fun i => !(sprI true false F T A 8 (2 ^ q)).testBit i) (fun j hjA => ⟨fun z => absurd z (by decide), fun _ z => by
          have k := (sprK_cl (cl true false q (u8 q hq)) hjA).1 rfl
          simp only [Bool.not_eq_true'] at z ⊢
          cases hb : (sprI true false F T A 8 (2 ^ q)).testBit (F j) with
          | false => rfl
          | true => rw [k hb] at z; exact absurd z (by decide)⟩) (r := 8) (s := 2 ^ F 0) (fun i hi => by
          rw [two_bit] at hi
          subst hi
          simp only [Bool.not_eq_true']
          exact Bool.eq_false_iff.mpr hn) q (by rw [z2]; exact hq)
        rw [self] at this
        exact absurd this (by decide)
      intro i hi
      rw [← z1] at hi
      exact sprI_min (X := fun i => (sprI true false F T A 8 (2 ^ q)).testBit i) (fun j hjA => sprK_cl (cl true false q (u8 q hq)) hjA) (fun i hi => by
        rw [two_bit] at hi
        rw [← hi]; exact h0) i hi
    exact fun j hjA => ⟨main _ (used_bit.mpr ⟨j, hjA, Or.inl rfl⟩), main _ (used_bit.mpr ⟨j, hjA, Or.inr rfl⟩)⟩
