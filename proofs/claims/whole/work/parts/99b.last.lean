/-! LASTS -/
theorem clK_bit {F : Nat → Nat} {p s j : Nat} : ∀ n, (clK F p n s).testBit j = (s.testBit j && !(decide (j < n ∧ F j = p)))
  | 0 => by simp [clK]
  | n + 1 => by
    have ih := clK_bit (F := F) (p := p) (s := s) (j := j) n
    rw [clK]
    by_cases c : F n = p
    · rw [if_pos c, clrB_bit, ih]
      by_cases e : j = n
      · subst e
        simp [c]
      · have : (j < n + 1 ∧ F j = p) ↔ (j < n ∧ F j = p) := ⟨fun z => ⟨by omega, z.2⟩, fun z => ⟨by omega, z.2⟩⟩
        simp only [decide_eq_decide.mpr this, decide_eq_true e, Bool.and_true]
    · rw [if_neg c, ih]
      have : (j < n + 1 ∧ F j = p) ↔ (j < n ∧ F j = p) := ⟨fun z => ⟨by
        have : j ≠ n := fun y => c (y ▸ z.2)
        omega, z.2⟩, fun z => ⟨by omega, z.2⟩⟩
      rw [decide_eq_decide.mpr this]
theorem llM_bit {F : Nat → Nat} {A en : Nat} {S : Nat → Nat} {k : Nat} : ∀ n, (∀ i, i < n → S i < A) → (llM F A en S n).testBit k = decide (F k ≠ en ∧ laN F S (F k) n = (k : Int))
  | 0, _ => by
    rw [decide_eq_false (fun z => by have := z.2; simp only [laN] at this; omega)]
    simp [llM]
  | n + 1, h => by
    have ih := llM_bit (F := F) (A := A) (en := en) (S := S) (k := k) n (fun i hi => h i (by omega))
    have hn := h n (by omega)
    rw [llM, laN]
    by_cases c1 : F (S n) = F k
    · -- out of the same point
      rw [if_pos c1]
      have hcl : (clK F (F (S n)) A (llM F A en S n)).testBit k = (if k < A then false else (llM F A en S n).testBit k) := by
        rw [clK_bit]
        by_cases ck : k < A
        · rw [if_pos ck, decide_eq_true ⟨ck, c1.symm⟩]; simp
        · rw [if_neg ck, decide_eq_false (fun z => ck z.1)]; simp
      have hkA : A ≤ k → (llM F A en S n).testBit k = false := fun z => by
        rw [ih]
        refine decide_eq_false (fun y => ?_)
        have : ∀ m, m ≤ n → laN F S (F k) m ≠ (k : Int) := fun m => by
          induction m with
          | zero => intro _ q; simp only [laN] at q; omega
          | succ m ihm =>
            intro hm q
            rw [laN] at q
            split at q
            · have := h m (by omega); omega
            · exact ihm (by omega) q
        exact this n (Nat.le_refl _) y.2
      by_cases c2 : F (S n) = en
      · rw [if_pos c2, hcl, decide_eq_false (fun z => z.1 (by omega))]
        by_cases ck : k < A
        · rw [if_pos ck]
        · rw [if_neg ck]; exact hkA (by omega)
      · rw [if_neg c2, set_bit, hcl]
        by_cases ck : k < A
        · rw [if_pos ck, Bool.false_or]
          exact decide_eq_decide.mpr ⟨fun z => ⟨by omega, by omega⟩, fun z => by have := z.2; omega⟩
        · rw [if_neg ck, hkA (by omega), Bool.false_or]
          exact decide_eq_decide.mpr ⟨fun z => ⟨by omega, by omega⟩, fun z => by have := z.2; omega⟩
    · rw [if_neg c1, ← ih]
      have hcl : (clK F (F (S n)) A (llM F A en S n)).testBit k = (llM F A en S n).testBit k := by
        rw [clK_bit, decide_eq_false (fun z => c1 z.2.symm)]; simp
      by_cases c2 : F (S n) = en
      · rw [if_pos c2, hcl]
      · rw [if_neg c2, set_bit, hcl, decide_eq_false (fun z => c1 (by rw [z])), Bool.or_false]
theorem lsN_bit {la : Nat → Int} {goal k : Nat} : ∀ n, (lsN la goal n).testBit k = true ↔ ∃ p, p < n ∧ p ≠ goal ∧ la p ≠ -1 ∧ (la p).toNat = k
  | 0 => by simp [lsN]
  | n + 1 => by
    have ih := lsN_bit (la := la) (goal := goal) (k := k) n
    rw [lsN]
    by_cases c : n ≠ goal ∧ la n ≠ -1
    · rw [if_pos c, set_bit, Bool.or_eq_true, ih, decide_eq_true_eq]
      constructor
      · rintro (⟨p, a, b⟩ | z)
        · exact ⟨p, by omega, b⟩
        · exact ⟨n, by omega, c.1, c.2, z.symm⟩
      · rintro ⟨p, a, b, b2, b3⟩
        by_cases e : p = n
        · rw [e] at b3; exact Or.inr b3.symm
        · exact Or.inl ⟨p, by omega, b, b2, b3⟩
    · rw [if_neg c, ih]
      constructor
      · rintro ⟨p, a, b⟩; exact ⟨p, by omega, b⟩
      · rintro ⟨p, a, b, b2, b3⟩
        by_cases e : p = n
        · rw [e] at b b2; exact absurd ⟨b, b2⟩ c
        · exact ⟨p, by omega, b, b2, b3⟩
theorem laN_F {F L : Nat → Nat} {p : Nat} : ∀ {n : Nat}, laN F L p n ≠ -1 → 0 ≤ laN F L p n ∧ F (laN F L p n).toNat = p
  | 0, h => by simp [laN] at h
  | n + 1, h => by
    rw [laN] at h ⊢
    by_cases c : F (L n) = p
    · rw [if_pos c]
      exact ⟨by omega, by rw [Int.toNat_natCast]; exact c⟩
    · rw [if_neg c] at h ⊢
      exact laN_F h
theorem laN_congr {F L L' : Nat → Nat} {p : Nat} : ∀ {n : Nat}, (∀ i, i < n → L i = L' i) → laN F L p n = laN F L' p n
  | 0, _ => rfl
  | n + 1, h => by
    rw [laN, laN, laN_congr (n := n) (fun i hi => h i (by omega)), h n (by omega)]
theorem llM_congr {F : Nat → Nat} {A en : Nat} {S S' : Nat → Nat} : ∀ {n : Nat}, (∀ i, i < n → S i = S' i) → llM F A en S n = llM F A en S' n
  | 0, _ => rfl
  | n + 1, h => by
    rw [llM, llM, llM_congr (n := n) (fun i hi => h i (by omega)), h n (by omega)]
/-- the lasts of a walk, both ways -/
theorem ll_eq {F : Nat → Nat} {A goal : Nat} {l : List Nat} {S : Nat → Nat} (hF : ∀ j, j < A → F j < 8) (hS : ∀ i, i < A → S i < A) (hl : ∀ i, i < A → l.getD i 0 = S i) : llN F goal A l = llM F A goal S A := by
  unfold llN
  apply nat_ext
  · intro k hk
    obtain ⟨p, a1, a2, a3, a4⟩ := (lsN_bit 8).mp hk
    rw [laN_congr hl] at a3 a4
    obtain ⟨b1, b2⟩ := laN_F a3
    rw [llM_bit A hS, decide_eq_true_eq]
    rw [a4] at b2
    rw [b2]
    exact ⟨a2, by omega⟩
  · intro k hk
    rw [llM_bit A hS, decide_eq_true_eq] at hk
    have hkA : k < A := by
      have : ∀ m, m ≤ A → laN F S (F k) m = (k : Int) → k < A := fun m => by
        induction m with
        | zero => intro _ q; simp only [laN] at q; omega
        | succ m ih =>
          intro hm q
          rw [laN] at q
          split at q
          · have := hS m (by omega); omega
          · exact ih (by omega) q
      exact this A (Nat.le_refl _) hk.2
    rw [lsN_bit]
    refine ⟨F k, hF k hkA, hk.1, ?_, ?_⟩
    · rw [laN_congr hl, hk.2]; omega
    · rw [laN_congr hl, hk.2]; rfl
