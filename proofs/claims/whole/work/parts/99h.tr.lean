/-! TREES, told -/
theorem chM_lt {F T : Nat → Nat} {A r : Nat} (hA : A ≤ 16) : ∀ (m p S : Nat), S < 65536 → ∀ x, x ∈ chM F T A r m p S → x < 65536
  | 0, p, S, hS, x, hx => by
    rw [chM] at hx
    split at hx
    · simp only [List.mem_cons, List.not_mem_nil, or_false] at hx
      rw [hx]; exact hS
    · simp at hx
  | m + 1, p, S, hS, x, hx => by
    rw [chM] at hx
    split at hx
    · exact chM_lt hA m (p + 1) S hS x hx
    · obtain ⟨k, hk, hx⟩ := List.mem_flatMap.mp hx
      have hkA := List.mem_range.mp hk
      split at hx
      · exact chM_lt hA m (p + 1) _ (set_lt (n := 16) hS (by omega)) x hx
      · simp at hx
/-- arcs of a tree are out of points told so far, one each -/
theorem chM_has {F T : Nat → Nat} {A r : Nat} : ∀ (m p S : Nat) (x : Nat), x ∈ chM F T A r m p S → ∀ k, S.testBit k = true → x.testBit k = true
  | 0, p, S, x, hx, k, hk => by
    rw [chM] at hx
    split at hx
    · simp only [List.mem_cons, List.not_mem_nil, or_false] at hx
      rw [hx]; exact hk
    · simp at hx
  | m + 1, p, S, x, hx, k, hk => by
    rw [chM] at hx
    split at hx
    · exact chM_has m (p + 1) S x hx k hk
    · obtain ⟨j, hj, hx⟩ := List.mem_flatMap.mp hx
      split at hx
      · exact chM_has m (p + 1) _ x hx k (by rw [set_bit, hk, Bool.true_or])
      · simp at hx
/-- nothing but what is chosen -/
theorem chM_only {F T : Nat → Nat} {A r : Nat} : ∀ (m p S : Nat) (x : Nat), x ∈ chM F T A r m p S → ∀ k, x.testBit k = true → S.testBit k = true ∨ (k < A ∧ p ≤ F k)
  | 0, p, S, x, hx, k, hk => by
    rw [chM] at hx
    split at hx
    · simp only [List.mem_cons, List.not_mem_nil, or_false] at hx
      rw [hx] at hk; exact Or.inl hk
    · simp at hx
  | m + 1, p, S, x, hx, k, hk => by
    rw [chM] at hx
    split at hx
    · rcases chM_only m (p + 1) S x hx k hk with z | z
      · exact Or.inl z
      · exact Or.inr ⟨z.1, by omega⟩
    · obtain ⟨j, hj, hx⟩ := List.mem_flatMap.mp hx
      have hjA := List.mem_range.mp hj
      split at hx
      · next c =>
        rcases chM_only m (p + 1) _ x hx k hk with z | z
        · rw [set_bit, Bool.or_eq_true, decide_eq_true_eq] at z
          rcases z with z | z
          · exact Or.inl z
          · rw [z]; exact Or.inr ⟨hjA, by omega⟩
        · exact Or.inr ⟨z.1, by omega⟩
      · simp at hx
theorem nodup_fm {f : Nat → List Nat} : ∀ {n : Nat}, (∀ k, k < n → (f k).Nodup) → (∀ j k, j < k → k < n → ∀ x, x ∈ f j → ¬ x ∈ f k) → ((List.range n).flatMap f).Nodup
  | 0, _, _ => by simp
  | n + 1, h1, h2 => by
    rw [fm_s, List.nodup_append]
    refine ⟨nodup_fm (fun k hk => h1 k (by omega)) (fun j k a b => h2 j k a (by omega)), h1 n (by omega), fun x hx y hy e => ?_⟩
    obtain ⟨j, hj, hx⟩ := List.mem_flatMap.mp hx
    have hjn := List.mem_range.mp hj
    exact h2 j n hjn (by omega) x hx (by rw [e]; exact hy)
/-- no tree is told twice -/
theorem chM_nd {F T : Nat → Nat} {A r : Nat} : ∀ (m p S : Nat), (∀ k, S.testBit k = true → F k < p) → (chM F T A r m p S).Nodup
  | 0, p, S, _ => by
    rw [chM]
    split <;> simp
  | m + 1, p, S, h => by
    rw [chM]
    split
    · exact chM_nd m (p + 1) S (fun k hk => by have := h k hk; omega)
    · refine nodup_fm (fun k hk => ?_) (fun j k hjk hk x hx hx2 => ?_)
      · split
        · next c => exact chM_nd m (p + 1) _ (fun i hi => by
            rw [set_bit, Bool.or_eq_true, decide_eq_true_eq] at hi
            rcases hi with hi | hi
            · have := h i hi; omega
            · rw [hi]; omega)
        · simp
      · split at hx
        · next c =>
          split at hx2
          · next c2 =>
            have h1 := chM_has _ _ _ x hx j (by rw [set_bit, decide_eq_true rfl, Bool.or_true])
            rcases chM_only _ _ _ x hx2 j h1 with z | z
            · rw [set_bit, Bool.or_eq_true, decide_eq_true_eq] at z
              rcases z with z | z
              · have := h j z; omega
              · omega
            · omega
          · simp at hx2
        · simp at hx
