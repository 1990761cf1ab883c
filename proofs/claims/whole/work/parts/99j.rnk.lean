/-! the one of a rank in a list -/
theorem tf_some {l : List Nat} {z : Int} : ∀ {r i x : Nat}, tfN l z r i = some x → ∃ j, i ≤ j ∧ j < i + r ∧ x = l.getD j 0 ∧ (ahJ l x l.length : Int) = z
  | 0, i, x, h => by simp [tfN] at h
  | r + 1, i, x, h => by
    rw [tfN] at h
    split at h
    · next c =>
      simp only [Option.some.injEq] at h
      exact ⟨i, by omega, by omega, h.symm, by rw [← h]; exact c⟩
    · obtain ⟨j, a, b, c⟩ := tf_some h
      exact ⟨j, by omega, by omega, c⟩
theorem tf_none {l : List Nat} {z : Int} : ∀ {r i : Nat}, tfN l z r i = none → ∀ j, i ≤ j → j < i + r → (ahJ l (l.getD j 0) l.length : Int) ≠ z
  | 0, i, _, j, a, b => by omega
  | r + 1, i, h, j, a, b => by
    rw [tfN] at h
    split at h
    · simp at h
    · next c =>
      by_cases e : j = i
      · rw [e]; exact c
      · exact tf_none h j (by omega) (by omega)
theorem ahJ_mono {l : List Nat} {x y : Nat} (hxy : x ≤ y) : ∀ n, ahJ l x n ≤ ahJ l y n
  | 0 => Nat.le_refl _
  | n + 1 => by
    have := ahJ_mono (l := l) hxy n
    simp only [ahJ]
    split <;> split <;> omega
theorem ahJ_lt {l : List Nat} {x y j : Nat} (hxy : x < y) (hj : l.getD j 0 = x) : ∀ n, j < n → ahJ l x n < ahJ l y n
  | 0, h => by omega
  | n + 1, h => by
    simp only [ahJ]
    by_cases c : j = n
    · have := ahJ_mono (l := l) (Nat.le_of_lt hxy) n
      rw [← c, hj, if_neg (by omega), if_pos hxy]
      rw [← c] at this
      omega
    · have := ahJ_lt hxy hj n (by omega)
      split <;> split <;> omega
theorem mem_getD {l : List Nat} {x : Nat} (h : x ∈ l) : ∃ j, j < l.length ∧ l.getD j 0 = x := by
  obtain ⟨j, hj, e⟩ := List.getElem_of_mem h
  exact ⟨j, hj, by rw [List.getD_eq_getElem?_getD, List.getElem?_eq_getElem hj]; exact e⟩
/-- an element of a list is told by its rank -/
theorem tf_mem {l : List Nat} {x : Nat} (h : x ∈ l) : tfN l (ahJ l x l.length) l.length 0 = some x := by
  obtain ⟨j, hj, e⟩ := mem_getD h
  cases ht : tfN l (ahJ l x l.length) l.length 0 with
  | none =>
    have := tf_none ht j (by omega) (by omega)
    rw [e] at this
    exact absurd rfl this
  | some y =>
    obtain ⟨i, a, b, c, d⟩ := tf_some ht
    have hc : ahJ l y l.length = ahJ l x l.length := by omega
    rcases Nat.lt_trichotomy x y with q | q | q
    · have := ahJ_lt q e l.length hj
      omega
    · rw [q]
    · have := ahJ_lt q c.symm l.length (by omega)
      omega
/-- and only so -/
theorem tf_iff {l : List Nat} {z : Int} {x : Nat} : tfN l z l.length 0 = some x ↔ x ∈ l ∧ (ahJ l x l.length : Int) = z := by
  constructor
  · intro h
    obtain ⟨j, a, b, c, d⟩ := tf_some h
    refine ⟨?_, d⟩
    rw [c, List.getD_eq_getElem?_getD, List.getElem?_eq_getElem (by omega)]
    exact List.getElem_mem _
  · rintro ⟨h1, h2⟩
    rw [← h2]
    exact tf_mem h1
