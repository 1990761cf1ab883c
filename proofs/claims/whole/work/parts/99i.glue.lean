/-! the table serves -/
theorem wyO_ok {P A how tr : Nat} {F T : Nat → Nat} (hP : P ≤ 8) (hA : A ≤ 16) (h : ∀ j, j < A → F j < P ∧ T j < P) (hs : shapeN P A F T ≠ 0) : WyO P A F T how tr (wyW F T A (endN P A F T (shapeN P A F T) 1) (mgN how F T A (endN P A F T (shapeN P A F T) (-1)) tr)) := by
  have hg := shp_StG hP hA h hs
  refine ⟨wy_ok (fun j hj => (hg.2.2.2.1 j hj).2), fun t ht => ?_⟩
  have := wy_b (how := how) (e := endN P A F T (shapeN P A F T) (-1)) (tr := tr) hg ht
  omega
theorem wc_le {P A : Nat} {F T : Nat → Nat} (hP : P ≤ 8) (hA : A ≤ 16) (h : ∀ j, j < A → F j < P ∧ T j < P) : 0 ≤ wcN P A F T ∧ wcN P A F T ≤ 281474976710656 := by
  unfold wcN
  split
  · omega
  · next hs =>
    have e2 := end_lt h hs (-1) (Or.inr rfl)
    have := tr_le (F := F) (T := T) hA (fun j hj => by have := h j hj; omega) (if shapeN P A F T = 1 then clrB (allB A) 0 else allB A) (endN P A F T (shapeN P A F T) (-1)) (by omega)
    omega
/-- both say the same number of walks -/
theorem wc_same {P A e : Nat} {F T : Nat → Nat} (hP : P ≤ 8) (hA : A ≤ 16) (h : ∀ j, j < A → F j < P ∧ T j < P) : wcN P A F T = if shapeN P A F T = 0 then 0 else wyW F T A (endN P A F T (shapeN P A F T) 1) (mgN 0 F T A e 0) (begN P A F T) := by
  by_cases hs : shapeN P A F T = 0
  · rw [if_pos hs, wcN, if_pos hs]
  · rw [if_neg hs]
    exact wc_wy hP hA h hs
theorem wc_pos {P A : Nat} {F T : Nat → Nat} (h : 0 < wcN P A F T) : shapeN P A F T ≠ 0 := fun z => by
  rw [wcN, if_pos z] at h
  omega
