/-! reading doesn't look at what it hasn't read -/
def SpE (s s' : PS) : Prop := s.1 = s'.1 ∧ s.2.1 = s'.2.1 ∧ s.2.2.2 = s'.2.2.2 ∧ (s.2.1 = 3 → s = s')
theorem acc_sp {tk : Int} {s s' : PS} (h : SpE s s') : (accN tk s).1 = (accN tk s').1 ∧ SpE (accN tk s).2 (accN tk s').2 := by
  obtain ⟨rows, aw, sp, N, nm⟩ := s
  obtain ⟨rows', aw', sp', N', nm'⟩ := s'
  obtain ⟨h1, h2, h3, h4⟩ := h
  simp only [Prod.mk.injEq] at h1 h2 h3
  obtain ⟨h3a, h3b⟩ := h3
  subst h1 h2 h3a h3b
  by_cases c3 : aw = 3
  · rw [h4 c3]
    exact ⟨rfl, rfl, rfl, rfl, fun _ => rfl⟩
  unfold accN accRow accName accPoint
  simp only
  by_cases c0 : aw = 0
  · rw [if_pos c0, if_pos c0]
    split
    · exact ⟨rfl, rfl, rfl, rfl, fun z => absurd z (by show ¬ (1 : Int) = 3; omega)⟩
    · split
      · exact ⟨rfl, rfl, rfl, rfl, fun z => absurd z (by show ¬ (2 : Int) = 3; omega)⟩
      · exact ⟨rfl, rfl, rfl, rfl, fun z => absurd z c3⟩
  · rw [if_neg c0, if_neg c0]
    by_cases c1 : aw = 1
    · rw [if_pos c1, if_pos c1]
      split
      · exact ⟨rfl, rfl, rfl, rfl, fun z => absurd z c3⟩
      · split
        · exact ⟨rfl, rfl, rfl, rfl, fun z => absurd z c3⟩
        · exact ⟨rfl, rfl, rfl, rfl, fun z => absurd z (by show ¬ (4 : Int) = 3; omega)⟩
    · rw [if_neg c1, if_neg c1]
      by_cases c2 : aw = 2
      · rw [if_pos (Or.inl c2), if_pos (Or.inl c2)]
        split
        · exact ⟨rfl, rfl, rfl, rfl, fun z => absurd z c3⟩
        · split
          · exact ⟨rfl, rfl, rfl, rfl, fun z => absurd z c3⟩
          · exact ⟨rfl, rfl, rfl, rfl, fun _ => rfl⟩
      · have c23 : ¬ (aw = 2 ∨ aw = 3) := fun z => z.elim c2 c3
        rw [if_neg c23, if_neg c23]
        split
        · exact ⟨rfl, rfl, rfl, rfl, fun z => absurd z (by show ¬ (0 : Int) = 3; omega)⟩
        · exact ⟨rfl, rfl, rfl, rfl, fun z => absurd z c3⟩
theorem pz_sp {B : Nat → Nat} {n : Nat} : ∀ {r i : Nat} {s s' : PS}, SpE s s' → (pzN B n r i s).1 = (pzN B n r i s').1 ∧ (pzN B n r i s).2.1 = (pzN B n r i s').2.1 ∧ SpE (pzN B n r i s).2.2 (pzN B n r i s').2.2
  | 0, i, s, s', h => ⟨rfl, rfl, h⟩
  | r + 1, i, s, s', h => by
    have ha := acc_sp (tk := tkN B n (skN B n (n - i) i)) h
    rw [pzN, pzN]
    by_cases c1 : 500 < n ∧ 500 ≤ skN B n (n - i) i
    · rw [if_pos c1, if_pos c1]
      exact ⟨rfl, rfl, h⟩
    · rw [if_neg c1, if_neg c1]
      by_cases c2 : n ≤ skN B n (n - i) i
      · rw [if_pos c2, if_pos c2, ← h.2.1]
        by_cases c3 : s.2.1 = 0
        · rw [if_pos c3, if_pos c3]
          exact ⟨h.1, rfl, h⟩
        · rw [if_neg c3, if_neg c3]
          exact ⟨rfl, rfl, h⟩
      · rw [if_neg c2, if_neg c2, ← ha.1]
        by_cases c3 : (accN (tkN B n (skN B n (n - i) i)) s).1 = 0
        · rw [if_pos c3, if_pos c3]
          exact pz_sp ha.2
        · rw [if_neg c3, if_neg c3]
          exact ⟨rfl, rfl, ha.2⟩
