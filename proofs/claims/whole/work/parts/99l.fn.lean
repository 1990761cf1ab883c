/-! rows of a choice: each point's own column, less the one it goes to -/
def fnR (f : Nat → Nat) (p j : Nat) : Int := (if p = j then 1 else 0) - (if f p = j then 1 else 0)
theorem fn_step {U : List Nat} {f : Nat → Nat} {p : Nat} (hU : U.Nodup) (hp : p ∈ U) (hf : f p ∈ U) (hn : f p ≠ p) : dtL U (U.map (fnR f)) = dtL U (U.map (fnR (upN f p (f (f p))))) := by
  rw [← dt_addrow (R := fnR f) hU hp hf (fun z => hn z.symm)]
  refine dt_ext (fun x _ c _ => ?_)
  unfold fnR upN
  by_cases z : x = p
  · rw [if_pos z, if_pos z, z]
    omega
  · rw [if_neg z, if_neg z]
theorem fn_loop {U : List Nat} {f : Nat → Nat} {p : Nat} (hp : p ∈ U) (hf : f p = p) : dtL U (U.map (fnR f)) = 0 :=
  dt_nulrow hp (fun c _ => by unfold fnR; rw [hf]; omega)
theorem fn_out {U : List Nat} {f : Nat → Nat} (hU : U.Nodup) (hf : ∀ p, p ∈ U → ¬ f p ∈ U) : dtL U (U.map (fnR f)) = 1 := by
  rw [← dt_unit hU]
  refine dt_ext (fun x hx c hc => ?_)
  unfold fnR
  rw [if_neg (show ¬ f x = c from fun z => hf x hx (z ▸ hc))]
  omega
/-- a point's row is the sum of its arcs' rows -/
theorem lq_sum {S : Nat → Bool} {F T : Nat → Nat} {p j : Nat} : ∀ A, lqN (fun p q => ldW S F T p q A) (fun p => ldO S F p A) p j = smN (fun k => (if S k = true ∧ F k = p then 1 else 0) * ((if p = j then 1 else 0) - (if T k = j then 1 else 0))) A
  | 0 => by simp [lqN, ldW, ldO, smN]
  | A + 1 => by
    have ih := lq_sum (S := S) (F := F) (T := T) (p := p) (j := j) A
    simp only [smN]
    rw [← ih]
    unfold lqN
    simp only [ldW, ldO]
    by_cases c1 : S A = true ∧ F A = p
    · by_cases c2 : T A = j
      · by_cases c3 : p = j
        · simp only [if_pos c1, if_pos c2, if_pos c3, if_pos (show S A = true ∧ F A = p ∧ T A = j from ⟨c1.1, c1.2, c2⟩)]; omega
        · simp only [if_pos c1, if_pos c2, if_neg c3, if_pos (show S A = true ∧ F A = p ∧ T A = j from ⟨c1.1, c1.2, c2⟩)]; omega
      · by_cases c3 : p = j
        · simp only [if_pos c1, if_neg c2, if_pos c3, if_neg (show ¬ (S A = true ∧ F A = p ∧ T A = j) from fun z => c2 z.2.2)]; omega
        · simp only [if_pos c1, if_neg c2, if_neg c3, if_neg (show ¬ (S A = true ∧ F A = p ∧ T A = j) from fun z => c2 z.2.2)]; omega
    · have c4 : ¬ (S A = true ∧ F A = p ∧ T A = j) := fun z => c1 ⟨z.1, z.2.1⟩
      simp only [if_neg c1, if_neg c4]
      by_cases c3 : p = j
      · simp only [if_pos c3]; omega
      · simp only [if_neg c3]; omega
