/-! rows of a choice: each point's own column, less the one it goes to -/
def fnR (f : Nat → Nat) (p j : Nat) : Int := (if p = j then 1 else 0) - (if f p = j then 1 else 0)
theorem fn_step {U : List Nat} {f : Nat → Nat} {p : Nat} (hU : U.Nodup) (hp : p ∈ U) (hf : f p ∈ U) (hn : f p ≠ p) : dtL U (U.map (fnR f)) = dtL U (U.map (fnR (upN f p (f (f p))))) := by
  rw [← dt_addrow (R := fnR f) hU hp hf (fun z => hn z.symm)]
  refine dt_ext (fun x _ c _ => ?_)
  unfold fnR upN
  by_cases z : x = p
  · rw [if_pos z, if_pos z, z]
    omega
  · rw [if_neg z, if_neg z]
theorem fn_loop {U : List Nat} {f : Nat → Nat} {p : Nat} (hp : p ∈ U) (hf : f p = p) : dtL U (U.map (fnR f)) = 0 :=
  dt_nulrow hp (fun c _ => by unfold fnR; rw [hf]; omega)
theorem fn_out {U : List Nat} {f : Nat → Nat} (hU : U.Nodup) (hf : ∀ p, p ∈ U → ¬ f p ∈ U) : dtL U (U.map (fnR f)) = 1 := by
  rw [← dt_unit hU]
  refine dt_ext (fun x hx c hc => ?_)
  unfold fnR
  rw [if_neg (show ¬ f x = c from fun z => hf x hx (z ▸ hc))]
  omega
