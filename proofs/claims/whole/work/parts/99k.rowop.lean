/-! one row added to another -/
theorem dt_addrow {cs U : List Nat} {R : Nat → Nat → Int} {p q : Nat} (hU : U.Nodup) (hp : p ∈ U) (hq : q ∈ U) (hpq : p ≠ q) : dtL cs (U.map (fun x j => if x = p then R p j + R q j else R x j)) = dtL cs (U.map R) := by
  obtain ⟨l1, l2, e⟩ := List.append_of_mem hp
  have hn1 : ∀ x, x ∈ l1 → x ≠ p := fun x hx z => by
    rw [e] at hU
    exact (List.nodup_append.mp hU).2.2 x hx p (by simp) z
  have hn2 : ∀ x, x ∈ l2 → x ≠ p := fun x hx z => by
    rw [e] at hU
    have := (List.nodup_cons.mp (List.nodup_append.mp hU).2.1).1
    exact this (z ▸ hx)
  have e1 : U.map (fun x j => if x = p then R p j + R q j else R x j) = l1.map R ++ (fun j => 1 * R p j + 1 * R q j) :: l2.map R := by
    rw [e, List.map_append, List.map_cons]
    congr 1
    · exact List.map_congr_left (fun x hx => by funext j; rw [if_neg (hn1 x hx)])
    · congr 1
      · funext j; rw [if_pos rfl, Int.one_mul, Int.one_mul]
      · exact List.map_congr_left (fun x hx => by funext j; rw [if_neg (hn2 x hx)])
  have e2 : U.map R = l1.map R ++ R p :: l2.map R := by rw [e, List.map_append, List.map_cons]
  rw [e1, e2, dt_row (R p) (R q) 1 1]
  have hz : dtL cs (l1.map R ++ R q :: l2.map R) = 0 := by
    rw [e] at hq
    rcases List.mem_append.mp hq with hq | hq
    · obtain ⟨m1, m2, em⟩ := List.append_of_mem hq
      rw [em, List.map_append, List.map_cons]
      have := dt_same (cs := cs) (a := R q) (m2.map R) (m1.map R) (l2.map R)
      simp only [List.append_assoc, List.cons_append] at this ⊢
      exact this
    · rcases List.mem_cons.mp hq with hq | hq
      · exact absurd hq.symm hpq
      · obtain ⟨m1, m2, em⟩ := List.append_of_mem hq
        rw [em, List.map_append, List.map_cons]
        exact dt_same (cs := cs) (a := R q) (m1.map R) (l1.map R) (m2.map R)
  rw [hz]
  omega
/-- a row that is nothing -/
theorem dt_nulrow {cs U : List Nat} {R : Nat → Nat → Int} {p : Nat} (hp : p ∈ U) (h : ∀ c, c ∈ cs → R p c = 0) : dtL cs (U.map R) = 0 := by
  rw [dt_ext (cs := cs) (us := U) (R := R) (R' := fun x j => if x = p then 0 else R x j) (fun x _ c hc => by
    by_cases z : x = p
    · rw [if_pos z, z]; exact h c hc
    · rw [if_neg z])]
  obtain ⟨l1, l2, e⟩ := List.append_of_mem hp
  rw [e, List.map_append, List.map_cons, show (fun j => if p = p then (0 : Int) else R p j) = fun _ => 0 by funext j; rw [if_pos rfl]]
  exact dt_zrow
/-- rows of one each -/
theorem dt_unit : ∀ {U : List Nat}, U.Nodup → dtL U (U.map (fun p j => if p = j then 1 else 0)) = 1
  | [], _ => rfl
  | u :: U, h => by
    have hn := List.nodup_cons.mp h
    rw [List.map_cons, dt_head (fun r hr => by
      obtain ⟨p, hp, rfl⟩ := List.mem_map.mp hr
      show (if p = u then (1 : Int) else 0) = 0
      rw [if_neg (fun z : p = u => hn.1 (z ▸ hp))]), if_pos rfl, dt_unit hn.2]
    rfl
