/-! THE MATRIX TREE THEOREM -/
/-- every point of a list comes out of it -/
def GdF (U : List Nat) (f : Nat → Nat) : Prop := ∃ ρ : Nat → Nat, ∀ p, p ∈ U → ¬ f p ∈ U ∨ ρ (f p) < ρ p
def jmF (f : Nat → Nat) (u q : Nat) : Nat := if f q = u then f u else f q
theorem GdF.down {U : List Nat} {f : Nat → Nat} {u : Nat} (hu : ¬ u ∈ U) (h : GdF (u :: U) f) : f u ≠ u ∧ GdF U (jmF f u) := by
  obtain ⟨ρ, hρ⟩ := h
  have h1 := hρ u (by simp)
  have hne : f u ≠ u := fun z => by
    rcases h1 with h1 | h1
    · exact h1 (by rw [z]; simp)
    · rw [z] at h1; omega
  refine ⟨hne, ρ, fun q hq => ?_⟩
  have h2 := hρ q (by simp [hq])
  unfold jmF
  by_cases c : f q = u
  · rw [if_pos c]
    rw [c] at h2
    rcases h1 with h1 | h1
    · exact Or.inl (fun z => h1 (by simp [z]))
    · rcases h2 with h2 | h2
      · exact absurd (by simp) h2
      · exact Or.inr (by omega)
  · rw [if_neg c]
    rcases h2 with h2 | h2
    · exact Or.inl (fun z => h2 (by simp [z]))
    · exact Or.inr h2
theorem GdF.up {U : List Nat} {f : Nat → Nat} {u : Nat} (_hu : ¬ u ∈ U) (hne : f u ≠ u) (h : GdF U (jmF f u)) : GdF (u :: U) f := by
  obtain ⟨ρ, hρ⟩ := h
  refine ⟨fun q => if q = u then (if f u ∈ U then 2 * ρ (f u) + 3 else 0) else 2 * ρ q + 2, fun q hq => ?_⟩
  rcases List.mem_cons.mp hq with hq | hq
  · rw [hq]
    by_cases c : f u ∈ U
    · exact Or.inr (by simp only [if_neg hne, if_pos c, ↓reduceIte]; omega)
    · refine Or.inl (fun z => ?_)
      rcases List.mem_cons.mp z with z | z
      · exact hne z
      · exact c z
  · have hqu : q ≠ u := fun z => _hu (z ▸ hq)
    have h1 := hρ q hq
    unfold jmF at h1
    by_cases c : f q = u
    · rw [if_pos c] at h1
      refine Or.inr ?_
      simp only [if_pos c, if_neg hqu]
      rcases h1 with h1 | h1
      · rw [if_neg h1]; omega
      · split <;> omega
    · rw [if_neg c] at h1
      simp only [if_neg c, if_neg hqu]
      rcases h1 with h1 | h1
      · refine Or.inl (fun z => ?_)
        rcases List.mem_cons.mp z with z | z
        · exact c z
        · exact h1 z
      · exact Or.inr (by omega)
theorem fn_det : ∀ {U : List Nat} {f : Nat → Nat}, U.Nodup → (GdF U f → dtL U (U.map (fnR f)) = 1) ∧ (¬ GdF U f → dtL U (U.map (fnR f)) = 0)
  | [], f, _ => ⟨fun _ => rfl, fun h => absurd ⟨fun _ => 0, fun p hp => absurd hp (by simp)⟩ h⟩
  | u :: U, f, hU => by
    have hn := List.nodup_cons.mp hU
    by_cases c : f u = u
    · refine ⟨fun h => absurd c (GdF.down hn.1 h).1, fun _ => fn_loop (by simp) c⟩
    · have e : dtL (u :: U) ((u :: U).map (fnR f)) = dtL U (U.map (fnR (jmF f u))) := by
        have h1 : fnR f u u = 1 := by unfold fnR; rw [if_pos rfl, if_neg c]; rfl
        have := dt_chio (c0 := u) (cs := U) (r0 := fnR f u) (rs := U.map (fnR f))
        rw [h1, Int.one_pow, Int.one_mul, Int.one_mul, List.map_map] at this
        rw [List.map_cons, this]
        refine dt_ext (fun q hq j hj => ?_)
        have hqu : q ≠ u := fun z => hn.1 (z ▸ hq)
        have hju : u ≠ j := fun z => hn.1 (z ▸ hj)
        show 1 * fnR f q j + -fnR f q u * fnR f u j = fnR (jmF f u) q j
        unfold fnR jmF
        rw [if_neg hqu, if_neg hju]
        by_cases c2 : f q = u
        · rw [if_pos c2, if_pos c2, if_neg (fun z => hju (c2.symm.trans z))]
          omega
        · rw [if_neg c2, if_neg c2]
          omega
      have ih := fn_det (f := jmF f u) hn.2
      rw [e]
      exact ⟨fun h => ih.1 (GdF.down hn.1 h).2, fun h => ih.2 (fun z => h (GdF.up hn.1 c z))⟩
theorem least_ex {X : Nat → Prop} (h : ∃ n, X n) : ∃ n, X n ∧ ∀ m, m < n → ¬ X m := by
  obtain ⟨n, hn⟩ := h
  induction n using Nat.strongRecOn with
  | ind n ih =>
    by_cases c : ∃ m, m < n ∧ X m
    · obtain ⟨m, hm, hx⟩ := c
      exact ih m hm hx
    · exact ⟨n, hn, fun m hm hx => c ⟨m, hm, hx⟩⟩
/-- along a choice, so many steps -/
def itF (f : Nat → Nat) : Nat → Nat → Nat
  | 0, p => p
  | n + 1, p => itF f n (f p)
/-- a set of arcs, one out of each point of a list: it leads to the root if every point comes out -/
theorem it_gd {F T : Nat → Nat} {A r acc : Nat} {f : Nat → Nat} (hj : ∀ j, j < A → F j < 8 ∧ T j < 8) (hr8 : r < 8) (hr : (usedN F T A).testBit r = true)
    (h1 : ∀ k, acc.testBit k = true → k < A ∧ F k ≠ r ∧ T k = f (F k)) (h2 : ∀ q, q ≠ r → (usedN F T A).testBit q = true → ∃ k, acc.testBit k = true ∧ F k = q) :
    itB F T A r acc = true ↔ GdF (plL r (fun p => (usedN F T A).testBit p) 8) f := by
  have hj8 : ∀ j, j < A → F j < 8 ∧ tsT acc F T j < 8 := fun j q => by
    have := hj j q
    unfold tsT
    split <;> omega
  have hfix := sprI_fix (f := false) (b := true) (r := 8) (s := 2 ^ r) hj8 (Nat.pow_lt_pow_right (by decide) hr8) (by rw [pc_pow hr8]; exact Nat.le_refl _)
  have u8 : ∀ q, (usedN F T A).testBit q = true → q < 8 := fun q hq => by
    obtain ⟨j, a, b⟩ := used_bit.mp hq
    have := hj j a
    omega
  have hsub : ∀ i, (sprI false true F (tsT acc F T) A 8 (2 ^ r)).testBit i = true → (usedN F T A).testBit i = true := by
    refine sprI_min (X := fun i => (usedN F T A).testBit i) (fun j q => ⟨fun z => absurd z (by decide), fun _ _ => used_bit.mpr ⟨j, q, Or.inl rfl⟩⟩) (fun i hi => ?_)
    have : i = r := by
      rw [Nat.testBit_two_pow] at hi
      exact (show r = i by simpa using hi).symm
    rw [this]; exact hr
  have hfu : ∀ q, q ≠ r → (usedN F T A).testBit q = true → (usedN F T A).testBit (f q) = true := fun q a b => by
    obtain ⟨k, c, e⟩ := h2 q a b
    obtain ⟨x, y, z⟩ := h1 k c
    rw [← e, ← z]
    exact used_bit.mpr ⟨k, x, Or.inr rfl⟩
  constructor
  · intro h
    have he : sprI false true F (tsT acc F T) A 8 (2 ^ r) = usedN F T A := of_decide_eq_true h
    have hall : ∀ i, (usedN F T A).testBit i = true → ∃ n, itF f n i = r := by
      intro i hi
      rw [← he] at hi
      have := sprI_min (X := fun i => @decide (∃ n, itF f n i = r) (Classical.propDecidable _)) (f := false) (b := true) (F := F) (T := tsT acc F T) (A := A) (fun j q => ⟨fun z => absurd z (by decide), fun _ hx => by
        simp only [decide_eq_true_eq] at hx ⊢
        unfold tsT at hx
        cases hb : acc.testBit j with
        | true =>
          rw [if_pos hb] at hx
          obtain ⟨n, hn⟩ := hx
          exact ⟨n + 1, by rw [itF, ← (h1 j hb).2.2]; exact hn⟩
        | false =>
          rw [if_neg (by rw [hb]; decide)] at hx
          exact hx⟩) (r := 8) (s := 2 ^ r) (fun i hi => by
          rw [Nat.testBit_two_pow] at hi
          simp only [decide_eq_true_eq] at hi ⊢
          exact ⟨0, hi.symm⟩) i hi
      simpa using this
    have hall2 : ∀ i, ∃ n, (usedN F T A).testBit i = true → itF f n i = r ∧ ∀ m, m < n → ¬ itF f m i = r := fun i => by
      cases hb : (usedN F T A).testBit i with
      | true =>
        obtain ⟨n, a, b⟩ := least_ex (hall i hb)
        exact ⟨n, fun _ => ⟨a, b⟩⟩
      | false => exact ⟨0, fun z => absurd z (by decide)⟩
    refine ⟨fun i => Classical.choose (hall2 i), fun p hp => ?_⟩
    obtain ⟨q1, q2, q3⟩ := plL_mem.mp hp
    have hf := hfu p q2 q3
    obtain ⟨a1, a2⟩ := Classical.choose_spec (hall2 p) q3
    obtain ⟨b1, b2⟩ := Classical.choose_spec (hall2 (f p)) hf
    right
    show Classical.choose (hall2 (f p)) < Classical.choose (hall2 p)
    generalize Classical.choose (hall2 p) = n at a1 a2 ⊢
    generalize Classical.choose (hall2 (f p)) = m at b1 b2 ⊢
    cases n with
    | zero => exact absurd a1 q2
    | succ n =>
      rw [itF] at a1
      have : ¬ n < m := fun z => b2 n z a1
      omega
  · rintro ⟨ρ, hρ⟩
    refine decide_eq_true (Nat.eq_of_testBit_eq (fun i => ?_))
    have hroot : (sprI false true F (tsT acc F T) A 8 (2 ^ r)).testBit r = true := sprI_sub (by rw [Nat.testBit_two_pow]; simp)
    have main : ∀ n q, ρ q = n → (usedN F T A).testBit q = true → (sprI false true F (tsT acc F T) A 8 (2 ^ r)).testBit q = true := by
      intro n
      induction n using Nat.strongRecOn with
      | ind n ih =>
        intro q hq hu
        by_cases c : q = r
        · rw [c]; exact hroot
        · have hf := hfu q c hu
          obtain ⟨k, c1, e⟩ := h2 q c hu
          obtain ⟨x, y, z⟩ := h1 k c1
          have hin : (sprI false true F (tsT acc F T) A 8 (2 ^ r)).testBit (f q) = true := by
            by_cases c2 : f q = r
            · rw [c2]; exact hroot
            · rcases hρ q (plL_mem.mpr ⟨u8 q hu, c, hu⟩) with w | w
              · exact absurd (plL_mem.mpr ⟨u8 _ hf, c2, hf⟩) w
              · exact ih _ (by omega) (f q) rfl hf
          have := (sprK_cl hfix x).2 rfl (by
            unfold tsT
            rw [if_pos c1, z, e]
            exact hin)
          rw [e] at this
          exact this
    cases hb : (usedN F T A).testBit i with
    | true => exact main _ i rfl hb
    | false =>
      cases hb2 : (sprI false true F (tsT acc F T) A 8 (2 ^ r)).testBit i with
      | false => rfl
      | true => rw [hsub i hb2] at hb; exact absurd hb (by decide)
theorem plL_nd {root : Nat} {S : Nat → Bool} : ∀ p, (plL root S p).Nodup
  | 0 => by simp [plL]
  | p + 1 => by
    rw [plL]
    split
    · rw [List.nodup_append]
      refine ⟨plL_nd p, by simp, fun a ha b hb e => ?_⟩
      have := plL_mem.mp ha
      simp only [List.mem_cons, List.not_mem_nil, or_false] at hb
      omega
    · exact plL_nd p
/-- a set of arcs lies in another -/
def sbB (S : Nat → Bool) (x : Nat) : Bool := (List.range 16).all (fun k => !x.testBit k || S k)
theorem sbB_iff {S : Nat → Bool} {x : Nat} : sbB S x = true ↔ ∀ k, k < 16 → x.testBit k = true → S k = true := by
  unfold sbB
  rw [List.all_eq_true]
  constructor
  · intro h k hk hx
    have := h k (List.mem_range.mpr hk)
    rw [hx] at this
    simpa using this
  · intro h k hk
    cases hb : x.testBit k with
    | false => rfl
    | true => rw [h k (List.mem_range.mp hk) hb]; rfl
theorem cnt_fm {g : Nat → List Nat} {X : Nat → Bool} : ∀ n, ((((List.range n).flatMap g).countP X : Nat) : Int) = smN (fun k => ((g k).countP X : Int)) n
  | 0 => by simp [smN]
  | n + 1 => by
    rw [fm_s, List.countP_append, smN, ← cnt_fm n]
    omega
theorem mt_exp {F T : Nat → Nat} {A P r : Nat} {S : Nat → Bool} (hA : A ≤ 16) (hP : P ≤ 8) (hj : ∀ j, j < A → F j < P ∧ T j < P) (hr8 : r < P) (hr : (usedN F T A).testBit r = true) :
    ∀ (m p acc : Nat) (f : Nat → Nat), p + m = P → (∀ k, acc.testBit k = true → k < A ∧ F k ≠ r ∧ F k < p ∧ T k = f (F k) ∧ S k = true) → (∀ q, q < p → q ≠ r → (usedN F T A).testBit q = true → ∃ k, acc.testBit k = true ∧ F k = q) →
    dtL (plL r (fun p => (usedN F T A).testBit p) 8) ((plL r (fun p => (usedN F T A).testBit p) 8).map (fun q => if q < p then fnR f q else lqN (fun p q => ldW S F T p q A) (fun p => ldO S F p A) q)) = ((chM F T A r m p acc).countP (sbB S) : Int) := by
  have u8 : ∀ q, (usedN F T A).testBit q = true → q < P := fun q hq => by
    obtain ⟨j, a, b⟩ := used_bit.mp hq
    have := hj j a
    omega
  obtain ⟨U, hU⟩ : ∃ U, U = plL r (fun p => (usedN F T A).testBit p) 8 := ⟨_, rfl⟩
  have hm : ∀ q, q ∈ U ↔ q ≠ r ∧ (usedN F T A).testBit q = true := fun q => by
    rw [hU, plL_mem]
    constructor
    · rintro ⟨a, b, c⟩; exact ⟨b, c⟩
    · rintro ⟨b, c⟩; exact ⟨by have := u8 q c; omega, b, c⟩
  have hnd : U.Nodup := by rw [hU]; exact plL_nd 8
  intro m
  induction m with
  | zero =>
    intro p acc f hpm h1 h2
    have e0 : dtL U (U.map (fun q => if q < p then fnR f q else lqN (fun p q => ldW S F T p q A) (fun p => ldO S F p A) q)) = dtL U (U.map (fnR f)) := dt_ext (fun q hq c _ => by
      have := u8 q ((hm q).mp hq).2
      rw [if_pos (by omega)])
    rw [← hU, e0]
    have hit := it_gd (F := F) (T := T) (A := A) (r := r) (acc := acc) (f := f) (fun j q => by have := hj j q; omega) (by omega) hr (fun k hk => by
      obtain ⟨a, b, c, d, e⟩ := h1 k hk
      exact ⟨a, b, d⟩) (fun q a b => h2 q (by have := u8 q b; omega) a b)
    rw [← hU] at hit
    have hfd := fn_det (f := f) hnd
    rw [chM]
    by_cases c : itB F T A r acc = true
    · rw [if_pos c, hfd.1 (hit.mp c), List.countP_cons_of_pos (by
        exact sbB_iff.mpr (fun k _ hk => (h1 k hk).2.2.2.2))]
      rfl
    · rw [if_neg c, hfd.2 (fun z => c (hit.mpr z))]
      rfl
  | succ m ih =>
    intro p acc f hpm h1 h2
    rw [chM]
    by_cases c : p = r ∨ (usedN F T A).testBit p = false
    · rw [if_pos c, ← ih (p + 1) acc f (by omega) (fun k hk => by
        obtain ⟨a, b, c, d⟩ := h1 k hk
        exact ⟨a, b, by omega, d⟩) (fun q hq a b => h2 q (by
          by_cases e : q = p
          · exfalso
            rcases c with c | c
            · exact a (e.trans c)
            · rw [e, c] at b; exact absurd b (by decide)
          · omega) a b), ← hU]
      refine dt_ext (fun q hq j _ => ?_)
      have hqp : q ≠ p := fun z => by
        have := (hm q).mp hq
        rcases c with c | c
        · exact this.1 (z.trans c)
        · rw [z, c] at this; exact absurd this.2 (by decide)
      by_cases z : q < p
      · rw [if_pos z, if_pos (by omega)]
      · rw [if_neg z, if_neg (by omega)]
    · rw [if_neg c, ← hU, cnt_fm]
      have hpr : p ≠ r := fun z => c (Or.inl z)
      have hpu : (usedN F T A).testBit p = true := by
        cases hb : (usedN F T A).testBit p with
        | true => rfl
        | false => exact absurd (Or.inr hb) c
      obtain ⟨l1, l2, e⟩ := List.append_of_mem ((hm p).mpr ⟨hpr, hpu⟩)
      have hn1 : ∀ x, x ∈ l1 → x ≠ p := fun x hx z => by
        rw [e] at hnd
        exact (List.nodup_append.mp hnd).2.2 x hx p (by simp) z
      have hn2 : ∀ x, x ∈ l2 → x ≠ p := fun x hx z => by
        rw [e] at hnd
        exact (List.nodup_cons.mp (List.nodup_append.mp hnd).2.1).1 (z ▸ hx)
      obtain ⟨R, hR⟩ : ∃ R : Nat → Nat → Int, R = fun q => if q < p then fnR f q else lqN (fun p q => ldW S F T p q A) (fun p => ldO S F p A) q := ⟨_, rfl⟩
      rw [← hR]
      have e1 : U.map R = l1.map R ++ (fun j => smN (fun k => (if S k = true ∧ F k = p then 1 else 0) * ((if p = j then 1 else 0) - (if T k = j then 1 else 0))) A) :: l2.map R := by
        rw [e, List.map_append, List.map_cons]
        congr 2
        rw [hR]
        funext j
        simp only [Nat.lt_irrefl, ↓reduceIte]
        exact lq_sum A
      rw [e1, dt_sum (c := fun k => if S k = true ∧ F k = p then 1 else 0) (r := fun k j => (if p = j then 1 else 0) - (if T k = j then 1 else 0))]
      refine smN_congr (fun k hk => ?_)
      by_cases cf : F k = p
      · rw [if_pos cf]
        by_cases cs : S k = true
        · rw [if_pos ⟨cs, cf⟩, Int.one_mul]
          have := ih (p + 1) (acc ||| 2 ^ k) (upN f p (T k)) (by omega) (fun i hi => by
            rw [set_bit, Bool.or_eq_true, decide_eq_true_eq] at hi
            unfold upN
            rcases hi with hi | hi
            · obtain ⟨a, b, c, d⟩ := h1 i hi
              exact ⟨a, b, by omega, by rw [if_neg (by omega)]; exact d⟩
            · rw [hi]
              exact ⟨hk, by rw [cf]; exact hpr, by omega, by rw [if_pos cf], cs⟩) (fun q hq a b => by
            by_cases z : q = p
            · exact ⟨k, by rw [set_bit, decide_eq_true rfl, Bool.or_true], by rw [cf, z]⟩
            · obtain ⟨i, x, y⟩ := h2 q (by omega) a b
              exact ⟨i, by rw [set_bit, x, Bool.true_or], y⟩)
          rw [← this, ← hU]
          congr 1
          rw [e, List.map_append, List.map_cons]
          congr 1
          · refine List.map_congr_left (fun x hx => ?_)
            have := hn1 x hx
            funext j
            rw [hR]
            unfold fnR upN
            by_cases z : x < p
            · simp only [if_pos z, if_pos (show x < p + 1 by omega), if_neg this]
            · simp only [if_neg z, if_neg (show ¬ x < p + 1 by omega)]
          · congr 1
            · funext j
              simp only [fnR, upN, ↓reduceIte, Nat.lt_succ_self]
            · refine List.map_congr_left (fun x hx => ?_)
              have := hn2 x hx
              funext j
              rw [hR]
              unfold fnR upN
              by_cases z : x < p
              · simp only [if_pos z, if_pos (show x < p + 1 by omega), if_neg this]
              · simp only [if_neg z, if_neg (show ¬ x < p + 1 by omega)]
        · rw [if_neg (fun z => cs z.1), Int.zero_mul, List.countP_eq_zero.mpr (fun x hx => by
            have := chM_has _ _ _ x hx k (by rw [set_bit, decide_eq_true rfl, Bool.or_true])
            intro z
            exact cs (sbB_iff.mp z k (by omega) this))]
          rfl
      · rw [if_neg cf, if_neg (fun z => cf z.2), Int.zero_mul]
        rfl
/-- trees within a set of arcs, counted by the determinant -/
theorem tc_cnt {F T : Nat → Nat} {A P r : Nat} (S : Nat → Bool) (hA : A ≤ 16) (hP : P ≤ 8) (hj : ∀ j, j < A → F j < P ∧ T j < P) (hr8 : r < P) (hr : (usedN F T A).testBit r = true) : tcN F T A r S = ((chM F T A r P 0 0).countP (sbB S) : Int) := by
  have hM := net_mat (S := S) (F := F) (T := T) hA (fun j q => by have := hj j q; omega)
  rw [tcN, detR_lm (lap_MTy hM _ r), lap_dt, ← mt_exp (S := S) hA hP hj hr8 hr P 0 0 (fun _ => 0) (by omega) (fun k hk => by simp at hk) (fun q hq => by omega)]
  refine dt_ext (fun q _ c _ => ?_)
  rw [if_neg (by omega)]
/-- a tree has one arc out of each point but the root -/
theorem chM_one {F T : Nat → Nat} {A r : Nat} : ∀ (m p acc x : Nat), x ∈ chM F T A r m p acc → (∀ i k, acc.testBit i = true → acc.testBit k = true → F i = F k → i = k) → (∀ k, acc.testBit k = true → k < A ∧ F k < p ∧ F k ≠ r) → (∀ q, q < p → q ≠ r → (usedN F T A).testBit q = true → ∃ k, acc.testBit k = true ∧ F k = q) →
    (∀ i k, x.testBit i = true → x.testBit k = true → F i = F k → i = k) ∧ (∀ k, x.testBit k = true → k < A ∧ F k < p + m ∧ F k ≠ r) ∧ (∀ q, q < p + m → q ≠ r → (usedN F T A).testBit q = true → ∃ k, x.testBit k = true ∧ F k = q)
  | 0, p, acc, x, hx, h1, h2, h3 => by
    rw [chM] at hx
    split at hx
    · simp only [List.mem_cons, List.not_mem_nil, or_false] at hx
      rw [hx]
      exact ⟨h1, h2, h3⟩
    · simp at hx
  | m + 1, p, acc, x, hx, h1, h2, h3 => by
    rw [chM] at hx
    rw [show p + (m + 1) = p + 1 + m by omega]
    split at hx
    · next c =>
      refine chM_one m (p + 1) acc x hx h1 (fun k hk => by have := h2 k hk; exact ⟨this.1, by omega, this.2.2⟩) (fun q hq a b => h3 q (by
        by_cases e : q = p
        · exfalso
          rcases c with c | c
          · exact a (e.trans c)
          · rw [e, c] at b; exact absurd b (by decide)
        · omega) a b)
    · next c =>
      obtain ⟨j, hj, hx⟩ := List.mem_flatMap.mp hx
      have hjA := List.mem_range.mp hj
      split at hx
      · next cf =>
        refine chM_one m (p + 1) _ x hx (fun i k hi hk e => ?_) (fun k hk => ?_) (fun q hq a b => ?_)
        · rw [set_bit, Bool.or_eq_true, decide_eq_true_eq] at hi hk
          rcases hi with hi | hi
          · rcases hk with hk | hk
            · exact h1 i k hi hk e
            · have := h2 i hi
              rw [e, hk] at this
              omega
          · rcases hk with hk | hk
            · have := h2 k hk
              rw [← e, hi] at this
              omega
            · omega
        · rw [set_bit, Bool.or_eq_true, decide_eq_true_eq] at hk
          rcases hk with hk | hk
          · have := h2 k hk; exact ⟨this.1, by omega, this.2.2⟩
          · rw [hk]; exact ⟨hjA, by omega, fun z => c (Or.inl (by rw [← cf]; exact z))⟩
        · by_cases z : q = p
          · exact ⟨j, by rw [set_bit, decide_eq_true rfl, Bool.or_true], by rw [cf, z]⟩
          · obtain ⟨i, y, w⟩ := h3 q (by omega) a b
            exact ⟨i, by rw [set_bit, y, Bool.true_or], w⟩
      · simp at hx
theorem ahJ_cnt {l : List Nat} {x : Nat} : ahJ l x l.length = l.countP (fun y => decide (y < x)) := by
  have : ∀ n, n ≤ l.length → ahJ l x n = (l.take n).countP (fun y => decide (y < x)) := by
    intro n
    induction n with
    | zero => intro _; simp [ahJ]
    | succ n ih =>
      intro hn
      rw [ahJ, ih (by omega), List.take_succ_eq_append_getElem (by omega), List.countP_append, List.getD_eq_getElem?_getD, List.getElem?_eq_getElem (by omega)]
      simp [List.countP_cons]
  have := this l.length (Nat.le_refl _)
  rw [List.take_length] at this
  exact this
theorem w1_bit {F : Nat → Nat} {al ch i : Nat} : ∀ n, (w1N F al ch n).testBit i = true ↔ al.testBit i = true ∧ ¬ (i < n ∧ i ≠ ch ∧ F i = F ch)
  | 0 => by simp [w1N]
  | n + 1 => by
    have ih := w1_bit (F := F) (al := al) (ch := ch) (i := i) n
    rw [w1N]
    split
    · next c =>
      rw [clrB_bit, Bool.and_eq_true, ih, decide_eq_true_eq]
      constructor
      · rintro ⟨⟨a, b⟩, e⟩
        exact ⟨a, fun z => b ⟨by omega, z.2⟩⟩
      · rintro ⟨a, b⟩
        exact ⟨⟨a, fun z => b ⟨by omega, z.2⟩⟩, fun z => b ⟨by omega, by rw [z]; exact c⟩⟩
    · next c =>
      rw [ih]
      constructor
      · rintro ⟨a, b⟩
        exact ⟨a, fun z => by
          by_cases e : i = n
          · exact c (by rw [← e]; exact z.2)
          · exact b ⟨by omega, z.2⟩⟩
      · rintro ⟨a, b⟩
        exact ⟨a, fun z => b ⟨by omega, z.2⟩⟩
theorem lt_tb : ∀ {x y : Nat} (k : Nat), x.testBit k = false → y.testBit k = true → (∀ j, k < j → x.testBit j = y.testBit j) → x < y
  | x, y, 0, hx, hy, h => by
    have e : x / 2 = y / 2 := Nat.eq_of_testBit_eq (fun j => by
      rw [← Nat.testBit_succ, ← Nat.testBit_succ]
      exact h _ (by omega))
    rw [Nat.testBit_zero] at hx hy
    simp only [decide_eq_true_eq, decide_eq_false_iff_not] at hx hy
    omega
  | x, y, k + 1, hx, hy, h => by
    rw [Nat.testBit_succ] at hx hy
    have := lt_tb k hx hy (fun j hj => by
      rw [← Nat.testBit_succ, ← Nat.testBit_succ]
      exact h _ (by omega))
    omega
theorem cnt_add {α : Type} {X Y Z : α → Bool} : ∀ (l : List α), (∀ x, x ∈ l → (X x = true ↔ Y x = true ∨ Z x = true) ∧ ¬ (Y x = true ∧ Z x = true)) → l.countP X = l.countP Y + l.countP Z
  | [], _ => rfl
  | a :: l, h => by
    have ih := cnt_add (X := X) (Y := Y) (Z := Z) l (fun x hx => h x (by simp [hx]))
    obtain ⟨h1, h2⟩ := h a (by simp)
    rw [List.countP_cons, List.countP_cons, List.countP_cons, ih]
    cases hx : X a <;> cases hy : Y a <;> cases hz : Z a <;> simp_all <;> omega
theorem cnt_congr {α : Type} {X Y : α → Bool} {l : List α} (h : ∀ x, x ∈ l → (X x = true ↔ Y x = true)) : l.countP X = l.countP Y :=
  List.countP_congr (fun x hx => h x hx)
/-- the tree of a rank is found arc by arc -/
theorem of_ok {F T : Nat → Nat} {A P r : Nat} (hA : A ≤ 16) (hP : P ≤ 8) (hj : ∀ j, j < A → F j < P ∧ T j < P) (hr8 : r < P) (hr : (usedN F T A).testBit r = true) {l : List Nat} (hl : l = chM F T A r P 0 0) :
    ∀ (k al st : Nat) (lf : Int), k ≤ A → 0 ≤ lf → lf < l.countP (sbB (fun j => al.testBit j)) → (∀ y, y ∈ l → sbB (fun j => al.testBit j) y = true → ∀ j, k ≤ j → y.testBit j = st.testBit j) → (∀ j, st.testBit j = true → k ≤ j) →
    ofL F T A r k al st lf ∈ l ∧ sbB (fun j => al.testBit j) (ofL F T A r k al st lf) = true ∧ (l.countP (fun y => sbB (fun j => al.testBit j) y && decide (y < ofL F T A r k al st lf)) : Int) = lf := by
  have hone : ∀ x, x ∈ l → (∀ i k, x.testBit i = true → x.testBit k = true → F i = F k → i = k) ∧ (∀ k, x.testBit k = true → k < A ∧ F k < P ∧ F k ≠ r) ∧ (∀ q, q < P → q ≠ r → (usedN F T A).testBit q = true → ∃ k, x.testBit k = true ∧ F k = q) := fun x hx => by
    rw [hl] at hx
    have := chM_one P 0 0 x hx (fun i k hi => by simp at hi) (fun k hk => by simp at hk) (fun q hq => by omega)
    rw [Nat.zero_add] at this
    exact this
  have hnd : l.Nodup := by
    rw [hl]
    exact chM_nd P 0 0 (fun k hk => by simp at hk)
  intro k
  induction k with
  | zero =>
    intro al st lf _ h0 h1 h2 h3
    have hall : ∀ y, y ∈ l → sbB (fun j => al.testBit j) y = true → y = st := fun y hy hs => Nat.eq_of_testBit_eq (fun j => h2 y hy hs j (by omega))
    have hpos : 0 < l.countP (sbB (fun j => al.testBit j)) := by omega
    obtain ⟨y, hy, hs⟩ := List.countP_pos_iff.mp hpos
    have hle : l.countP (sbB (fun j => al.testBit j)) ≤ 1 := by
      have : l.countP (sbB (fun j => al.testBit j)) ≤ l.count st := by
        rw [List.count]
        refine List.countP_mono_left (fun x hx hs => ?_)
        rw [hall x hx hs]
        exact beq_self_eq_true _
      have h4 := List.nodup_iff_count.mp hnd st
      omega
    rw [ofL]
    rw [← hall y hy hs]
    refine ⟨hy, hs, ?_⟩
    rw [List.countP_eq_zero.mpr (fun z hz => by
      intro hb
      rw [Bool.and_eq_true, decide_eq_true_eq] at hb
      have h5 := hall z hz hb.1
      have h6 := hall y hy hs
      omega)]
    omega
  | succ k ih =>
    intro al st lf hk h0 h1 h2 h3
    rw [ofL]
    have hstk : st.testBit k = false := by
      cases hb : st.testBit k with
      | false => rfl
      | true => have := h3 k hb; omega
    by_cases c1 : F k = r ∨ al.testBit k = false
    · rw [if_pos c1]
      refine ih al st lf (by omega) h0 h1 (fun y hy hs j hjk => ?_) (fun j hjs => by have := h3 j hjs; omega)
      by_cases e : j = k
      · rw [e, hstk]
        cases hb : y.testBit k with
        | false => rfl
        | true =>
          exfalso
          rcases c1 with c1 | c1
          · exact ((hone y hy).2.1 k hb).2.2 c1
          · have := sbB_iff.mp hs k (by omega) hb
            rw [c1] at this
            exact absurd this (by decide)
      · exact h2 y hy hs j (by omega)
    · rw [if_neg c1]
      have hkr : F k ≠ r := fun z => c1 (Or.inl z)
      have hal : al.testBit k = true := by
        cases hb : al.testBit k with
        | true => rfl
        | false => exact absurd (Or.inr hb) c1
      have t0 := tc_cnt (F := F) (T := T) (A := A) (fun j => (clrB al k).testBit j) hA hP hj hr8 hr
      rw [← hl] at t0
      have s0 : ∀ y, sbB (fun j => (clrB al k).testBit j) y = true ↔ sbB (fun j => al.testBit j) y = true ∧ y.testBit k = false := fun y => by
        rw [sbB_iff, sbB_iff]
        constructor
        · intro h
          refine ⟨fun j a b => ?_, ?_⟩
          · have := h j a b
            rw [clrB_bit, Bool.and_eq_true] at this
            exact this.1
          · cases hb : y.testBit k with
            | false => rfl
            | true =>
              have := h k (by omega) hb
              rw [clrB_bit, Bool.and_eq_true, decide_eq_true_eq] at this
              exact absurd rfl this.2
        · rintro ⟨a, b⟩ j x w
          rw [clrB_bit, Bool.and_eq_true, decide_eq_true_eq]
          exact ⟨a j x w, fun z => by rw [z, b] at w; exact absurd w (by decide)⟩
      have s1 : ∀ y, y ∈ l → (sbB (fun j => (w1N F al k A).testBit j) y = true ↔ sbB (fun j => al.testBit j) y = true ∧ y.testBit k = true) := fun y hy => by
        rw [sbB_iff, sbB_iff]
        obtain ⟨o1, o2, o3⟩ := hone y hy
        constructor
        · intro h
          refine ⟨fun j a b => ((w1_bit A).mp (h j a b)).1, ?_⟩
          obtain ⟨i, a, b⟩ := o3 (F k) (hj k (by omega)).1 hkr (used_bit.mpr ⟨k, by omega, Or.inl rfl⟩)
          have hi := o2 i a
          have := ((w1_bit A).mp (h i (by omega) a)).2
          by_cases e : i = k
          · rw [← e]; exact a
          · exact absurd ⟨hi.1, e, b⟩ this
        · rintro ⟨a, b⟩ j x w
          exact (w1_bit A).mpr ⟨a j x w, fun z => z.2.1 (o1 j k w b z.2.2)⟩
      have hsum : l.countP (sbB (fun j => al.testBit j)) = l.countP (sbB (fun j => (clrB al k).testBit j)) + l.countP (sbB (fun j => (w1N F al k A).testBit j)) := by
        refine cnt_add l (fun y hy => ?_)
        rw [s0, s1 y hy]
        cases hb : y.testBit k <;> simp
      by_cases c2 : lf < tcN F T A r (fun j => (clrB al k).testBit j)
      · rw [if_pos c2]
        have hq := ih (clrB al k) st lf (by omega) h0 (by rw [t0] at c2; exact c2) (fun y hy hs j hjk => by
          by_cases e : j = k
          · rw [e, hstk]
            exact ((s0 y).mp hs).2
          · exact h2 y hy ((s0 y).mp hs).1 j (by omega)) (fun j hjs => by have := h3 j hjs; omega)
        generalize ofL F T A r k (clrB al k) st lf = x at hq ⊢
        obtain ⟨a, b, c⟩ := hq
        refine ⟨a, ((s0 x).mp b).1, ?_⟩
        rw [← c]
        congr 1
        refine cnt_congr (fun y hy => ?_)
        rw [Bool.and_eq_true, Bool.and_eq_true, s0 y, decide_eq_true_eq]
        constructor
        · rintro ⟨u, w⟩
          refine ⟨⟨u, ?_⟩, w⟩
          cases hb : y.testBit k with
          | false => rfl
          | true =>
            have := lt_tb (x := x) (y := y) k ((s0 x).mp b).2 hb (fun j hjk => by
              rw [h2 y hy u j (by omega), h2 x a ((s0 x).mp b).1 j (by omega)])
            omega
        · rintro ⟨u, w⟩
          exact ⟨u.1, w⟩
      · rw [if_neg c2]
        rw [t0] at c2 ⊢
        have hq := ih (w1N F al k A) (st ||| 2 ^ k) (lf - (l.countP (sbB (fun j => (clrB al k).testBit j)) : Nat)) (by omega) (by omega) (by omega) (fun y hy hs j hjk => by
          rw [set_bit]
          by_cases e : j = k
          · rw [e, hstk, ((s1 y hy).mp hs).2]
            rw [decide_eq_true rfl]; rfl
          · rw [decide_eq_false e, Bool.or_false]
            exact h2 y hy ((s1 y hy).mp hs).1 j (by omega)) (fun j hjs => by
          rw [set_bit, Bool.or_eq_true, decide_eq_true_eq] at hjs
          rcases hjs with hjs | hjs
          · have := h3 j hjs; omega
          · omega)
        generalize ofL F T A r k (w1N F al k A) (st ||| 2 ^ k) (lf - (l.countP (sbB (fun j => (clrB al k).testBit j)) : Nat)) = x at hq ⊢
        obtain ⟨a, b, c⟩ := hq
        have hxs := (s1 x a).mp b
        refine ⟨a, hxs.1, ?_⟩
        have : l.countP (fun y => sbB (fun j => al.testBit j) y && decide (y < x)) = l.countP (sbB (fun j => (clrB al k).testBit j)) + l.countP (fun y => sbB (fun j => (w1N F al k A).testBit j) y && decide (y < x)) := by
          refine cnt_add l (fun y hy => ?_)
          rw [Bool.and_eq_true, Bool.and_eq_true, s0, s1 y hy, decide_eq_true_eq]
          cases hb : y.testBit k with
          | true => simp
          | false =>
            simp only [Bool.false_eq_true, and_false, false_and, or_false, and_true, not_false_eq_true, and_iff_left_iff_imp]
            intro u
            exact lt_tb (x := y) (y := x) k hb hxs.2 (fun j hjk => by
              rw [h2 y hy u j (by omega), h2 x a hxs.1 j (by omega)])
        rw [this]
        omega
theorem cube_le (n : Nat) (h : n ≤ 16) : (n : Int) * n * n ≤ 3 ^ n := by
  have : ∀ k : Fin 17, (k.val : Int) * k.val * k.val ≤ 3 ^ k.val := by decide
  exact this ⟨n, by omega⟩
theorem pd_cube {C : Nat → Int} : ∀ {k : Nat}, (∀ j, j < k → 0 ≤ C j) → smN C k ≤ 16 → 0 ≤ smN C k ∧ 0 ≤ pdN C k ∧ pdN C k * pdN C k * pdN C k ≤ 3 ^ (smN C k).toNat
  | 0, _, _ => by simp [smN, pdN]
  | k + 1, h, hs => by
    have hk := h k (by omega)
    simp only [smN] at hs
    obtain ⟨i1, i2, i3⟩ := pd_cube (C := C) (k := k) (fun j q => h j (by omega)) (by omega)
    simp only [smN, pdN]
    refine ⟨by omega, Int.mul_nonneg i2 hk, ?_⟩
    rw [Int.toNat_add i1 hk, Int.pow_add]
    have h2 := cube_le (C k).toNat (by omega)
    rw [Int.toNat_of_nonneg hk] at h2
    have h3 := Int.mul_le_mul i3 h2 (Int.mul_nonneg (Int.mul_nonneg hk hk) hk) (Int.le_of_lt (Int.pow_pos (by decide)))
    have e : pdN C k * C k * (pdN C k * C k) * (pdN C k * C k) = pdN C k * pdN C k * pdN C k * (C k * C k * C k) := by grind
    rw [e]
    exact h3
theorem all_bit (j : Nat) : Nat.testBit 65535 j = decide (j < 16) := Nat.testBit_two_pow_sub_one (n := 16) (i := j)
theorem tc_len {F T : Nat → Nat} {A P r : Nat} (hA : A ≤ 16) (hP : P ≤ 8) (hj : ∀ j, j < A → F j < P ∧ T j < P) (hr8 : r < P) (hr : (usedN F T A).testBit r = true) : tcN F T A r (fun j => Nat.testBit 65535 j) = ((chM F T A r P 0 0).length : Int) := by
  rw [tc_cnt _ hA hP hj hr8 hr, List.countP_eq_length.mpr (fun x _ => sbB_iff.mpr (fun k hk _ => by rw [all_bit]; exact decide_eq_true hk))]
theorem tc_room {F T : Nat → Nat} {A P r : Nat} (hA : A ≤ 16) (hP : P ≤ 8) (hj : ∀ j, j < A → F j < P ∧ T j < P) (hr8 : r < P) (hr : (usedN F T A).testBit r = true) : (chM F T A r P 0 0).length ≤ 1024 := by
  have e := tc_len hA hP hj hr8 hr
  have hM := net_mat (S := fun j => Nat.testBit 65535 j) (F := F) (T := T) hA (fun j q => by have := hj j q; omega)
  have hO := hM.O
  obtain ⟨h1, h2, h3⟩ := id hM
  have hd := (det_nn (lap_MTy hM (fun p => (usedN F T A).testBit p) r) (C := fun j => ldO (fun j => Nat.testBit 65535 j) F ((rwsN r (fun p => (usedN F T A).testBit p) 8).2 j) A) (fun a ha => by
    have hl := rws_lt ha
    have := h1 _ _ hl.1 hl.1
    simp only at this
    unfold lapN
    simp only [↓reduceIte]
    omega) (fun a ha => (hO _ (rws_lt ha).1).1)).2
  have hle := rws_le (root := r) (S := fun p => (usedN F T A).testBit p) (f := fun p => ldO (fun j => Nat.testBit 65535 j) F p A) (fun q hq => (hO q hq).1)
  obtain ⟨p1, p2, p3⟩ := pd_cube (C := fun j => ldO (fun j => Nat.testBit 65535 j) F ((rwsN r (fun p => (usedN F T A).testBit p) 8).2 j) A) (k := (rwsN r (fun p => (usedN F T A).testBit p) 8).1) (fun a ha => (hO _ (rws_lt ha).1).1) (by omega)
  rw [tcN] at e
  rw [e] at hd
  generalize pdN (fun j => ldO (fun j => Nat.testBit 65535 j) F ((rwsN r (fun p => (usedN F T A).testBit p) 8).2 j) A) (rwsN r (fun p => (usedN F T A).testBit p) 8).1 = x at *
  generalize smN (fun j => ldO (fun j => Nat.testBit 65535 j) F ((rwsN r (fun p => (usedN F T A).testBit p) 8).2 j) A) (rwsN r (fun p => (usedN F T A).testBit p) 8).1 = y at *
  have h17 : ∀ k : Fin 17, (3 : Int) ^ k.val ≤ 43046721 := by decide
  have h16 : (3 : Int) ^ y.toNat ≤ 43046721 := h17 ⟨y.toNat, by omega⟩
  by_cases c : x ≤ 1024
  · omega
  · exfalso
    have q1 : 1024 * 1024 ≤ x * x := Int.mul_le_mul (by omega) (by omega) (by omega) (by omega)
    have q2 : 1024 * 1024 * 1024 ≤ x * x * x := Int.mul_le_mul q1 (by omega) (by omega) (by omega)
    omega
/-- the tree of a rank -/
theorem of_tf {F T : Nat → Nat} {A P r : Nat} (hA : A ≤ 16) (hP : P ≤ 8) (hj : ∀ j, j < A → F j < P ∧ T j < P) (hr8 : r < P) (hr : (usedN F T A).testBit r = true) (z : Int) :
    (∀ x, tfN (chM F T A r P 0 0) z (chM F T A r P 0 0).length 0 = some x → ofN F T A r z = (x : Int)) ∧ (tfN (chM F T A r P 0 0) z (chM F T A r P 0 0).length 0 = none → ofN F T A r z = -1) := by
  have e := tc_len hA hP hj hr8 hr
  obtain ⟨l, hl⟩ : ∃ l, l = chM F T A r P 0 0 := ⟨_, rfl⟩
  rw [← hl] at e ⊢
  have hin : ∀ y, y ∈ l → sbB (fun j => Nat.testBit 65535 j) y = true := fun y _ => sbB_iff.mpr (fun k hk _ => by rw [all_bit]; exact decide_eq_true hk)
  have hone : ∀ x, x ∈ l → ∀ k, x.testBit k = true → k < A := fun x hx k hk => by
    rw [hl] at hx
    exact ((chM_one P 0 0 x hx (fun i k hi => by simp at hi) (fun k hk => by simp at hk) (fun q hq => by omega)).2.1 k hk).1
  unfold ofN
  rw [e]
  have hall : l.countP (sbB (fun j => Nat.testBit 65535 j)) = l.length := List.countP_eq_length.mpr hin
  by_cases c : 0 ≤ z ∧ z < (l.length : Int)
  · rw [if_pos c]
    have hq := of_ok hA hP hj hr8 hr hl A 65535 0 z (by omega) c.1 (by rw [hall]; exact c.2) (fun y hy _ j hjA => by
      rw [Nat.zero_testBit]
      cases hb : y.testBit j with
      | false => rfl
      | true => have := hone y hy j hb; omega) (fun j hjs => by simp at hjs)
    generalize ofL F T A r A 65535 0 z = x at hq ⊢
    have ht := tf_iff (l := l) (z := z) (x := x)
    have : tfN l z l.length 0 = some x := ht.mpr ⟨hq.1, by
      rw [ahJ_cnt, ← hq.2.2]
      congr 1
      exact cnt_congr (fun y hy => by rw [hin y hy, Bool.true_and])⟩
    refine ⟨fun y hy => ?_, fun hn => ?_⟩
    · rw [this] at hy
      simp only [Option.some.injEq] at hy
      rw [hy]
    · rw [this] at hn; simp at hn
  · rw [if_neg c]
    refine ⟨fun x hx => ?_, fun _ => rfl⟩
    exfalso
    obtain ⟨a, b⟩ := tf_iff.mp hx
    rw [ahJ_cnt] at b
    have hlt : l.countP (fun y => decide (y < x)) < l.length := by
      rcases Nat.lt_or_ge (l.countP (fun y => decide (y < x))) l.length with q | q
      · exact q
      · have hle := List.countP_le_length (p := fun y => decide (y < x)) (l := l)
        have := List.countP_eq_length.mp (Nat.le_antisymm hle q) x a
        simp at this
    exact c ⟨by omega, by omega⟩
