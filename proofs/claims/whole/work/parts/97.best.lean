/-! A COLUMN WITH ONE ENTRY -/
theorem sgn_s (n : Nat) : (-1 : Int) ^ (n + 1) = -((-1) ^ n) := by
  rw [Int.pow_succ]; omega
theorem selN_one1 {α : Type} {a : α} : ∀ (l1 : List α) {l2 : List α} {g : α → List α → Int}, (∀ x m, x ∈ l1 ∨ x ∈ l2 → g x m = 0) → selN g (l1 ++ a :: l2) = (-1) ^ l1.length * g a (l1 ++ l2)
  | [], l2, g, h => by
    simp only [List.nil_append, selN, List.length_nil, Int.pow_zero, Int.one_mul]
    rw [selN_zero (us := l2) (g := fun x l => g x (a :: l)) (fun m1 x m2 e => h x _ (Or.inr (by rw [e]; simp)))]
    omega
  | y :: l1, l2, g, h => by
    have ih := selN_one1 (a := a) l1 (l2 := l2) (g := fun x l => g x (y :: l)) (fun x m hx => h x _ (by rcases hx with hx | hx <;> simp [hx]))
    simp only [List.cons_append, selN, List.length_cons]
    rw [h y _ (Or.inl (by simp)), ih, sgn_s]
    grind
theorem selN_mid {α : Type} (P : α → Prop) {a : α} : ∀ (l1 : List α) {l2 : List α} {g g' : α → List α → Int}, (∀ x, x ∈ l1 → P x) → (∀ x, x ∈ l2 → P x) → (∀ m, (∀ x, x ∈ m → P x) → g a m = 0) → (∀ x m1 m2, (∀ x, x ∈ m1 → P x) → (∀ x, x ∈ m2 → P x) → g x (m1 ++ a :: m2) = (-1) ^ m1.length * g' x (m1 ++ m2)) → selN g (l1 ++ a :: l2) = (-1) ^ (l1.length + 1) * selN g' (l1 ++ l2)
  | [], l2, g, g', h1, h2, h3, h4 => by
    simp only [List.nil_append, selN, List.length_nil, Nat.zero_add, Int.pow_succ, Int.pow_zero, Int.one_mul]
    rw [h3 l2 h2, selN_congr (us := l2) (g := fun x l => g x (a :: l)) (g' := g') (fun m1 x m2 e => by
      have := h4 x [] (m1 ++ m2) (by simp) (fun z hz => h2 z (by
        rw [e]
        simp only [List.mem_append, List.mem_cons] at hz ⊢
        rcases hz with hz | hz
        · exact Or.inl hz
        · exact Or.inr (Or.inr hz)))
      simp only [List.nil_append, List.length_nil, Int.pow_zero, Int.one_mul] at this
      exact this)]
    omega
  | y :: l1, l2, g, g', h1, h2, h3, h4 => by
    have hy : P y := h1 y (by simp)
    have ih := selN_mid P (a := a) l1 (l2 := l2) (g := fun x l => g x (y :: l)) (g' := fun x l => (-1) * g' x (y :: l)) (fun x hx => h1 x (by simp [hx])) h2 (fun m hm => h3 _ (fun x hx => by
      rcases List.mem_cons.mp hx with hx | hx
      · rw [hx]; exact hy
      · exact hm x hx)) (fun x m1 m2 k1 k2 => by
      have := h4 x (y :: m1) m2 (fun z hz => by
        rcases List.mem_cons.mp hz with hz | hz
        · rw [hz]; exact hy
        · exact k1 z hz) k2
      simp only [List.cons_append, List.length_cons, sgn_s] at this
      rw [this]
      grind)
    have hy2 := h4 y l1 l2 (fun x hx => h1 x (by simp [hx])) h2
    simp only [List.cons_append, selN, List.length_cons]
    rw [hy2, ih, selN_mul, sgn_s, sgn_s]
    grind
theorem dt_zcol {c : Nat} : ∀ {cs1 cs2 : List Nat} {us : List (Nat → Int)}, (∀ r, r ∈ us → r c = 0) → dtL (cs1 ++ c :: cs2) us = 0
  | [], cs2, us, h => dt_col0 h
  | c0 :: cs1, cs2, us, h => by
    simp only [List.cons_append, dtL]
    refine selN_zero (fun l1 x l2 e => ?_)
    rw [dt_zcol (cs1 := cs1) (cs2 := cs2) (us := l1 ++ l2) (fun r hr => h r (by
      rw [e]
      simp only [List.mem_append, List.mem_cons] at hr ⊢
      rcases hr with hr | hr
      · exact Or.inl hr
      · exact Or.inr (Or.inr hr))), Int.mul_zero]
theorem dt_cof {c : Nat} {a : Nat → Int} : ∀ {cs1 cs2 : List Nat} {l1 l2 : List (Nat → Int)}, (∀ r, r ∈ l1 → r c = 0) → (∀ r, r ∈ l2 → r c = 0) → dtL (cs1 ++ c :: cs2) (l1 ++ a :: l2) = (-1) ^ (cs1.length + l1.length) * (a c * dtL (cs1 ++ cs2) (l1 ++ l2))
  | [], cs2, l1, l2, h1, h2 => by
    simp only [List.nil_append, dtL, List.length_nil, Nat.zero_add]
    exact selN_one1 l1 (fun x m hx => by
      have : x c = 0 := by rcases hx with hx | hx; exact h1 x hx; exact h2 x hx
      simp only [this, Int.zero_mul])
  | c0 :: cs1, cs2, l1, l2, h1, h2 => by
    simp only [List.cons_append, dtL, List.length_cons]
    rw [selN_mid (fun r => r c = 0) l1 (g' := fun x l => ((-1) ^ cs1.length * a c) * (x c0 * dtL (cs1 ++ cs2) l)) h1 h2 (fun m hm => by rw [dt_zcol hm, Int.mul_zero]) (fun x m1 m2 k1 k2 => by
      rw [dt_cof (cs1 := cs1) (cs2 := cs2) k1 k2, Int.pow_add]
      grind), selN_mul, show cs1.length + 1 + l1.length = cs1.length + (l1.length + 1) by omega, Int.pow_add]
    grind
/-- in the same place: no sign -/
theorem dt_cof0 {c : Nat} {a : Nat → Int} {cs1 cs2 : List Nat} {l1 l2 : List (Nat → Int)} (h1 : ∀ r, r ∈ l1 → r c = 0) (h2 : ∀ r, r ∈ l2 → r c = 0) (hl : cs1.length = l1.length) : dtL (cs1 ++ c :: cs2) (l1 ++ a :: l2) = a c * dtL (cs1 ++ cs2) (l1 ++ l2) := by
  rw [dt_cof h1 h2, hl]
  have : ∀ n : Nat, (-1 : Int) ^ (n + n) = 1 := fun n => by
    induction n with
    | zero => rfl
    | succ n ih => rw [show n + 1 + (n + 1) = (n + n) + 1 + 1 by omega, sgn_s, sgn_s, ih]; rfl
  rw [this, Int.one_mul]
/-! rows that come to nothing -/
theorem lm_zsum : ∀ (n : Nat) {G : Nat → Nat → Int}, MTy (n + 1) G → (∀ a, a < n + 1 → smN (G a) (n + 1) = 0) → lmN G (n + 1) = 0
  | 0, G, hm, h => by
    have := h 0 (by omega)
    rw [lm_s, mn_0]
    simp only [smN, Int.zero_add] at this
    exact this
  | n + 1, G, hm, h => by
    by_cases c : G 0 0 = 0
    · exact dt_zero0 (fun b hb => by
        have := (hm.diag (a := 0) (by omega)).2 b hb
        omega)
    · have ih := lm_zsum n (G := chG G) hm.chio (fun a ha => by
        have e : smN (chG G a) (n + 1) = G 0 0 * smN (fun j => G (a + 1) (j + 1)) (n + 1) + (-G (a + 1) 0) * smN (fun j => G 0 (j + 1)) (n + 1) := smN_lin (fun j => G (a + 1) (j + 1)) (fun j => G 0 (j + 1)) _ _ (n + 1)
        have h1 := h (a + 1) (by omega)
        have h2 := h 0 (by omega)
        rw [smN_s] at h1 h2
        rw [e]
        grind)
      have e := chio_lm c (n + 1)
      rw [ih, Int.mul_zero] at e
      rcases Int.mul_eq_zero.mp e.symm with e | e
      · exact absurd e (Int.pow_ne_zero c)
      · exact e
/-! rows by points -/
def lqN (W : Nat → Nat → Int) (O : Nat → Int) (p q : Nat) : Int := (if p = q then O p else 0) - W p q
def plL (root : Nat) (S : Nat → Bool) : Nat → List Nat
  | 0 => []
  | p + 1 => if p ≠ root ∧ S p = true then plL root S p ++ [p] else plL root S p
theorem rws_list {root : Nat} {S : Nat → Bool} : ∀ p, (List.range (rwsN root S p).1).map (rwsN root S p).2 = plL root S p
  | 0 => rfl
  | p + 1 => by
    have ih := rws_list (root := root) (S := S) p
    by_cases c : p ≠ root ∧ S p = true
    · have e : rwsN root S (p + 1) = ((rwsN root S p).1 + 1, upN (rwsN root S p).2 (rwsN root S p).1 p) := if_pos c
      have e2 : plL root S (p + 1) = plL root S p ++ [p] := if_pos c
      rw [e, e2, ← ih]
      simp only [List.range_succ, List.map_append, List.map_cons, List.map_nil, upN, ↓reduceIte]
      congr 1
      refine List.map_congr_left (fun x hx => ?_)
      exact if_neg (by have := List.mem_range.mp hx; omega)
    · have e : rwsN root S (p + 1) = rwsN root S p := if_neg c
      have e2 : plL root S (p + 1) = plL root S p := if_neg c
      rw [e, e2, ih]
theorem rws_inj {root : Nat} {S : Nat → Bool} : ∀ {p i j : Nat}, i < j → j < (rwsN root S p).1 → (rwsN root S p).2 i < (rwsN root S p).2 j
  | 0, i, j, _, h => by simp [rwsN] at h
  | p + 1, i, j, hij, h => by
    by_cases c : p ≠ root ∧ S p = true
    · have e : rwsN root S (p + 1) = ((rwsN root S p).1 + 1, upN (rwsN root S p).2 (rwsN root S p).1 p) := if_pos c
      rw [e] at h ⊢
      simp only [upN] at h ⊢
      by_cases c2 : j = (rwsN root S p).1
      · rw [if_pos c2, if_neg (by omega)]
        exact (rws_lt (by omega)).1
      · rw [if_neg c2, if_neg (by omega)]
        exact rws_inj hij (by omega)
    · have e : rwsN root S (p + 1) = rwsN root S p := if_neg c
      rw [e] at h ⊢
      exact rws_inj hij h
theorem lap_dt {W : Nat → Nat → Int} {O : Nat → Int} {root : Nat} {S : Nat → Bool} : lmN (lapN W O (rwsN root S 8).2) (rwsN root S 8).1 = dtL (plL root S 8) ((plL root S 8).map (lqN W O)) := by
  rw [← rws_list 8, dt_cmap, List.map_map, List.map_map]
  refine dt_ext (fun p hp c hc => ?_)
  have hp' := List.mem_range.mp hp
  have hc' := List.mem_range.mp hc
  show lapN W O (rwsN root S 8).2 p c = lqN W O ((rwsN root S 8).2 p) ((rwsN root S 8).2 c)
  unfold lapN lqN
  by_cases e : p = c
  · rw [if_pos e, if_pos (by rw [e]), e]
  · rw [if_neg e, if_neg (fun z => by
      rcases Nat.lt_trichotomy p c with h | h | h
      · have := rws_inj (root := root) (S := S) h hc'
        omega
      · exact e h
      · have := rws_inj (root := root) (S := S) h hp'
        omega)]
    omega
/-! ALL TRAILS BY THEIR FIRST ARCS -/
theorem plL_mem {root : Nat} {S : Nat → Bool} : ∀ {p x : Nat}, x ∈ plL root S p ↔ x < p ∧ x ≠ root ∧ S x = true
  | 0, x => by simp [plL]
  | p + 1, x => by
    have ih := plL_mem (root := root) (S := S) (p := p) (x := x)
    unfold plL
    by_cases c : p ≠ root ∧ S p = true
    · rw [if_pos c, List.mem_append, ih]
      simp only [List.mem_cons, List.not_mem_nil, or_false]
      constructor
      · rintro (h | h)
        · exact ⟨by omega, h.2⟩
        · rw [h]; exact ⟨by omega, c⟩
      · rintro ⟨a, b⟩
        by_cases e : x = p
        · exact Or.inr e
        · exact Or.inl ⟨by omega, b⟩
    · rw [if_neg c, ih]
      constructor
      · rintro ⟨a, b⟩; exact ⟨by omega, b⟩
      · rintro ⟨a, b⟩
        refine ⟨?_, b⟩
        by_cases e : x = p
        · rw [e] at b; exact absurd b c
        · omega
theorem plL_split {root : Nat} {S S' : Nat → Bool} {here : Nat} (hn : here ≠ root) (hs : S here = true) (hs' : S' here = false) (hS : ∀ x, x ≠ here → S' x = S x) : ∀ m, ∃ l2, plL root S (here + 1 + m) = plL root S here ++ here :: l2 ∧ plL root S' (here + 1 + m) = plL root S here ++ l2 ∧ ∀ x, x ∈ l2 → here < x
  | 0 => by
    refine ⟨[], ?_, ?_, by simp⟩
    · show plL root S (here + 1) = _
      rw [plL, if_pos ⟨hn, hs⟩]
    · show plL root S' (here + 1) = _
      rw [plL, if_neg (by rw [hs']; simp), List.append_nil]
      have : ∀ p, p ≤ here → plL root S' p = plL root S p := by
        intro p
        induction p with
        | zero => intro _; rfl
        | succ p ih =>
          intro hp
          simp only [plL]
          rw [ih (by omega), hS p (by omega)]
      exact this here (Nat.le_refl _)
  | m + 1 => by
    obtain ⟨l2, e1, e2, e3⟩ := plL_split hn hs hs' hS m
    rw [show here + 1 + (m + 1) = (here + 1 + m) + 1 by omega]
    simp only [plL]
    rw [hS (here + 1 + m) (by omega)]
    by_cases c : here + 1 + m ≠ root ∧ S (here + 1 + m) = true
    · rw [if_pos c, if_pos c, e1, e2]
      refine ⟨l2 ++ [here + 1 + m], by simp, by simp, fun x hx => ?_⟩
      rcases List.mem_append.mp hx with hx | hx
      · exact e3 x hx
      · simp at hx; omega
    · rw [if_neg c, if_neg c]
      exact ⟨l2, e1, e2, e3⟩
def inW (W : Nat → Nat → Int) (p : Nat) : Int := smN (fun q => W q p) 8
def BalW (W : Nat → Nat → Int) (O : Nat → Int) (here goal : Nat) : Prop := ∀ p, p < 8 → O p - inW W p = (if p = here then 1 else 0) - (if p = goal then 1 else 0)
theorem dt_sum {cs : List Nat} {l t : List (Nat → Int)} {c : Nat → Int} {r : Nat → Nat → Int} : ∀ n, dtL cs (l ++ (fun j => smN (fun k => c k * r k j) n) :: t) = smN (fun k => c k * dtL cs (l ++ r k :: t)) n
  | 0 => dt_zrow
  | n + 1 => by
    have e := dt_row (fun j => smN (fun k => c k * r k j) n) (r n) 1 (c n) cs l (t := t)
    simp only [smN]
    rw [← dt_sum n]
    simp only [Int.one_mul] at e
    exact e
theorem orN_congr {goal : Nat} {O O' : Nat → Int} (hg : O goal = O' goal) : ∀ {p : Nat}, (∀ q, q < p → q ≠ goal → O q = O' q) → orN goal O p = orN goal O' p
  | 0, _ => by simp only [orN, hg]
  | p + 1, h => by
    have ih := orN_congr hg (p := p) (fun q a b => h q (by omega) b)
    simp only [orN]
    by_cases c : p ≠ goal
    · rw [ih, h p (by omega) c]
    · rw [if_neg (fun z => c z.1), if_neg (fun z => c z.1), ih]
/-- one out less, not at the goal -/
theorem orN_de {goal here : Nat} {O O' : Nat → Int} (hh : here ≠ goal) (ho : O' here = O here - 1) (hc : ∀ q, q ≠ here → O' q = O q) (h1 : 0 < O here) (h16 : O here ≤ 16) : ∀ m, orN goal O (here + 1 + m) = orN goal O' (here + 1 + m) * (if O here = 1 then 1 else O here - 1)
  | 0 => by
    have e := orN_congr (goal := goal) (O := O') (O' := O) (hc goal (fun z => hh z.symm)) (p := here) (fun q a _ => hc q (by omega))
    simp only [Nat.add_zero, orN]
    rw [if_pos ⟨hh, h1⟩, e, ho]
    by_cases c : O here = 1
    · rw [if_neg (by omega), if_pos c, c]
      simp [facI, facN]
    · rw [if_pos ⟨hh, by omega⟩, if_neg c]
      obtain ⟨y, hy⟩ : ∃ y : Nat, O here = (y : Int) + 2 := ⟨(O here - 2).toNat, by omega⟩
      rw [hy]
      unfold facI
      rw [if_pos (by omega), if_pos (by omega), show ((y : Int) + 2 - 1).toNat = y + 1 by omega, show ((y : Int) + 2 - 1 - 1).toNat = y by omega]
      simp only [facN, Int.natCast_mul, Int.natCast_add, Int.natCast_one]
      grind
  | m + 1 => by
    have ih := orN_de hh ho hc h1 h16 m
    rw [show here + 1 + (m + 1) = (here + 1 + m) + 1 by omega]
    simp only [orN]
    rw [hc (here + 1 + m) (by omega), ih]
    by_cases c : here + 1 + m ≠ goal ∧ 0 < O (here + 1 + m)
    · rw [if_pos c, if_pos c]; grind
    · rw [if_neg c, if_neg c]
theorem orN_goal {goal : Nat} {O O' : Nat → Int} (ho : O' goal = O goal - 1) (hc : ∀ q, q ≠ goal → O' q = O q) (h1 : 0 < O goal) (h16 : O goal ≤ 16) : ∀ p, orN goal O p = orN goal O' p * O goal
  | 0 => by
    simp only [orN, ho]
    obtain ⟨y, hy⟩ : ∃ y : Nat, O goal = (y : Int) + 1 := ⟨(O goal - 1).toNat, by omega⟩
    rw [hy]
    unfold facI
    rw [if_pos (by omega), if_pos (by omega), show ((y : Int) + 1 - 1).toNat = y by omega, show ((y : Int) + 1).toNat = y + 1 by omega]
    simp only [facN, Int.natCast_mul, Int.natCast_add, Int.natCast_one]
    grind
  | p + 1 => by
    have ih := orN_goal ho hc h1 h16 p
    simp only [orN]
    by_cases c : p ≠ goal ∧ 0 < O p
    · rw [if_pos c, if_pos (by rw [hc p c.1]; exact c), ih, hc p c.1]; grind
    · rw [if_neg c, if_neg (fun z => c ⟨z.1, by rw [← hc p z.1]; exact z.2⟩), ih]
def dtW (W : Nat → Nat → Int) (O : Nat → Int) (goal : Nat) : Int := dtL (plL goal (fun p => decide (0 < O p)) 8) ((plL goal (fun p => decide (0 < O p)) 8).map (lqN W O))
theorem tr_dt {W : Nat → Nat → Int} {O : Nat → Int} (h : MatP W O) (goal : Nat) : trN W O goal = orN goal O 8 * dtW W O goal := by
  unfold trN dtW
  rw [detR_lm (lap_MTy h _ goal), lap_dt]
theorem plL_congr {root : Nat} {S S' : Nat → Bool} : ∀ {p : Nat}, (∀ q, q < p → q ≠ root → S q = S' q) → plL root S p = plL root S' p
  | 0, _ => rfl
  | p + 1, h => by
    have ih := plL_congr (root := root) (S := S) (S' := S') (p := p) (fun q a => h q (by omega))
    simp only [plL]
    rw [ih]
    by_cases c : p ≠ root
    · rw [h p (by omega) c]
    · rw [if_neg (fun z => c z.1), if_neg (fun z => c z.1)]
theorem deO_at {O : Nat → Int} {p q : Nat} : deO O p q = if q = p then O p - 1 else O q := by
  unfold deO upI
  split <;> omega
theorem deW_at {W : Nat → Nat → Int} {p q a b : Nat} : deW W p q a b = if a = p ∧ b = q then W p q - 1 else W a b := by
  unfold deW up2
  split <;> omega
theorem smN_mulr (f : Nat → Int) (X : Int) : ∀ n, smN (fun q => f q * X) n = smN f n * X
  | 0 => by simp [smN]
  | n + 1 => by
    simp only [smN, smN_mulr f X n]
    grind
theorem best_step {W : Nat → Nat → Int} {O : Nat → Int} (h : MatP W O) {here goal : Nat} (hh : here < 8) (hg : goal < 8) (hb : BalW W O here goal) (h1 : 0 < sum8 O) : trN W O goal = smN (fun q => W here q * trN (deW W here q) (deO O here) goal) 8 := by
  have hO := h.O
  have hOh := hO here hh
  have hrow : smN (fun q => W here q) 8 = O here := by rw [h.2.1 here hh, sum8_sm]
  -- all terms by the determinant
  have step : ∀ (X : Nat → Int), (∀ q, q < 8 → 0 < W here q → orN goal (deO O here) 8 * dtW (deW W here q) (deO O here) goal = X q) → smN (fun q => W here q * trN (deW W here q) (deO O here) goal) 8 = smN (fun q => W here q * X q) 8 := fun X hX => smN_congr (fun q hq => by
    have w0 := h.1 here q hh hq
    by_cases c : W here q = 0
    · rw [c, Int.zero_mul, Int.zero_mul]
    · rw [tr_dt (h.de hh hq (by omega)) goal, hX q hq (by omega)])
  rw [tr_dt h goal]
  by_cases ce : here = goal
  · -- at the goal: rows stay
    have hpl : plL goal (fun p => decide (0 < deO O here p)) 8 = plL goal (fun p => decide (0 < O p)) 8 := plL_congr (fun q _ hq => by rw [deO_at, if_neg (fun z => hq (z.trans ce))])
    have hdt : ∀ q, dtW (deW W here q) (deO O here) goal = dtW W O goal := fun q => by
      unfold dtW
      rw [hpl]
      refine dt_ext (fun p hp c _ => ?_)
      have := (plL_mem.mp hp).2.1
      unfold lqN
      rw [deO_at, deW_at, if_neg (show ¬ p = here from fun z => this (z.trans ce)), if_neg (show ¬ (p = here ∧ c = q) from fun z => this (z.1.trans ce))]
    rw [step (fun _ => orN goal (deO O here) 8 * dtW W O goal) (fun q _ _ => by rw [hdt q])]
    have e : smN (fun q => W here q * (orN goal (deO O here) 8 * dtW W O goal)) 8 = O here * (orN goal (deO O here) 8 * dtW W O goal) := by
      rw [smN_mulr (fun q => W here q), hrow]
    rw [e]
    by_cases c0 : O here = 0
    · -- nothing goes out of it: nothing comes to it
      rw [c0, Int.zero_mul]
      have hin0 : ∀ q, q < 8 → inW W q = 0 → ∀ p, p < 8 → W p q = 0 := fun q hq hz p hp => by
        have := (smN_nn (f := fun r => W r q) (n := 8) (fun j hj => h.1 j q hj hq)).2 p hp
        have w0 := h.1 p q hp hq
        unfold inW at hz
        rw [hz] at this
        have w1 : W p q ≤ 0 := this
        omega
      have hz : dtW W O goal = 0 := by
        have hm := lap_MTy h (fun p => decide (0 < O p)) goal
        have hd := lap_dt (W := W) (O := O) (root := goal) (S := fun p => decide (0 < O p))
        unfold dtW
        rw [← hd]
        have hne : 0 < (rwsN goal (fun p => decide (0 < O p)) 8).1 := by
          apply Classical.byContradiction
          intro hn
          have hl := rws_list (root := goal) (S := fun p => decide (0 < O p)) 8
          rw [show (rwsN goal (fun p => decide (0 < O p)) 8).1 = 0 by omega] at hl
          have hz : ∀ p, p < 8 → O p = 0 := fun p hp => by
            by_cases cp : p = goal
            · rw [cp, ← ce]; exact c0
            · have hp0 := hO p hp
              have : ¬ (p ∈ plL goal (fun p => decide (0 < O p)) 8) := by rw [← hl]; simp
              rw [plL_mem] at this
              by_cases cz : 0 < O p
              · exact absurd ⟨hp, cp, decide_eq_true cz⟩ this
              · omega
          rw [sum8_sm, smN_congr (g := fun _ => 0) hz, smN_zero] at h1
          omega
        obtain ⟨n, hn⟩ : ∃ n, (rwsN goal (fun p => decide (0 < O p)) 8).1 = n + 1 := ⟨(rwsN goal (fun p => decide (0 < O p)) 8).1 - 1, by omega⟩
        rw [hn] at hm ⊢
        refine lm_zsum n hm (fun a ha => ?_)
        have la := rws_lt (root := goal) (S := fun p => decide (0 < O p)) (p := 8) (j := a) (by omega)
        rw [lap_sum, if_pos ha, h.2.1 _ la.1, ← hn, rws_sum (f := fun q => W ((rwsN goal (fun p => decide (0 < O p)) 8).2 a) q), sum8_sm]
        rw [smN_congr (f := fun q => if q ≠ goal ∧ decide (0 < O q) = true then W ((rwsN goal (fun p => decide (0 < O p)) 8).2 a) q else 0) (g := fun q => W ((rwsN goal (fun p => decide (0 < O p)) 8).2 a) q) (fun q hq => by
          show ite _ _ _ = _
          by_cases c : q ≠ goal ∧ decide (0 < O q) = true
          · rw [if_pos c]
          · rw [if_neg c]
            refine (hin0 q hq ?_ _ la.1).symm
            have hbq := hb q hq
            have hq0 := hO q hq
            by_cases cq : q = goal
            · rw [if_pos (cq.trans ce.symm), if_pos cq, cq, ← ce, c0] at hbq
              rw [cq, ← ce]
              omega
            · rw [if_neg (fun z => cq (z.trans ce)), if_neg cq] at hbq
              have : ¬ 0 < O q := fun z => c ⟨cq, decide_eq_true z⟩
              omega)]
        exact Int.sub_self _
      rw [hz, Int.mul_zero]
    · have := orN_goal (goal := goal) (O := O) (O' := deO O here) (by rw [deO_at, if_pos ce.symm, ce]) (fun q hq => by rw [deO_at, if_neg (fun z => hq (z.trans ce))]) (by rw [← ce]; omega) (by rw [← ce]; omega) 8
      rw [this, ← ce]
      grind
  · -- not at the goal
    have hb1 := hb here hh
    rw [if_pos rfl, if_neg ce] at hb1
    have hin := (smN_nn (f := fun q => W q here) (n := 8) (fun j hj => h.1 j here hj hh))
    have hi0 : 0 ≤ inW W here := hin.1
    have hor := orN_de (goal := goal) (here := here) (O := O) (O' := deO O here) ce (by rw [deO_at, if_pos rfl]) (fun q hq => by rw [deO_at, if_neg hq]) (by omega) (by omega) (7 - here)
    rw [show here + 1 + (7 - here) = 8 by omega] at hor
    by_cases c1 : O here = 1
    · -- the last one out of here
      rw [if_pos c1, Int.mul_one] at hor
      obtain ⟨l2, s1, s2, s3⟩ := plL_split (root := goal) (S := fun p => decide (0 < O p)) (S' := fun p => decide (0 < deO O here p)) (here := here) ce (decide_eq_true (by omega)) (decide_eq_false (by rw [deO_at, if_pos rfl]; omega)) (fun x hx => by rw [deO_at, if_neg hx]) (7 - here)
      rw [show here + 1 + (7 - here) = 8 by omega] at s1 s2
      have hz : ∀ p, p < 8 → W p here = 0 := fun p hp => by
        have w1 : W p here ≤ inW W here := hin.2 p hp
        have := h.1 p here hp hh
        omega
      have hm1 : ∀ p, p ∈ plL goal (fun p => decide (0 < O p)) here → p < 8 ∧ p ≠ here := fun p hp => by
        have := (plL_mem.mp hp).1
        omega
      have hm2 : ∀ p, p ∈ l2 → p < 8 ∧ p ≠ here := fun p hp => by
        have h3 := s3 p hp
        have : p ∈ plL goal (fun p => decide (0 < O p)) 8 := by rw [s1]; simp [hp]
        have := (plL_mem.mp this).1
        omega
      have hD : dtW W O goal = dtL (plL goal (fun p => decide (0 < O p)) here ++ l2) ((plL goal (fun p => decide (0 < O p)) here ++ l2).map (lqN W O)) := by
        unfold dtW
        rw [s1, List.map_append, List.map_cons]
        rw [dt_cof0 (fun r hr => ?_) (fun r hr => ?_) (by simp), List.map_append]
        · unfold lqN
          rw [if_pos rfl, hz here hh, c1]
          simp
        · obtain ⟨p, hp, rfl⟩ := List.mem_map.mp hr
          unfold lqN
          rw [if_neg (hm1 p hp).2, hz p (hm1 p hp).1]; rfl
        · obtain ⟨p, hp, rfl⟩ := List.mem_map.mp hr
          unfold lqN
          rw [if_neg (hm2 p hp).2, hz p (hm2 p hp).1]; rfl
      have hdt : ∀ q, dtW (deW W here q) (deO O here) goal = dtW W O goal := fun q => by
        rw [hD]
        unfold dtW
        rw [s2]
        refine dt_ext (fun p hp c _ => ?_)
        have hpn : p ≠ here := by
          rcases List.mem_append.mp hp with hp | hp
          · exact (hm1 p hp).2
          · exact (hm2 p hp).2
        unfold lqN
        rw [deO_at, deW_at, if_neg hpn, if_neg (show ¬ (p = here ∧ c = q) from fun z => hpn z.1)]
      rw [step (fun _ => orN goal (deO O here) 8 * dtW W O goal) (fun q _ _ => by rw [hdt q])]
      have e : smN (fun q => W here q * (orN goal (deO O here) 8 * dtW W O goal)) 8 = O here * (orN goal (deO O here) 8 * dtW W O goal) := by
        rw [smN_mulr (fun q => W here q), hrow]
      rw [e, hor, c1, Int.one_mul]
    · -- more than one
      rw [if_neg c1] at hor
      have hpl : plL goal (fun p => decide (0 < deO O here p)) 8 = plL goal (fun p => decide (0 < O p)) 8 := plL_congr (fun q _ hq => by
        rw [deO_at]
        by_cases cq : q = here
        · rw [if_pos cq, cq]
          exact decide_eq_decide.mpr (by omega)
        · rw [if_neg cq])
      obtain ⟨l2, s1, -, s3⟩ := plL_split (root := goal) (S := fun p => decide (0 < O p)) (S' := fun p => if p = here then false else decide (0 < O p)) (here := here) ce (decide_eq_true (by omega)) (if_pos rfl) (fun x hx => by show ite _ _ _ = _; rw [if_neg hx]) (7 - here)
      rw [show here + 1 + (7 - here) = 8 by omega] at s1
      obtain ⟨PL, hPL⟩ : ∃ PL, PL = plL goal (fun p => decide (0 < O p)) 8 := ⟨_, rfl⟩
      obtain ⟨L1, hL1⟩ : ∃ L1, L1 = plL goal (fun p => decide (0 < O p)) here := ⟨_, rfl⟩
      rw [← hPL, ← hL1] at s1
      rw [← hPL] at hpl
      have hm1 : ∀ p, p ∈ L1 → p ≠ here := fun p hp => by
        rw [hL1] at hp
        have := (plL_mem.mp hp).1
        omega
      have hm2 : ∀ p, p ∈ l2 → p ≠ here := fun p hp => by
        have h3 := s3 p hp
        omega
      have hlt : ∀ j, j ∈ PL → j < 8 := fun j hj => by rw [hPL] at hj; exact (plL_mem.mp hj).1
      -- a row replaced
      have hrep : ∀ r : Nat → Int, dtL PL (PL.map (fun p j => if p = here then r j else lqN W O p j)) = dtL PL (L1.map (lqN W O) ++ r :: l2.map (lqN W O)) := fun r => by
        rw [show PL.map (fun p j => if p = here then r j else lqN W O p j) = L1.map (lqN W O) ++ r :: l2.map (lqN W O) by
          rw [s1, List.map_append, List.map_cons]
          congr 1
          · exact List.map_congr_left (fun p hp => by funext j; rw [if_neg (hm1 p hp)])
          · congr 1
            · funext j; rw [if_pos rfl]
            · exact List.map_congr_left (fun p hp => by funext j; rw [if_neg (hm2 p hp)])]
      have hD : dtW W O goal = dtL PL (L1.map (lqN W O) ++ (lqN W O here) :: l2.map (lqN W O)) := by
        unfold dtW
        rw [← hPL, ← List.map_cons, ← List.map_append, ← s1]
      have hDq : ∀ q, dtW (deW W here q) (deO O here) goal = dtW W O goal - dtL PL (L1.map (lqN W O) ++ (fun j => (if here = j then 1 else 0) - (if j = q then 1 else 0)) :: l2.map (lqN W O)) := fun q => by
        have hr := dt_row (lqN W O here) (fun j => (if here = j then 1 else 0) - (if j = q then 1 else 0)) 1 (-1) PL (L1.map (lqN W O)) (t := l2.map (lqN W O))
        rw [hD]
        unfold dtW
        rw [hpl]
        rw [show dtL PL (PL.map (lqN (deW W here q) (deO O here))) = dtL PL (PL.map (fun p j => if p = here then (1 * lqN W O here j + (-1) * ((if here = j then 1 else 0) - (if j = q then 1 else 0))) else lqN W O p j)) from dt_ext (fun p hp c _ => by
          unfold lqN
          rw [deO_at, deW_at]
          by_cases cp : p = here
          · subst cp
            rw [if_pos rfl, if_pos rfl]
            by_cases c1 : p = c
            · rw [if_pos c1, if_pos c1, if_pos c1]
              by_cases c2 : c = q
              · rw [if_pos ⟨rfl, c2⟩, if_pos c2, c2]; omega
              · rw [if_neg (fun z => c2 z.2), if_neg c2]; omega
            · rw [if_neg c1, if_neg c1, if_neg c1]
              by_cases c2 : c = q
              · rw [if_pos ⟨rfl, c2⟩, if_pos c2, c2]; omega
              · rw [if_neg (fun z => c2 z.2), if_neg c2]; omega
          · rw [if_neg cp, if_neg (show ¬ (p = here ∧ c = q) from fun z => cp z.1), if_neg cp]), hrep]
        rw [hr]
        omega
      rw [step (fun q => orN goal (deO O here) 8 * (dtW W O goal - dtL PL (L1.map (lqN W O) ++ (fun j => (if here = j then 1 else 0) - (if j = q then 1 else 0)) :: l2.map (lqN W O)))) (fun q _ _ => by rw [hDq q])]
      have hsum := dt_sum (cs := PL) (l := L1.map (lqN W O)) (t := l2.map (lqN W O)) (c := fun q => W here q) (r := fun q j => (if here = j then 1 else 0) - (if j = q then 1 else 0)) 8
      have hback : dtL PL (L1.map (lqN W O) ++ (fun j => smN (fun k => W here k * ((if here = j then 1 else 0) - (if j = k then 1 else 0))) 8) :: l2.map (lqN W O)) = dtW W O goal := by
        rw [← hrep, hD, ← hrep]
        refine dt_ext (fun p hp j hj => ?_)
        by_cases cp : p = here
        · rw [if_pos cp, if_pos cp]
          have e1 : smN (fun k => W here k * ((if here = j then 1 else 0) - (if j = k then 1 else 0))) 8 = smN (fun k => (if here = j then 1 else 0) * W here k + (-1) * (if k = j then W here j else 0)) 8 := smN_congr (fun k _ => by
            by_cases ck : j = k
            · rw [if_pos ck, if_pos ck.symm, ck]; grind
            · rw [if_neg ck, if_neg (show ¬ k = j from fun z => ck z.symm)]; grind)
          have e2 : smN (fun k => if k = j then W here j else 0) 8 = W here j := by
            have := smN_lin (fun k => if k = j then (1 : Int) else 0) (fun _ => 0) (W here j) 0 8
            rw [smN_one, if_pos (hlt j hj)] at this
            simp only [Int.zero_mul, Int.add_zero, Int.mul_one] at this
            refine Eq.trans (smN_congr (fun k _ => ?_)) this
            by_cases ck : k = j
            · rw [if_pos ck, if_pos ck, Int.mul_one]
            · rw [if_neg ck, if_neg ck, Int.mul_zero]
          rw [e1, smN_lin, e2, hrow]
          unfold lqN
          by_cases c2 : here = j
          · rw [if_pos c2, if_pos c2]; omega
          · rw [if_neg c2, if_neg c2]; omega
        · rw [if_neg cp, if_neg cp]
      rw [hback] at hsum
      have hfin : smN (fun q => W here q * (orN goal (deO O here) 8 * (dtW W O goal - dtL PL (L1.map (lqN W O) ++ (fun j => (if here = j then 1 else 0) - (if j = q then 1 else 0)) :: l2.map (lqN W O))))) 8 = (orN goal (deO O here) 8 * dtW W O goal) * smN (fun q => W here q) 8 + (-orN goal (deO O here) 8) * smN (fun k => W here k * dtL PL (L1.map (lqN W O) ++ (fun j => (if here = j then 1 else 0) - (if j = k then 1 else 0)) :: l2.map (lqN W O))) 8 := by
        rw [← smN_lin]
        exact smN_congr (fun q _ => by grind)
      rw [hfin, ← hsum, hrow, hor]
      grind
