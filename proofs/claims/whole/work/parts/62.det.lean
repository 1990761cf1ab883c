/-! DETERMINANTS: a list of rows, expanded along the first column of a list -/
def selN {α : Type} (g : α → List α → Int) : List α → Int
  | [] => 0
  | a :: t => g a t - selN (fun x l => g x (a :: l)) t
def dtL : List Nat → List (Nat → Int) → Int
  | [], us => match us with
    | [] => 1
    | _ :: _ => 0
  | c :: cs, us => selN (fun x l => x c * dtL cs l) us
theorem selN_congr {α : Type} : ∀ {us : List α} {g g' : α → List α → Int}, (∀ l1 x l2, us = l1 ++ x :: l2 → g x (l1 ++ l2) = g' x (l1 ++ l2)) → selN g us = selN g' us
  | [], g, g', _ => rfl
  | a :: t, g, g', h => by
    have h0 : g a t = g' a t := h [] a t rfl
    simp only [selN]
    rw [h0, selN_congr (us := t) (g := fun x l => g x (a :: l)) (g' := fun x l => g' x (a :: l)) (fun l1 x l2 e => h (a :: l1) x l2 (by rw [e]; rfl))]
theorem selN_map {α β : Type} (f : α → β) : ∀ {us : List α} {g : β → List β → Int}, selN g (us.map f) = selN (fun x l => g (f x) (l.map f)) us
  | [], g => rfl
  | a :: t, g => by
    simp only [List.map_cons, selN]
    rw [selN_map f (us := t)]
theorem selN_lin {α : Type} : ∀ {us : List α} {g g' : α → List α → Int} (c d : Int), selN (fun x l => c * g x l + d * g' x l) us = c * selN g us + d * selN g' us
  | [], g, g', c, d => by simp [selN]
  | a :: t, g, g', c, d => by
    simp only [selN]
    rw [selN_lin (us := t) (g := fun x l => g x (a :: l)) (g' := fun x l => g' x (a :: l)) c d]
    grind
theorem selN_mul {α : Type} {us : List α} {g : α → List α → Int} (c : Int) : selN (fun x l => c * g x l) us = c * selN g us := by
  have := selN_lin (us := us) (g := g) (g' := g) c 0
  simp only [Int.zero_mul, Int.add_zero] at this
  exact this
theorem selN_zero {α : Type} {us : List α} {g : α → List α → Int} (h : ∀ l1 x l2, us = l1 ++ x :: l2 → g x (l1 ++ l2) = 0) : selN g us = 0 := by
  rw [selN_congr (g' := fun _ _ => 0) h]
  have := selN_mul (us := us) (g := fun _ _ => 0) 0
  simp only [Int.zero_mul] at this
  exact this
theorem selN_swap {α : Type} : ∀ (l : List α) {a b : α} {t : List α} {g : α → List α → Int}, (∀ x l1 l2, g x (l1 ++ a :: b :: l2) = -g x (l1 ++ b :: a :: l2)) → selN g (l ++ a :: b :: t) = -selN g (l ++ b :: a :: t)
  | [], a, b, t, g, h => by
    simp only [List.nil_append, selN]
    rw [selN_congr (us := t) (g := fun x l => g x (a :: b :: l)) (g' := fun x l => (-1) * g x (b :: a :: l)) (fun l1 x l2 _ => by
      have := h x [] (l1 ++ l2)
      simp only [List.nil_append] at this
      rw [this]; omega), selN_mul]
    omega
  | y :: l, a, b, t, g, h => by
    have hy : g y (l ++ a :: b :: t) = -g y (l ++ b :: a :: t) := h y l t
    have hr := selN_swap l (a := a) (b := b) (t := t) (g := fun x l => g x (y :: l)) (fun x l1 l2 => h x (y :: l1) l2)
    simp only [List.cons_append, selN]
    rw [hy, hr]
    omega
theorem dt_nil : ∀ (l : List (Nat → Int)) {a : Nat → Int} {t : List (Nat → Int)}, dtL [] (l ++ a :: t) = 0
  | [], _, _ => rfl
  | _ :: _, _, _ => rfl
theorem dt_swap : ∀ (cs : List Nat) (l : List (Nat → Int)) {a b : Nat → Int} {t : List (Nat → Int)}, dtL cs (l ++ a :: b :: t) = -dtL cs (l ++ b :: a :: t)
  | [], l, a, b, t => by rw [dt_nil, dt_nil]; rfl
  | c :: cs, l, a, b, t => by
    simp only [dtL]
    exact selN_swap l (fun x l1 l2 => by rw [dt_swap cs l1]; exact Int.mul_neg _ _)
/-- a row that stands twice -/
theorem dt_same {cs : List Nat} {a : Nat → Int} : ∀ (m l t : List (Nat → Int)), dtL cs (l ++ a :: (m ++ a :: t)) = 0
  | [], l, t => by
    have h1 := dt_swap cs l (a := a) (b := a) (t := t)
    simp only [List.nil_append]
    omega
  | x :: m, l, t => by
    have h1 := dt_swap cs l (a := a) (b := x) (t := m ++ a :: t)
    have h2 := dt_same (cs := cs) (a := a) m (l ++ [x]) t
    simp only [List.append_assoc, List.cons_append, List.nil_append] at h1 h2 ⊢
    rw [h1, h2]; rfl
theorem selN_row (a b : Nat → Int) (c d : Int) : ∀ (l : List (Nat → Int)) {t : List (Nat → Int)} {g : (Nat → Int) → List (Nat → Int) → Int}, (∀ l, g (fun j => c * a j + d * b j) l = c * g a l + d * g b l) → (∀ x l1 l2, g x (l1 ++ (fun j => c * a j + d * b j) :: l2) = c * g x (l1 ++ a :: l2) + d * g x (l1 ++ b :: l2)) → selN g (l ++ (fun j => c * a j + d * b j) :: t) = c * selN g (l ++ a :: t) + d * selN g (l ++ b :: t)
  | [], t, g, h1, h2 => by
    simp only [List.nil_append, selN]
    rw [h1, selN_congr (us := t) (g := fun x l => g x ((fun j => c * a j + d * b j) :: l)) (g' := fun x l => c * g x (a :: l) + d * g x (b :: l)) (fun l1 x l2 _ => h2 x [] (l1 ++ l2)), selN_lin (g := fun x l => g x (a :: l)) (g' := fun x l => g x (b :: l))]
    grind
  | y :: l, t, g, h1, h2 => by
    have hr := selN_row a b c d l (t := t) (g := fun x l => g x (y :: l)) (fun l => h1 (y :: l)) (fun x l1 l2 => h2 x (y :: l1) l2)
    simp only [List.cons_append, selN]
    rw [h2 y l t, hr]
    grind
theorem dt_row (a b : Nat → Int) (c d : Int) : ∀ (cs : List Nat) (l : List (Nat → Int)) {t : List (Nat → Int)}, dtL cs (l ++ (fun j => c * a j + d * b j) :: t) = c * dtL cs (l ++ a :: t) + d * dtL cs (l ++ b :: t)
  | [], l, t => by rw [dt_nil, dt_nil, dt_nil]; simp
  | k :: cs, l, t => by
    simp only [dtL]
    refine selN_row a b c d l (fun l => ?_) (fun x l1 l2 => ?_)
    · grind
    · rw [dt_row a b c d cs l1]
      grind
/-- only what stands in the columns counts -/
theorem dt_ext : ∀ {cs : List Nat} {us : List Nat} {R R' : Nat → Nat → Int}, (∀ p ∈ us, ∀ c ∈ cs, R p c = R' p c) → dtL cs (us.map R) = dtL cs (us.map R')
  | [], us, R, R', h => by cases us <;> rfl
  | c :: cs, us, R, R', h => by
    simp only [dtL]
    rw [selN_map, selN_map]
    refine selN_congr (fun l1 x l2 e => ?_)
    have hx : x ∈ us := by rw [e]; simp
    rw [h x hx c (by simp), dt_ext (cs := cs) (us := l1 ++ l2) (R := R) (R' := R') (fun p hp k hk => h p (by
      rw [e]
      simp only [List.mem_append, List.mem_cons] at hp ⊢
      rcases hp with hp | hp
      · exact Or.inl hp
      · exact Or.inr (Or.inr hp)) k (by simp [hk]))]
theorem dt_cmap (f : Nat → Nat) : ∀ {cs : List Nat} {us : List (Nat → Int)}, dtL (cs.map f) us = dtL cs (us.map (fun r j => r (f j)))
  | [], us => by cases us <;> rfl
  | c :: cs, us => by
    simp only [List.map_cons, dtL]
    rw [selN_map]
    refine selN_congr (fun l1 x l2 _ => ?_)
    rw [dt_cmap f (cs := cs)]
theorem dt_col0 {c : Nat} {cs : List Nat} {us : List (Nat → Int)} (h : ∀ r ∈ us, r c = 0) : dtL (c :: cs) us = 0 := by
  simp only [dtL]
  exact selN_zero (fun l1 x l2 e => by rw [h x (by rw [e]; simp)]; exact Int.zero_mul _)
theorem dt_head {c : Nat} {cs : List Nat} {a : Nat → Int} {us : List (Nat → Int)} (h : ∀ r ∈ us, r c = 0) : dtL (c :: cs) (a :: us) = a c * dtL cs us := by
  simp only [dtL, selN]
  rw [selN_zero (fun l1 x l2 e => by rw [h x (by rw [e]; simp)]; exact Int.zero_mul _), Int.sub_zero]
theorem dt_zrow {cs : List Nat} {l t : List (Nat → Int)} : dtL cs (l ++ (fun _ => 0) :: t) = 0 := by
  have := dt_row (fun _ => 0) (fun _ => 0) 0 0 cs l (t := t)
  simp only [Int.zero_mul, Int.add_zero] at this
  exact this
/-- Chio: all other rows with the first one's column cleared -/
theorem dt_chio1 {d : Int} {c0 : Nat} {cs : List Nat} {r0 : Nat → Int} : ∀ (rs l : List (Nat → Int)), dtL cs (r0 :: (l ++ rs.map (fun r j => d * r j + (-r c0) * r0 j))) = d ^ rs.length * dtL cs (r0 :: (l ++ rs))
  | [], l => by simp
  | r :: rs, l => by
    have h1 := dt_row r r0 d (-r c0) cs (r0 :: l) (t := rs.map (fun r j => d * r j + (-r c0) * r0 j))
    have h2 := dt_same (cs := cs) (a := r0) l [] (rs.map (fun r j => d * r j + (-r c0) * r0 j))
    have h3 := dt_chio1 (d := d) (c0 := c0) (cs := cs) (r0 := r0) rs (l ++ [r])
    simp only [List.append_assoc, List.cons_append, List.nil_append, List.map_cons, List.length_cons] at h1 h2 h3 ⊢
    rw [h1, h2, h3, Int.pow_succ]
    grind
theorem dt_chio {c0 : Nat} {cs : List Nat} {r0 : Nat → Int} {rs : List (Nat → Int)} : (r0 c0) ^ rs.length * dtL (c0 :: cs) (r0 :: rs) = r0 c0 * dtL cs (rs.map (fun r j => r0 c0 * r j + (-r c0) * r0 j)) := by
  have h1 := dt_chio1 (d := r0 c0) (c0 := c0) (cs := c0 :: cs) (r0 := r0) rs []
  simp only [List.nil_append] at h1
  rw [← h1, dt_head (fun r hr => ?_)]
  simp only [List.mem_map] at hr
  obtain ⟨x, _, rfl⟩ := hr
  grind
