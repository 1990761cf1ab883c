/-! BAREISS: what it computes are minors -/
def mnR (G : Nat → Nat → Int) (k a b : Nat) : Int := dtL (List.range k ++ [b]) ((List.range k ++ [a]).map G)
def chG (G : Nat → Nat → Int) (i j : Nat) : Int := G 0 0 * G (i + 1) (j + 1) + (-G (i + 1) 0) * G 0 (j + 1)
def lmN (G : Nat → Nat → Int) (k : Nat) : Int := dtL (List.range k) ((List.range k).map G)
theorem mn_0 (G : Nat → Nat → Int) (a b : Nat) : mnR G 0 a b = G a b := by
  simp [mnR, dtL, selN]
theorem lm_0 (G : Nat → Nat → Int) : lmN G 0 = 1 := rfl
theorem lm_s (G : Nat → Nat → Int) (k : Nat) : lmN G (k + 1) = mnR G k k k := by
  rw [lmN, mnR, List.range_succ]
theorem rng_s (k : Nat) : List.range (k + 1) = 0 :: (List.range k).map (· + 1) := by
  rw [List.range_succ_eq_map]
theorem chio_mn {G : Nat → Nat → Int} (h0 : G 0 0 ≠ 0) (k a b : Nat) : mnR (chG G) k a b = (G 0 0) ^ k * mnR G (k + 1) (a + 1) (b + 1) := by
  have h := dt_chio (c0 := 0) (r0 := G 0) (cs := ((List.range k ++ [b]).map (· + 1))) (rs := ((List.range k ++ [a]).map (· + 1)).map G)
  have e1 : dtL ((List.range k ++ [b]).map (· + 1)) ((((List.range k ++ [a]).map (· + 1)).map G).map (fun r j => G 0 0 * r j + (-r 0) * G 0 j)) = mnR (chG G) k a b := by
    rw [dt_cmap, List.map_map, List.map_map, List.map_map]
    rfl
  have e2 : dtL (0 :: ((List.range k ++ [b]).map (· + 1))) (G 0 :: ((List.range k ++ [a]).map (· + 1)).map G) = mnR G (k + 1) (a + 1) (b + 1) := by
    rw [mnR, rng_s]
    simp only [List.map_append, List.map_cons, List.map_nil, List.cons_append]
  rw [e1, e2] at h
  simp only [List.length_map, List.length_append, List.length_range, List.length_cons, List.length_nil, Nat.zero_add, Int.pow_succ] at h
  exact Int.eq_of_mul_eq_mul_left h0 (by rw [← h]; grind)
theorem chio_lm {G : Nat → Nat → Int} (h0 : G 0 0 ≠ 0) (k : Nat) : G 0 0 * lmN (chG G) k = (G 0 0) ^ k * lmN G (k + 1) := by
  cases k with
  | zero => rw [lm_0, lm_s, mn_0]; grind
  | succ k => rw [lm_s, lm_s, chio_mn h0, Int.pow_succ]; grind
/-- Sylvester -/
theorem sylv : ∀ (k : Nat) {G : Nat → Nat → Int} (a b : Nat), k < a → k < b → (∀ j, j < k → lmN G (j + 1) ≠ 0) → lmN G k * mnR G (k + 1) a b = mnR G k k k * mnR G k a b - mnR G k a k * mnR G k k b
  | 0, G, a, b, _, _, _ => by
    rw [lm_0, mn_0, mn_0, mn_0, mn_0]
    simp [mnR, dtL, selN]
  | k + 1, G, a, b, ha, hb, h => by
    have h0 : G 0 0 ≠ 0 := by
      have := h 0 (by omega)
      rwa [lm_s, mn_0] at this
    obtain ⟨a, rfl⟩ : ∃ a', a = a' + 1 := ⟨a - 1, by omega⟩
    obtain ⟨b, rfl⟩ : ∃ b', b = b' + 1 := ⟨b - 1, by omega⟩
    have ih := sylv k (G := chG G) a b (by omega) (by omega) (fun j hj => by
      rw [lm_s, chio_mn h0, ← lm_s]
      exact Int.mul_ne_zero (Int.pow_ne_zero h0) (h (j + 1) (by omega)))
    have hl := chio_lm h0 k
    rw [chio_mn h0, chio_mn h0, chio_mn h0, chio_mn h0, chio_mn h0] at ih
    have hd : (G 0 0) ^ (k + (k + 1)) ≠ 0 := Int.pow_ne_zero h0
    apply Int.eq_of_mul_eq_mul_left hd
    rw [Int.pow_add, Int.pow_succ]
    rw [Int.pow_succ] at ih
    generalize (G 0 0) ^ k = D at *
    generalize mnR G (k + 1 + 1) (a + 1) (b + 1) = x1 at *
    grind
/-- no way off a row's own point but with a minus, and all of a row together not below nothing -/
def MTy (n : Nat) (G : Nat → Nat → Int) : Prop := ∀ a, a < n → (∀ b, b < n → a ≠ b → G a b ≤ 0) ∧ 0 ≤ smN (G a) n
theorem smN_s (f : Nat → Int) : ∀ n, smN f (n + 1) = f 0 + smN (fun j => f (j + 1)) n
  | 0 => by simp [smN]
  | n + 1 => by
    rw [smN, smN_s f n, smN]
    omega
theorem smN_lin (f g : Nat → Int) (c d : Int) : ∀ n, smN (fun j => c * f j + d * g j) n = c * smN f n + d * smN g n
  | 0 => by simp [smN]
  | n + 1 => by
    simp only [smN, smN_lin f g c d n]
    grind
theorem smN_np {f : Nat → Int} : ∀ {n : Nat}, (∀ j, j < n → f j ≤ 0) → smN f n ≤ 0 ∧ ∀ j, j < n → smN f n ≤ f j
  | 0, _ => ⟨Int.le_refl _, fun j q => absurd q (by omega)⟩
  | n + 1, h => by
    have ih := smN_np (f := f) (n := n) (fun j q => h j (by omega))
    have h0 := h n (by omega)
    simp only [smN]
    refine ⟨by omega, fun j q => ?_⟩
    by_cases c : j = n
    · rw [c]; omega
    · have := ih.2 j (by omega)
      omega
theorem MTy.diag {n : Nat} {G : Nat → Nat → Int} (h : MTy n G) {a : Nat} (ha : a < n) : 0 ≤ G a a ∧ ∀ b, b < n → -G a a ≤ G a b ∧ G a b ≤ G a a := by
  obtain ⟨h1, h2⟩ := h a ha
  have e : ∀ n, smN (G a) n = smN (fun b => if b = a then 0 else G a b) n + (if a < n then G a a else 0) := by
    intro n
    induction n with
    | zero => simp [smN]
    | succ n ih =>
      simp only [smN, ih]
      by_cases c : n = a
      · rw [if_neg (by omega), if_pos c, if_pos (by omega), c]
      · rw [if_neg c]
        by_cases c2 : a < n
        · rw [if_pos c2, if_pos (by omega)]; omega
        · rw [if_neg c2, if_neg (by omega)]; omega
  have hs := smN_np (f := fun b => if b = a then 0 else G a b) (n := n) (fun j q => by
    show ite _ _ _ ≤ (0 : Int)
    by_cases c : j = a
    · rw [if_pos c]; omega
    · rw [if_neg c]; exact h1 j q (fun z => c z.symm))
  have e2 := e n
  rw [if_pos ha] at e2
  refine ⟨by omega, fun b hb => ?_⟩
  by_cases c : b = a
  · rw [c]; omega
  · have h3 := hs.2 b hb
    have h4 := h1 b hb (fun z => c z.symm)
    simp only [if_neg c] at h3
    omega
theorem MTy.chio {n : Nat} {G : Nat → Nat → Int} (h : MTy (n + 1) G) : MTy n (chG G) := by
  have d0 := (h.diag (a := 0) (by omega)).1
  intro a ha
  obtain ⟨h1, h2⟩ := h (a + 1) (by omega)
  obtain ⟨h3, h4⟩ := h 0 (by omega)
  have h5 := h1 0 (by omega) (by omega)
  refine ⟨fun b hb hab => ?_, ?_⟩
  · have h6 := h1 (b + 1) (by omega) (by omega)
    have h7 := h3 (b + 1) (by omega) (by omega)
    rw [chG]
    have e1 : G 0 0 * G (a + 1) (b + 1) ≤ 0 := Int.mul_nonpos_of_nonneg_of_nonpos d0 h6
    have e2 : (-G (a + 1) 0) * G 0 (b + 1) ≤ 0 := Int.mul_nonpos_of_nonneg_of_nonpos (by omega) h7
    omega
  · have e : smN (chG G a) n = G 0 0 * smN (fun j => G (a + 1) (j + 1)) n + (-G (a + 1) 0) * smN (fun j => G 0 (j + 1)) n := smN_lin (fun j => G (a + 1) (j + 1)) (fun j => G 0 (j + 1)) _ _ n
    rw [smN_s] at h2 h4
    rw [e]
    have e1 := Int.mul_nonneg d0 h2
    have e2 : 0 ≤ (-G (a + 1) 0) * (G 0 0 + smN (fun j => G 0 (j + 1)) n) := Int.mul_nonneg (by omega) h4
    grind
theorem dt_zero0 {n : Nat} {G : Nat → Nat → Int} (h : ∀ b, b < n + 1 → G 0 b = 0) : lmN G (n + 1) = 0 := by
  have e := dt_ext (cs := List.range (n + 1)) (us := List.range (n + 1)) (R := G) (R' := fun a b => if a = 0 then 0 else G a b) (fun p _ c hc => by
    by_cases q : p = 0
    · rw [if_pos q, q]; exact h c (List.mem_range.mp hc)
    · rw [if_neg q])
  rw [lmN, e]
  rw [show (List.range (n + 1)).map (fun a b => if a = 0 then 0 else G a b) = [] ++ (fun _ => 0) :: ((List.range n).map (· + 1)).map (fun a b => if a = 0 then 0 else G a b) by
    rw [rng_s]
    rfl]
  exact dt_zrow
/-- a pivot that is nothing: the determinant is nothing -/
theorem lm_piv : ∀ (k n : Nat) {G : Nat → Nat → Int}, MTy n G → k < n → (∀ j, j < k → lmN G (j + 1) ≠ 0) → lmN G (k + 1) = 0 → lmN G n = 0
  | 0, n, G, h, hk, _, hz => by
    rw [lm_s, mn_0] at hz
    obtain ⟨n, rfl⟩ : ∃ m, n = m + 1 := ⟨n - 1, by omega⟩
    exact dt_zero0 (fun b hb => by
      have := (h.diag (a := 0) (by omega)).2 b hb
      omega)
  | k + 1, n, G, h, hk, hp, hz => by
    have h0 : G 0 0 ≠ 0 := by
      have := hp 0 (by omega)
      rwa [lm_s, mn_0] at this
    obtain ⟨n, rfl⟩ : ∃ m, n = m + 1 := ⟨n - 1, by omega⟩
    have ih := lm_piv k n (G := chG G) h.chio (by omega) (fun j hj => by
      rw [lm_s, chio_mn h0, ← lm_s]
      exact Int.mul_ne_zero (Int.pow_ne_zero h0) (hp (j + 1) (by omega))) (by rw [lm_s, chio_mn h0, ← lm_s, hz, Int.mul_zero])
    have e := chio_lm h0 n
    rw [ih, Int.mul_zero] at e
    rcases Int.mul_eq_zero.mp e.symm with e | e
    · exact absurd e (Int.pow_ne_zero h0)
    · exact e
theorem bar_mn {G : Nat → Nat → Int} : ∀ k, (∀ j, j < k → lmN G (j + 1) ≠ 0) → (barGD G k).2 = lmN G k ∧ ∀ a b, (barGD G k).1 a b = mnR G (min k (min a b)) a b
  | 0, _ => ⟨rfl, fun a b => by rw [show min 0 (min a b) = 0 by omega, mn_0]; rfl⟩
  | k + 1, h => by
    obtain ⟨i1, i2⟩ := bar_mn k (fun j hj => h j (by omega))
    have hk : lmN G k ≠ 0 := by
      cases k with
      | zero => rw [lm_0]; decide
      | succ k => exact h k (by omega)
    refine ⟨?_, fun a b => ?_⟩
    · show (barGD G k).1 k k = _
      rw [i2, lm_s, show min k (min k k) = k by omega]
    · show (if k < a ∧ k < b then barS (barGD G k).1 (barGD G k).2 k a b else (barGD G k).1 a b) = _
      by_cases c : k < a ∧ k < b
      · rw [if_pos c, barS, i1, i2, i2, i2, i2, show min k (min k k) = k by omega, show min k (min a b) = k by omega, show min k (min a k) = k by omega, show min k (min k b) = k by omega, show min (k + 1) (min a b) = k + 1 by omega]
        have := sylv k (G := G) a b c.1 c.2 (fun j hj => h j (by omega))
        rw [show mnR G k a b * mnR G k k k - mnR G k a k * mnR G k k b = lmN G k * mnR G (k + 1) a b by rw [this]; grind]
        exact Int.mul_tdiv_cancel_left _ hk
      · rw [if_neg c, i2, show min k (min a b) = min (k + 1) (min a b) by omega]
theorem bar_piv {G : Nat → Nat → Int} : ∀ k, (∀ j, j < k → (barGD G j).1 j j ≠ 0) → ∀ j, j < k → lmN G (j + 1) ≠ 0
  | 0, _ => fun j hj => absurd hj (by omega)
  | k + 1, h => fun j hj => by
    have ih := bar_piv k (fun j hj => h j (by omega))
    by_cases c : j < k
    · exact ih j c
    · have e : j = k := by omega
      subst e
      have h1 := h j (by omega)
      rwa [(bar_mn j ih).2, show min j (min j j) = j by omega, ← lm_s] at h1
theorem detF_lm {n : Nat} {G : Nat → Nat → Int} (hm : MTy n G) : ∀ (r k : Nat), k + r + 1 = n → (∀ j, j < k → lmN G (j + 1) ≠ 0) → detF G n r k = lmN G n
  | 0, k, hk, hp => by
    rw [detF, if_neg (by omega), show n - 1 = k by omega, (bar_mn k hp).2, show min k (min k k) = k by omega, ← lm_s, show k + 1 = n by omega]
  | r + 1, k, hk, hp => by
    rw [detF]
    have e : (barGD G k).1 k k = lmN G (k + 1) := by rw [(bar_mn k hp).2, show min k (min k k) = k by omega, lm_s]
    rw [e]
    by_cases c : lmN G (k + 1) = 0
    · rw [if_pos c, lm_piv k n hm (by omega) hp c]
    · rw [if_neg c]
      exact detF_lm hm r (k + 1) (by omega) (fun j hj => by
        by_cases q : j < k
        · exact hp j q
        · rw [show j = k by omega]; exact c)
theorem detR_lm {n : Nat} {G : Nat → Nat → Int} (hm : MTy n G) : detR G n = lmN G n := by
  cases n with
  | zero => rfl
  | succ n => exact detF_lm hm n 0 (by omega) (fun j hj => absurd hj (by omega))
def pdN (C : Nat → Int) : Nat → Int
  | 0 => 1
  | k + 1 => pdN C k * C k
theorem mn_lev {n : Nat} {G : Nat → Nat → Int} {C : Nat → Int} (hm : MTy n G) (hC : ∀ a, a < n → G a a ≤ C a) : ∀ k, k ≤ n → (∀ j, j < k → lmN G (j + 1) ≠ 0) → 0 < lmN G k ∧ lmN G k ≤ pdN C k ∧ MTy (n - k) (fun i j => mnR G k (k + i) (k + j)) ∧ ∀ i, i < n - k → mnR G k (k + i) (k + i) ≤ C (k + i) * lmN G k
  | 0, _, _ => by
    refine ⟨by rw [lm_0]; decide, by rw [lm_0]; exact Int.le_refl _, ?_, fun i hi => ?_⟩
    · simp only [mn_0, Nat.zero_add]
      exact hm
    · rw [mn_0, lm_0, Nat.zero_add, Int.mul_one]
      exact hC i hi
  | k + 1, hk, hp => by
    obtain ⟨i1, i2, i3, i4⟩ := mn_lev hm hC k (by omega) (fun j hj => hp j (by omega))
    have hz := hp k (by omega)
    have i40 := i4 0 (by omega)
    have hd := (i3.diag (a := 0) (by omega)).1
    simp only [Nat.add_zero, ← lm_s] at i40 hd
    have hpos : 0 < lmN G (k + 1) := by omega
    have hC0 : 0 ≤ C k := by
      apply Classical.byContradiction
      intro c
      have : C k * lmN G k < 0 := Int.mul_neg_of_neg_of_pos (by omega) i1
      omega
    have e : n - k = (n - (k + 1)) + 1 := by omega
    rw [e] at i3
    have hch := i3.chio
    have hs : ∀ i j, chG (fun i j => mnR G k (k + i) (k + j)) i j = lmN G k * mnR G (k + 1) (k + 1 + i) (k + 1 + j) := fun i j => by
      rw [sylv k (G := G) (k + 1 + i) (k + 1 + j) (by omega) (by omega) (fun j hj => hp j (by omega))]
      simp only [chG, Nat.add_zero, show k + (i + 1) = k + 1 + i by omega, show k + (j + 1) = k + 1 + j by omega]
      grind
    refine ⟨hpos, ?_, ?_, fun i hi => ?_⟩
    · rw [pdN]
      have : C k * lmN G k ≤ C k * pdN C k := Int.mul_le_mul_of_nonneg_left i2 hC0
      rw [Int.mul_comm (pdN C k)]
      omega
    · intro a ha
      obtain ⟨c1, c2⟩ := hch a ha
      refine ⟨fun b hb hab => ?_, ?_⟩
      · have := c1 b hb hab
        rw [hs] at this
        exact Int.nonpos_of_mul_nonpos_right this i1
      · have e2 : smN (chG (fun i j => mnR G k (k + i) (k + j)) a) (n - (k + 1)) = lmN G k * smN (fun j => mnR G (k + 1) (k + 1 + a) (k + 1 + j)) (n - (k + 1)) := by
          have := smN_lin (fun j => mnR G (k + 1) (k + 1 + a) (k + 1 + j)) (fun _ => 0) (lmN G k) 0 (n - (k + 1))
          simp only [Int.zero_mul, Int.add_zero] at this
          rw [← this]
          exact congrArg (fun f => smN f (n - (k + 1))) (funext (fun j => hs a j))
        rw [e2] at c2
        exact Int.nonneg_of_mul_nonneg_right c2 i1
    · have h1 := hs i i
      have h2 := i4 (i + 1) (by omega)
      obtain ⟨c1, _⟩ := i3 (i + 1) (by omega)
      obtain ⟨c2, _⟩ := i3 0 (by omega)
      have c3 := c1 0 (by omega) (by omega)
      have c4 := c2 (i + 1) (by omega) (by omega)
      simp only [Nat.add_zero] at c3 c4
      have h3 : 0 ≤ mnR G k (k + (i + 1)) k * mnR G k k (k + (i + 1)) := Int.mul_nonneg_of_nonpos_of_nonpos c3 c4
      simp only [chG, Nat.add_zero, ← lm_s] at h1
      have h4 : lmN G (k + 1) * mnR G k (k + (i + 1)) (k + (i + 1)) ≤ lmN G (k + 1) * (C (k + (i + 1)) * lmN G k) := Int.mul_le_mul_of_nonneg_left h2 (by omega)
      have h5 : lmN G k * mnR G (k + 1) (k + 1 + i) (k + 1 + i) ≤ lmN G k * (C (k + 1 + i) * lmN G (k + 1)) := by
        rw [show k + 1 + i = k + (i + 1) by omega] at h1 ⊢
        grind
      exact Int.le_of_mul_le_mul_left h5 i1
theorem bar_all {n : Nat} {G : Nat → Nat → Int} {C : Nat → Int} {B : Int} (hm : MTy n G) (hC : ∀ a, a < n → G a a ≤ C a) (hB : ∀ k a, k ≤ a → a < n → pdN C k * C a < B) (hC0 : ∀ a, a < n → 0 ≤ C a) (k : Nat) (hk : k < n) (hp : ∀ j, j < k → (barGD G j).1 j j ≠ 0) (a b : Nat) (ha : a < n) (hb : b < n) : -B < (barGD G k).1 a b ∧ (barGD G k).1 a b < B := by
  have hp2 := bar_piv k hp
  rw [(bar_mn k hp2).2]
  have hl : min k (min a b) ≤ k := by omega
  obtain ⟨l1, l2, l3, l4⟩ := mn_lev hm hC (min k (min a b)) (by omega) (fun j hj => hp2 j (by omega))
  generalize hm' : min k (min a b) = m at *
  have d := (l3.diag (a := a - m) (by omega)).2 (b - m) (by omega)
  have l5 := l4 (a - m) (by omega)
  simp only [show m + (a - m) = a by omega, show m + (b - m) = b by omega] at d l5
  have := hB m a (by omega) ha
  have h6 : C a * lmN G m ≤ C a * pdN C m := Int.mul_le_mul_of_nonneg_left l2 (hC0 a ha)
  rw [Int.mul_comm (C a) (pdN C m)] at h6
  omega
theorem det_nn {n : Nat} {G : Nat → Nat → Int} {C : Nat → Int} (hm : MTy n G) (hC : ∀ a, a < n → G a a ≤ C a) (hC0 : ∀ a, a < n → 0 ≤ C a) : 0 ≤ detR G n ∧ detR G n ≤ pdN C n := by
  rw [detR_lm hm]
  have hpn : ∀ k, k ≤ n → 0 ≤ pdN C k := by
    intro k
    induction k with
    | zero => intro _; show (0 : Int) ≤ 1; decide
    | succ k ih => intro hk; exact Int.mul_nonneg (ih (by omega)) (hC0 k (by omega))
  by_cases c : ∀ j, j < n → lmN G (j + 1) ≠ 0
  · obtain ⟨l1, l2, -, -⟩ := mn_lev hm hC n (Nat.le_refl _) c
    omega
  · have hz : ∀ k, k ≤ n → (¬ ∀ j, j < k → lmN G (j + 1) ≠ 0) → lmN G n = 0 := by
      intro k
      induction k with
      | zero => intro _ h; exact absurd (fun j hj => absurd hj (by omega)) h
      | succ k ih =>
        intro hk h
        by_cases c2 : ∀ j, j < k → lmN G (j + 1) ≠ 0
        · refine lm_piv k n hm (by omega) c2 ?_
          apply Classical.byContradiction
          intro c3
          exact h (fun j hj => by
            by_cases q : j < k
            · exact c2 j q
            · rw [show j = k by omega]; exact c3)
        · exact ih (by omega) c2
    rw [hz n (Nat.le_refl _) c]
    exact ⟨Int.le_refl _, hpn n (Nat.le_refl _)⟩
