def cbN (f : Nat → Bool) : Nat → Nat
  | 0 => 0
  | i + 1 => cbN f i + if f i = true then 1 else 0
theorem cbN_mono {f : Nat → Bool} : ∀ {i m : Nat}, i ≤ m → cbN f i ≤ cbN f m
  | i, 0, h => by rw [show i = 0 by omega]; exact Nat.le_refl _
  | i, m + 1, h => by
    by_cases c : i = m + 1
    · rw [c]; exact Nat.le_refl _
    · have := cbN_mono (f := f) (i := i) (m := m) (by omega)
      rw [cbN]
      omega
theorem cbN_add {f g k : Nat → Bool} (h : ∀ i, k i = (f i || g i)) (hd : ∀ i, ¬ (f i = true ∧ g i = true)) : ∀ m, cbN f m + cbN g m = cbN k m
  | 0 => rfl
  | m + 1 => by
    have ih := cbN_add h hd m
    have hm := h m
    have dm := hd m
    simp only [cbN]
    cases hf : f m <;> cases hg : g m <;> rw [hf, hg] at hm <;> simp only [hm, Bool.or_true, Bool.or_false, Bool.true_or, Bool.false_or, Bool.false_eq_true, ↓reduceIte]
    · omega
    · omega
    · omega
    · exact absurd ⟨hf, hg⟩ dm
theorem cbN_le {f : Nat → Bool} : ∀ m, cbN f m ≤ m
  | 0 => Nat.le_refl _
  | m + 1 => by
    have := cbN_le (f := f) m
    rw [cbN]
    split <;> omega
def lgI (D : Nat → Nat) (p q : Nat) (N : NN) : Nat → NN
  | 0 => N
  | i + 1 => if D i = p ∧ D (i + 1) = q then addN (lgI D p q N i) p q else lgI D p q N i
def lgQ (D : Nat → Nat) (n p : Nat) (N : NN) : Nat → NN
  | 0 => N
  | q + 1 => lgI D p q (lgQ D n p N q) (n - 1)
def lgP (D : Nat → Nat) (n P : Nat) : Nat → NN
  | 0 => (P, 0, fun _ => 0, fun _ => 0)
  | p + 1 => lgQ D n p (lgP D n P p) P
theorem lgI_A {D : Nat → Nat} {p q : Nat} {N : NN} : ∀ i, (lgI D p q N i).1 = N.1 ∧ (lgI D p q N i).2.1 = N.2.1 + cbN (fun i => decide (D i = p ∧ D (i + 1) = q)) i
  | 0 => ⟨rfl, rfl⟩
  | i + 1 => by
    have ih := lgI_A (D := D) (p := p) (q := q) (N := N) i
    simp only [lgI, cbN]
    by_cases c : D i = p ∧ D (i + 1) = q
    · rw [if_pos c, if_pos (decide_eq_true c)]
      exact ⟨ih.1, by show (lgI D p q N i).2.1 + 1 = _; omega⟩
    · rw [if_neg c, if_neg (by rw [decide_eq_false c]; simp)]
      exact ⟨ih.1, by omega⟩
theorem lgQ_A {D : Nat → Nat} {n p : Nat} {N : NN} : ∀ q, (lgQ D n p N q).1 = N.1 ∧ (lgQ D n p N q).2.1 = N.2.1 + cbN (fun i => decide (D i = p ∧ D (i + 1) < q)) (n - 1)
  | 0 => by
    refine ⟨rfl, ?_⟩
    have : ∀ m, cbN (fun i => decide (D i = p ∧ D (i + 1) < 0)) m = 0 := fun m => by
      induction m with
      | zero => rfl
      | succ m ih => rw [cbN, ih, if_neg (by simp)]
    rw [this]; rfl
  | q + 1 => by
    have ih := lgQ_A (D := D) (n := n) (p := p) (N := N) q
    have il := lgI_A (D := D) (p := p) (q := q) (N := lgQ D n p N q) (n - 1)
    have ad := cbN_add (f := fun i => decide (D i = p ∧ D (i + 1) < q)) (g := fun i => decide (D i = p ∧ D (i + 1) = q)) (k := fun i => decide (D i = p ∧ D (i + 1) < q + 1)) (fun i => by
      rw [← Bool.decide_or]
      exact decide_eq_decide.mpr (by omega)) (fun i => by simp only [decide_eq_true_eq]; omega) (n - 1)
    simp only [lgQ]
    exact ⟨il.1.trans ih.1, by omega⟩
theorem lgP_A {D : Nat → Nat} {n P : Nat} (hD : ∀ i, i < n → D i < P) : ∀ p, p ≤ P → (lgP D n P p).1 = P ∧ (lgP D n P p).2.1 = cbN (fun i => decide (D i < p)) (n - 1)
  | 0, _ => by
    refine ⟨rfl, ?_⟩
    have : ∀ m, cbN (fun i => decide (D i < 0)) m = 0 := fun m => by
      induction m with
      | zero => rfl
      | succ m ih => rw [cbN, ih, if_neg (by simp)]
    rw [this]; rfl
  | p + 1, hp => by
    have ih := lgP_A hD p (by omega)
    have il := lgQ_A (D := D) (n := n) (p := p) (N := lgP D n P p) P
    have e : ∀ m, m < n → cbN (fun i => decide (D i = p ∧ D (i + 1) < P)) m = cbN (fun i => decide (D i = p)) m := fun m => by
      induction m with
      | zero => intro _; rfl
      | succ m ihm =>
        intro hm
        simp only [cbN]
        rw [ihm (by omega)]
        have := hD (m + 1) (by omega)
        congr 2
        exact propext ⟨fun z => by rw [decide_eq_true_eq] at z ⊢; exact z.1, fun z => by rw [decide_eq_true_eq] at z ⊢; exact ⟨z, this⟩⟩
    have ad := cbN_add (f := fun i => decide (D i < p)) (g := fun i => decide (D i = p)) (k := fun i => decide (D i < p + 1)) (fun i => by
      rw [← Bool.decide_or]
      exact decide_eq_decide.mpr (by omega)) (fun i => by simp only [decide_eq_true_eq]; omega) (n - 1)
    simp only [lgP]
    refine ⟨il.1.trans ih.1, ?_⟩
    by_cases hn : n = 0
    · subst hn
      rw [il.2, ih.2]
      rfl
    · rw [il.2, ih.2, e (n - 1) (by omega)]
      omega
theorem lg_room {D : Nat → Nat} {n P p q i : Nat} (hD : ∀ i, i < n → D i < P) (hp : p < P) (hi : i < n - 1) (h : D i = p ∧ D (i + 1) = q) : (lgI D p q (lgQ D n p (lgP D n P p) q) i).2.1 < n - 1 := by
  have a1 := lgI_A (D := D) (p := p) (q := q) (N := lgQ D n p (lgP D n P p) q) i
  have a2 := lgQ_A (D := D) (n := n) (p := p) (N := lgP D n P p) q
  have a3 := lgP_A hD p (by omega)
  have b1 : cbN (fun i => decide (D i = p ∧ D (i + 1) = q)) i + 1 ≤ cbN (fun i => decide (D i = p ∧ D (i + 1) = q)) (n - 1) := by
    have := cbN_mono (f := fun i => decide (D i = p ∧ D (i + 1) = q)) (show i + 1 ≤ n - 1 by omega)
    rw [cbN, if_pos (decide_eq_true h)] at this
    exact this
  have ad := cbN_add (f := fun i => decide (D i = p ∧ D (i + 1) < q)) (g := fun i => decide (D i = p ∧ D (i + 1) = q)) (k := fun i => decide (D i = p ∧ D (i + 1) ≤ q)) (fun i => by
    rw [← Bool.decide_or]
    exact decide_eq_decide.mpr (by omega)) (fun i => by simp only [decide_eq_true_eq]; omega) (n - 1)
  have ad2 := cbN_add (f := fun i => decide (D i < p)) (g := fun i => decide (D i = p ∧ D (i + 1) ≤ q)) (k := fun i => decide (D i < p ∨ D i = p ∧ D (i + 1) ≤ q)) (fun i => by
    rw [← Bool.decide_or]) (fun i => by simp only [decide_eq_true_eq]; omega) (n - 1)
  have := cbN_le (f := fun i => decide (D i < p ∨ D i = p ∧ D (i + 1) ≤ q)) (n - 1)
  omega
def exB (B : Nat → Nat) (c : Nat) : Nat → Bool
  | 0 => false
  | i + 1 => exB B c i || decide (B i = c)
theorem ex_leS {B : Nat → Nat} {j : Nat} : ∀ {n : Nat}, (∀ i, i < n → 97 ≤ B i ∧ B i ≤ 122) → exB B (97 + j) n = (leS B n).testBit j
  | 0, _ => by simp [exB, leS]
  | n + 1, h => by
    have ih := ex_leS (B := B) (j := j) (n := n) (fun i hi => h i (by omega))
    have hb := h n (by omega)
    rw [exB, leS, ih, set_bit]
    congr 1
    exact decide_eq_decide.mpr (by omega)
