/-! FLOWS -/
def dvF (F T : Nat → Nat) (X : Nat → Int) (p : Nat) : Nat → Int
  | 0 => 0
  | k + 1 => dvF F T X p k + ((if F k = p then X k else 0) - (if T k = p then X k else 0))
def PotF (C X : Nat → Int) (F T : Nat → Nat) (room : Int) (A : Nat) (π : Nat → Int) : Prop := ∀ k, k < A → (X k < room → π (T k) ≤ π (F k) + C k) ∧ (0 < X k → π (F k) + C k ≤ π (T k))
theorem dv_up {F T : Nat → Nat} {X : Nat → Int} {p k : Nat} {v : Int} : ∀ A, dvF F T (upI X k (X k + v)) p A = dvF F T X p A + if k < A then ((if F k = p then v else 0) - (if T k = p then v else 0)) else 0
  | 0 => by simp [dvF]
  | A + 1 => by
    rw [dvF, dvF, dv_up A]
    unfold upI
    by_cases c : A = k
    · rw [if_pos c, if_neg (show ¬ k < A by omega), if_pos (show k < A + 1 by omega), c]
      by_cases c1 : F k = p <;> by_cases c2 : T k = p <;> simp only [c1, c2, ↓reduceIte] <;> omega
    · rw [if_neg c]
      by_cases c2 : k < A
      · rw [if_pos c2, if_pos (show k < A + 1 by omega)]; omega
      · rw [if_neg c2, if_neg (show ¬ k < A + 1 by omega)]; omega
/-- sums over arcs and over points -/
theorem dv_sum {F T : Nat → Nat} {Y π : Nat → Int} {P : Nat} : ∀ {A : Nat}, (∀ k, k < A → F k < P ∧ T k < P) → smN (fun k => Y k * (π (F k) - π (T k))) A = smN (fun p => π p * dvF F T Y p A) P
  | 0, _ => by
    simp only [dvF, Int.mul_zero, smN]
    exact (smN_zero P).symm
  | A + 1, h => by
    have ih := dv_sum (F := F) (T := T) (Y := Y) (π := π) (P := P) (A := A) (fun k hk => h k (by omega))
    obtain ⟨hF, hT⟩ := h A (by omega)
    rw [smN, ih]
    have e : smN (fun p => π p * dvF F T Y p (A + 1)) P = smN (fun p => π p * dvF F T Y p A + ((if p = F A then 1 else 0) * (π (F A) * Y A) - (if p = T A then 1 else 0) * (π (T A) * Y A))) P := smN_congr (fun p _ => by
      rw [dvF]
      by_cases c1 : F A = p <;> by_cases c2 : T A = p
      · subst c1
        simp only [c2, ↓reduceIte]; grind
      · subst c1
        simp only [c2, ↓reduceIte, if_neg (fun z : F A = T A => c2 z.symm)]; grind
      · subst c2
        simp only [c1, ↓reduceIte, if_neg (fun z : T A = F A => c1 z.symm)]; grind
      · simp only [c1, c2, ↓reduceIte, if_neg (fun z : p = F A => c1 z.symm), if_neg (fun z : p = T A => c2 z.symm)]; grind)
    rw [e, smN_add, smN_sub, smN_mulr, smN_mulr, smN_one, smN_one, if_pos hF, if_pos hT]
    grind
theorem dv_diff {F T : Nat → Nat} {X X' : Nat → Int} {p : Nat} : ∀ A, dvF F T (fun k => X' k - X k) p A = dvF F T X' p A - dvF F T X p A
  | 0 => rfl
  | A + 1 => by
    rw [dvF, dvF, dvF, dv_diff A]
    by_cases c1 : F A = p <;> by_cases c2 : T A = p <;> simp only [c1, c2, ↓reduceIte] <;> omega
/-- with a potential, none is cheaper -/
theorem flow_opt {C X X' π : Nat → Int} {F T : Nat → Nat} {room : Int} {P A : Nat} (hf : ∀ k, k < A → F k < P ∧ T k < P) (h : PotF C X F T room A π) (hx : ∀ k, k < A → 0 ≤ X' k ∧ X' k ≤ room) (hX : ∀ k, k < A → 0 ≤ X k ∧ X k ≤ room) (hd : ∀ p, p < P → dvF F T X' p A = dvF F T X p A) : smN (fun k => C k * X k) A ≤ smN (fun k => C k * X' k) A := by
  have h1 : 0 ≤ smN (fun k => (X' k - X k) * (C k + (π (F k) - π (T k)))) A := (smN_nn (fun k hk => by
    obtain ⟨a, b⟩ := h k hk
    obtain ⟨x1, x2⟩ := hx k hk
    obtain ⟨y1, y2⟩ := hX k hk
    show 0 ≤ (X' k - X k) * (C k + (π (F k) - π (T k)))
    rcases Int.lt_trichotomy (X' k) (X k) with z | z | z
    · have := b (by omega)
      have h2 := Int.mul_nonneg (show 0 ≤ X k - X' k by omega) (show 0 ≤ -(C k + (π (F k) - π (T k))) by omega)
      have e : (X k - X' k) * -(C k + (π (F k) - π (T k))) = (X' k - X k) * (C k + (π (F k) - π (T k))) := by grind
      rw [← e]; exact h2
    · rw [z, Int.sub_self, Int.zero_mul]; exact Int.le_refl _
    · have := a (by omega)
      exact Int.mul_nonneg (by omega) (by omega))).1
  have h2 : smN (fun k => (X' k - X k) * (C k + (π (F k) - π (T k)))) A = smN (fun k => C k * X' k) A - smN (fun k => C k * X k) A + smN (fun k => (X' k - X k) * (π (F k) - π (T k))) A := by
    rw [← smN_sub, ← smN_add]
    exact smN_congr (fun k _ => by grind)
  have h3 : smN (fun k => (X' k - X k) * (π (F k) - π (T k))) A = 0 := by
    have := dv_sum (F := F) (T := T) (Y := fun k => X' k - X k) (π := π) hf
    rw [this, smN_congr (g := fun _ => 0) (fun p hp => by rw [dv_diff, hd p hp, Int.sub_self, Int.mul_zero]), smN_zero]
  omega
theorem dv_tot {F T : Nat → Nat} {X : Nat → Int} {P A : Nat} (hf : ∀ k, k < A → F k < P ∧ T k < P) : smN (fun p => dvF F T X p A) P = 0 := by
  have := dv_sum (F := F) (T := T) (Y := X) (π := fun _ => 1) hf
  rw [smN_congr (g := fun _ => 0) (fun k _ => by grind), smN_zero] at this
  rw [this]
  exact smN_congr (fun p _ => by grind)
/-- the way back from a point that lacks -/
theorem sd_ok {F T : Nat → Nat} {P A : Nat} {V X0 D C : Nat → Int} {ρ : Nat → Nat} {I room : Int} (hA : A ≤ 16) (hf : ∀ k, k < A → F k < P ∧ T k < P)
    (hV : ∀ p, p < P → V p ≠ -1 → (∃ k, k < A ∧ V p = (k : Int) ∧ T k = p ∧ X0 k < room ∧ D (F k) < I ∧ D p < I ∧ D p = D (F k) + C k ∧ ρ (F k) < ρ p) ∨ (∃ k, k < A ∧ V p = 16 + (k : Int) ∧ F k = p ∧ 0 < X0 k ∧ D (T k) < I ∧ D p < I ∧ D p = D (T k) - C k ∧ ρ (T k) < ρ p)) :
    ∀ (r here : Nat) (X : Nat → Int), here < P → ρ here < r → D here < I → (sdN V F T r here X).1 < P ∧ V (sdN V F T r here X).1 = -1 ∧ D (sdN V F T r here X).1 < I ∧ (∀ p, dvF F T (sdN V F T r here X).2 p A = dvF F T X p A + ((if (sdN V F T r here X).1 = p then 1 else 0) - (if here = p then 1 else 0))) ∧ ∀ j, j < A → (sdN V F T r here X).2 j = X j ∨ ((sdN V F T r here X).2 j = X j + 1 ∧ ∃ x, x < P ∧ ρ x ≤ ρ here ∧ V x = (j : Int)) ∨ ((sdN V F T r here X).2 j = X j - 1 ∧ ∃ x, x < P ∧ ρ x ≤ ρ here ∧ V x = 16 + (j : Int))
  | 0, here, X, _, h, _ => by omega
  | r + 1, here, X, hh, hr, hD => by
    rw [sdN]
    by_cases c : V here = -1
    · rw [if_pos c]
      exact ⟨hh, c, hD, fun p => by simp only; omega, fun j _ => Or.inl rfl⟩
    · rw [if_neg c]
      rcases hV here hh c with ⟨k, k1, k2, k3, k4, k5, k6, k7, k8⟩ | ⟨k, k1, k2, k3, k4, k5, k6, k7, k8⟩
      · rw [k2, if_pos (by omega), Int.toNat_natCast]
        obtain ⟨i1, i2, i3, i4, i5⟩ := sd_ok hA hf hV r (F k) (upI X k (X k + 1)) (hf k k1).1 (by omega) k5
        refine ⟨i1, i2, i3, fun p => ?_, fun j hj => ?_⟩
        · rw [i4 p, dv_up, if_pos k1, k3]
          by_cases z1 : F k = p <;> by_cases z2 : here = p <;> simp only [z1, z2, ↓reduceIte] <;> omega
        · have h5 := i5 j hj
          by_cases z : j = k
          · have e : upI X k (X k + 1) j = X j + 1 := by unfold upI; rw [if_pos z, z]
            rw [e] at h5
            rcases h5 with h5 | ⟨h5, x, x1, x2, x3⟩ | ⟨h5, x, x1, x2, x3⟩
            · exact Or.inr (Or.inl ⟨h5, here, hh, Nat.le_refl _, by rw [k2, z]⟩)
            · exfalso
              rcases hV x x1 (by omega) with ⟨k', a1, a2, a3, -⟩ | ⟨k', a1, a2, a3, -⟩
              · have : k' = k := by omega
                rw [this, k3] at a3
                rw [← a3] at x2
                omega
              · omega
            · exfalso
              rcases hV x x1 (by omega) with ⟨k', a1, a2, a3, -⟩ | ⟨k', a1, a2, a3, a4, a5, a6, a7, a8⟩
              · omega
              · have : k' = k := by omega
                rw [this] at a3 a8
                rw [k3] at a8
                omega
          · have e : upI X k (X k + 1) j = X j := by unfold upI; rw [if_neg z]
            rw [e] at h5
            rcases h5 with h5 | ⟨h5, x, x1, x2, x3⟩ | ⟨h5, x, x1, x2, x3⟩
            · exact Or.inl h5
            · exact Or.inr (Or.inl ⟨h5, x, x1, by omega, x3⟩)
            · exact Or.inr (Or.inr ⟨h5, x, x1, by omega, x3⟩)
      · rw [k2, if_neg (by omega), show (16 + (k : Int)).toNat - 16 = k by omega]
        obtain ⟨i1, i2, i3, i4, i5⟩ := sd_ok hA hf hV r (T k) (upI X k (X k + -1)) (hf k k1).2 (by omega) k5
        rw [show X k - 1 = X k + -1 by omega]
        refine ⟨i1, i2, i3, fun p => ?_, fun j hj => ?_⟩
        · rw [i4 p, dv_up, if_pos k1, k3]
          by_cases z1 : T k = p <;> by_cases z2 : here = p <;> simp only [z1, z2, ↓reduceIte] <;> omega
        · have h5 := i5 j hj
          by_cases z : j = k
          · have e : upI X k (X k + -1) j = X j - 1 := by unfold upI; rw [if_pos z, z]; omega
            rw [e] at h5
            rcases h5 with h5 | ⟨h5, x, x1, x2, x3⟩ | ⟨h5, x, x1, x2, x3⟩
            · exact Or.inr (Or.inr ⟨h5, here, hh, Nat.le_refl _, by rw [k2, z]⟩)
            · exfalso
              rcases hV x x1 (by omega) with ⟨k', a1, a2, a3, a4, a5, a6, a7, a8⟩ | ⟨k', a1, a2, a3, -⟩
              · have : k' = k := by omega
                rw [this] at a3 a8
                rw [k3] at a8
                omega
              · omega
            · exfalso
              rcases hV x x1 (by omega) with ⟨k', a1, a2, a3, -⟩ | ⟨k', a1, a2, a3, -⟩
              · omega
              · have : k' = k := by omega
                rw [this, k3] at a3
                rw [← a3] at x2
                omega
          · have e : upI X k (X k + -1) j = X j := by unfold upI; rw [if_neg z]
            rw [e] at h5
            rcases h5 with h5 | ⟨h5, x, x1, x2, x3⟩ | ⟨h5, x, x1, x2, x3⟩
            · exact Or.inl h5
            · exact Or.inr (Or.inl ⟨h5, x, x1, by omega, x3⟩)
            · exact Or.inr (Or.inr ⟨h5, x, x1, by omega, x3⟩)
theorem bnd_ex (f : Nat → Int) : ∀ n, ∃ M, 0 ≤ M ∧ ∀ k, k < n → f k ≤ M
  | 0 => ⟨0, by omega, fun k hk => by omega⟩
  | n + 1 => by
    obtain ⟨M, h0, h⟩ := bnd_ex f n
    by_cases c : f n ≤ M
    · exact ⟨M, h0, fun k hk => by
        by_cases z : k = n
        · rw [z]; exact c
        · exact h k (by omega)⟩
    · exact ⟨f n, by omega, fun k hk => by
        by_cases z : k = n
        · rw [z]; exact Int.le_refl _
        · have := h k (by omega); omega⟩
/-- one round of a flow: what is found, what is sent -/
theorem flow_round {C X U π : Nat → Int} {F T : Nat → Nat} {P A r : Nat} {I room c : Int} (hP : P ≤ 8) (hA : A ≤ 16) (hf : ∀ k, k < A → F k < P ∧ T k < P) (hC : ∀ k, k < A → 0 ≤ C k ∧ C k ≤ c) (hX : ∀ k, k < A → 0 ≤ X k ∧ X k ≤ room) (hπ : PotF C X F T room A π) (hr : 8 ≤ r) (hcz : 0 ≤ c) (hI : r * (32 * c) + c < I) {D V : Nat → Int} (hs : (D, V) = bfR I (rsE C X F T room A) r (fun p => if 0 < U p then 0 else I, fun _ => -1)) :
    (∀ k, k < A → (X k < room → D (F k) < I → D (T k) < I) ∧ (0 < X k → D (T k) < I → D (F k) < I)) ∧ (∀ p, p < P → -(r * (32 * c)) ≤ D p ∧ D p ≤ I ∧ (0 < U p → D p ≤ 0)) ∧ (∀ p, p < P → -1 ≤ V p ∧ V p < 16 + (A : Int) ∧ (V p < 16 → V p < A)) ∧
    ∀ goal, goal < P → D goal < I → (sdN V F T 8 goal X).1 < P ∧ V (sdN V F T 8 goal X).1 = -1 ∧ 0 < U (sdN V F T 8 goal X).1 ∧ (∀ p, dvF F T (sdN V F T 8 goal X).2 p A = dvF F T X p A + ((if (sdN V F T 8 goal X).1 = p then 1 else 0) - (if goal = p then 1 else 0))) ∧ (∀ k, k < A → 0 ≤ (sdN V F T 8 goal X).2 k ∧ (sdN V F T 8 goal X).2 k ≤ room ∧ (sdN V F T 8 goal X).2 k ≤ X k + 1) ∧ ∃ π', PotF C (sdN V F T 8 goal X).2 F T room A π' := by
  have hEd : EdO P (rsE C X F T room A) π := fun e he => by
    obtain ⟨k, k1, k2⟩ := (rs_mem A).mp he
    obtain ⟨f1, f2⟩ := hf k k1
    obtain ⟨p1, p2⟩ := hπ k k1
    rcases k2 with ⟨a, b⟩ | ⟨a, b⟩
    · rw [b]; exact ⟨f1, f2, by simp only; omega, p1 a⟩
    · rw [b]; exact ⟨f2, f1, by simp only; omega, by have := p2 a; simp only; omega⟩
  have hEc : ∀ e, e ∈ rsE C X F T room A → -c ≤ e.2.2.1 ∧ e.2.2.1 ≤ c := fun e he => by
    obtain ⟨k, k1, k2⟩ := (rs_mem A).mp he
    have := hC k k1
    rcases k2 with ⟨a, b⟩ | ⟨a, b⟩
    · rw [b]; simp only; omega
    · rw [b]; simp only; omega
  have hlen := rs_len (C := C) (X := X) (F := F) (T := T) (room := room) A
  · have hmul : (r : Int) * (((rsE C X F T room A).length : Int) * c) ≤ r * (32 * c) := by
      refine Int.mul_le_mul_of_nonneg_left ?_ (by omega)
      exact Int.mul_le_mul_of_nonneg_right (by omega) hcz
    have hrc : 0 ≤ (r : Int) * (32 * c) := Int.mul_nonneg (by omega) (by omega)
    obtain ⟨o1, o2, o3, ρ, o4, o5⟩ := bf_out (I := I) (c := c) (r := r) (D0 := fun p => if 0 < U p then 0 else I) hP hEd hcz hEc hr (by omega) (fun p => by
      show ite _ _ _ = 0 ∨ ite _ _ _ = I
      split
      · exact Or.inl rfl
      · exact Or.inr rfl) (by omega)
    rw [← hs] at o1 o2 o3 o5
    simp only at o1 o2 o3 o5
    have hV : ∀ p, p < P → V p ≠ -1 → (∃ k, k < A ∧ V p = (k : Int) ∧ T k = p ∧ X k < room ∧ D (F k) < I ∧ D p < I ∧ D p = D (F k) + C k ∧ ρ (F k) < ρ p) ∨ (∃ k, k < A ∧ V p = 16 + (k : Int) ∧ F k = p ∧ 0 < X k ∧ D (T k) < I ∧ D p < I ∧ D p = D (T k) - C k ∧ ρ (T k) < ρ p) := fun p hp hv => by
      obtain ⟨e, x1, x2, x3, x4, x5, x6, x7⟩ := o5 p hp hv
      obtain ⟨k, k1, k2⟩ := (rs_mem A).mp x1
      rcases k2 with ⟨a, b⟩ | ⟨a, b⟩
      · rw [b] at x2 x3 x4 x6 x7
        exact Or.inl ⟨k, k1, x3.symm, x2, a, x4, x5, x6, x7⟩
      · rw [b] at x2 x3 x4 x6 x7
        exact Or.inr ⟨k, k1, x3.symm, x2, a, x4, x5, by simp only at x6; omega, x7⟩
    have hfix : ∀ k, k < A → (X k < room → D (F k) < I → D (T k) ≤ D (F k) + C k ∧ D (T k) < I) ∧ (0 < X k → D (T k) < I → D (F k) ≤ D (T k) - C k ∧ D (F k) < I) := fun k hk => by
      refine ⟨fun a b => ?_, fun a b => ?_⟩
      · exact o1 (F k, T k, C k, (k : Int)) ((rs_mem A).mpr ⟨k, hk, Or.inl ⟨a, rfl⟩⟩) b
      · have := o1 (T k, F k, -C k, 16 + (k : Int)) ((rs_mem A).mpr ⟨k, hk, Or.inr ⟨a, rfl⟩⟩) b
        simp only at this
        omega
    refine ⟨fun k hk => ⟨fun a b => ((hfix k hk).1 a b).2, fun a b => ((hfix k hk).2 a b).2⟩, fun p hp => ?_, fun p hp => ?_, fun goal hg hD => ?_⟩
    · have := o2 p hp
      refine ⟨by omega, ?_, fun hu => ?_⟩
      · have h2 : (if 0 < U p then (0 : Int) else I) ≤ I := by split <;> omega
        omega
      · rw [if_pos hu] at this; omega
    · by_cases z : V p = -1
      · omega
      · rcases hV p hp z with ⟨k, k1, k2, -⟩ | ⟨k, k1, k2, -⟩
        · omega
        · omega
    · obtain ⟨i1, i2, i3, i4, i5⟩ := sd_ok (room := room) hA hf hV 8 goal X hg (o4 goal hg) hD
      refine ⟨i1, i2, ?_, i4, fun k hk => ?_, ?_⟩
      · have h3 := o3 _ i1 i2
        rw [h3] at i3
        apply Classical.byContradiction
        intro z
        rw [if_neg z] at i3
        omega
      · have hx := hX k hk
        rcases i5 k hk with h5 | ⟨h5, x, x1, x2, x3⟩ | ⟨h5, x, x1, x2, x3⟩
        · omega
        · rcases hV x x1 (by omega) with ⟨k', a1, a2, a3, a4, -⟩ | ⟨k', a1, a2, a3, -⟩
          · have : k' = k := by omega
            rw [this] at a4
            omega
          · omega
        · rcases hV x x1 (by omega) with ⟨k', a1, a2, a3, -⟩ | ⟨k', a1, a2, a3, a4, -⟩
          · omega
          · have : k' = k := by omega
            rw [this] at a4
            omega
      · obtain ⟨M1, m0, m1⟩ := bnd_ex (fun k => D (T k) - π (F k) - C k) A
        obtain ⟨M2, m2, m3⟩ := bnd_ex (fun k => D (F k) + C k - π (T k)) A
        refine ⟨fun p => if D p < I then D p else π p + (M1 + M2), fun k hk => ?_⟩
        have b1 : D (T k) - π (F k) - C k ≤ M1 := m1 k hk
        have b2 : D (F k) + C k - π (T k) ≤ M2 := m3 k hk
        obtain ⟨f1, f2⟩ := hfix k hk
        obtain ⟨p1, p2⟩ := hπ k hk
        have old1 : X k < room → (if D (T k) < I then D (T k) else π (T k) + (M1 + M2)) ≤ (if D (F k) < I then D (F k) else π (F k) + (M1 + M2)) + C k := fun a => by
          by_cases z : D (F k) < I
          · obtain ⟨g1, g2⟩ := f1 a z
            rw [if_pos z, if_pos g2]; exact g1
          · rw [if_neg z]
            have := p1 a
            split <;> omega
        have old2 : 0 < X k → (if D (F k) < I then D (F k) else π (F k) + (M1 + M2)) + C k ≤ (if D (T k) < I then D (T k) else π (T k) + (M1 + M2)) := fun a => by
          by_cases z : D (T k) < I
          · obtain ⟨g1, g2⟩ := f2 a z
            rw [if_pos z, if_pos g2]; omega
          · rw [if_neg z]
            have := p2 a
            split <;> omega
        rcases i5 k hk with h5 | ⟨h5, x, x1, x2, x3⟩ | ⟨h5, x, x1, x2, x3⟩
        · rw [h5]; exact ⟨old1, old2⟩
        · rcases hV x x1 (by omega) with ⟨k', a1, a2, a3, a4, a5, a6, a7, a8⟩ | ⟨k', a1, a2, a3, -⟩
          · have : k' = k := by omega
            rw [this] at a3 a4 a5 a7
            rw [← a3] at a6 a7
            refine ⟨fun _ => old1 a4, fun _ => ?_⟩
            simp only [if_pos a5, if_pos a6]; omega
          · omega
        · rcases hV x x1 (by omega) with ⟨k', a1, a2, a3, -⟩ | ⟨k', a1, a2, a3, a4, a5, a6, a7, a8⟩
          · omega
          · have : k' = k := by omega
            rw [this] at a3 a4 a5 a7
            rw [← a3] at a6 a7
            refine ⟨fun _ => ?_, fun _ => old2 a4⟩
            simp only [if_pos a5, if_pos a6]; omega
/-! ALL IS SENT -/
theorem nl_spec {U D : Nat → Int} : ∀ n, (nlN U D n = -1 ∧ ∀ p, p < n → ¬ (U p < 0 ∧ D p < 268435456)) ∨ ∃ g : Nat, nlN U D n = (g : Int) ∧ g < n ∧ U g < 0 ∧ D g < 268435456
  | 0 => Or.inl ⟨rfl, fun p hp => by omega⟩
  | n + 1 => by
    rw [nlN]
    split
    · next c => exact Or.inr ⟨n, rfl, by omega, c.1⟩
    · next c =>
      rcases nl_spec (U := U) (D := D) n with ⟨a, b⟩ | ⟨g, a, b, d⟩
      · refine Or.inl ⟨a, fun p hp z => ?_⟩
        by_cases e : p = n
        · rw [e] at z; exact c ⟨z, Or.inl a⟩
        · exact b p (by omega) z
      · exact Or.inr ⟨g, a, by omega, d⟩
theorem ne_spec {E D : Nat → Int} : ∀ n, (neN E D n = -1 ∧ ∀ p, p < n → ¬ E p < 0) ∨ ∃ g : Nat, neN E D n = (g : Int) ∧ g < n ∧ E g < 0
  | 0 => Or.inl ⟨rfl, fun p hp => by omega⟩
  | n + 1 => by
    rw [neN]
    split
    · next c => exact Or.inr ⟨n, rfl, by omega, c.1⟩
    · next c =>
      rcases ne_spec (E := E) (D := D) n with ⟨a, b⟩ | ⟨g, a, b, d⟩
      · refine Or.inl ⟨a, fun p hp z => ?_⟩
        by_cases e : p = n
        · rw [e] at z; exact c ⟨z, Or.inl a⟩
        · exact b p (by omega) z
      · exact Or.inr ⟨g, a, by omega, d⟩
/-- how much is left over -/
def spT (U : Nat → Int) (P : Nat) : Int := smN (fun p => if 0 < U p then U p else 0) P
theorem sp_nn (U : Nat → Int) (P : Nat) : 0 ≤ spT U P := (smN_nn (fun p _ => by show 0 ≤ ite _ _ _; split <;> omega)).1
theorem sp_congr {U U' : Nat → Int} {P : Nat} (h : ∀ p, p < P → U p = U' p) : spT U P = spT U' P := smN_congr (fun p hp => by rw [h p hp])
theorem sp_none {U : Nat → Int} {P : Nat} (h : ∀ p, p < P → ¬ 0 < U p) (hs : smN U P = 0) : ∀ p, p < P → U p = 0 := fun p hp => by
  have h1 := (smN_np (f := U) (n := P) (fun j hj => by have := h j hj; omega)).2 p hp
  have := h p hp
  omega
theorem sp_none2 {U : Nat → Int} {P : Nat} (h : ∀ p, p < P → ¬ U p < 0) (hs : smN U P = 0) : ∀ p, p < P → U p = 0 := fun p hp => by
  have h1 := (smN_nn (f := U) (n := P) (fun j hj => by have := h j hj; omega)).2 p hp
  have := h p hp
  omega
theorem sp_step {U U' : Nat → Int} {P st goal : Nat} (hs : st < P) (h0 : 0 < U st) (hg : U goal < 0) (h : ∀ p, p < P → U' p = U p - (if st = p then 1 else 0) + (if goal = p then 1 else 0)) : spT U' P = spT U P - 1 := by
  unfold spT
  have h1 := smN_one (k := st) P
  rw [if_pos hs] at h1
  rw [← h1, ← smN_sub]
  refine smN_congr (fun p hp => ?_)
  have e := h p hp
  by_cases z1 : st = p
  · have z2 : ¬ goal = p := fun y => by rw [z1] at h0; rw [y] at hg; omega
    rw [if_pos z1, if_neg z2] at e
    rw [z1] at h0
    rw [if_pos h0, if_pos z1.symm]
    split <;> omega
  · rw [if_neg (show ¬ p = st from fun y => z1 y.symm)]
    rw [if_neg z1] at e
    by_cases z2 : goal = p
    · rw [if_pos z2] at e
      rw [z2] at hg
      rw [if_neg (by omega), if_neg (by omega)]; omega
    · rw [if_neg z2] at e
      have : U' p = U p := by omega
      rw [this]
      omega
/-- no way to a point that lacks: then there is no flow at all -/
theorem flow_cut {X X' U U0 D : Nat → Int} {F T : Nat → Nat} {P A : Nat} {I room : Int} (hf : ∀ k, k < A → F k < P ∧ T k < P) (hX : ∀ k, k < A → 0 ≤ X k ∧ X k ≤ room) (hX' : ∀ k, k < A → 0 ≤ X' k ∧ X' k ≤ room) (hU : ∀ p, p < P → U p = U0 p - dvF F T X p A) (hd : ∀ p, p < P → dvF F T X' p A = U0 p)
    (hcl : ∀ k, k < A → (X k < room → D (F k) < I → D (T k) < I) ∧ (0 < X k → D (T k) < I → D (F k) < I)) (hsrc : ∀ p, p < P → 0 < U p → D p < I) (hno : ∀ p, p < P → ¬ (U p < 0 ∧ D p < I)) (hex : ∃ p, p < P ∧ 0 < U p) : False := by
  have h1 := dv_sum (F := F) (T := T) (Y := fun k => X' k - X k) (π := fun p => if D p < I then (1 : Int) else 0) hf
  have h2 : smN (fun k => (fun k => X' k - X k) k * ((fun p => if D p < I then (1 : Int) else 0) (F k) - (fun p => if D p < I then (1 : Int) else 0) (T k))) A ≤ 0 := (smN_np (fun k hk => by
    obtain ⟨c1, c2⟩ := hcl k hk
    have x1 := hX k hk
    have x2 := hX' k hk
    show (X' k - X k) * ((if D (F k) < I then (1 : Int) else 0) - (if D (T k) < I then 1 else 0)) ≤ 0
    by_cases z1 : D (F k) < I <;> by_cases z2 : D (T k) < I
    · rw [if_pos z1, if_pos z2]; simp
    · rw [if_pos z1, if_neg z2]
      have : ¬ X k < room := fun y => z2 (c1 y z1)
      omega
    · rw [if_neg z1, if_pos z2]
      have : ¬ 0 < X k := fun y => z1 (c2 y z2)
      omega
    · rw [if_neg z1, if_neg z2]; simp)).1
  have h3 : smN (fun p => (fun p => if D p < I then (1 : Int) else 0) p * dvF F T (fun k => X' k - X k) p A) P = smN (fun p => if D p < I then U p else 0) P := smN_congr (fun p hp => by
    rw [dv_diff, hd p hp]
    have := hU p hp
    show (if D p < I then (1 : Int) else 0) * _ = _
    split <;> omega)
  obtain ⟨p, hp, hpos⟩ := hex
  have h4 := (smN_nn (f := fun p => if D p < I then U p else 0) (n := P) (fun q hq => by
    show 0 ≤ ite _ _ _
    split
    · next c =>
      have := hno q hq
      apply Classical.byContradiction
      intro y
      exact this ⟨by omega, c⟩
    · exact Int.le_refl _)).2 p hp
  simp only [if_pos (hsrc p hp hpos)] at h4
  rw [h1, h3] at h2
  omega
theorem sa_ok {C U0 : Nat → Int} {F T : Nat → Nat} {P A : Nat} {room : Int} (hP : P ≤ 8) (hA : A ≤ 16) (hf : ∀ k, k < A → F k < P ∧ T k < P) (hC : ∀ k, k < A → 0 ≤ C k ∧ C k ≤ 131072) (h0 : smN U0 P = 0) : ∀ (r : Nat) (X U : Nat → Int), (∀ k, k < A → 0 ≤ X k ∧ X k ≤ room) → (∃ π, PotF C X F T room A π) → (∀ p, p < P → U p = U0 p - dvF F T X p A) → spT U P < r →
    ((saN C F T room P A r X U).1 = true → (∀ k, k < A → 0 ≤ (saN C F T room P A r X U).2 k ∧ (saN C F T room P A r X U).2 k ≤ room) ∧ (∃ π, PotF C (saN C F T room P A r X U).2 F T room A π) ∧ ∀ p, p < P → dvF F T (saN C F T room P A r X U).2 p A = U0 p) ∧ ((saN C F T room P A r X U).1 = false → ¬ ∃ X' : Nat → Int, (∀ k, k < A → 0 ≤ X' k ∧ X' k ≤ room) ∧ ∀ p, p < P → dvF F T X' p A = U0 p)
  | 0, X, U, _, _, _, hs => by have := sp_nn U P; omega
  | r + 1, X, U, hX, hπ, hU, hs => by
    rw [saN]
    have hsum : smN U P = 0 := by
      rw [smN_congr hU, smN_sub, h0, dv_tot hf]; rfl
    by_cases c1 : hsN U P = false
    · rw [if_pos c1]
      have hz := sp_none (U := U) (P := P) (fun p hp z => by
        have := hsN_iff.mpr ⟨p, hp, z⟩
        rw [c1] at this
        exact absurd this (by decide)) hsum
      refine ⟨fun _ => ⟨hX, hπ, fun p hp => ?_⟩, fun z => by simp at z⟩
      have := hU p hp
      rw [hz p hp] at this
      simp only
      omega
    · rw [if_neg c1]
      have hex : ∃ p, p < P ∧ 0 < U p := by
        apply hsN_iff.mp
        cases hb : hsN U P with
        | true => rfl
        | false => exact absurd hb c1
      obtain ⟨π, hπ⟩ := hπ
      have hbf : ((flD C X U F T room A).1, (flD C X U F T room A).2.1) = bfR 268435456 (rsE C X F T room A) 8 (fun p => if 0 < U p then 0 else 268435456, fun _ => -1) := by
        unfold flD
        exact rxR_bf 8 (fdI U) (Or.inl rfl)
      obtain ⟨q1, q2, q3, q4⟩ := flow_round (U := U) (c := 131072) (r := 8) hP hA hf hC hX hπ (by omega) (by omega) (by decide) hbf
      generalize (flD C X U F T room A).1 = D at *
      generalize (flD C X U F T room A).2.1 = V at *
      rcases nl_spec (U := U) (D := D) P with ⟨a, b⟩ | ⟨g, a, b, d1, d2⟩
      · rw [if_pos a]
        refine ⟨fun z => by simp at z, fun _ => ?_⟩
        rintro ⟨X', x1, x2⟩
        exact flow_cut hf hX x1 hU x2 q1 (fun p hp hu => by have := (q2 p hp).2.2 hu; omega) b hex
      · rw [if_neg (by omega), a, Int.toNat_natCast]
        obtain ⟨i1, i2, i3, i4, i5, i6⟩ := q4 g b d2
        generalize sdN V F T 8 g X = sx at i1 i2 i3 i4 i5 i6 ⊢
        have hne : sx.1 ≠ g := fun z => by rw [z] at i3; omega
        have hsu : ∀ p, suU U sx.1 g p = U p - (if sx.1 = p then 1 else 0) + (if g = p then 1 else 0) := fun p => by
          unfold suU upI
          by_cases z1 : p = g
          · rw [if_pos z1, if_neg (show ¬ g = sx.1 from fun y => hne y.symm), if_neg (show ¬ sx.1 = p from fun y => hne (y.trans z1)), if_pos (show g = p from z1.symm), z1]; omega
          · rw [if_neg z1, if_neg (show ¬ g = p from fun y => z1 y.symm)]
            by_cases z2 : p = sx.1
            · rw [if_pos z2, if_pos (show sx.1 = p from z2.symm), z2]; omega
            · rw [if_neg z2, if_neg (show ¬ sx.1 = p from fun y => z2 y.symm)]; omega
        refine sa_ok hP hA hf hC h0 r sx.2 (suU U sx.1 g) (fun k hk => ⟨(i5 k hk).1, (i5 k hk).2.1⟩) i6 (fun p hp => ?_) ?_
        · rw [hsu p, i4 p, hU p hp]; omega
        · rw [sp_step i1 i3 d1 (fun p _ => hsu p)]; omega
/-! how few are gone again -/
theorem ex_dv {F T : Nat → Nat} {A : Nat} {X : Nat → Int} {p : Nat} : ∀ k, exN F T A X p k = -xsI F T A p - dvF F T X p k
  | 0 => by rw [exN, dvF]; omega
  | k + 1 => by rw [exN, dvF, ex_dv k]; omega
theorem un_dv {F T : Nat → Nat} {X : Nat → Int} {p : Nat} : ∀ {n : Nat}, (∀ k, k < n → F k ≠ p ∧ T k ≠ p) → dvF F T X p n = 0 ∧ cntN F p n = 0 ∧ cntN T p n = 0
  | 0, _ => ⟨rfl, rfl, rfl⟩
  | n + 1, h => by
    obtain ⟨a, b, c⟩ := un_dv (F := F) (T := T) (X := X) (p := p) (n := n) (fun k hk => h k (by omega))
    obtain ⟨h1, h2⟩ := h n (by omega)
    rw [dvF, cntN, cntN, a, b, c, if_neg h1, if_neg h2, if_neg h1, if_neg h2]
    exact ⟨rfl, rfl, rfl⟩
theorem cnt_tot {F : Nat → Nat} {P : Nat} : ∀ {n : Nat}, (∀ k, k < n → F k < P) → smN (fun p => (cntN F p n : Int)) P = n
  | 0, _ => by simp only [cntN]; exact smN_zero P
  | n + 1, h => by
    have ih := cnt_tot (F := F) (P := P) (n := n) (fun k hk => h k (by omega))
    have e : smN (fun p => (cntN F p (n + 1) : Int)) P = smN (fun p => (cntN F p n : Int) + (if p = F n then 1 else 0)) P := smN_congr (fun p _ => by
      rw [cntN]
      by_cases c : F n = p
      · rw [if_pos c, if_pos c.symm]; rfl
      · rw [if_neg c, if_neg (fun z => c z.symm)]; rfl)
    rw [e, smN_add, ih, smN_one, if_pos (h n (by omega))]
    rfl
theorem ag_ok {F T : Nat → Nat} {P A : Nat} (hP : P ≤ 8) (hA : A ≤ 16) (hf : ∀ k, k < A → F k < P ∧ T k < P) (hst : stgB F T A A = true) : ∀ (r : Nat) (X : Nat → Int), (∀ k, k < A → 0 ≤ X k ∧ X k + spT (fun p => exN F T A X p A) P ≤ 16) → (∃ π, PotF (fun _ => 1) X F T 1000 A π) → spT (fun p => exN F T A X p A) P < r →
    AgO F T P A r X ∧ (∀ k, k < A → 0 ≤ agX F T P A r X k ∧ agX F T P A r X k ≤ 16) ∧ (∃ π, PotF (fun _ => 1) (agX F T P A r X) F T 1000 A π) ∧ ∀ p, p < P → dvF F T (agX F T P A r X) p A = -xsI F T A p
  | 0, X, _, _, hs => by have := sp_nn (fun p => exN F T A X p A) P; omega
  | r + 1, X, hX, hπ, hs => by
    have hnn := sp_nn (fun p => exN F T A X p A) P
    have hX2 : ∀ k, k < A → 0 ≤ X k ∧ X k ≤ 1000 := fun k hk => by have := hX k hk; omega
    obtain ⟨π, hπ⟩ := hπ
    have hbf : ((agL F T A X).1, (agL F T A X).2) = bfR 1000 (rsE (fun _ => 1) X F T 1000 A) 16 (fun p => if 0 < exN F T A X p A then 0 else 1000, fun _ => -1) := by
      unfold agL
      exact lxR_bf (fun k hk => by have := hX k hk; omega) _ 16
    obtain ⟨q1, q2, q3, q4⟩ := flow_round (U := fun p => exN F T A X p A) (c := 1) (r := 16) hP hA hf (fun k _ => by simp) hX2 hπ (by omega) (by omega) (by decide) hbf
    have hsum : smN (fun p => exN F T A X p A) P = 0 := by
      have e1 : smN (fun p => exN F T A X p A) P = smN (fun p => (-xsI F T A p - dvF F T X p A)) P := smN_congr (fun p _ => ex_dv A)
      have e2 : smN (fun p => -xsI F T A p) P = 0 := by
        have h1 := cnt_tot (F := F) (P := P) (n := A) (fun k hk => (hf k hk).1)
        have h2 := cnt_tot (F := T) (P := P) (n := A) (fun k hk => (hf k hk).2)
        have : smN (fun p => -xsI F T A p) P = smN (fun p => (cntN T p A : Int)) P - smN (fun p => (cntN F p A : Int)) P := by
          rw [← smN_sub]
          exact smN_congr (fun p _ => by unfold xsI; omega)
        omega
      rw [e1, smN_sub, e2, dv_tot hf]; rfl
    have hD1 : ∀ p, p < P → -1000 ≤ (agL F T A X).1 p ∧ (agL F T A X).1 p ≤ 1000 := fun p hp => by
      have := q2 p hp
      exact ⟨Int.le_trans (by decide) this.1, this.2.1⟩
    rw [AgO, agX]
    rcases ne_spec (E := fun p => exN F T A X p A) (D := (agL F T A X).1) P with ⟨a, b⟩ | ⟨g, a, b, d⟩
    · have ha : agE F T P A X = -1 := a
      rw [if_pos ha]
      have hz := sp_none2 b hsum
      refine ⟨⟨hX2, hD1, Or.inl ha⟩, fun k hk => by have := hX k hk; omega, ⟨π, hπ⟩, fun p hp => ?_⟩
      have := hz p hp
      simp only [ex_dv] at this
      omega
    · have ha : agE F T P A X = (g : Int) := a
      rw [if_neg (by omega)]
      -- the one that lacks is reached
      have hreach : (agL F T A X).1 g < 1000 := by
        have used_of : ∀ p, exN F T A X p A ≠ 0 → (usedN F T A).testBit p = true := fun p hp => by
          apply Classical.byContradiction
          intro z
          have : ∀ k, k < A → F k ≠ p ∧ T k ≠ p := fun k hk => ⟨fun y => z (used_bit.mpr ⟨k, hk, Or.inl y.symm⟩), fun y => z (used_bit.mpr ⟨k, hk, Or.inr y.symm⟩)⟩
          obtain ⟨u1, u2, u3⟩ := un_dv (X := X) this
          rw [ex_dv, u1] at hp
          unfold xsI at hp
          rw [u2, u3] at hp
          exact hp rfl
        obtain ⟨s, s1, s2⟩ : ∃ s, s < P ∧ 0 < exN F T A X s A := by
          apply Classical.byContradiction
          intro z
          have hz := sp_none (U := fun p => exN F T A X p A) (fun p hp y => z ⟨p, hp, y⟩) hsum g b
          have d' : exN F T A X g A < 0 := d
          have hz' : exN F T A X g A = 0 := hz
          omega
        have hsu := used_of s (by omega)
        have hgu := used_of g (by have d' : exN F T A X g A < 0 := d; omega)
        have hspr : sprI true false F T A 8 (2 ^ s) = usedN F T A := by
          obtain ⟨j, j1, j2⟩ := used_bit.mp hsu
          have := stg_all.mp hst j j1
          rcases j2 with j2 | j2
          · rw [j2]; exact this.1
          · rw [j2]; exact this.2
        have := sprI_min (X := fun i => decide ((agL F T A X).1 i < 1000)) (f := true) (b := false) (F := F) (T := T) (A := A) (fun j hj => ⟨fun _ hx => by
          rw [decide_eq_true_eq] at hx ⊢
          exact (q1 j hj).1 (by have := hX j hj; omega) hx, fun z => absurd z (by decide)⟩) (r := 8) (s := 2 ^ s) (fun i hi => by
          rw [Nat.testBit_two_pow] at hi
          simp only [decide_eq_true_eq] at hi ⊢
          rw [← hi]
          have := (q2 s s1).2.2 s2
          omega) g (by rw [hspr]; exact hgu)
        exact of_decide_eq_true this
      obtain ⟨i1, i2, i3, i4, i5, i6⟩ := q4 g b hreach
      have hS : agS F T P A X = (sdN (agL F T A X).2 F T 8 g X).2 := by unfold agS; rw [ha, Int.toNat_natCast]
      have hspT : spT (fun p => exN F T A (agS F T P A X) p A) P = spT (fun p => exN F T A X p A) P - 1 := by
        refine sp_step i1 i3 d (fun p _ => ?_)
        rw [ex_dv, ex_dv, hS, i4 p]
        omega
      have ih := ag_ok hP hA hf hst r (agS F T P A X) (fun k hk => by
        have h1 := hX k hk
        have h2 := i5 k hk
        rw [hspT, hS]
        omega) (by rw [hS]; exact i6) (by rw [hspT]; omega)
      exact ⟨⟨hX2, hD1, Or.inr ⟨q3, by rw [ha, Int.toNat_natCast]; exact i2, ih.1⟩⟩, ih.2⟩
theorem xs_tot {F T : Nat → Nat} {P A : Nat} (hf : ∀ k, k < A → F k < P ∧ T k < P) : smN (fun p => xsI F T A p) P = 0 := by
  have h1 := cnt_tot (F := F) (P := P) (n := A) (fun k hk => (hf k hk).1)
  have h2 := cnt_tot (F := T) (P := P) (n := A) (fun k hk => (hf k hk).2)
  have : smN (fun p => xsI F T A p) P = smN (fun p => (cntN F p A : Int)) P - smN (fun p => (cntN T p A : Int)) P := by
    rw [← smN_sub]; rfl
  omega
theorem dv_zero {F T : Nat → Nat} {p : Nat} : ∀ A, dvF F T (fun _ => 0) p A = 0
  | 0 => rfl
  | A + 1 => by rw [dvF, dv_zero A]; simp
/-- how few lines are gone again: both ways -/
theorem ag_eq {F T : Nat → Nat} {P A : Nat} (hP : P ≤ 8) (hA : A ≤ 16) (hf : ∀ k, k < A → F k < P ∧ T k < P) (hst : stgB F T A A = true) : AgO F T P A 17 (fun _ => 0) ∧ agN P A F T = smN (agX F T P A 17 (fun _ => 0)) A := by
  have pot0 : ∀ room : Int, PotF (fun _ => 1) (fun _ => 0) F T room A (fun _ => 0) := fun room k _ => ⟨fun _ => (show (0 : Int) ≤ 0 + 1 by decide), fun z => absurd z (show ¬ (0 : Int) < 0 by decide)⟩
  have hle : ∀ p, (if 0 < -xsI F T A p then -xsI F T A p else 0) ≤ (cntN T p A : Int) := fun p => by
    unfold xsI
    split <;> omega
  have h16 : spT (fun p => -xsI F T A p) P ≤ 16 := by
    have h2 := cnt_tot (F := T) (P := P) (n := A) (fun k hk => (hf k hk).2)
    have := smN_le (f := fun p => if 0 < -xsI F T A p then -xsI F T A p else 0) (g := fun p => (cntN T p A : Int)) (n := P) (fun p _ => hle p)
    show smN (fun p => if 0 < -xsI F T A p then -xsI F T A p else 0) P ≤ 16
    omega
  have hex0 : ∀ p, exN F T A (fun _ => 0) p A = -xsI F T A p := fun p => by rw [ex_dv, dv_zero]; omega
  have hsp : spT (fun p => exN F T A (fun _ => 0) p A) P = spT (fun p => -xsI F T A p) P := sp_congr (fun p _ => hex0 p)
  obtain ⟨a1, a2, ⟨π1, a3⟩, a4⟩ := ag_ok hP hA hf hst 17 (fun _ => 0) (fun k _ => by rw [hsp]; omega) ⟨_, pot0 1000⟩ (by rw [hsp]; omega)
  refine ⟨a1, ?_⟩
  have hneg : smN (fun p => -xsI F T A p) P = 0 := by
    have := xs_tot hf
    have e : smN (fun p => (0 : Int) - xsI F T A p) P = 0 - smN (fun p => xsI F T A p) P := by rw [smN_sub, smN_zero]
    rw [show (fun p => -xsI F T A p) = fun p => (0 : Int) - xsI F T A p by funext p; omega, e, this]; rfl
  have hsa := sa_ok (C := fun _ => 1) (U0 := fun p => -xsI F T A p) (room := 16) hP hA hf (fun k _ => by decide) hneg 17 (fun _ => 0) (fun p => -xsI F T A p) (fun k _ => by decide) ⟨_, pot0 16⟩ (fun p _ => by rw [dv_zero]; omega) (by omega)
  unfold agN
  cases hb : (saN (fun _ => 1) F T 16 P A 17 (fun _ => 0) (fun p => -xsI F T A p)).1 with
  | false => exact absurd ⟨_, a2, a4⟩ (hsa.2 hb)
  | true =>
    obtain ⟨b1, ⟨π2, b2⟩, b3⟩ := hsa.1 hb
    rw [if_pos rfl]
    generalize (saN (fun _ => 1) F T 16 P A 17 (fun _ => 0) (fun p => -xsI F T A p)).2 = Y at b1 b2 b3 ⊢
    generalize agX F T P A 17 (fun _ => 0) = Z at a2 a3 a4 ⊢
    have o1 := flow_opt hf b2 a2 b1 (fun p hp => by rw [a4 p hp, b3 p hp])
    have o2 := flow_opt hf a3 (X' := Y) (fun k hk => by have := b1 k hk; omega) (fun k hk => by have := a2 k hk; omega) (fun p hp => by rw [a4 p hp, b3 p hp])
    simp only [Int.one_mul] at o1 o2
    exact Int.le_antisymm o1 o2
/-! LINES TURNED ABOUT -/
def stX (s : Nat) (k : Nat) : Int := if s.testBit k = true then 1 else 0
theorem rg_iff {m : Nat → Int} : ∀ P, rgB m P = true ↔ ∀ p, p < P → m p = 0
  | 0 => by simp [rgB]
  | P + 1 => by
    rw [rgB, Bool.and_eq_true, rg_iff P, decide_eq_true_eq]
    constructor
    · rintro ⟨a, b⟩ p hp
      by_cases c : p = P
      · rw [c]; exact b
      · exact a p (by omega)
    · intro h
      exact ⟨fun p hp => h p (by omega), h P (by omega)⟩
theorem rt_dv {F T : Nat → Nat} {s p : Nat} : ∀ k, rtN F T s k p = xsI F T k p - 2 * dvF F T (stX s) p k
  | 0 => by simp [rtN, xsI, cntN, dvF]
  | k + 1 => by
    have hx : xsI F T (k + 1) p = xsI F T k p + (if F k = p then 1 else 0) - (if T k = p then 1 else 0) := by
      unfold xsI
      simp only [cntN]
      by_cases c1 : F k = p <;> by_cases c2 : T k = p <;> simp only [c1, c2, ↓reduceIte] <;> omega
    rw [rtN, dvF, rt_dv k, hx]
    unfold stX
    by_cases c1 : F k = p <;> by_cases c2 : T k = p <;> by_cases c3 : s.testBit k = true <;> simp only [c1, c2, c3, ↓reduceIte, Bool.false_eq_true] <;> omega
theorem od_iff {F T : Nat → Nat} {A : Nat} : ∀ P, odN F T A P = true ↔ ∃ p, p < P ∧ xsI F T A p % 2 = 1
  | 0 => by simp [odN]
  | P + 1 => by
    rw [odN, Bool.or_eq_true, od_iff P, decide_eq_true_eq]
    constructor
    · rintro (⟨p, a, b⟩ | h)
      · exact ⟨p, by omega, b⟩
      · exact ⟨P, by omega, h⟩
    · rintro ⟨p, a, b⟩
      by_cases c : p = P
      · rw [c] at b; exact Or.inr b
      · exact Or.inl ⟨p, by omega, b⟩
theorem ts_bit {X : Nat → Int} {j : Nat} : ∀ n, (tsN X n).testBit j = decide (j < n ∧ 0 < X j)
  | 0 => by simp [tsN]
  | n + 1 => by
    rw [tsN]
    split
    · next c =>
      rw [set_bit, ts_bit n]
      by_cases z : j = n
      · rw [z, decide_eq_true rfl, Bool.or_true]
        exact (decide_eq_true ⟨by omega, c⟩).symm
      · rw [decide_eq_false z, Bool.or_false]
        exact decide_eq_decide.mpr (by omega)
    · next c =>
      rw [ts_bit n]
      refine decide_eq_decide.mpr ⟨fun y => ⟨by omega, y.2⟩, fun y => ⟨?_, y.2⟩⟩
      by_cases z : j = n
      · rw [z] at y; exact absurd y.2 c
      · omega
theorem ts_lt {X : Nat → Int} (n : Nat) : tsN X n < 2 ^ n := Nat.lt_pow_two_of_testBit _ (fun i hi => by
  rw [ts_bit]; exact decide_eq_false (by omega))
theorem orp_add {s k : Nat} (h : s < 2 ^ k) : s ||| 2 ^ k = s + 2 ^ k := by
  rw [Nat.or_comm, Nat.add_comm]
  have := Nat.two_pow_add_eq_or_of_lt h 1
  rw [Nat.mul_one] at this
  exact this.symm
/-- what lines cost: many first, then which -/
theorem co_sum {X : Nat → Int} : ∀ {n : Nat}, n ≤ 16 → (∀ k, k < n → X k = 0 ∨ X k = 1) → smN (fun k => coN k * X k) n = 65536 * (pcN 32 (tsN X n) : Int) + (tsN X n : Int)
  | 0, _, _ => by rw [tsN, pcN_zero]; rfl
  | n + 1, hn, h => by
    have ih := co_sum (X := X) (n := n) (by omega) (fun k hk => h k (by omega))
    have hl := ts_lt (X := X) n
    have hb : (tsN X n).testBit n = false := Nat.testBit_lt_two_pow hl
    rw [smN, ih, tsN]
    rcases h n (by omega) with z | z
    · rw [z, if_neg (by decide)]; omega
    · rw [z, if_pos (by decide), pc_set (by omega) hb, orp_add hl]
      unfold coN
      omega
theorem st_ts {s A : Nat} (hs : s < 2 ^ A) : tsN (stX s) A = s := Nat.eq_of_testBit_eq (fun j => by
  rw [ts_bit]
  unfold stX
  cases hb : s.testBit j with
  | true =>
    have : j < A := by
      rcases Nat.lt_or_ge j A with c | c
      · exact c
      · rw [Nat.testBit_lt_two_pow (Nat.lt_of_lt_of_le hs (Nat.pow_le_pow_right (by decide) c))] at hb
        exact absurd hb (by decide)
    exact decide_eq_true ⟨this, by decide⟩
  | false => exact decide_eq_false (fun z => by simp at z))
theorem rsS_none {F T : Nat → Nat} {P A m : Nat} : ∀ r s, (∀ x, s ≤ x → x < s + r → ¬ (pcN 32 x = m ∧ rgB (rtN F T x A) P = true)) → rsS F T P A m r s = none
  | 0, s, _ => rfl
  | r + 1, s, h => by
    rw [rsS, if_neg (h s (by omega) (by omega))]
    exact rsS_none r (s + 1) (fun x a b => h x (by omega) (by omega))
theorem rsS_some {F T : Nat → Nat} {P A m x : Nat} (hx : pcN 32 x = m ∧ rgB (rtN F T x A) P = true) : ∀ r s, s ≤ x → x < s + r → (∀ y, s ≤ y → y < x → ¬ (pcN 32 y = m ∧ rgB (rtN F T y A) P = true)) → rsS F T P A m r s = some x
  | 0, s, a, b, _ => by omega
  | r + 1, s, a, b, h => by
    rw [rsS]
    by_cases c : s = x
    · rw [c, if_pos hx]
    · rw [if_neg (h s (by omega) (by omega))]
      exact rsS_some hx r (s + 1) (by omega) (by omega) (fun y p q => h y (by omega) q)
theorem rsM_none {F T : Nat → Nat} {P A : Nat} (h : ∀ x, x < 2 ^ A → ¬ rgB (rtN F T x A) P = true) : ∀ r m, rsM F T P A r m = none
  | 0, m => rfl
  | r + 1, m => by
    rw [rsM, rsS_none (2 ^ A) 0 (fun x _ b z => h x (by omega) z.2)]
    exact rsM_none h r (m + 1)
theorem rsM_some {F T : Nat → Nat} {P A x : Nat} (hx : x < 2 ^ A) (hb : rgB (rtN F T x A) P = true) (hmin : ∀ y, y < 2 ^ A → rgB (rtN F T y A) P = true → pcN 32 x < pcN 32 y ∨ (pcN 32 x = pcN 32 y ∧ x ≤ y)) : ∀ r m, m ≤ pcN 32 x → pcN 32 x < m + r → rsM F T P A r m = some (pcN 32 x, x)
  | 0, m, a, b => by omega
  | r + 1, m, a, b => by
    rw [rsM]
    by_cases c : m = pcN 32 x
    · rw [rsS_some (x := x) ⟨c.symm, hb⟩ (2 ^ A) 0 (by omega) (by omega) (fun y _ q z => by
        have := hmin y (by omega) z.2
        omega), c]
    · rw [rsS_none (2 ^ A) 0 (fun y _ q z => by
        have := hmin y (by omega) z.2
        omega)]
      exact rsM_some hx hb hmin r (m + 1) (by omega) (by omega)
theorem pc_le_of_lt {A s : Nat} (hA : A ≤ 32) (hs : s < 2 ^ A) : pcN 32 s ≤ A := by
  rw [pc_ext hA hs]; exact pcN_le A s
/-- lines turned about: both ways -/
theorem tur_eq {F T : Nat → Nat} {P A : Nat} (hP : P ≤ 8) (hA : A ≤ 16) (hf : ∀ k, k < A → F k < P ∧ T k < P) : (turN P A F T = -1 ∧ rsM F T P A (A + 1) 0 = none) ∨ ∃ s : Nat, turN P A F T = (s : Int) ∧ rsM F T P A (A + 1) 0 = some (pcN 32 s, s) := by
  have hbal : ∀ s, rgB (rtN F T s A) P = true ↔ ∀ p, p < P → xsI F T A p = 2 * dvF F T (stX s) p A := fun s => by
    rw [rg_iff]
    constructor
    · intro h p hp
      have := h p hp
      rw [rt_dv] at this
      omega
    · intro h p hp
      rw [rt_dv, h p hp]
      omega
  unfold turN
  by_cases c : odN F T A P = true
  · rw [if_pos c]
    obtain ⟨p, p1, p2⟩ := (od_iff P).mp c
    refine Or.inl ⟨rfl, rsM_none (fun x _ z => ?_) _ _⟩
    have := (hbal x).mp z p p1
    omega
  · rw [if_neg c]
    have hev : ∀ p, p < P → xsI F T A p = 2 * (xsI F T A p / 2) := fun p hp => by
      have : ¬ xsI F T A p % 2 = 1 := fun z => c ((od_iff P).mpr ⟨p, hp, z⟩)
      omega
    have hsum : smN (fun p => xsI F T A p / 2) P = 0 := by
      have h1 := xs_tot hf
      rw [smN_congr (g := fun p => (xsI F T A p / 2) * 2) (fun p hp => by have := hev p hp; omega), smN_mulr] at h1
      omega
    have h16 : spT (fun p => xsI F T A p / 2) P ≤ 16 := by
      have h2 := cnt_tot (F := F) (P := P) (n := A) (fun k hk => (hf k hk).1)
      have := smN_le (f := fun p => if 0 < xsI F T A p / 2 then xsI F T A p / 2 else 0) (g := fun p => (cntN F p A : Int)) (n := P) (fun p _ => by
        unfold xsI
        show ite _ _ _ ≤ _
        split <;> omega)
      show smN (fun p => if 0 < xsI F T A p / 2 then xsI F T A p / 2 else 0) P ≤ 16
      omega
    have hco : ∀ k, k < A → 0 ≤ coN k ∧ coN k ≤ 131072 := fun k hk => by
      have h1 : 2 ^ k ≤ 65536 := pow_16 (by omega)
      unfold coN
      generalize 2 ^ k = y at h1
      omega
    have hsa := sa_ok (C := coN) (U0 := fun p => xsI F T A p / 2) (room := 1) hP hA hf hco hsum 17 (fun _ => 0) (fun p => xsI F T A p / 2) (fun k _ => by decide) ⟨fun _ => 0, fun k hk => ⟨fun _ => (by have := hco k hk; show (0 : Int) ≤ 0 + coN k; omega), fun z => absurd z (show ¬ (0 : Int) < 0 by decide)⟩⟩ (fun p _ => by rw [dv_zero]; omega) (by omega)
    unfold ltS
    have hst01 : ∀ s k, stX s k = 0 ∨ stX s k = 1 := fun s k => by unfold stX; split <;> omega
    cases hb : (saN coN F T 1 P A 17 (fun _ => 0) (fun p => xsI F T A p / 2)).1 with
    | false =>
      rw [if_neg (by decide)]
      refine Or.inl ⟨rfl, rsM_none (fun x _ z => hsa.2 hb ⟨stX x, fun k _ => by have := hst01 x k; omega, fun p hp => ?_⟩) _ _⟩
      have := (hbal x).mp z p hp
      show _ = xsI F T A p / 2
      omega
    | true =>
      obtain ⟨b1, ⟨π, b2⟩, b3⟩ := hsa.1 hb
      rw [if_pos rfl]
      generalize (saN coN F T 1 P A 17 (fun _ => 0) (fun p => xsI F T A p / 2)).2 = X at b1 b2 b3 ⊢
      have hX01 : ∀ k, k < A → X k = 0 ∨ X k = 1 := fun k hk => by have := b1 k hk; omega
      have hxs : ∀ k, k < A → stX (tsN X A) k = X k := fun k hk => by
        unfold stX
        rw [ts_bit]
        rcases hX01 k hk with z | z
        · rw [decide_eq_false (by rw [z]; omega), if_neg (by decide), z]
        · rw [decide_eq_true (And.intro hk (by rw [z]; decide)), if_pos rfl, z]
      have dv_congr : ∀ (Y Z : Nat → Int) p n, (∀ k, k < n → Y k = Z k) → dvF F T Y p n = dvF F T Z p n := fun Y Z p n => by
        induction n with
        | zero => intro _; rfl
        | succ n ih => intro h; rw [dvF, dvF, ih (fun k hk => h k (by omega)), h n (by omega)]
      refine Or.inr ⟨tsN X A, rfl, rsM_some (ts_lt A) ((hbal _).mpr (fun p hp => ?_)) (fun y hy hyb => ?_) (A + 1) 0 (by omega) (by have := pc_le_of_lt (by omega) (ts_lt (X := X) A); omega)⟩
      · rw [dv_congr _ X p A hxs, b3 p hp]
        exact hev p hp
      · have ho := flow_opt hf b2 (X' := stX y) (fun k _ => by have := hst01 y k; omega) b1 (fun p hp => by
          rw [b3 p hp]
          have := (hbal y).mp hyb p hp
          show _ = xsI F T A p / 2
          omega)
        rw [co_sum hA hX01, co_sum hA (fun k _ => hst01 y k), st_ts hy] at ho
        have h1 := ts_lt (X := X) A
        have h2 := pow_16 hA
        omega
