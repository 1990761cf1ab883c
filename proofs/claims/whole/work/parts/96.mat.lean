/-! BOUNDS: no matrix of 16 ways grows too large -/
theorem sum8_sm (f : Nat → Int) : sum8 f = smN f 8 := by
  simp only [sum8, smN, Int.zero_add]
theorem rws_sum {root : Nat} {S : Nat → Bool} {f : Nat → Int} : ∀ p, smN (fun j => f ((rwsN root S p).2 j)) (rwsN root S p).1 = smN (fun q => if q ≠ root ∧ S q = true then f q else 0) p
  | 0 => rfl
  | p + 1 => by
    have ih := rws_sum (root := root) (S := S) (f := f) p
    simp only [smN]
    rw [← ih]
    by_cases c : p ≠ root ∧ S p = true
    · have e : rwsN root S (p + 1) = ((rwsN root S p).1 + 1, upN (rwsN root S p).2 (rwsN root S p).1 p) := if_pos c
      rw [e, if_pos c]
      simp only [smN]
      rw [smN_congr (g := fun j => f ((rwsN root S p).2 j)) (fun j hj => by simp only [upN]; rw [if_neg (by omega)])]
      simp only [upN, ↓reduceIte]
    · have e : rwsN root S (p + 1) = rwsN root S p := if_neg c
      rw [e, if_neg c]
      omega
theorem smN_le {f g : Nat → Int} : ∀ {n : Nat}, (∀ j, j < n → f j ≤ g j) → smN f n ≤ smN g n
  | 0, _ => Int.le_refl _
  | n + 1, h => by
    have := smN_le (f := f) (g := g) (n := n) (fun j q => h j (by omega))
    have := h n (by omega)
    simp only [smN]
    omega
theorem rws_le {root : Nat} {S : Nat → Bool} {f : Nat → Int} (h : ∀ q, q < 8 → 0 ≤ f q) : smN (fun j => f ((rwsN root S 8).2 j)) (rwsN root S 8).1 ≤ sum8 f := by
  rw [rws_sum, sum8_sm]
  exact smN_le (fun j hj => by
    have := h j hj
    split <;> omega)
theorem rws_lt {root : Nat} {S : Nat → Bool} : ∀ {p j : Nat}, j < (rwsN root S p).1 → (rwsN root S p).2 j < p ∧ (rwsN root S p).2 j ≠ root ∧ S ((rwsN root S p).2 j) = true
  | 0, j, h => by simp [rwsN] at h
  | p + 1, j, h => by
    by_cases c : p ≠ root ∧ S p = true
    · have e : rwsN root S (p + 1) = ((rwsN root S p).1 + 1, upN (rwsN root S p).2 (rwsN root S p).1 p) := if_pos c
      rw [e] at h ⊢
      simp only [upN] at h ⊢
      by_cases c2 : j = (rwsN root S p).1
      · rw [if_pos c2]; exact ⟨by omega, c⟩
      · rw [if_neg c2]
        have := rws_lt (root := root) (S := S) (p := p) (j := j) (by omega)
        exact ⟨by omega, this.2⟩
    · have e : rwsN root S (p + 1) = rwsN root S p := if_neg c
      rw [e] at h ⊢
      have := rws_lt (root := root) (S := S) (p := p) (j := j) h
      exact ⟨by omega, this.2⟩
theorem lap_sum {W : Nat → Nat → Int} {O : Nat → Int} {R : Nat → Nat} {i : Nat} : ∀ n, smN (lapN W O R i) n = (if i < n then O (R i) else 0) - smN (fun j => W (R i) (R j)) n
  | 0 => by simp [smN]
  | n + 1 => by
    have ih := lap_sum (W := W) (O := O) (R := R) (i := i) n
    simp only [smN, ih, lapN]
    by_cases c : i = n
    · subst c
      rw [if_neg (by omega), if_pos rfl, if_pos (by omega)]
      omega
    · rw [if_neg c]
      by_cases c2 : i < n
      · rw [if_pos c2, if_pos (by omega)]; omega
      · rw [if_neg c2, if_neg (by omega)]; omega
theorem lap_MTy {W : Nat → Nat → Int} {O : Nat → Int} (h : MatP W O) (U : Nat → Bool) (root : Nat) : MTy (rwsN root U 8).1 (lapN W O (rwsN root U 8).2) := by
  obtain ⟨h1, h2, h3⟩ := h
  intro a ha
  have la := (rws_lt ha).1
  refine ⟨fun b hb hab => ?_, ?_⟩
  · have lb := (rws_lt hb).1
    have := h1 _ _ la lb
    rw [lapN, if_neg hab]
    omega
  · rw [lap_sum, if_pos ha, h2 _ la]
    have := rws_le (root := root) (S := U) (f := W ((rwsN root U 8).2 a)) (fun q hq => h1 _ _ la hq)
    omega
theorem two_pow_ge : ∀ n : Nat, (n : Int) ≤ 2 ^ n
  | 0 => by decide
  | n + 1 => by
    have := two_pow_ge n
    have h1 : (1 : Int) ≤ 2 ^ n := Int.pow_pos (by decide)
    rw [Int.pow_succ]
    omega
theorem pd_pow {C : Nat → Int} : ∀ {k : Nat}, (∀ j, j < k → 0 ≤ C j) → 0 ≤ smN C k ∧ 0 ≤ pdN C k ∧ pdN C k ≤ 2 ^ (smN C k).toNat
  | 0, _ => by simp [smN, pdN]
  | k + 1, h => by
    obtain ⟨i1, i2, i3⟩ := pd_pow (C := C) (k := k) (fun j q => h j (by omega))
    have hk := h k (by omega)
    simp only [smN, pdN]
    refine ⟨by omega, Int.mul_nonneg i2 hk, ?_⟩
    rw [Int.toNat_add i1 hk, Int.pow_add]
    have h2 := two_pow_ge (C k).toNat
    rw [Int.toNat_of_nonneg hk] at h2
    exact Int.mul_le_mul i3 h2 hk (Int.le_of_lt (Int.pow_pos (by decide)))
theorem pow_le16 {m : Nat} (h : m ≤ 16) : (2 : Int) ^ m ≤ 65536 := by
  have : (2 : Nat) ^ m ≤ 2 ^ 16 := Nat.pow_le_pow_right (by decide) h
  have e : ((2 ^ m : Nat) : Int) = (2 : Int) ^ m := by simp
  rw [← e]
  omega
theorem lap_room {W : Nat → Nat → Int} {O : Nat → Int} (h : MatP W O) (U : Nat → Bool) (root : Nat) (k a : Nat) (hka : k ≤ a) (ha : a < (rwsN root U 8).1) : pdN (fun j => O ((rwsN root U 8).2 j)) k * O ((rwsN root U 8).2 a) < 2147483648 := by
  obtain ⟨h1, h2, h3⟩ := h
  have hO : ∀ p, p < 8 → 0 ≤ O p := fun p hp => by
    rw [h2 p hp, sum8_sm]
    exact (smN_nn (fun j hj => h1 p j hp hj)).1
  have hC : ∀ j, j < (rwsN root U 8).1 → 0 ≤ O ((rwsN root U 8).2 j) := fun j hj => hO _ (rws_lt hj).1
  obtain ⟨p1, p2, p3⟩ := pd_pow (C := fun j => O ((rwsN root U 8).2 j)) (k := k) (fun j hj => hC j (by omega))
  have ha0 := hC a ha
  have h4 := two_pow_ge (O ((rwsN root U 8).2 a)).toNat
  rw [Int.toNat_of_nonneg ha0] at h4
  have h5 : pdN (fun j => O ((rwsN root U 8).2 j)) k * O ((rwsN root U 8).2 a) ≤ 2 ^ (smN (fun j => O ((rwsN root U 8).2 j)) k).toNat * 2 ^ (O ((rwsN root U 8).2 a)).toNat := Int.mul_le_mul p3 h4 ha0 (Int.le_of_lt (Int.pow_pos (by decide)))
  rw [← Int.pow_add, ← Int.toNat_add p1 ha0] at h5
  have h6 : smN (fun j => O ((rwsN root U 8).2 j)) k + O ((rwsN root U 8).2 a) ≤ 16 := by
    have l := rws_le (root := root) (S := U) (f := O) hO
    have mono : ∀ m, (∀ j, j < m → 0 ≤ O ((rwsN root U 8).2 j)) → k ≤ m → smN (fun j => O ((rwsN root U 8).2 j)) k ≤ smN (fun j => O ((rwsN root U 8).2 j)) m := by
      intro m
      induction m with
      | zero => intro _ hk; rw [show k = 0 by omega]; exact Int.le_refl _
      | succ m ih =>
        intro hm hk
        by_cases c : k = m + 1
        · rw [c]; exact Int.le_refl _
        · have := ih (fun j hj => hm j (by omega)) (by omega)
          have := hm m (by omega)
          simp only [smN]
          omega
    have s1 := mono a (fun j hj => hC j (by omega)) hka
    have s2 : smN (fun j => O ((rwsN root U 8).2 j)) (a + 1) ≤ smN (fun j => O ((rwsN root U 8).2 j)) (rwsN root U 8).1 := by
      have mono2 : ∀ m, a + 1 ≤ m → m ≤ (rwsN root U 8).1 → smN (fun j => O ((rwsN root U 8).2 j)) (a + 1) ≤ smN (fun j => O ((rwsN root U 8).2 j)) m := by
        intro m
        induction m with
        | zero => intro hk; omega
        | succ m ih =>
          intro hk hm
          by_cases c : a + 1 = m + 1
          · rw [c]; exact Int.le_refl _
          · have := ih (by omega) (by omega)
            have := hC m (by omega)
            simp only [smN] at *
            omega
      exact mono2 _ (by omega) (Nat.le_refl _)
    simp only [smN] at s2
    omega
  have := pow_le16 (m := (smN (fun j => O ((rwsN root U 8).2 j)) k + O ((rwsN root U 8).2 a)).toNat) (by omega)
  omega
theorem fac_mul : ∀ a b : Nat, facN a * facN b ≤ facN (a + b)
  | a, 0 => by simp [facN]
  | a, b + 1 => by
    have ih := fac_mul a b
    rw [← Nat.add_assoc]
    simp only [facN]
    have : facN a * ((b + 1) * facN b) = (b + 1) * (facN a * facN b) := by rw [← Nat.mul_assoc, Nat.mul_comm (facN a), Nat.mul_assoc]
    rw [this]
    exact Nat.mul_le_mul (by omega) ih
theorem fac_mono {a b : Nat} (h : a ≤ b) : facN a ≤ facN b := by
  have := fac_mul a (b - a)
  rw [show a + (b - a) = b by omega] at this
  have hp := facN_pos (b - a)
  exact Nat.le_trans (Nat.le_mul_of_pos_right _ hp) this
theorem or_pd {goal : Nat} {O : Nat → Int} (hO : ∀ p, p < 8 → 0 ≤ O p ∧ O p ≤ 16) (hg : goal < 8) : ∀ p, p ≤ 8 → (O goal).toNat + (smN (fun q => if q ≠ goal then O q else 0) p).toNat ≤ 16 → 0 ≤ smN (fun q => if q ≠ goal then O q else 0) p ∧ 0 ≤ orN goal O p ∧ orN goal O p * pdN (fun j => O ((rwsN goal (fun p => decide (0 < O p)) p).2 j)) (rwsN goal (fun p => decide (0 < O p)) p).1 ≤ (facN ((O goal).toNat + (smN (fun q => if q ≠ goal then O q else 0) p).toNat) : Int)
  | 0, _, _ => by
    have hg2 := hO goal hg
    simp only [smN, orN, rwsN, pdN, facI, Int.mul_one]
    rw [if_pos hg2]
    refine ⟨Int.le_refl _, by omega, ?_⟩
    simp
  | p + 1, hp, h16 => by
    have hp8 := hO p (by omega)
    have hs0 : 0 ≤ smN (fun q => if q ≠ goal then O q else 0) p := (smN_nn (fun j hj => by
      have := hO j (by omega)
      show 0 ≤ ite _ _ _
      split <;> omega)).1
    simp only [smN] at h16 ⊢
    have hO' : 0 ≤ (if p ≠ goal then O p else 0) := by split <;> omega
    obtain ⟨i1, i2, i3⟩ := or_pd hO hg p (by omega) (by omega)
    refine ⟨by omega, ?_⟩
    by_cases c : p ≠ goal ∧ 0 < O p
    · have e : rwsN goal (fun p => decide (0 < O p)) (p + 1) = ((rwsN goal (fun p => decide (0 < O p)) p).1 + 1, upN (rwsN goal (fun p => decide (0 < O p)) p).2 (rwsN goal (fun p => decide (0 < O p)) p).1 p) := if_pos ⟨c.1, decide_eq_true c.2⟩
      have e2 : orN goal O (p + 1) = orN goal O p * facI (O p - 1) := if_pos c
      have e3 : facI (O p - 1) = (facN (O p - 1).toNat : Int) := if_pos (by omega)
      rw [e, e2, if_pos c.1]
      simp only [pdN]
      have e4 : ∀ m, m ≤ (rwsN goal (fun p => decide (0 < O p)) p).1 → pdN (fun j => O (upN (rwsN goal (fun p => decide (0 < O p)) p).2 (rwsN goal (fun p => decide (0 < O p)) p).1 p j)) m = pdN (fun j => O ((rwsN goal (fun p => decide (0 < O p)) p).2 j)) m := by
        intro m
        induction m with
        | zero => intro _; rfl
        | succ m ih =>
          intro hm
          simp only [pdN]
          rw [ih (by omega)]
          simp only [upN]
          rw [if_neg (by omega)]
      rw [e4 _ (Nat.le_refl _)]
      simp only [upN, ↓reduceIte]
      obtain ⟨X, hX⟩ : ∃ X, pdN (fun j => O ((rwsN goal (fun p => decide (0 < O p)) p).2 j)) (rwsN goal (fun p => decide (0 < O p)) p).1 = X := ⟨_, rfl⟩
      rw [hX] at i3 ⊢
      obtain ⟨y, hy⟩ : ∃ y : Nat, O p = (y : Int) + 1 := ⟨(O p - 1).toNat, by omega⟩
      rw [e3, hy] at *
      rw [show ((y : Int) + 1 - 1).toNat = y by omega]
      rw [show (smN (fun q => if q ≠ goal then O q else 0) p + ((y : Int) + 1)).toNat = (smN (fun q => if q ≠ goal then O q else 0) p).toNat + (y + 1) by omega]
      refine ⟨Int.mul_nonneg i2 (by omega), ?_⟩
      have f1 : (facN (y + 1) : Int) = ((y : Int) + 1) * (facN y : Int) := by simp [facN]
      have h1 : orN goal O p * (facN y : Int) * (X * ((y : Int) + 1)) = (orN goal O p * X) * (facN (y + 1) : Int) := by rw [f1]; grind
      rw [h1]
      have h2 := fac_mul ((O goal).toNat + (smN (fun q => if q ≠ goal then O q else 0) p).toNat) (y + 1)
      rw [← Nat.add_assoc]
      have h3 : (orN goal O p * X) * (facN (y + 1) : Int) ≤ (facN ((O goal).toNat + (smN (fun q => if q ≠ goal then O q else 0) p).toNat) : Int) * (facN (y + 1) : Int) := Int.mul_le_mul_of_nonneg_right i3 (by omega)
      have h4 : ((facN ((O goal).toNat + (smN (fun q => if q ≠ goal then O q else 0) p).toNat) * facN (y + 1) : Nat) : Int) ≤ (facN ((O goal).toNat + (smN (fun q => if q ≠ goal then O q else 0) p).toNat + (y + 1)) : Int) := by exact_mod_cast h2
      rw [Int.natCast_mul] at h4
      exact Int.le_trans h3 h4
    · have e : rwsN goal (fun p => decide (0 < O p)) (p + 1) = rwsN goal (fun p => decide (0 < O p)) p := if_neg (fun z => c ⟨z.1, of_decide_eq_true z.2⟩)
      have e2 : orN goal O (p + 1) = orN goal O p := if_neg c
      rw [e, e2]
      refine ⟨i2, Int.le_trans i3 ?_⟩
      have := fac_mono (a := (O goal).toNat + (smN (fun q => if q ≠ goal then O q else 0) p).toNat) (b := (O goal).toNat + (smN (fun q => if q ≠ goal then O q else 0) p + if p ≠ goal then O p else 0).toNat) (by omega)
      exact_mod_cast this
theorem MatP.O {W : Nat → Nat → Int} {O : Nat → Int} (h : MatP W O) : ∀ p, p < 8 → 0 ≤ O p ∧ O p ≤ 16 := by
  obtain ⟨h1, h2, h3⟩ := h
  have h0 : ∀ p, p < 8 → 0 ≤ O p := fun p hp => by
    rw [h2 p hp, sum8_sm]
    exact (smN_nn (fun j hj => h1 p j hp hj)).1
  intro p hp
  have := (smN_nn (n := 8) h0).2 p hp
  rw [sum8_sm] at h3
  exact ⟨h0 p hp, by omega⟩
theorem mat_tr {W : Nat → Nat → Int} {O : Nat → Int} (h : MatP W O) {goal : Nat} (hg : goal < 8) : 0 ≤ trN W O goal ∧ trN W O goal ≤ 20922789888000 := by
  have hO := h.O
  have hm := lap_MTy h (fun p => decide (0 < O p)) goal
  have hd := det_nn (C := fun j => O ((rwsN goal (fun p => decide (0 < O p)) 8).2 j)) hm (fun a ha => by
    have l := (rws_lt ha).1
    have := h.1 _ _ l l
    rw [lapN, if_pos rfl]
    omega) (fun a ha => (hO _ (rws_lt ha).1).1)
  have hs : smN (fun q => if q ≠ goal then O q else 0) 8 + O goal = sum8 O := by
    rw [sum8_sm]
    have e : ∀ n, smN (fun q => if q ≠ goal then O q else 0) n + (if goal < n then O goal else 0) = smN O n := by
      intro n
      induction n with
      | zero => simp [smN]
      | succ n ih =>
        simp only [smN]
        by_cases c : n = goal
        · rw [if_neg (by omega), if_pos (by omega), c]
          rw [if_neg (by omega), c] at ih
          omega
        · rw [if_pos c]
          by_cases c2 : goal < n
          · rw [if_pos (by omega)]; rw [if_pos c2] at ih; omega
          · rw [if_neg (by omega)]; rw [if_neg c2] at ih; omega
    have := e 8
    rw [if_pos hg] at this
    exact this
  have hs0 : 0 ≤ smN (fun q => if q ≠ goal then O q else 0) 8 := (smN_nn (fun j hj => by
    have := hO j hj
    show 0 ≤ ite _ _ _
    split <;> omega)).1
  have hgo := hO goal hg
  have h3 := h.2.2
  have h16 : (O goal).toNat + (smN (fun q => if q ≠ goal then O q else 0) 8).toNat ≤ 16 := by omega
  obtain ⟨-, o1, o2⟩ := or_pd hO hg 8 (Nat.le_refl _) h16
  have f16 := fac_mono h16
  have e16 : facN 16 = 20922789888000 := by decide
  unfold trN
  refine ⟨Int.mul_nonneg o1 hd.1, ?_⟩
  have := Int.mul_le_mul_of_nonneg_left hd.2 o1
  have f16' : (facN ((O goal).toNat + (smN (fun q => if q ≠ goal then O q else 0) 8).toNat) : Int) ≤ 20922789888000 := by
    rw [e16] at f16
    omega
  omega
theorem mat_ok : MatOK := by
  intro W O h
  have hO := h.O
  refine ⟨fun p hp => ?_, fun U root => ?_, fun goal hg => ?_⟩
  · have := hO p hp
    refine ⟨by omega, by omega, fun q hq => ?_⟩
    have w0 := h.1 p q hp hq
    have e := h.2.1 p hp
    rw [sum8_sm] at e
    have := (smN_nn (n := 8) (fun j hj => h.1 p j hp hj)).2 q hq
    omega
  · have hm := lap_MTy h U root
    have hC : ∀ a, a < (rwsN root U 8).1 → lapN W O (rwsN root U 8).2 a a ≤ O ((rwsN root U 8).2 a) := fun a ha => by
      have l := (rws_lt ha).1
      have := h.1 _ _ l l
      rw [lapN, if_pos rfl]
      omega
    have hC0 : ∀ a, a < (rwsN root U 8).1 → 0 ≤ O ((rwsN root U 8).2 a) := fun a ha => (hO _ (rws_lt ha).1).1
    exact ⟨fun k hk hp a b ha hb => bar_all (C := fun j => O ((rwsN root U 8).2 j)) hm hC (fun k a hka ha => lap_room h U root k a hka ha) hC0 k hk hp a b ha hb, (det_nn (C := fun j => O ((rwsN root U 8).2 j)) hm hC hC0).1⟩
  · have := mat_tr h hg
    omega
/-! nets are such matrices -/
theorem ld_row {S : Nat → Bool} {F T : Nat → Nat} {p : Nat} : ∀ {n : Nat}, (∀ j, j < n → T j < 8) → smN (fun q => ldW S F T p q n) 8 = ldO S F p n
  | 0, _ => by simp only [ldW, ldO]; exact smN_zero 8
  | n + 1, h => by
    have ih := ld_row (S := S) (F := F) (T := T) (p := p) (n := n) (fun j q => h j (by omega))
    simp only [ldW, ldO]
    rw [smN_add, ih]
    congr 1
    by_cases c : S n = true ∧ F n = p
    · rw [if_pos c]
      have := smN_one (k := T n) 8
      rw [if_pos (h n (by omega))] at this
      refine Eq.trans (smN_congr (fun q _ => ?_)) this
      by_cases e : q = T n
      · rw [if_pos e, if_pos ⟨c.1, c.2, e.symm⟩]
      · rw [if_neg e, if_neg (fun z => e z.2.2.symm)]
    · rw [if_neg c, smN_congr (g := fun _ => 0) (fun q _ => if_neg (fun z => c ⟨z.1, z.2.1⟩)), smN_zero]
theorem ld_all {S : Nat → Bool} {F : Nat → Nat} : ∀ {n : Nat}, smN (fun p => ldO S F p n) 8 ≤ n
  | 0 => by simp only [ldO]; rw [smN_zero]; exact Int.le_refl _
  | n + 1 => by
    have ih := ld_all (S := S) (F := F) (n := n)
    simp only [ldO]
    rw [smN_add]
    have : smN (fun p => if S n = true ∧ F n = p then 1 else 0) 8 ≤ 1 := by
      have h1 := smN_one (k := F n) 8
      have h2 := smN_le (f := fun p => if S n = true ∧ F n = p then (1 : Int) else 0) (g := fun p => if p = F n then 1 else 0) (n := 8) (fun q _ => by
        show ite _ _ _ ≤ ite _ _ _
        by_cases c : S n = true ∧ F n = q
        · rw [if_pos c, if_pos c.2.symm]; omega
        · rw [if_neg c]; split <;> omega)
      rw [h1] at h2
      split at h2 <;> omega
    omega
theorem net_mat {S : Nat → Bool} {F T : Nat → Nat} {A : Nat} (hA : A ≤ 16) (h : ∀ j, j < A → T j < 8) : MatP (fun p q => ldW S F T p q A) (fun p => ldO S F p A) := by
  refine ⟨fun p q _ _ => (ldW_b).1, fun p _ => ?_, ?_⟩
  · rw [sum8_sm]
    exact (ld_row h).symm
  · rw [sum8_sm]
    have := ld_all (S := S) (F := F) (n := A)
    omega
theorem net_b {F T : Nat → Nat} {A : Nat} (hA : A ≤ 16) (h : ∀ j, j < A → T j < 8) : NetB F T A :=
  ⟨fun S U root => (mat_ok _ _ (net_mat hA h)).2.1 U root, fun fr goal hg => (mat_ok _ _ (net_mat (S := fun j => fr.testBit j) hA h)).2.2 goal hg⟩
theorem tr_le {F T : Nat → Nat} {A : Nat} (hA : A ≤ 16) (h : ∀ j, j < A → T j < 8) (fr goal : Nat) (hg : goal < 8) : 0 ≤ trS F T A goal fr ∧ trS F T A goal fr ≤ 20922789888000 := mat_tr (net_mat (S := fun j => fr.testBit j) hA h) hg
