/-! TRAILS -/
theorem whK_iff {m : Nat → Int} : ∀ {n : Nat} {x : Int}, whK m n = some x ↔ (x = -1 ∧ ∀ q, q < n → m q = 0) ∨ ∃ p : Nat, p < n ∧ x = p ∧ ∀ q, q < n → m q = if q = p then 1 else 0
  | 0, x => by
    simp only [whK, Option.some.injEq]
    constructor
    · intro h; exact Or.inl ⟨h.symm, fun q hq => absurd hq (by omega)⟩
    · rintro (h | ⟨p, h, -⟩)
      · exact h.1.symm
      · omega
  | n + 1, x => by
    have ih := fun y => whK_iff (m := m) (n := n) (x := y)
    simp only [whK]
    cases hk : whK m n with
    | none =>
      simp only [reduceCtorEq, false_iff]
      rintro (h | ⟨p, h1, h2, h3⟩)
      · have := (ih (-1)).mpr (Or.inl ⟨rfl, fun q hq => h.2 q (by omega)⟩)
        rw [hk] at this; cases this
      · by_cases c : p = n
        · have := (ih (-1)).mpr (Or.inl ⟨rfl, fun q hq => by rw [h3 q (by omega), if_neg (by omega)]⟩)
          rw [hk] at this; cases this
        · have := (ih p).mpr (Or.inr ⟨p, by omega, rfl, fun q hq => h3 q (by omega)⟩)
          rw [hk] at this; cases this
    | some y =>
      have hy := (ih y).mp hk
      simp only
      by_cases c : m n ≠ 0 ∧ (m n ≠ 1 ∨ y ≠ -1)
      · rw [if_pos c]
        simp only [reduceCtorEq, false_iff]
        rintro (h | ⟨p, h1, h2, h3⟩)
        · exact c.1 (h.2 n (by omega))
        · have hn := h3 n (by omega)
          by_cases c2 : n = p
          · rw [if_pos c2] at hn
            have hy1 : y ≠ -1 := by
              rcases c.2 with z | z
              · exact absurd hn z
              · exact z
            rcases hy with hy | ⟨p', k1, k2, k3⟩
            · exact hy1 hy.1
            · have := h3 p' (by omega)
              rw [k3 p' k1, if_pos rfl, if_neg (by omega)] at this
              omega
          · rw [if_neg c2] at hn
            exact c.1 hn
      · rw [if_neg c]
        simp only [Option.some.injEq]
        by_cases c1 : m n = 1
        · rw [if_pos c1]
          have hy1 : y = -1 := by
            apply Classical.byContradiction
            intro z
            exact c ⟨by omega, Or.inr z⟩
          rcases hy with hy | ⟨p', k1, k2, k3⟩
          · constructor
            · intro h
              refine Or.inr ⟨n, by omega, h.symm, fun q hq => ?_⟩
              by_cases e : q = n
              · rw [if_pos e, e]; exact c1
              · rw [if_neg e]; exact hy.2 q (by omega)
            · rintro (h | ⟨p, h1, h2, h3⟩)
              · have := h.2 n (by omega); omega
              · have := h3 n (by omega)
                by_cases e : n = p
                · rw [h2, e]
                · rw [if_neg e] at this; omega
          · omega
        · rw [if_neg c1]
          have hn0 : m n = 0 := by
            apply Classical.byContradiction
            intro z
            exact c ⟨z, Or.inl c1⟩
          constructor
          · intro h
            subst h
            rcases hy with hy | ⟨p', k1, k2, k3⟩
            · refine Or.inl ⟨hy.1, fun q hq => ?_⟩
              by_cases e : q = n
              · rw [e]; exact hn0
              · exact hy.2 q (by omega)
            · refine Or.inr ⟨p', by omega, k2, fun q hq => ?_⟩
              by_cases e : q = n
              · rw [e, hn0, if_neg (by omega)]
              · exact k3 q (by omega)
          · rintro (h | ⟨p, h1, h2, h3⟩)
            · have := (ih (-1)).mpr (Or.inl ⟨rfl, fun q hq => h.2 q (by omega)⟩)
              rw [hk] at this
              rw [h.1]
              exact (Option.some.inj this)
            · have hp : p ≠ n := fun z => by
                have := h3 n (by omega)
                rw [if_pos z.symm] at this
                omega
              have := (ih p).mpr (Or.inr ⟨p, by omega, rfl, fun q hq => h3 q (by omega)⟩)
              rw [hk] at this
              rw [h2]
              exact (Option.some.inj this)
theorem whI_iff {F T : Nat → Nat} {A b s p : Nat} : whI F T A b s = (p : Int) ↔ p < 8 ∧ ∀ q, q < 8 → meN F T b s A q = if q = p then 1 else 0 := by
  unfold whI
  constructor
  · intro h
    cases hk : whK (meN F T b s A) 8 with
    | none => rw [hk] at h; simp only [Option.getD_none] at h; omega
    | some x =>
      rw [hk] at h
      simp only [Option.getD_some] at h
      rcases whK_iff.mp hk with z | ⟨p', k1, k2, k3⟩
      · omega
      · have e : p' = p := by omega
        rw [← e]
        exact ⟨k1, k3⟩
  · rintro ⟨h1, h2⟩
    rw [whK_iff.mpr (Or.inr ⟨p, h1, rfl, h2⟩)]
    rfl
theorem meN_set {F T : Nat → Nat} {b s k q : Nat} (hs : s.testBit k = false) : ∀ n, meN F T b (s ||| 2 ^ k) n q = meN F T b s n q + if k < n then (if T k = q then 1 else 0) - (if F k = q then 1 else 0) else 0
  | 0 => by simp [meN]
  | n + 1 => by
    have ih := meN_set (F := F) (T := T) (b := b) (q := q) hs n
    simp only [meN, ih]
    by_cases c : n = k
    · have h1 : (s ||| 2 ^ k).testBit n = true := by rw [set_bit, c, decide_eq_true rfl, Bool.or_true]
      have h2 : s.testBit n = false := by rw [c]; exact hs
      rw [if_pos h1, if_neg (show ¬ s.testBit n = true by rw [h2]; simp), if_neg (show ¬ k < n by omega), if_pos (show k < n + 1 by omega), c]
      (try omega)
    · have h1 : (s ||| 2 ^ k).testBit n = s.testBit n := by rw [set_bit, decide_eq_false c, Bool.or_false]
      rw [h1]
      by_cases c2 : k < n
      · rw [if_pos c2, if_pos (show k < n + 1 by omega)]; omega
      · rw [if_neg c2, if_neg (show ¬ k < n + 1 by omega)]; omega
theorem wh_step {F T : Nat → Nat} {A b s k : Nat} (h : whI F T A b s = (F k : Int)) (hk : k < A) (hs : s.testBit k = false) (hT : T k < 8) : whI F T A b (s ||| 2 ^ k) = (T k : Int) := by
  obtain ⟨h1, h2⟩ := whI_iff.mp h
  refine whI_iff.mpr ⟨hT, fun q hq => ?_⟩
  rw [meN_set hs, if_pos hk, h2 q hq]
  have e1 : (if T k = q then (1 : Int) else 0) = if q = T k then 1 else 0 := by
    by_cases c : q = T k
    · rw [if_pos c, if_pos c.symm]
    · rw [if_neg c, if_neg (fun z => c z.symm)]
  have e2 : (if F k = q then (1 : Int) else 0) = if q = F k then 1 else 0 := by
    by_cases c : q = F k
    · rw [if_pos c, if_pos c.symm]
    · rw [if_neg c, if_neg (fun z => c z.symm)]
  rw [e1, e2]
  omega
theorem wh_0 {F T : Nat → Nat} {A b : Nat} (hb : b < 8) : whI F T A b 0 = (b : Int) := by
  refine whI_iff.mpr ⟨hb, fun q _ => ?_⟩
  have : ∀ n, meN F T b 0 n q = if q = b then 1 else 0 := fun n => by
    induction n with
    | zero => rfl
    | succ n ih => simp [meN, ih]
  exact this A
/-- rows of arcs, n of them left, from a point on -/
def etT (F T : Nat → Nat) (A : Nat) (mg : Nat → Nat → Bool) : Nat → Nat → Nat → Int
  | 0, _, _ => 1
  | n + 1, p, t => smN (fun k => if F k = p ∧ mg t k = true then etT F T A mg n (T k) (t ||| 2 ^ k) else 0) A
def wyW (F T : Nat → Nat) (A b : Nat) (mg : Nat → Nat → Bool) (t : Nat) : Int := if whI F T A b t = -1 then (if t = 2 ^ A - 1 then 1 else 0) else etT F T A mg (A - pcN A t) (whI F T A b t).toNat t
theorem ws_sm {F : Nat → Nat} {mg : Nat → Nat → Bool} {W : Nat → Int} {t : Nat} {p : Int} : ∀ n, wsN F mg W t p n = smN (fun k => if (F k : Int) = p ∧ mg t k = true then W (t ||| 2 ^ k) else 0) n
  | 0 => rfl
  | n + 1 => by simp only [wsN, smN, ws_sm n]
theorem wy_ok {F T : Nat → Nat} {A b how e tr : Nat} (hT : ∀ j, j < A → T j < 8) : WyE F T A b (mgN how F T A e tr) (wyW F T A b (mgN how F T A e tr)) := by
  intro t ht
  by_cases c : t = 2 ^ A - 1
  · rw [if_pos c]
    unfold wyW
    by_cases c2 : whI F T A b t = -1
    · rw [if_pos c2, if_pos c]
    · rw [if_neg c2, c, pc_all, Nat.sub_self]
      rfl
  · rw [if_neg c]
    by_cases c2 : whI F T A b t = -1
    · rw [if_pos c2]
      unfold wyW
      rw [if_pos c2, if_neg c]
    · rw [if_neg c2]
      have wb := whI_b (F := F) (T := T) (A := A) (b := b) (s := t)
      obtain ⟨p, hp⟩ : ∃ p : Nat, whI F T A b t = p := ⟨(whI F T A b t).toNat, by omega⟩
      have hpc : pcN A t < A := by
        have := pcN_le A t
        apply Classical.byContradiction
        intro z
        exact c (pc_full ht (by omega))
      rw [ws_sm, hp]
      rw [show wyW F T A b (mgN how F T A e tr) t = etT F T A (mgN how F T A e tr) (A - pcN A t) p t by unfold wyW; rw [if_neg c2, hp, Int.toNat_natCast], show A - pcN A t = (A - pcN A t - 1) + 1 by omega, etT]
      refine smN_congr (fun k hk => ?_)
      by_cases ck : F k = p ∧ mgN how F T A e tr t k = true
      · rw [if_pos ck, if_pos ⟨by omega, ck.2⟩]
        have hb := mgN_bit ck.2
        have hw := wh_step (F := F) (T := T) (A := A) (b := b) (s := t) (k := k) (by rw [hp, ck.1]) hk hb (hT k hk)
        unfold wyW
        rw [if_neg (by omega), hw, Int.toNat_natCast, pc_set hk hb]
        rfl
      · rw [if_neg ck, if_neg (fun z => ck ⟨by omega, z.2⟩)]
theorem et_nn {F T : Nat → Nat} {A : Nat} {mg : Nat → Nat → Bool} : ∀ n p t, 0 ≤ etT F T A mg n p t
  | 0, _, _ => by simp [etT]
  | n + 1, p, t => by
    rw [etT]
    exact (smN_nn (fun k _ => by
      show 0 ≤ ite _ _ _
      split
      · exact et_nn n _ _
      · exact Int.le_refl _)).1
theorem et_le {F T : Nat → Nat} {A how e tr e' : Nat} : ∀ n p t, etT F T A (mgN how F T A e tr) n p t ≤ etT F T A (mgN 0 F T A e' 0) n p t
  | 0, _, _ => Int.le_refl _
  | n + 1, p, t => by
    rw [etT, etT]
    refine smN_le (fun k _ => ?_)
    show ite _ _ _ ≤ ite _ _ _
    by_cases c : F k = p ∧ mgN how F T A e tr t k = true
    · have hb := mgN_bit c.2
      rw [if_pos c, if_pos ⟨c.1, by unfold mgN; rw [hb]; simp⟩]
      exact et_le n _ _
    · rw [if_neg c]
      split
      · exact et_nn n _ _
      · exact Int.le_refl _
/-! trails are counted by the formula -/
theorem ld_sumq {S : Nat → Bool} {F T : Nat → Nat} {p : Nat} {g : Nat → Int} : ∀ {n : Nat}, (∀ j, j < n → T j < 8) → smN (fun q => ldW S F T p q n * g q) 8 = smN (fun k => if S k = true ∧ F k = p then g (T k) else 0) n
  | 0, _ => by
    simp only [ldW, Int.zero_mul]
    exact smN_zero 8
  | n + 1, h => by
    have ih := ld_sumq (S := S) (F := F) (T := T) (p := p) (g := g) (n := n) (fun j q => h j (by omega))
    rw [show smN (fun k => if S k = true ∧ F k = p then g (T k) else 0) (n + 1) = smN (fun k => if S k = true ∧ F k = p then g (T k) else 0) n + (if S n = true ∧ F n = p then g (T n) else 0) from rfl, ← ih]
    have e : smN (fun q => ldW S F T p q (n + 1) * g q) 8 = smN (fun q => ldW S F T p q n * g q + (if S n = true ∧ F n = p ∧ T n = q then g q else 0)) 8 := smN_congr (fun q _ => by
      rw [ldW]
      by_cases c : S n = true ∧ F n = p ∧ T n = q
      · rw [if_pos c, if_pos c]; grind
      · rw [if_neg c, if_neg c]; grind)
    rw [e, smN_add]
    congr 1
    by_cases c : S n = true ∧ F n = p
    · rw [if_pos c]
      have h1 := smN_mulr (fun q => if q = T n then (1 : Int) else 0) (g (T n)) 8
      rw [smN_one, if_pos (h n (by omega)), Int.one_mul] at h1
      refine Eq.trans (smN_congr (fun q _ => ?_)) h1
      by_cases cq : q = T n
      · rw [if_pos ⟨c.1, c.2, cq.symm⟩, if_pos cq, cq, Int.one_mul]
      · rw [if_neg (fun z => cq z.2.2.symm), if_neg cq, Int.zero_mul]
    · rw [if_neg c, smN_congr (g := fun _ => 0) (fun q _ => if_neg (fun z => c ⟨z.1, z.2.1⟩)), smN_zero]
theorem wk_clr {F T : Nat → Nat} {A fr k : Nat} (hk : fr.testBit k = true) (hA : k < A) : wkW F T A (clrB fr k) = deW (wkW F T A fr) (F k) (T k) ∧ wkO F A (clrB fr k) = deO (wkO F A fr) (F k) := by
  constructor
  · funext p q
    rw [deW_at]
    unfold wkW
    rw [ldW_clr hk]
    by_cases c : p = F k ∧ q = T k
    · rw [if_pos c, if_pos ⟨hA, c.1.symm, c.2.symm⟩, c.1, c.2]
    · rw [if_neg c, if_neg (fun z => c ⟨z.2.1.symm, z.2.2.symm⟩)]; omega
  · funext p
    rw [deO_at]
    unfold wkO
    rw [ldO_clr hk]
    by_cases c : p = F k
    · rw [if_pos c, if_pos ⟨hA, c.symm⟩, c]
    · rw [if_neg c, if_neg (fun z => c z.2.symm)]; omega
/-- what is left when some are gone -/
def frN (A t : Nat) : Nat := (2 ^ A - 1) ^^^ t
theorem fr_bit {A t k : Nat} (ht : t < 2 ^ A) : (frN A t).testBit k = (decide (k < A) && !t.testBit k) := by
  unfold frN
  rw [Nat.testBit_xor, Nat.testBit_two_pow_sub_one]
  by_cases c : k < A
  · rw [decide_eq_true c]; cases t.testBit k <;> rfl
  · rw [decide_eq_false c, Nat.testBit_lt_two_pow (Nat.lt_of_lt_of_le ht (Nat.pow_le_pow_right (by decide) (by omega)))]; rfl
theorem fr_set {A t k : Nat} (ht : t < 2 ^ A) (hk : k < A) : frN A (t ||| 2 ^ k) = clrB (frN A t) k := by
  apply Nat.eq_of_testBit_eq
  intro i
  rw [fr_bit (set_lt ht hk), clrB_bit, fr_bit ht, set_bit]
  by_cases c : i = k
  · simp [c]
  · simp [c]
/-- outs and ins by arcs left, gone, all -/
theorem ld_split {F T : Nat → Nat} {A t p b : Nat} (ht : t < 2 ^ A) : ∀ n, n ≤ A → ldO (fun j => (frN A t).testBit j) F p n - smN (fun k => if (frN A t).testBit k = true ∧ T k = p then 1 else 0) n = xsI F T n p + meN F T b t n p - (if p = b then 1 else 0)
  | 0, _ => by simp [ldO, smN, xsI, cntN, meN]
  | n + 1, hn => by
    have ih := ld_split (F := F) (T := T) (p := p) (b := b) ht n (by omega)
    have hb := fr_bit (k := n) ht
    rw [decide_eq_true (show n < A by omega), Bool.true_and] at hb
    simp only [ldO, smN, meN]
    have hx : xsI F T (n + 1) p = xsI F T n p + (if F n = p then 1 else 0) - (if T n = p then 1 else 0) := by
      unfold xsI
      simp only [cntN]
      by_cases c1 : F n = p <;> by_cases c2 : T n = p <;> simp only [c1, c2, ↓reduceIte] <;> omega
    rw [hx]
    cases hbt : t.testBit n with
    | true =>
      rw [hbt] at hb
      simp only [hb, Bool.not_true, Bool.false_eq_true, false_and, ↓reduceIte]
      omega
    | false =>
      rw [hbt] at hb
      simp only [hb, Bool.not_false, true_and, Bool.false_eq_true, ↓reduceIte]
      omega
theorem in_sum {F T : Nat → Nat} {A fr p : Nat} (hF : ∀ j, j < A → F j < 8) : inW (wkW F T A fr) p = smN (fun k => if fr.testBit k = true ∧ T k = p then 1 else 0) A := by
  unfold inW wkW
  have : ∀ n, n ≤ A → smN (fun q => ldW (fun j => fr.testBit j) F T q p n) 8 = smN (fun k => if fr.testBit k = true ∧ T k = p then 1 else 0) n := by
    intro n
    induction n with
    | zero => intro _; simp only [ldW]; exact smN_zero 8
    | succ n ih =>
      intro hn
      simp only [ldW]
      rw [smN_add, ih (by omega), show smN (fun k => if fr.testBit k = true ∧ T k = p then (1 : Int) else 0) (n + 1) = smN (fun k => if fr.testBit k = true ∧ T k = p then (1 : Int) else 0) n + (if fr.testBit n = true ∧ T n = p then 1 else 0) from rfl]
      congr 1
      by_cases c : fr.testBit n = true ∧ T n = p
      · rw [if_pos c]
        have := smN_one (k := F n) 8
        rw [if_pos (hF n (by omega))] at this
        refine Eq.trans (smN_congr (fun q _ => ?_)) this
        by_cases e : q = F n
        · rw [if_pos e, if_pos ⟨c.1, e.symm, c.2⟩]
        · rw [if_neg e, if_neg (fun z => e z.2.1.symm)]
      · rw [if_neg c, smN_congr (g := fun _ => 0) (fun q _ => if_neg (fun z => c ⟨z.1, z.2.2⟩)), smN_zero]
  exact this A (Nat.le_refl _)
/-- a net from which trails go from b to goal -/
def StG (F T : Nat → Nat) (A b goal : Nat) : Prop := A ≤ 16 ∧ b < 8 ∧ goal < 8 ∧ (∀ j, j < A → F j < 8 ∧ T j < 8) ∧ ∀ p, p < 8 → xsI F T A p = (if p = b then 1 else 0) - (if p = goal then 1 else 0)
theorem StG.bal {F T : Nat → Nat} {A b goal t p : Nat} (h : StG F T A b goal) (ht : t < 2 ^ A) (hw : whI F T A b t = (p : Int)) : BalW (wkW F T A (frN A t)) (wkO F A (frN A t)) p goal := by
  obtain ⟨h1, h2, h3, h4, h5⟩ := h
  obtain ⟨w1, w2⟩ := whI_iff.mp hw
  intro q hq
  rw [in_sum (fun j hj => (h4 j hj).1)]
  have := ld_split (F := F) (T := T) (p := q) (b := b) ht A (Nat.le_refl _)
  unfold wkO
  rw [this, h5 q hq, w2 q hq]
  omega
theorem ldO_pc {F T : Nat → Nat} {A fr : Nat} (hF : ∀ j, j < A → F j < 8) (k : Nat) (hk : k < A) (hb : fr.testBit k = true) : 0 < smN (fun p => wkO F A fr p) 8 := by
  have h1 : ∀ n, n ≤ A → k < n → 0 < ldO (fun j => fr.testBit j) F (F k) n := by
    intro n
    induction n with
    | zero => intro _ h; omega
    | succ n ih =>
      intro hn hkn
      have h0 : 0 ≤ ldO (fun j => fr.testBit j) F (F k) n := by
        have : ∀ n, 0 ≤ ldO (fun j => fr.testBit j) F (F k) n := fun n => by
          induction n with
          | zero => simp [ldO]
          | succ n ih => simp only [ldO]; split <;> omega
        exact this n
      simp only [ldO]
      by_cases c : k = n
      · rw [if_pos ⟨by rw [← c]; exact hb, by rw [c]⟩]; omega
      · have := ih (by omega) (by omega)
        split <;> omega
  have h2 := (smN_nn (f := fun p => wkO F A fr p) (n := 8) (fun j _ => by
    unfold wkO
    have : ∀ n, 0 ≤ ldO (fun i => fr.testBit i) F j n := fun n => by
      induction n with
      | zero => simp [ldO]
      | succ n ih => simp only [ldO]; split <;> omega
    exact this A)).2 (F k) (hF k hk)
  have h3 : 0 < wkO F A fr (F k) := h1 A (Nat.le_refl _) hk
  have h4 : wkO F A fr (F k) ≤ smN (fun p => wkO F A fr p) 8 := h2
  omega
theorem mg_any {F T : Nat → Nat} {A e tr t k : Nat} : mgN 0 F T A e tr t k = !t.testBit k := by
  unfold mgN
  cases t.testBit k <;> simp
theorem et_tr {F T : Nat → Nat} {A b goal e : Nat} (h : StG F T A b goal) : ∀ (n t p : Nat), t < 2 ^ A → pcN A t + n = A → whI F T A b t = (p : Int) → etT F T A (mgN 0 F T A e 0) n p t = trS F T A goal (frN A t)
  | 0, t, p, ht, hn, hw => by
    have hf := pc_full ht (by omega)
    have e0 : frN A t = 0 := by unfold frN; rw [hf, Nat.xor_self]
    have hm := net_mat (S := fun j => Nat.testBit 0 j) (F := F) (T := T) h.1 (fun j hj => (h.2.2.2.1 j hj).2)
    have z1 : ∀ p n, ldO (fun j => Nat.testBit 0 j) F p n = 0 := fun p n => by
      induction n with
      | zero => rfl
      | succ n ih => rw [ldO, ih, if_neg (by simp)]; rfl
    rw [etT, e0]
    unfold trS
    rw [tr_dt (W := wkW F T A 0) (O := wkO F A 0) hm]
    have z2 : ∀ q, wkO F A 0 q = 0 := fun q => z1 q A
    have z3 : plL goal (fun p => decide (0 < wkO F A 0 p)) 8 = [] := by
      have : ∀ m, plL goal (fun p => decide (0 < wkO F A 0 p)) m = [] := fun m => by
        induction m with
        | zero => rfl
        | succ m ih => rw [plL, if_neg (by rw [z2]; simp)]; exact ih
      exact this 8
    have z4 : ∀ m, orN goal (wkO F A 0) m = 1 := fun m => by
      induction m with
      | zero => rw [orN, z2]; rfl
      | succ m ih => rw [orN, if_neg (by rw [z2]; omega)]; exact ih
    rw [z4]
    unfold dtW
    rw [z3]
    rfl
  | n + 1, t, p, ht, hn, hw => by
    obtain ⟨h1, h2, h3, h4, h5⟩ := id h
    have hm := net_mat (S := fun j => (frN A t).testBit j) (F := F) (T := T) h1 (fun j hj => (h4 j hj).2)
    have hbal := h.bal ht hw
    obtain ⟨w1, w2⟩ := whI_iff.mp hw
    have hne : ∃ k, k < A ∧ (frN A t).testBit k = true := by
      apply Classical.byContradiction
      intro hz
      have : t = 2 ^ A - 1 := by
        apply Nat.eq_of_testBit_eq
        intro i
        rw [Nat.testBit_two_pow_sub_one]
        by_cases c : i < A
        · rw [decide_eq_true c]
          apply Classical.byContradiction
          intro z
          refine hz ⟨i, c, ?_⟩
          rw [fr_bit ht, decide_eq_true c, Bool.eq_false_iff.mpr z]; rfl
        · rw [decide_eq_false c]
          exact Nat.testBit_lt_two_pow (Nat.lt_of_lt_of_le ht (Nat.pow_le_pow_right (by decide) (by omega)))
      rw [this, pc_all] at hn
      omega
    obtain ⟨k0, hk0, hkb⟩ := hne
    have hpos := ldO_pc (T := T) (fun j hj => (h4 j hj).1) k0 hk0 hkb
    have hs := best_step (W := wkW F T A (frN A t)) (O := wkO F A (frN A t)) hm w1 h3 hbal (by rw [sum8_sm]; exact hpos)
    unfold trS
    rw [hs, show wkW F T A (frN A t) p = fun q => ldW (fun j => (frN A t).testBit j) F T p q A from rfl]
    rw [ld_sumq (fun j hj => (h4 j hj).2), etT]
    refine smN_congr (fun k hk => ?_)
    have hb := fr_bit (k := k) ht
    rw [decide_eq_true hk, Bool.true_and] at hb
    rw [mg_any, ← hb]
    by_cases c : (frN A t).testBit k = true ∧ F k = p
    · have hbt : t.testBit k = false := by
        rw [c.1] at hb
        cases z : t.testBit k
        · rfl
        · rw [z] at hb; exact absurd hb (by simp)
      rw [if_pos ⟨c.2, c.1⟩, if_pos c]
      have hw2 := wh_step (F := F) (T := T) (A := A) (b := b) (s := t) (k := k) (by rw [hw, c.2]) hk hbt (h4 k hk).2
      rw [et_tr h n (t ||| 2 ^ k) (T k) (set_lt ht hk) (by rw [pc_set hk hbt]; omega) hw2, fr_set ht hk]
      unfold trS
      obtain ⟨q1, q2⟩ := wk_clr (F := F) (T := T) c.1 hk
      rw [q1, q2, c.2]
    · rw [if_neg (fun z => c ⟨z.2, z.1⟩), if_neg c]
