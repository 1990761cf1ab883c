/-! WORDS: rows of points with told neighbours -/
def etA : Nat → (Nat → Nat → Int) → Nat → Int
  | 0, _, _ => 1
  | n + 1, W, p => smN (fun q => if 0 < W p q then etA n (deW W p q) q else 0) 8
def fpQ (W : Nat → Nat → Int) (p : Nat) : Nat → Int
  | 0 => 1
  | q + 1 => fpQ W p q * facI (W p q)
def fpP (W : Nat → Nat → Int) : Nat → Int
  | 0 => 1
  | p + 1 => fpP W p * fpQ W p 8
theorem fpQ_pos {W : Nat → Nat → Int} {p : Nat} : ∀ q, 0 < fpQ W p q
  | 0 => by rw [fpQ]; decide
  | q + 1 => by rw [fpQ]; exact Int.mul_pos (fpQ_pos q) (facI_pos _)
theorem fpP_pos {W : Nat → Nat → Int} : ∀ p, 0 < fpP W p
  | 0 => by rw [fpP]; decide
  | p + 1 => by rw [fpP]; exact Int.mul_pos (fpP_pos p) (fpQ_pos 8)
theorem dvQ_cancel {W : Nat → Nat → Int} {p : Nat} : ∀ q x, dvQ W p q (fpQ W p q * x) = x
  | 0, x => by rw [dvQ, fpQ, Int.one_mul]
  | q + 1, x => by
    have hf := facI_pos (W p q)
    rw [dvQ, fpQ, Int.mul_assoc, dvQ_cancel q, Int.mul_ediv_cancel_left _ (by omega)]
theorem dvP_cancel {W : Nat → Nat → Int} : ∀ p x, dvP W p (fpP W p * x) = x
  | 0, x => by rw [dvP, fpP, Int.one_mul]
  | p + 1, x => by rw [dvP, fpP, Int.mul_assoc, dvP_cancel p, dvQ_cancel]
theorem facI_s {z : Int} (h0 : 0 < z) (h16 : z ≤ 16) : facI z = z * facI (z - 1) := by
  unfold facI
  rw [if_pos ⟨by omega, h16⟩, if_pos ⟨by omega, by omega⟩]
  obtain ⟨n, hn⟩ : ∃ n : Nat, z = n + 1 := ⟨(z - 1).toNat, by omega⟩
  rw [hn, show ((n : Int) + 1).toNat = n + 1 by omega, show ((n : Int) + 1 - 1).toNat = n by omega, facN]
  simp
theorem fpQ_de {W : Nat → Nat → Int} {p q : Nat} (h0 : 0 < W p q) (h16 : W p q ≤ 16) : ∀ m, fpQ W p m = fpQ (deW W p q) p m * (if q < m then W p q else 1)
  | 0 => by rw [fpQ, fpQ, if_neg (by omega)]; rfl
  | m + 1 => by
    have ih := fpQ_de h0 h16 m
    rw [fpQ, fpQ, ih, deW_at]
    by_cases c : m = q
    · rw [if_neg (show ¬ q < m by omega), if_pos (show p = p ∧ m = q from ⟨rfl, c⟩), if_pos (show q < m + 1 by omega), c, facI_s h0 h16]
      generalize fpQ (deW W p q) p q = X
      generalize facI (W p q - 1) = Y
      grind
    · rw [if_neg (show ¬ (p = p ∧ m = q) from fun z => c z.2)]
      by_cases c2 : q < m
      · rw [if_pos c2, if_pos (show q < m + 1 by omega)]
        generalize fpQ (deW W p q) p m = X
        generalize facI (W p m) = Y
        grind
      · rw [if_neg c2, if_neg (show ¬ q < m + 1 by omega)]
        grind
theorem fpQ_same {W W' : Nat → Nat → Int} {p : Nat} : ∀ m, (∀ q, q < m → W p q = W' p q) → fpQ W p m = fpQ W' p m
  | 0, _ => rfl
  | m + 1, h => by rw [fpQ, fpQ, fpQ_same m (fun q hq => h q (by omega)), h m (by omega)]
theorem fpP_de {W : Nat → Nat → Int} {p q : Nat} (hq : q < 8) (h0 : 0 < W p q) (h16 : W p q ≤ 16) : ∀ m, fpP W m = fpP (deW W p q) m * (if p < m then W p q else 1)
  | 0 => by rw [fpP, fpP, if_neg (by omega)]; rfl
  | m + 1 => by
    have ih := fpP_de hq h0 h16 m
    rw [fpP, fpP, ih]
    by_cases c : m = p
    · rw [if_neg (show ¬ p < m by omega), if_pos (show p < m + 1 by omega), c, fpQ_de h0 h16 8, if_pos hq]
      generalize fpP (deW W p q) p = X
      generalize fpQ (deW W p q) p 8 = Y
      grind
    · have e : fpQ W m 8 = fpQ (deW W p q) m 8 := fpQ_same 8 (fun j _ => by rw [deW_at, if_neg (fun z => c z.1)])
      rw [e]
      by_cases c2 : p < m
      · rw [if_pos c2, if_pos (show p < m + 1 by omega)]
        generalize fpP (deW W p q) m = X
        generalize fpQ (deW W p q) m 8 = Y
        grind
      · rw [if_neg c2, if_neg (show ¬ p < m + 1 by omega)]
        grind
theorem bal_de {W : Nat → Nat → Int} {O : Nat → Int} {p q goal : Nat} (hp : p < 8) (h : BalW W O p goal) : BalW (deW W p q) (deO O p) q goal := by
  intro x hx
  have hb := h x hx
  have hi : inW (deW W p q) x = inW W x - (if x = q then 1 else 0) := by
    unfold inW
    by_cases c : x = q
    · rw [if_pos c]
      have h1 := smN_one (k := p) 8
      rw [if_pos hp] at h1
      rw [← h1, ← smN_sub]
      refine smN_congr (fun j _ => ?_)
      rw [deW_at]
      by_cases z : j = p
      · rw [if_pos ⟨z, c⟩, if_pos z, z, c]
      · rw [if_neg (fun y => z y.1), if_neg z, Int.sub_zero]
    · rw [if_neg c, Int.sub_zero]
      refine smN_congr (fun j _ => ?_)
      rw [deW_at, if_neg (fun y => c y.2)]
  rw [hi, deO_at]
  by_cases c : x = p
  · rw [if_pos c] at hb
    rw [if_pos c, ← c]
    omega
  · rw [if_neg c] at hb
    rw [if_neg c]
    omega
theorem sum8_de {O : Nat → Int} {p : Nat} (hp : p < 8) : sum8 (deO O p) = sum8 O - 1 := by
  unfold deO
  rw [sum8_up hp]
  omega
theorem mat_zero {W : Nat → Nat → Int} {O : Nat → Int} (h : MatP W O) (h0 : sum8 O = 0) : (∀ p, p < 8 → O p = 0) ∧ ∀ p q, p < 8 → q < 8 → W p q = 0 := by
  obtain ⟨h1, h2, h3⟩ := id h
  have hO := h.O
  have o0 : ∀ p, p < 8 → O p = 0 := fun p hp => by
    rw [sum8_sm] at h0
    have := (smN_nn (f := O) (n := 8) (fun j hj => (hO j hj).1)).2 p hp
    have := (hO p hp).1
    omega
  refine ⟨o0, fun p q hp hq => ?_⟩
  have := h2 p hp
  rw [o0 p hp, sum8_sm] at this
  have a := (smN_nn (f := W p) (n := 8) (fun j hj => h1 p j hp hj)).2 q hq
  have := h1 p q hp hq
  omega
theorem mat_le {W : Nat → Nat → Int} {O : Nat → Int} (h : MatP W O) {p q : Nat} (hp : p < 8) (hq : q < 8) : 0 ≤ W p q ∧ W p q ≤ O p ∧ O p ≤ 16 := by
  obtain ⟨h1, h2, h3⟩ := id h
  have hO := h.O p hp
  have e := h2 p hp
  rw [sum8_sm] at e
  have := (smN_nn (f := W p) (n := 8) (fun j hj => h1 p j hp hj)).2 q hq
  exact ⟨h1 p q hp hq, by omega, hO.2⟩
theorem fpQ_zero {W : Nat → Nat → Int} {p : Nat} : ∀ m, (∀ q, q < m → W p q = 0) → fpQ W p m = 1
  | 0, _ => rfl
  | m + 1, h => by rw [fpQ, fpQ_zero m (fun q hq => h q (by omega)), h m (by omega)]; rfl
theorem fpP_zero {W : Nat → Nat → Int} : ∀ m, m ≤ 8 → (∀ p q, p < 8 → q < 8 → W p q = 0) → fpP W m = 1
  | 0, _, _ => rfl
  | m + 1, hm, h => by rw [fpP, fpP_zero m (by omega) h, fpQ_zero 8 (fun q hq => h m q (by omega) hq)]; rfl
theorem or_zero {goal : Nat} {O : Nat → Int} (hg : O goal = 0) : ∀ m, (∀ q, q < m → O q = 0) → orN goal O m = 1
  | 0, _ => by rw [orN, hg]; rfl
  | m + 1, h => by rw [orN, if_neg (by rw [h m (by omega)]; omega)]; exact or_zero hg m (fun q hq => h q (by omega))
theorem pl_zero {goal : Nat} {S : Nat → Bool} : ∀ m, (∀ q, q < m → S q = false) → plL goal S m = []
  | 0, _ => rfl
  | m + 1, h => by rw [plL, if_neg (by rw [h m (by omega)]; simp)]; exact pl_zero m (fun q hq => h q (by omega))
theorem tr_etA : ∀ (n : Nat) {W : Nat → Nat → Int} {O : Nat → Int} {p goal : Nat}, MatP W O → BalW W O p goal → p < 8 → goal < 8 → sum8 O = n → trN W O goal = fpP W 8 * etA n W p
  | 0, W, O, p, goal, h, hb, hp, hg, hs => by
    obtain ⟨o0, w0⟩ := mat_zero h (by omega)
    rw [tr_dt h, etA, fpP_zero 8 (by omega) w0, or_zero (o0 goal hg) 8 (fun q hq => o0 q hq)]
    unfold dtW
    rw [pl_zero 8 (fun q hq => by rw [o0 q hq]; decide)]
    rfl
  | n + 1, W, O, p, goal, h, hb, hp, hg, hs => by
    rw [best_step h hp hg hb (by omega), etA]
    have : ∀ q, q < 8 → W p q * trN (deW W p q) (deO O p) goal = (if 0 < W p q then etA n (deW W p q) q else 0) * fpP W 8 := fun q hq => by
      obtain ⟨m1, m2, m3⟩ := mat_le h hp hq
      by_cases c : 0 < W p q
      · rw [if_pos c, tr_etA n (h.de hp hq c) (bal_de hp hb) hq hg (by rw [sum8_de hp]; omega), fpP_de hq c (by omega) 8, if_pos hp]
        generalize fpP (deW W p q) 8 = X
        generalize etA n (deW W p q) q = Y
        grind
      · rw [if_neg c, show W p q = 0 by omega, Int.zero_mul, Int.zero_mul]
    rw [smN_congr this, smN_mulr, Int.mul_comm]
theorem sp_etA {W : Nat → Nat → Int} {O : Nat → Int} {p goal n : Nat} (h : MatP W O) (hb : BalW W O p goal) (hp : p < 8) (hg : goal < 8) (hs : sum8 O = n) : spN W O goal = etA n W p := by
  unfold spN
  rw [tr_etA n h hb hp hg hs, dvP_cancel]
theorem so_etA {W : Nat → Nat → Int} {O : Nat → Int} {p q goal n : Nat} (h : MatP W O) (hb : BalW W O p goal) (hp : p < 8) (hq : q < 8) (hg : goal < 8) (hs : sum8 O = n + 1) : soN W O goal p q = if 0 < W p q then etA n (deW W p q) q else 0 := by
  unfold soN
  have h0 := h.1 p q hp hq
  by_cases c : 0 < W p q
  · rw [if_neg (by omega), if_pos c]
    exact sp_etA (h.de hp hq c) (bal_de hp hb) hq hg (by rw [sum8_de hp]; omega)
  · rw [if_pos (by omega), if_neg c]
theorem etA_nn : ∀ n W p, 0 ≤ etA n W p
  | 0, _, _ => by simp [etA]
  | n + 1, W, p => by
    rw [etA]
    exact (smN_nn (fun q _ => by
      show 0 ≤ ite _ _ _
      split
      · exact etA_nn n _ _
      · exact Int.le_refl _)).1
/-! nets in which arcs alike stand side by side -/
def SrtN (F T : Nat → Nat) (A : Nat) : Prop := ∀ i j, i < j → j < A → F i < F j ∨ (F i = F j ∧ T i ≤ T j)
/-- of arcs alike the first are gone -/
def PfxN (F T : Nat → Nat) (A t : Nat) : Prop := ∀ k, k + 1 < A → t.testBit (k + 1) = true → F (k + 1) = F k → T (k + 1) = T k → t.testBit k = true
theorem srt_btw {F T : Nat → Nat} {A i m j : Nat} (h : SrtN F T A) (h1 : i ≤ m) (h2 : m ≤ j) (hj : j < A) (e1 : F i = F j) (e2 : T i = T j) : F m = F j ∧ T m = T j := by
  by_cases c1 : i = m
  · rw [← c1]; exact ⟨e1, e2⟩
  · by_cases c2 : m = j
    · rw [c2]; exact ⟨rfl, rfl⟩
    · have a := h i m (by omega) (by omega)
      have b := h m j (by omega) hj
      omega
theorem pfx_all {F T : Nat → Nat} {A t i : Nat} (h : SrtN F T A) (hp : PfxN F T A t) : ∀ d, i + d < A → F (i + d) = F i → T (i + d) = T i → t.testBit (i + d) = true → t.testBit i = true
  | 0, _, _, _, hb => hb
  | d + 1, hA, e1, e2, hb => by
    have := srt_btw (m := i + d) h (by omega) (show i + d ≤ i + (d + 1) by omega) hA e1.symm e2.symm
    exact pfx_all h hp d (by omega) (this.1.trans e1) (this.2.trans e2) (hp (i + d) (by omega) hb this.1.symm this.2.symm)
theorem mg_al {F T : Nat → Nat} {A e tr t k : Nat} : mgN 2 F T A e tr t k = true ↔ t.testBit k = false ∧ (k = 0 ∨ t.testBit (k - 1) = true ∨ F k ≠ F (k - 1) ∨ T k ≠ T (k - 1)) := by
  unfold mgN
  cases t.testBit k with
  | true => simp
  | false => simp
/-- the one that may be gone along is the first that is left -/
theorem al_first {F T : Nat → Nat} {A e tr t k i : Nat} (h : SrtN F T A) (hp : PfxN F T A t) (hk : k < A) (hm : mgN 2 F T A e tr t k = true) (e1 : F i = F k) (e2 : T i = T k) (hf : t.testBit i = false) : k ≤ i := by
  rcases Nat.lt_or_ge i k with c | c
  · exfalso
    obtain ⟨m1, m2⟩ := mg_al.mp hm
    have hb := srt_btw (m := k - 1) h (show i ≤ k - 1 by omega) (by omega) hk e1 e2
    have hg : t.testBit (k - 1) = true := by
      rcases m2 with m2 | m2 | m2 | m2
      · omega
      · exact m2
      · exact absurd hb.1.symm m2
      · exact absurd hb.2.symm m2
    have := pfx_all (i := i) h hp (k - 1 - i) (by omega) (by rw [show i + (k - 1 - i) = k - 1 by omega]; omega) (by rw [show i + (k - 1 - i) = k - 1 by omega]; omega) (by rw [show i + (k - 1 - i) = k - 1 by omega]; exact hg)
    rw [hf] at this
    exact absurd this (by decide)
  · exact c
theorem al_ex {F T : Nat → Nat} {A e tr t p q : Nat} (hx : ∃ k, k < A ∧ F k = p ∧ T k = q ∧ t.testBit k = false) : ∃ k, k < A ∧ F k = p ∧ T k = q ∧ mgN 2 F T A e tr t k = true := by
  obtain ⟨k, ⟨a, b, c, d⟩, hmin⟩ := least_ex hx
  refine ⟨k, a, b, c, mg_al.mpr ⟨d, ?_⟩⟩
  by_cases z : k = 0
  · exact Or.inl z
  · right
    by_cases e1 : F k = F (k - 1)
    · by_cases e2 : T k = T (k - 1)
      · left
        cases hb : t.testBit (k - 1) with
        | true => rfl
        | false => exact absurd ⟨by omega, by omega, by omega, hb⟩ (hmin (k - 1) (by omega))
      · exact Or.inr (Or.inr e2)
    · exact Or.inr (Or.inl e1)
theorem pfx_step {F T : Nat → Nat} {A e tr t k : Nat} (hp : PfxN F T A t) (hm : mgN 2 F T A e tr t k = true) : PfxN F T A (t ||| 2 ^ k) := by
  intro j hj hb e1 e2
  rw [set_bit, Bool.or_eq_true, decide_eq_true_eq] at hb ⊢
  rcases hb with hb | hb
  · exact Or.inl (hp j hj hb e1 e2)
  · obtain ⟨m1, m2⟩ := mg_al.mp hm
    rw [← hb] at m2
    rw [show j + 1 - 1 = j by omega] at m2
    rcases m2 with m2 | m2 | m2 | m2
    · omega
    · exact Or.inl m2
    · exact absurd e1 m2
    · exact absurd e2 m2
theorem sm_swap {f : Nat → Nat → Int} {m : Nat} : ∀ n, smN (fun k => smN (fun q => f k q) m) n = smN (fun q => smN (fun k => f k q) n) m
  | 0 => by simp only [smN]; exact (smN_zero m).symm
  | n + 1 => by simp only [smN]; rw [sm_swap n, smN_add]
theorem ldW_sm {S : Nat → Bool} {F T : Nat → Nat} {p q : Nat} : ∀ n, ldW S F T p q n = smN (fun k => if S k = true ∧ F k = p ∧ T k = q then 1 else 0) n
  | 0 => rfl
  | n + 1 => by rw [ldW, smN, ldW_sm n]
/-- over arcs that may be gone along: once over each point to which one is left -/
theorem al_sum {F T : Nat → Nat} {A e tr t p : Nat} (h : SrtN F T A) (hp : PfxN F T A t) (ht : t < 2 ^ A) (hT : ∀ j, j < A → T j < 8) (g : Nat → Int) : smN (fun k => if F k = p ∧ mgN 2 F T A e tr t k = true then g (T k) else 0) A = smN (fun q => if 0 < wkW F T A (frN A t) p q then g q else 0) 8 := by
  have hfb : ∀ k, k < A → ((frN A t).testBit k = true ↔ t.testBit k = false) := fun k hk => by
    rw [fr_bit ht, decide_eq_true hk, Bool.true_and]
    cases t.testBit k <;> simp
  have e1 : smN (fun k => if F k = p ∧ mgN 2 F T A e tr t k = true then g (T k) else 0) A = smN (fun k => smN (fun q => if (F k = p ∧ mgN 2 F T A e tr t k = true) ∧ T k = q then g q else 0) 8) A := smN_congr (fun k hk => by
    by_cases c : F k = p ∧ mgN 2 F T A e tr t k = true
    · rw [if_pos c]
      have h1 := smN_mulr (fun q => if q = T k then (1 : Int) else 0) (g (T k)) 8
      rw [smN_one, if_pos (hT k hk), Int.one_mul] at h1
      rw [← h1]
      refine smN_congr (fun q _ => ?_)
      by_cases z : q = T k
      · rw [if_pos z, if_pos ⟨c, z.symm⟩, z, Int.one_mul]
      · rw [if_neg z, if_neg (fun y => z y.2.symm), Int.zero_mul]
    · rw [if_neg c, smN_congr (g := fun _ => 0) (fun q _ => if_neg (fun y => c y.1)), smN_zero])
  rw [e1, sm_swap]
  refine smN_congr (fun q _ => ?_)
  have hw : wkW F T A (frN A t) p q = smN (fun k => if (frN A t).testBit k = true ∧ F k = p ∧ T k = q then 1 else 0) A := ldW_sm A
  by_cases c : 0 < wkW F T A (frN A t) p q
  · rw [if_pos c]
    rw [hw] at c
    obtain ⟨k0, a, b⟩ := sm_ex c
    obtain ⟨k, k1, k2, k3, k4⟩ := al_ex (e := e) (tr := tr) ⟨k0, a, b.2.1, b.2.2, (hfb k0 a).mp b.1⟩
    have h1 := smN_mulr (fun j => if j = k then (1 : Int) else 0) (g q) A
    rw [smN_one, if_pos k1, Int.one_mul] at h1
    refine Eq.trans (smN_congr (fun j hj => ?_)) h1
    by_cases z : j = k
    · rw [if_pos z, z, if_pos ⟨⟨k2, k4⟩, k3⟩, Int.one_mul]
    · rw [if_neg z, if_neg (fun y => by
        have z1 := al_first h hp k1 k4 (i := j) (by omega) (by omega) (mg_al.mp y.1.2).1
        have z2 := al_first h hp hj y.1.2 (i := k) (by omega) (by omega) (mg_al.mp k4).1
        omega), Int.zero_mul]
  · rw [if_neg c]
    rw [hw] at c
    have no := sm_no (X := fun k => (frN A t).testBit k = true ∧ F k = p ∧ T k = q) (n := A) (by omega)
    rw [smN_congr (g := fun _ => 0) (fun j hj => if_neg (fun y => no j hj ⟨(hfb j hj).mpr (mg_al.mp y.1.2).1, y.1.1, y.2⟩)), smN_zero]
/-- words by their ways: counted over points -/
theorem al_et {F T : Nat → Nat} {A e tr : Nat} (h : SrtN F T A) (hT : ∀ j, j < A → T j < 8) : ∀ (n t p : Nat), PfxN F T A t → t < 2 ^ A → etT F T A (mgN 2 F T A e tr) n p t = etA n (wkW F T A (frN A t)) p
  | 0, _, _, _, _ => rfl
  | n + 1, t, p, hp, ht => by
    rw [etT, etA, ← al_sum (e := e) (tr := tr) h hp ht hT (fun q => etA n (deW (wkW F T A (frN A t)) p q) q)]
    refine smN_congr (fun k hk => ?_)
    by_cases c : F k = p ∧ mgN 2 F T A e tr t k = true
    · rw [if_pos c, if_pos c, al_et h hT n _ _ (pfx_step hp c.2) (set_lt ht hk), fr_set ht hk]
      have hb : (frN A t).testBit k = true := by rw [fr_bit ht, decide_eq_true hk, (mg_al.mp c.2).1]; rfl
      rw [(wk_clr (F := F) (T := T) hb hk).1, c.1]
    · rw [if_neg c, if_neg c]
/-- and those over points ahead of one -/
theorem al_part {F T : Nat → Nat} {A e tr t p k1 : Nat} (h : SrtN F T A) (hp : PfxN F T A t) (ht : t < 2 ^ A) (hT : ∀ j, j < A → T j < 8) (hk1 : k1 < A) (hF : F k1 = p) (hm : mgN 2 F T A e tr t k1 = true) (g : Nat → Int) : smN (fun k => if F k = p ∧ mgN 2 F T A e tr t k = true then g (T k) else 0) k1 = smN (fun q => if 0 < wkW F T A (frN A t) p q then g q else 0) (T k1) := by
  have key : ∀ k, k < A → F k = p ∧ mgN 2 F T A e tr t k = true → (k < k1 ↔ T k < T k1) := fun k hk c => by
    constructor
    · intro hlt
      rcases h k k1 hlt hk1 with z | z
      · omega
      · rcases Nat.lt_or_ge (T k) (T k1) with y | y
        · exact y
        · have := al_first h hp hk1 hm (i := k) (by omega) (by omega) (mg_al.mp c.2).1
          omega
    · intro hlt
      rcases Nat.lt_trichotomy k k1 with y | y | y
      · exact y
      · rw [y] at hlt; omega
      · have := h k1 k y hk
        omega
  have cut : ∀ (f : Nat → Int) (m n : Nat), m ≤ n → smN f m = smN (fun j => if j < m then f j else 0) n := fun f m n => by
    induction n with
    | zero => intro hm; rw [show m = 0 by omega]; rfl
    | succ n ih =>
      intro hm
      simp only [smN]
      by_cases c : m = n + 1
      · subst c
        rw [if_pos (by omega)]
        simp only [smN]
        congr 1
        exact smN_congr (fun j hj => by rw [if_pos (by omega)])
      · rw [if_neg (by omega), Int.add_zero]
        exact ih (by omega)
  have hs := al_sum (e := e) (tr := tr) (p := p) h hp ht hT (fun q => if q < T k1 then g q else 0)
  rw [cut _ (T k1) 8 (by have := hT k1 hk1; omega), cut _ k1 A (by omega)]
  refine Eq.trans (smN_congr (fun k hk => ?_)) (hs.trans (smN_congr (fun q _ => ?_)))
  · by_cases c : F k = p ∧ mgN 2 F T A e tr t k = true
    · rw [if_pos c, if_pos c]
      by_cases z : k < k1
      · rw [if_pos z, if_pos ((key k hk c).mp z)]
      · rw [if_neg z, if_neg (fun y => z ((key k hk c).mpr y))]
    · rw [if_neg c, if_neg c]; split <;> rfl
  · by_cases z : q < T k1
    · rw [if_pos z, if_pos z]
    · rw [if_neg z, if_neg z]; split <;> rfl
/-! the net of a told word -/
def cuN (N : NN) (a b : Nat) : Int := ldW (fun _ => true) N.2.2.1 N.2.2.2 a b N.2.1
theorem ldW_net {S : Nat → Bool} {F T F' T' : Nat → Nat} {a b : Nat} : ∀ {n : Nat}, (∀ j, j < n → F j = F' j ∧ T j = T' j) → ldW S F T a b n = ldW S F' T' a b n
  | 0, _ => rfl
  | n + 1, h => by rw [ldW, ldW, ldW_net (fun j hj => h j (by omega)), (h n (by omega)).1, (h n (by omega)).2]
theorem cu_add {N : NN} {p q a b : Nat} : cuN (addN N p q) a b = cuN N a b + if a = p ∧ b = q then 1 else 0 := by
  unfold cuN addN
  simp only
  rw [ldW, ldW_net (F' := N.2.2.1) (T' := N.2.2.2) (fun j hj => by unfold upN; rw [if_neg (by omega), if_neg (by omega)]; exact ⟨rfl, rfl⟩)]
  congr 1
  unfold upN
  simp only [↓reduceIte, true_and]
  by_cases c : a = p ∧ b = q
  · rw [if_pos c, if_pos ⟨c.1.symm, c.2.symm⟩]
  · rw [if_neg c, if_neg (fun z => c ⟨z.1.symm, z.2.symm⟩)]
def UbN (N : NN) (p q : Nat) : Prop := ∀ j, j < N.2.1 → N.2.2.1 j < p ∨ (N.2.2.1 j = p ∧ N.2.2.2 j ≤ q)
theorem srt_add {N : NN} {p q : Nat} (h : SrtN N.2.2.1 N.2.2.2 N.2.1) (hu : UbN N p q) : SrtN (addN N p q).2.2.1 (addN N p q).2.2.2 (addN N p q).2.1 ∧ UbN (addN N p q) p q := by
  constructor
  · intro i j hij hj
    have hj' : j < N.2.1 + 1 := hj
    show upN N.2.2.1 N.2.1 p i < upN N.2.2.1 N.2.1 p j ∨ (upN N.2.2.1 N.2.1 p i = upN N.2.2.1 N.2.1 p j ∧ upN N.2.2.2 N.2.1 q i ≤ upN N.2.2.2 N.2.1 q j)
    unfold upN
    rw [if_neg (show ¬ i = N.2.1 by omega), if_neg (show ¬ i = N.2.1 by omega)]
    by_cases c : j = N.2.1
    · rw [if_pos c, if_pos c]
      exact hu i (by omega)
    · rw [if_neg c, if_neg c]
      exact h i j hij (by omega)
  · intro j hj
    have hj' : j < N.2.1 + 1 := hj
    show upN N.2.2.1 N.2.1 p j < p ∨ (upN N.2.2.1 N.2.1 p j = p ∧ upN N.2.2.2 N.2.1 q j ≤ q)
    unfold upN
    by_cases c : j = N.2.1
    · rw [if_pos c, if_pos c]; omega
    · rw [if_neg c, if_neg c]
      exact hu j (by omega)
theorem lgI_ok {D : Nat → Nat} {p q : Nat} {N : NN} (h : SrtN N.2.2.1 N.2.2.2 N.2.1) (hu : UbN N p q) : ∀ i, SrtN (lgI D p q N i).2.2.1 (lgI D p q N i).2.2.2 (lgI D p q N i).2.1 ∧ UbN (lgI D p q N i) p q ∧ ∀ a b, cuN (lgI D p q N i) a b = cuN N a b + if a = p ∧ b = q then (cbN (fun i => decide (D i = p ∧ D (i + 1) = q)) i : Int) else 0
  | 0 => by
    refine ⟨h, hu, fun a b => ?_⟩
    rw [lgI, cbN]
    split <;> simp
  | i + 1 => by
    obtain ⟨i1, i2, i3⟩ := lgI_ok (D := D) h hu i
    rw [lgI]
    by_cases c : D i = p ∧ D (i + 1) = q
    · rw [if_pos c]
      obtain ⟨s1, s2⟩ := srt_add i1 i2
      refine ⟨s1, s2, fun a b => ?_⟩
      rw [cu_add, i3 a b, cbN, if_pos (decide_eq_true c)]
      by_cases z : a = p ∧ b = q
      · rw [if_pos z, if_pos z, if_pos z]; omega
      · rw [if_neg z, if_neg z, if_neg z]; omega
    · rw [if_neg c]
      refine ⟨i1, i2, fun a b => ?_⟩
      rw [i3 a b, cbN, if_neg (show ¬ decide (D i = p ∧ D (i + 1) = q) = true by rw [decide_eq_false c]; decide), Nat.add_zero]
theorem lgQ_ok {D : Nat → Nat} {n p : Nat} {N : NN} (h : SrtN N.2.2.1 N.2.2.2 N.2.1) (hu : ∀ j, j < N.2.1 → N.2.2.1 j < p) : ∀ q, SrtN (lgQ D n p N q).2.2.1 (lgQ D n p N q).2.2.2 (lgQ D n p N q).2.1 ∧ (∀ j, j < (lgQ D n p N q).2.1 → (lgQ D n p N q).2.2.1 j < p ∨ ((lgQ D n p N q).2.2.1 j = p ∧ (lgQ D n p N q).2.2.2 j < q)) ∧ ∀ a b, cuN (lgQ D n p N q) a b = cuN N a b + if a = p ∧ b < q then (cbN (fun i => decide (D i = a ∧ D (i + 1) = b)) (n - 1) : Int) else 0
  | 0 => by
    refine ⟨h, fun j hj => Or.inl (hu j hj), fun a b => ?_⟩
    rw [lgQ, if_neg (by omega), Int.add_zero]
  | q + 1 => by
    obtain ⟨i1, i2, i3⟩ := lgQ_ok (D := D) (n := n) h hu q
    obtain ⟨s1, s2, s3⟩ := lgI_ok (D := D) (p := p) (q := q) i1 (fun j hj => by have := i2 j hj; omega) (n - 1)
    rw [lgQ]
    refine ⟨s1, fun j hj => by have := s2 j hj; omega, fun a b => ?_⟩
    rw [s3 a b, i3 a b]
    by_cases z : a = p ∧ b = q
    · rw [if_pos z, if_neg (show ¬ (a = p ∧ b < q) by omega), if_pos (show a = p ∧ b < q + 1 by omega), z.1, z.2]; omega
    · rw [if_neg z, Int.add_zero]
      by_cases y : a = p ∧ b < q
      · rw [if_pos y, if_pos (show a = p ∧ b < q + 1 by omega)]
      · rw [if_neg y, if_neg (show ¬ (a = p ∧ b < q + 1) by omega)]
theorem lgP_ok {D : Nat → Nat} {n P : Nat} : ∀ p, SrtN (lgP D n P p).2.2.1 (lgP D n P p).2.2.2 (lgP D n P p).2.1 ∧ (∀ j, j < (lgP D n P p).2.1 → (lgP D n P p).2.2.1 j < p ∧ (lgP D n P p).2.2.2 j < P) ∧ ∀ a b, cuN (lgP D n P p) a b = if a < p ∧ b < P then (cbN (fun i => decide (D i = a ∧ D (i + 1) = b)) (n - 1) : Int) else 0
  | 0 => by
    refine ⟨fun i j _ hj => absurd hj (by simp [lgP]), fun j hj => absurd hj (by simp [lgP]), fun a b => ?_⟩
    rw [if_neg (by omega)]
    rfl
  | p + 1 => by
    obtain ⟨i1, i2, i3⟩ := lgP_ok (D := D) (n := n) (P := P) p
    obtain ⟨s1, s2, s3⟩ := lgQ_ok (D := D) (n := n) i1 (fun j hj => (i2 j hj).1) P
    rw [lgP]
    refine ⟨s1, fun j hj => ?_, fun a b => ?_⟩
    · have hq : ∀ q, ∀ j, j < (lgQ D n p (lgP D n P p) q).2.1 → (lgQ D n p (lgP D n P p) q).2.2.2 j < P ∨ (lgQ D n p (lgP D n P p) q).2.2.2 j < q := by
        intro q
        induction q with
        | zero => intro j hj; exact Or.inl (i2 j hj).2
        | succ q ih =>
          intro j hj
          have hi : ∀ i, ∀ j, j < (lgI D p q (lgQ D n p (lgP D n P p) q) i).2.1 → (lgI D p q (lgQ D n p (lgP D n P p) q) i).2.2.2 j < P ∨ (lgI D p q (lgQ D n p (lgP D n P p) q) i).2.2.2 j < q + 1 := by
            intro i
            induction i with
            | zero => intro j hj; have := ih j hj; rw [lgI]; omega
            | succ i ihi =>
              intro j hj
              rw [lgI] at hj ⊢
              split at hj
              · next c =>
                rw [if_pos c]
                have hj' : j < (lgI D p q (lgQ D n p (lgP D n P p) q) i).2.1 + 1 := hj
                show upN _ _ q j < P ∨ upN _ _ q j < q + 1
                unfold upN
                split
                · omega
                · exact ihi j (by omega)
              · next c =>
                rw [if_neg c]
                exact ihi j hj
          exact hi (n - 1) j hj
      have h1 := s2 j hj
      have h2 := hq P j hj
      constructor <;> omega
    · rw [s3 a b, i3 a b]
      by_cases z : a = p ∧ b < P
      · rw [if_pos z, if_neg (show ¬ (a < p ∧ b < P) by omega), if_pos (show a < p + 1 ∧ b < P by omega), Int.zero_add]
      · rw [if_neg z, Int.add_zero]
        by_cases y : a < p ∧ b < P
        · rw [if_pos y, if_pos (show a < p + 1 ∧ b < P by omega)]
        · rw [if_neg y, if_neg (show ¬ (a < p + 1 ∧ b < P) by omega)]
theorem ct_cb {D : Nat → Nat} {a b : Nat} : ∀ m, ctW D 0 m a b = (cbN (fun i => decide (D i = a ∧ D (i + 1) = b)) m : Int)
  | 0 => rfl
  | m + 1 => by
    rw [ctW, up2_inc, ct_cb m, cbN, Nat.zero_add]
    by_cases c : D m = a ∧ D (m + 1) = b
    · rw [if_pos ⟨c.1.symm, c.2.symm⟩, if_pos (decide_eq_true c)]; omega
    · rw [if_neg (fun z => c ⟨z.1.symm, z.2.symm⟩), if_neg (by rw [decide_eq_false c]; decide)]; omega
/-- what is known of the net of a told word -/
theorem lw_ok {n : Nat} {B : Nat → Nat} (h : telK n B) : (lwN n B).2.1 = n - 1 ∧ SrtN (lwN n B).2.2.1 (lwN n B).2.2.2 (n - 1) ∧ (∀ j, j < n - 1 → (lwN n B).2.2.1 j < plN n B ∧ (lwN n B).2.2.2 j < plN n B) ∧ plN n B ≤ 8 ∧ wkW (lwN n B).2.2.1 (lwN n B).2.2.2 (n - 1) (allB (n - 1)) = ctW (tlD n B) 0 (n - 1) := by
  have hA := (lw_A h).2
  obtain ⟨-, t1, -, -⟩ := tl_facts h
  have hD : ∀ i, i < n → tlD n B i < plN n B := fun i hi => (t1 i hi).1
  have s := lgP_ok (D := tlD n B) (n := n) (P := plN n B) (plN n B)
  have hl : lgP (tlD n B) n (plN n B) (plN n B) = lwN n B := by unfold lwN; rfl
  have h8 : plN n B ≤ 8 := by unfold plN; exact h.2.2.2
  rw [hl] at s
  generalize lwN n B = N at *
  generalize tlD n B = D at *
  generalize plN n B = P at *
  obtain ⟨s1, s2, s3⟩ := s
  rw [hA] at s1 s2
  refine ⟨hA, s1, s2, h8, ?_⟩
  funext a b
  have e := s3 a b
  unfold cuN at e
  rw [hA] at e
  unfold wkW
  rw [ldW_congr (S' := fun _ => true) (fun j hj => by rw [allB_bit]; exact decide_eq_true hj), e, ct_cb]
  by_cases c : a < P ∧ b < P
  · rw [if_pos c]
  · rw [if_neg c]
    have : ∀ m, m ≤ n - 1 → cbN (fun i => decide (D i = a ∧ D (i + 1) = b)) m = 0 := fun m => by
      induction m with
      | zero => intro _; rfl
      | succ m ih =>
        intro hm
        rw [cbN, ih (by omega), if_neg]
        rw [decide_eq_true_eq]
        intro z
        have h1 := hD m (by omega)
        have h2 := hD (m + 1) (by omega)
        exact c (by omega)
    rw [this (n - 1) (Nat.le_refl _)]
    rfl
theorem bal_ct {D : Nat → Nat} {i : Nat} : ∀ m, (∀ j, i ≤ j → j ≤ i + m → D j < 8) → BalW (ctW D i m) (ctO D i m) (D i) (D (i + m)) ∧ sum8 (ctO D i m) = m
  | 0, _ => by
    refine ⟨fun x _ => ?_, rfl⟩
    have : inW (ctW D i 0) x = 0 := smN_zero 8
    rw [this, show ctO D i 0 x = 0 from rfl, Nat.add_zero]
    omega
  | m + 1, h => by
    obtain ⟨ih, is⟩ := bal_ct m (fun j a b => h j a (by omega))
    have d1 := h (i + m) (by omega) (by omega)
    constructor
    · intro x hx
      have hb := ih x hx
      have hi : inW (ctW D i (m + 1)) x = inW (ctW D i m) x + (if x = D (i + m + 1) then 1 else 0) := by
        unfold inW
        by_cases c : x = D (i + m + 1)
        · rw [if_pos c]
          have h1 := smN_one (k := D (i + m)) 8
          rw [if_pos d1] at h1
          rw [← h1, ← smN_add]
          refine smN_congr (fun j _ => ?_)
          rw [ctW, up2_inc]
          by_cases z : j = D (i + m)
          · rw [if_pos ⟨z, c⟩, if_pos z]
          · rw [if_neg (fun y => z y.1), if_neg z]
        · rw [if_neg c, Int.add_zero]
          refine smN_congr (fun j _ => ?_)
          rw [ctW, up2_inc, if_neg (fun y => c y.2), Int.add_zero]
      rw [hi, ctO, show i + (m + 1) = i + m + 1 by omega]
      unfold upI
      by_cases c : x = D (i + m)
      · rw [if_pos c] at hb ⊢
        rw [← c]
        omega
      · rw [if_neg c] at hb ⊢
        omega
    · rw [ctO, sum8_up d1, is]
      omega
theorem xs_bal {F T : Nat → Nat} {A p : Nat} (hF : ∀ j, j < A → F j < 8) : xsI F T A p = wkO F A (allB A) p - inW (wkW F T A (allB A)) p := by
  have := ld_split (F := F) (T := T) (A := A) (t := 0) (p := p) (b := 9) (Nat.pow_pos (by decide)) A (Nat.le_refl _)
  have hm : ∀ n, meN F T 9 0 n p = if p = 9 then 1 else 0 := fun n => by
    induction n with
    | zero => rfl
    | succ n ih => simp [meN, ih]
  rw [hm, fr_0] at this
  rw [in_sum hF]
  unfold wkO
  omega
/-- a told word is a trail -/
theorem lw_StG {n : Nat} {B : Nat → Nat} (h : telK n B) : StG (lwN n B).2.2.1 (lwN n B).2.2.2 (n - 1) (tlD n B 0) (tlD n B (n - 1)) := by
  obtain ⟨l1, l2, l3, l4, l5⟩ := lw_ok h
  obtain ⟨-, t1, -, -⟩ := tl_facts h
  have hn := h.1
  have hn2 := h.2.1
  have hD : ∀ i, i < n → tlD n B i < 8 := fun i hi => by have := (t1 i hi).1; omega
  obtain ⟨b1, b2⟩ := bal_ct (D := tlD n B) (i := 0) (n - 1) (fun j _ hj => hD j (by omega))
  have hM := ctM (D := tlD n B) (i := 0) (m := n - 1) (fun j _ hj => hD j (by omega)) (by omega)
  refine ⟨by omega, hD 0 (by omega), hD (n - 1) (by omega), fun j hj => by have := l3 j hj; omega, fun p hp => ?_⟩
  have hN := net_mat (S := fun j => (allB (n - 1)).testBit j) (F := (lwN n B).2.2.1) (T := (lwN n B).2.2.2) (A := n - 1) (by omega) (fun j hj => by have := l3 j hj; omega)
  rw [xs_bal (fun j hj => by have := l3 j hj; omega)]
  have ho : wkO (lwN n B).2.2.1 (n - 1) (allB (n - 1)) p = ctO (tlD n B) 0 (n - 1) p := by
    rw [hM.2.1 p hp, ← l5]
    exact hN.2.1 p hp
  rw [ho, l5]
  have := b1 p hp
  rw [Nat.zero_add] at this
  exact this
theorem lt_ind {s : Nat} {L L' : Nat → Nat} : ∀ i, (ltN s L i).1 = (ltN s L' i).1 ∧ ∀ p, p < (ltN s L i).1 → (ltN s L i).2 p = (ltN s L' i).2 p
  | 0 => ⟨rfl, fun p hp => absurd hp (by simp [ltN])⟩
  | i + 1 => by
    obtain ⟨e1, e2⟩ := lt_ind (s := s) (L := L) (L' := L') i
    rw [ltN, ltN, ← e1]
    split
    · refine ⟨rfl, fun p hp => ?_⟩
      have hp' : p < (ltN s L i).1 + 1 := hp
      show upN _ _ _ p = upN _ _ _ p
      unfold upN
      split
      · rfl
      · exact e2 p (by omega)
    · exact ⟨e1, e2⟩
/-! the told word's own ways, taken one by one -/
def lfA (F T : Nat → Nat) (p q t : Nat) : Nat → Nat → Nat
  | 0, k => k
  | r + 1, k => if F k = p ∧ T k = q ∧ t.testBit k = false then k else lfA F T p q t r (k + 1)
theorem lfA_ok {F T : Nat → Nat} {p q t : Nat} : ∀ (r k : Nat), (∃ j, k ≤ j ∧ j < k + r ∧ F j = p ∧ T j = q ∧ t.testBit j = false) → lfA F T p q t r k < k + r ∧ (F (lfA F T p q t r k) = p ∧ T (lfA F T p q t r k) = q ∧ t.testBit (lfA F T p q t r k) = false) ∧ ∀ j, k ≤ j → j < lfA F T p q t r k → ¬ (F j = p ∧ T j = q ∧ t.testBit j = false)
  | 0, k, ⟨j, a, b, _⟩ => by omega
  | r + 1, k, ⟨j, a, b, c⟩ => by
    rw [lfA]
    split
    · next z => exact ⟨by omega, z, fun i x y => by omega⟩
    · next z =>
      have hjk : j ≠ k := fun e => z (by rw [← e]; exact c)
      obtain ⟨i1, i2, i3⟩ := lfA_ok r (k + 1) ⟨j, by omega, by omega, c⟩
      refine ⟨by omega, i2, fun i x y => ?_⟩
      by_cases e : i = k
      · rw [e]; exact z
      · exact i3 i (by omega) y
def kxT (F T : Nat → Nat) (A : Nat) (D : Nat → Nat) : Nat → Nat
  | 0 => 0
  | i + 1 => kxT F T A D i ||| 2 ^ lfA F T (D i) (D (i + 1)) (kxT F T A D i) A 0
def kxN (F T : Nat → Nat) (A : Nat) (D : Nat → Nat) (i : Nat) : Nat := lfA F T (D i) (D (i + 1)) (kxT F T A D i) A 0
theorem kx_wr {F T : Nat → Nat} {A : Nat} {D : Nat → Nat} : ∀ i, wrT (kxN F T A D) i = kxT F T A D i
  | 0 => rfl
  | i + 1 => by rw [wrT, kxT, kx_wr i]; rfl
theorem wk_ex {F T : Nat → Nat} {A t p q : Nat} (ht : t < 2 ^ A) (h : 0 < wkW F T A (frN A t) p q) : ∃ k, k < A ∧ F k = p ∧ T k = q ∧ t.testBit k = false := by
  unfold wkW at h
  rw [ldW_sm] at h
  obtain ⟨k, a, b⟩ := sm_ex h
  refine ⟨k, a, b.2.1, b.2.2, ?_⟩
  have := b.1
  rw [fr_bit ht, decide_eq_true a, Bool.true_and] at this
  cases hb : t.testBit k with
  | false => rfl
  | true => rw [hb] at this; exact absurd this (by decide)
theorem pfx_0 {F T : Nat → Nat} {A : Nat} : PfxN F T A 0 := fun k _ hb => by simp at hb
theorem ca_sm {W : Nat → Nat → Int} {O : Nat → Int} {goal p : Nat} : ∀ q, caS W O goal p q = smN (fun q => soN W O goal p q) q
  | 0 => rfl
  | q + 1 => by rw [caS, smN, ca_sm q]
/-- a state on the way of words -/
def WdS (F T : Nat → Nat) (A b goal : Nat) (W : Nat → Nat → Int) (O : Nat → Int) (t p i : Nat) : Prop := t < 2 ^ A ∧ PfxN F T A t ∧ wkW F T A (frN A t) = W ∧ pcN A t = i ∧ i ≤ A ∧ whI F T A b t = (p : Int) ∧ MatP W O ∧ BalW W O p goal ∧ sum8 O = ((A - i : Nat) : Int) ∧ p < 8 ∧ goal < 8
theorem WdS.step {F T : Nat → Nat} {A b goal : Nat} {W : Nat → Nat → Int} {O : Nat → Int} {t p i k : Nat} (hT : ∀ j, j < A → T j < 8) (h : WdS F T A b goal W O t p i) (hk : k < A) (hF : F k = p) (hm : mgN 2 F T A 0 0 t k = true) : 0 < W p (T k) ∧ WdS F T A b goal (deW W p (T k)) (deO O p) (t ||| 2 ^ k) (T k) (i + 1) := by
  obtain ⟨h1, h2, h3, h4, h5, h6, h7, h8, h9, h10, h11⟩ := h
  have hbt := (mg_al.mp hm).1
  have hb : (frN A t).testBit k = true := by rw [fr_bit h1, decide_eq_true hk, hbt]; rfl
  have hpos : 0 < W p (T k) := by
    rw [← h3]
    unfold wkW
    rw [ldW_sm]
    have := sm_no (X := fun j => (frN A t).testBit j = true ∧ F j = p ∧ T j = T k) (n := A)
    apply Classical.byContradiction
    intro z
    exact this (by omega) k hk ⟨hb, hF, rfl⟩
  have hlt : pcN A t + 1 ≤ A := by
    have := pcN_le A (t ||| 2 ^ k)
    rw [pc_set hk hbt] at this
    exact this
  refine ⟨hpos, set_lt h1 hk, pfx_step h2 hm, ?_, by rw [pc_set hk hbt, h4], by omega, wh_step (by rw [h6, hF]) hk hbt (hT k hk), h7.de h10 (hT k hk) hpos, bal_de h10 h8, ?_, hT k hk, h11⟩
  · rw [fr_set h1 hk, (wk_clr (F := F) (T := T) hb hk).1, h3, hF]
  · rw [sum8_de h10, h9]; omega
theorem WdS.wy {F T : Nat → Nat} {A b goal : Nat} {W : Nat → Nat → Int} {O : Nat → Int} {t p i : Nat} (hs : SrtN F T A) (hT : ∀ j, j < A → T j < 8) (h : WdS F T A b goal W O t p i) : wyW F T A b (mgN 2 F T A 0 0) t = etA (A - i) W p := by
  obtain ⟨h1, h2, h3, h4, h5, h6, h7, h8, h9, h10, h11⟩ := h
  rw [wy_et h6, h4, al_et hs hT _ _ _ h2 h1, h3]
/-- what stands ahead of an arc that may be gone along -/
theorem WdS.part {F T : Nat → Nat} {A b goal : Nat} {W : Nat → Nat → Int} {O : Nat → Int} {t p i k1 : Nat} (hs : SrtN F T A) (hT : ∀ j, j < A → T j < 8) (h : WdS F T A b goal W O t p i) (hk1 : k1 < A) (hF : F k1 = p) (hm : mgN 2 F T A 0 0 t k1 = true) : wsN F (mgN 2 F T A 0 0) (wyW F T A b (mgN 2 F T A 0 0)) t p k1 = caS W O goal p (T k1) ∧ wyW F T A b (mgN 2 F T A 0 0) (t ||| 2 ^ k1) = soN W O goal p (T k1) := by
  have hst : ∀ k, k < A → F k = p → mgN 2 F T A 0 0 t k = true → wyW F T A b (mgN 2 F T A 0 0) (t ||| 2 ^ k) = etA (A - (i + 1)) (deW W p (T k)) (T k) := fun k a c d => (h.step hT a c d).2.wy hs hT
  have hpos := (h.step hT hk1 hF hm).1
  have hi := (h.step hT hk1 hF hm).2.2.2.2.2.1
  obtain ⟨h1, h2, h3, h4, h5, h6, h7, h8, h9, h10, h11⟩ := id h
  have hso : ∀ q, q < 8 → soN W O goal p q = if 0 < W p q then etA (A - (i + 1)) (deW W p q) q else 0 := fun q hq => so_etA h7 h8 h10 hq h11 (by rw [h9]; omega)
  constructor
  · rw [ws_sm, ca_sm]
    have := al_part (e := 0) (tr := 0) hs h2 h1 hT hk1 hF hm (fun q => etA (A - (i + 1)) (deW W p q) q)
    rw [h3] at this
    refine Eq.trans (smN_congr (fun k hk => ?_)) (this.trans (smN_congr (fun q hq => ?_)))
    · by_cases c : F k = p ∧ mgN 2 F T A 0 0 t k = true
      · rw [if_pos ⟨by omega, c.2⟩, if_pos c, hst k (by omega) c.1 c.2]
      · rw [if_neg (fun z => c ⟨by omega, z.2⟩), if_neg c]
    · have := hT k1 hk1
      exact (hso q (by omega)).symm
  · rw [hst k1 hk1 hF hm, hso (T k1) (hT k1 hk1), if_pos hpos]
theorem WdS.tot {F T : Nat → Nat} {A b goal : Nat} {W : Nat → Nat → Int} {O : Nat → Int} {t p i : Nat} (hs : SrtN F T A) (hT : ∀ j, j < A → T j < 8) (h : WdS F T A b goal W O t p i) (hi : i < A) : wsN F (mgN 2 F T A 0 0) (wyW F T A b (mgN 2 F T A 0 0)) t p A = etA (A - i) W p := by
  obtain ⟨h1, h2, h3, h4, h5, h6, h7, h8, h9, h10, h11⟩ := id h
  rw [ws_sm, ← h.wy hs hT, wy_et h6, h4, show A - i = (A - (i + 1)) + 1 by omega, etT]
  refine smN_congr (fun k hk => ?_)
  by_cases c : F k = p ∧ mgN 2 F T A 0 0 t k = true
  · rw [if_pos ⟨by omega, c.2⟩, if_pos c]
    have hw := (h.step hT hk c.1 c.2).2
    rw [wy_et hw.2.2.2.2.2.1, hw.2.2.2.1]
  · rw [if_neg (fun z => c ⟨by omega, z.2⟩), if_neg c]
/-- the told word, place by place -/
theorem kx_ok {F T : Nat → Nat} {n : Nat} {D : Nat → Nat} (hn : 1 ≤ n) (hn2 : n ≤ 17) (hs : SrtN F T (n - 1)) (hT : ∀ j, j < n - 1 → T j < 8) (hD : ∀ i, i < n → D i < 8) (h0 : wkW F T (n - 1) (allB (n - 1)) = ctW D 0 (n - 1)) :
    ∀ i, i ≤ n - 1 → WdS F T (n - 1) (D 0) (D (n - 1)) (ctW D i (n - 1 - i)) (ctO D i (n - 1 - i)) (kxT F T (n - 1) D i) (D i) i ∧ (i < n - 1 → kxN F T (n - 1) D i < n - 1 ∧ F (kxN F T (n - 1) D i) = D i ∧ T (kxN F T (n - 1) D i) = D (i + 1) ∧ mgN 2 F T (n - 1) 0 0 (kxT F T (n - 1) D i) (kxN F T (n - 1) D i) = true ∧ ∀ k, k < kxN F T (n - 1) D i → ¬ (F k = D i ∧ mgN 2 F T (n - 1) 0 0 (kxT F T (n - 1) D i) k = true ∧ T k = D (i + 1))) := by
  have mk : ∀ i, i ≤ n - 1 → WdS F T (n - 1) (D 0) (D (n - 1)) (ctW D i (n - 1 - i)) (ctO D i (n - 1 - i)) (kxT F T (n - 1) D i) (D i) i → (i < n - 1 → kxN F T (n - 1) D i < n - 1 ∧ F (kxN F T (n - 1) D i) = D i ∧ T (kxN F T (n - 1) D i) = D (i + 1) ∧ mgN 2 F T (n - 1) 0 0 (kxT F T (n - 1) D i) (kxN F T (n - 1) D i) = true ∧ ∀ k, k < kxN F T (n - 1) D i → ¬ (F k = D i ∧ mgN 2 F T (n - 1) 0 0 (kxT F T (n - 1) D i) k = true ∧ T k = D (i + 1))) := by
    intro i _ hw hi
    obtain ⟨h1, h2, h3, -⟩ := id hw
    have hpos : 0 < wkW F T (n - 1) (frN (n - 1) (kxT F T (n - 1) D i)) (D i) (D (i + 1)) := by
      have hc := ctM (D := D) (i := i + 1) (m := n - 1 - i - 1) (fun j _ hj => hD j (by omega)) (by omega)
      have := hc.1 (D i) (D (i + 1)) (hD i (by omega)) (hD (i + 1) (by omega))
      rw [h3, show n - 1 - i = (n - 1 - i - 1) + 1 by omega, ctW_first, if_pos ⟨rfl, rfl⟩]
      omega
    obtain ⟨k0, a, b, c, e⟩ := wk_ex h1 hpos
    obtain ⟨l1, l2, l3⟩ := lfA_ok (F := F) (T := T) (p := D i) (q := D (i + 1)) (t := kxT F T (n - 1) D i) (n - 1) 0 ⟨k0, by omega, by omega, b, c, e⟩
    obtain ⟨k, k1, k2, k3, k4⟩ := al_ex (e := 0) (tr := 0) ⟨k0, a, b, c, e⟩
    change kxN F T (n - 1) D i < 0 + (n - 1) at l1
    change F (kxN F T (n - 1) D i) = D i ∧ T (kxN F T (n - 1) D i) = D (i + 1) ∧ (kxT F T (n - 1) D i).testBit (kxN F T (n - 1) D i) = false at l2
    change ∀ j, 0 ≤ j → j < kxN F T (n - 1) D i → _ at l3
    have e1 : k ≤ kxN F T (n - 1) D i := al_first hs h2 k1 k4 (by rw [l2.1, k2]) (by rw [l2.2.1, k3]) l2.2.2
    have e2 : kxN F T (n - 1) D i ≤ k := by
      rcases Nat.lt_or_ge k (kxN F T (n - 1) D i) with z | z
      · exact absurd ⟨k2, k3, (mg_al.mp k4).1⟩ (l3 k (by omega) z)
      · exact z
    have ek : k = kxN F T (n - 1) D i := by omega
    rw [ek] at k4
    exact ⟨by omega, l2.1, l2.2.1, k4, fun j hj z => l3 j (by omega) hj ⟨z.1, z.2.2, (mg_al.mp z.2.1).1⟩⟩
  intro i
  induction i with
  | zero =>
    intro hi
    have hb := bal_ct (D := D) (i := 0) (n - 1) (fun j _ hj => hD j (by omega))
    rw [Nat.zero_add] at hb
    have hw : WdS F T (n - 1) (D 0) (D (n - 1)) (ctW D 0 (n - 1 - 0)) (ctO D 0 (n - 1 - 0)) (kxT F T (n - 1) D 0) (D 0) 0 := by
      rw [Nat.sub_zero]
      refine ⟨Nat.pow_pos (by decide), pfx_0, by rw [show kxT F T (n - 1) D 0 = 0 from rfl, fr_0]; exact h0, pcN_zero _, by omega, wh_0 (hD 0 (by omega)), ctM (fun j _ hj => hD j (by omega)) (by omega), hb.1, ?_, hD 0 (by omega), hD (n - 1) (by omega)⟩
      rw [hb.2, Nat.sub_zero]
    exact ⟨hw, mk 0 hi hw⟩
  | succ i ih =>
    intro hi
    obtain ⟨hw, hk⟩ := ih (by omega)
    obtain ⟨k1, k2, k3, k4, -⟩ := hk (by omega)
    have hw2 := (hw.step hT k1 k2 k4).2
    rw [k3, show n - 1 - i = (n - 1 - (i + 1)) + 1 by omega, ctW_de, ctO_de] at hw2
    exact ⟨hw2, mk (i + 1) hi hw2⟩
/-! the word of a rank -/
def lrT (F T : Nat → Nat) (A b : Nat) (mg : Nat → Nat → Bool) (W : Nat → Int) : Nat → Int → Nat → Nat × Int
  | t, l, 0 => (t, l)
  | t, l, i + 1 => lrT F T A b mg W (t ||| 2 ^ (lrC F mg W t (whI F T A b t) A 0 l).1) (lrC F mg W t (whI F T A b t) A 0 l).2 i
theorem lrT_s {F T : Nat → Nat} {A b : Nat} {mg : Nat → Nat → Bool} {W : Nat → Int} : ∀ (i t : Nat) (l : Int), lrT F T A b mg W t l (i + 1) = ((lrT F T A b mg W t l i).1 ||| 2 ^ (lrC F mg W (lrT F T A b mg W t l i).1 (whI F T A b (lrT F T A b mg W t l i).1) A 0 (lrT F T A b mg W t l i).2).1, (lrC F mg W (lrT F T A b mg W t l i).1 (whI F T A b (lrT F T A b mg W t l i).1) A 0 (lrT F T A b mg W t l i).2).2)
  | 0, t, l => rfl
  | i + 1, t, l => by
    rw [lrT, lrT_s i]
    rfl
theorem lrL_at {F T : Nat → Nat} {A b : Nat} {mg : Nat → Nat → Bool} {W : Nat → Int} : ∀ (n i t : Nat) (l : Int), i < n → (lrL F T A b mg W n t l).getD i 0 = (lrC F mg W (lrT F T A b mg W t l i).1 (whI F T A b (lrT F T A b mg W t l i).1) A 0 (lrT F T A b mg W t l i).2).1
  | 0, i, t, l, h => by omega
  | n + 1, 0, t, l, _ => rfl
  | n + 1, i + 1, t, l, h => by
    rw [lrL, List.getD_cons_succ, lrL_at n i _ _ (by omega)]
    rfl
theorem lrC_dec {F : Nat → Nat} {mg : Nat → Nat → Bool} {W : Nat → Int} {t : Nat} {p : Int} : ∀ (r k : Nat) (l : Int), l + wsN F mg W t p k = wsN F mg W t p (lrC F mg W t p r k l).1 + (lrC F mg W t p r k l).2
  | 0, k, l => by simp only [lrC]; omega
  | r + 1, k, l => by
    rw [lrC]
    split
    · next c =>
      split
      · simp only; omega
      · have := lrC_dec (F := F) (mg := mg) (W := W) (t := t) (p := p) r (k + 1) (l - W (t ||| 2 ^ k))
        rw [← this, wsN, if_pos c]
        omega
    · next c =>
      have := lrC_dec (F := F) (mg := mg) (W := W) (t := t) (p := p) r (k + 1) l
      rw [← this, wsN, if_neg c]
      omega
theorem slQ_eq {W : Nat → Nat → Int} {O : Nat → Int} {goal p q1 : Nat} {l1 : Int} (hq1 : q1 < 8) (hnn : ∀ q, q < 8 → 0 ≤ soN W O goal p q) (h0 : 0 ≤ l1) (h1 : l1 < soN W O goal p q1) : ∀ (r : Nat) (l : Int), r ≤ 7 → 7 - r ≤ q1 → l + caS W O goal p (7 - r) = caS W O goal p q1 + l1 → slQ W O goal p r l = (q1, l1)
  | 0, l, _, hq, e => by
    have : q1 = 7 := by omega
    rw [this] at e ⊢
    rw [slQ]
    simp only [Prod.mk.injEq, true_and]
    rw [Nat.sub_zero] at e
    omega
  | r + 1, l, hr, hq, e => by
    rw [slQ]
    by_cases c : 7 - (r + 1) = q1
    · rw [c] at e
      have e2 : l = l1 := by omega
      rw [show 6 - r = q1 by omega, e2, if_pos h1]
    · have mono : ∀ m, 7 - (r + 1) + 1 ≤ m → m ≤ q1 → caS W O goal p (7 - (r + 1) + 1) ≤ caS W O goal p m := by
        intro m
        induction m with
        | zero => intro hm; omega
        | succ m ih =>
          intro hm hmq
          by_cases z : 7 - (r + 1) + 1 = m + 1
          · rw [z]; exact Int.le_refl _
          · have := ih (by omega) (by omega)
            have h2 := hnn m (by omega)
            rw [caS.eq_2 W O goal p m]
            omega
      have hm := mono q1 (by omega) (Nat.le_refl _)
      have e3 : caS W O goal p (7 - (r + 1) + 1) = caS W O goal p (7 - (r + 1)) + soN W O goal p (7 - (r + 1)) := rfl
      rw [show 6 - r = 7 - (r + 1) by omega, if_neg (by omega)]
      refine slQ_eq hq1 hnn h0 h1 r _ (by omega) (by omega) ?_
      rw [show 7 - r = 7 - (r + 1) + 1 by omega, e3]
      omega
theorem sl_lr {F T : Nat → Nat} {n : Nat} {D : Nat → Nat} (hn : 2 ≤ n) (hn2 : n ≤ 17) (hs : SrtN F T (n - 1)) (hT : ∀ j, j < n - 1 → T j < 8) (hD : ∀ i, i < n → D i < 8) (h0 : wkW F T (n - 1) (allB (n - 1)) = ctW D 0 (n - 1)) {z : Int} (z0 : 0 ≤ z) (z1 : z < wyW F T (n - 1) (D 0) (mgN 2 F T (n - 1) 0 0) 0) :
    ∀ i, i ≤ n - 1 → WdS F T (n - 1) (D 0) (D (n - 1)) (slS D n z i).1 (slS D n z i).2.1 (lrT F T (n - 1) (D 0) (mgN 2 F T (n - 1) 0 0) (wyW F T (n - 1) (D 0) (mgN 2 F T (n - 1) 0 0)) 0 z i).1 (slS D n z i).2.2.1 i ∧ (lrT F T (n - 1) (D 0) (mgN 2 F T (n - 1) 0 0) (wyW F T (n - 1) (D 0) (mgN 2 F T (n - 1) 0 0)) 0 z i).2 = (slS D n z i).2.2.2 ∧ 0 ≤ (slS D n z i).2.2.2 ∧ (slS D n z i).2.2.2 < etA (n - 1 - i) (slS D n z i).1 (slS D n z i).2.2.1 ∧ (0 < i → (lrL F T (n - 1) (D 0) (mgN 2 F T (n - 1) 0 0) (wyW F T (n - 1) (D 0) (mgN 2 F T (n - 1) 0 0)) (n - 1) 0 z).getD (i - 1) 0 < n - 1 ∧ (slS D n z i).2.2.1 = T ((lrL F T (n - 1) (D 0) (mgN 2 F T (n - 1) 0 0) (wyW F T (n - 1) (D 0) (mgN 2 F T (n - 1) 0 0)) (n - 1) 0 z).getD (i - 1) 0)) := by
  intro i
  induction i with
  | zero =>
    intro hi
    have hw := (kx_ok (by omega) hn2 hs hT hD h0 0 (by omega)).1
    rw [Nat.sub_zero, show kxT F T (n - 1) D 0 = 0 from rfl] at hw
    refine ⟨hw, rfl, z0, ?_, fun h => by omega⟩
    rw [hw.wy hs hT] at z1
    exact z1
  | succ i ih =>
    intro hi
    obtain ⟨hw, e, l0, l1, -⟩ := ih (by omega)
    rw [lrT_s, lrL_at _ _ _ _ (by omega), show i + 1 - 1 = i by omega]
    rw [slS]
    generalize lrT F T (n - 1) (D 0) (mgN 2 F T (n - 1) 0 0) (wyW F T (n - 1) (D 0) (mgN 2 F T (n - 1) 0 0)) 0 z i = tl at hw e ⊢
    generalize slS D n z i = s at hw e l0 l1 ⊢
    obtain ⟨t, l⟩ := tl
    obtain ⟨W, O, p, left⟩ := s
    simp only at hw e l0 l1 ⊢
    subst e
    have ht := hw.tot hs hT (by omega)
    rw [hw.2.2.2.2.2.1]
    have ok := lrC_ok (F := F) (mg := mgN 2 F T (n - 1) 0 0) (W := wyW F T (n - 1) (D 0) (mgN 2 F T (n - 1) 0 0)) (t := t) (p := (p : Int)) (A := n - 1) (n - 1) 0 l (by omega) l0 (by
      rw [ht, show wsN F (mgN 2 F T (n - 1) 0 0) (wyW F T (n - 1) (D 0) (mgN 2 F T (n - 1) 0 0)) t (p : Int) 0 = 0 from rfl]
      omega)
    have dec := lrC_dec (F := F) (mg := mgN 2 F T (n - 1) 0 0) (W := wyW F T (n - 1) (D 0) (mgN 2 F T (n - 1) 0 0)) (t := t) (p := (p : Int)) (n - 1) 0 l
    generalize lrC F (mgN 2 F T (n - 1) 0 0) (wyW F T (n - 1) (D 0) (mgN 2 F T (n - 1) 0 0)) t (p : Int) (n - 1) 0 l = kl at ok dec ⊢
    obtain ⟨k, l'⟩ := kl
    simp only at ok dec ⊢
    obtain ⟨o1, o2, o3, o4, o5⟩ := ok
    have hF : F k = p := by omega
    obtain ⟨p1, p2⟩ := hw.part hs hT o1 hF o3
    rw [p1, show wsN F (mgN 2 F T (n - 1) 0 0) (wyW F T (n - 1) (D 0) (mgN 2 F T (n - 1) 0 0)) t (p : Int) 0 = 0 from rfl] at dec
    rw [p2] at o5
    have hM := hw.2.2.2.2.2.2.1
    have hso : ∀ q, q < 8 → 0 ≤ soN W O (D (n - 1)) p q := fun q hq => (soN_b mat_ok hM (hD (n - 1) (by omega)) hw.2.2.2.2.2.2.2.2.2.1 hq).1
    have hq := slQ_eq (hT k o1) hso o4 o5 7 l (by omega) (by omega) (by rw [show caS W O (D (n - 1)) p (7 - 7) = 0 from rfl]; omega)
    rw [hq]
    obtain ⟨w0, w1⟩ := hw.step hT o1 hF o3
    refine ⟨w1, rfl, o4, ?_, fun _ => ⟨o1, rfl⟩⟩
    have hso2 := so_etA (q := T k) hM hw.2.2.2.2.2.2.2.1 hw.2.2.2.2.2.2.2.2.2.1 (hT k o1) (hD (n - 1) (by omega)) (n := n - 1 - (i + 1)) (by rw [hw.2.2.2.2.2.2.2.2.1]; omega)
    rw [hso2, if_pos w0] at o5
    exact o5
/-- the table of words -/
def wwW (n : Nat) (B : Nat → Nat) : Nat → Int := wyW (lwN n B).2.2.1 (lwN n B).2.2.2 (lwN n B).2.1 (tlD n B 0) (mgN 2 (lwN n B).2.2.1 (lwN n B).2.2.2 (lwN n B).2.1 0 0)
theorem ww_ok {n : Nat} {B : Nat → Nat} (h : telK n B) : WwE n B (wwW n B) := by
  obtain ⟨l1, l2, l3, l4, l5⟩ := lw_ok h
  exact wy_ok (fun j hj => by rw [l1] at hj; have := l3 j hj; omega)
theorem ww_b {n : Nat} {B : Nat → Nat} (h : telK n B) (t : Nat) (ht : t < 2 ^ (n - 1)) : 0 ≤ wwW n B t ∧ wwW n B t < 4611686018427387904 := by
  obtain ⟨l1, l2, l3, l4, l5⟩ := lw_ok h
  unfold wwW
  rw [l1]
  have := wy_b (how := 2) (e := 0) (tr := 0) (lw_StG h) ht
  omega
theorem ww_D {n : Nat} {B : Nat → Nat} (h : telK n B) : ∀ i, i < n → tlD n B i < 8 := fun i hi => by
  obtain ⟨l1, l2, l3, l4, l5⟩ := lw_ok h
  obtain ⟨-, t1, -, -⟩ := tl_facts h
  have := (t1 i hi).1
  omega
/-- how many words -/
theorem ww_all {n : Nat} {B : Nat → Nat} (h : telK n B) : wwW n B 0 = spN (ctW (tlD n B) 0 (n - 1)) (ctO (tlD n B) 0 (n - 1)) (tlD n B (n - 1)) := by
  obtain ⟨l1, l2, l3, l4, l5⟩ := lw_ok h
  have hT : ∀ j, j < n - 1 → (lwN n B).2.2.2 j < 8 := fun j hj => by have := l3 j hj; omega
  have hw := (kx_ok (by have := h.1; omega) h.2.1 l2 hT (ww_D h) l5 0 (by omega)).1
  rw [Nat.sub_zero] at hw
  unfold wwW
  rw [l1]
  have := hw.wy l2 hT
  rw [show kxT (lwN n B).2.2.1 (lwN n B).2.2.2 (n - 1) (tlD n B) 0 = 0 from rfl] at this
  rw [this]
  obtain ⟨h1, h2, h3, h4, h5, h6, h7, h8, h9, h10, h11⟩ := hw
  rw [sp_etA h7 h8 h10 h11 h9]
/-- the rank of the told word -/
theorem ww_rank {n : Nat} {B : Nat → Nat} (h : telK n B) : ∃ kx, KxO (lwN n B).2.2.1 (lwN n B).2.2.2 (lwN n B).2.1 n (mgN 2 (lwN n B).2.2.1 (lwN n B).2.2.2 (lwN n B).2.1 0 0) (tlD n B) kx ∧ wrA (lwN n B).2.2.1 (mgN 2 (lwN n B).2.2.1 (lwN n B).2.2.2 (lwN n B).2.1 0 0) (wwW n B) (tlD n B) kx (n - 1) = caN (tlD n B) n (n - 1) := by
  obtain ⟨l1, l2, l3, l4, l5⟩ := lw_ok h
  have hT : ∀ j, j < n - 1 → (lwN n B).2.2.2 j < 8 := fun j hj => by have := l3 j hj; omega
  have hk := kx_ok (by have := h.1; omega) h.2.1 l2 hT (ww_D h) l5
  refine ⟨kxN (lwN n B).2.2.1 (lwN n B).2.2.2 (n - 1) (tlD n B), ?_, ?_⟩
  · rw [l1]
    intro i hi
    rw [kx_wr]
    exact (hk i (by omega)).2 hi
  · unfold wwW
    rw [l1]
    have : ∀ i, i ≤ n - 1 → wrA (lwN n B).2.2.1 (mgN 2 (lwN n B).2.2.1 (lwN n B).2.2.2 (n - 1) 0 0) (wyW (lwN n B).2.2.1 (lwN n B).2.2.2 (n - 1) (tlD n B 0) (mgN 2 (lwN n B).2.2.1 (lwN n B).2.2.2 (n - 1) 0 0)) (tlD n B) (kxN (lwN n B).2.2.1 (lwN n B).2.2.2 (n - 1) (tlD n B)) i = caN (tlD n B) n i := by
      intro i
      induction i with
      | zero => intro _; rfl
      | succ i ih =>
        intro hi
        obtain ⟨hw, hq⟩ := hk i (by omega)
        obtain ⟨k1, k2, k3, k4, -⟩ := hq (by omega)
        rw [wrA, caN, ih (by omega), kx_wr, (hw.part l2 hT k1 k2 k4).1, k3]
    exact this (n - 1) (Nat.le_refl _)
/-- the word of a rank -/
theorem ww_word {n : Nat} {B LT : Nat → Nat} (h : telK n B) {z : Int} (z0 : 0 ≤ z) (z1 : z < wwW n B 0) : ∀ i, i < n → MatP (slS (tlD n B) n z i).1 (slS (tlD n B) n z i).2.1 ∧ (ltN (leS B n) LT 26).2 (slS (tlD n B) n z i).2.2.1 = lkW n B (wwW n B) z i := by
  obtain ⟨l1, l2, l3, l4, l5⟩ := lw_ok h
  obtain ⟨t0, t1, -, -⟩ := tl_facts h
  have hT : ∀ j, j < n - 1 → (lwN n B).2.2.2 j < 8 := fun j hj => by have := l3 j hj; omega
  unfold wwW at z1
  rw [l1] at z1
  have hsl := sl_lr h.1 h.2.1 l2 hT (ww_D h) l5 z0 z1
  have hlt : ∀ p, p < plN n B → (ltN (leS B n) LT 26).2 p = ltL n B p := fun p hp => by
    have := lt_ind (s := leS B n) (L := LT) (L' := fun _ => 0) 26
    exact this.2 p (by rw [this.1, t0]; exact hp)
  intro i hi
  obtain ⟨hw, -, -, -, hc⟩ := hsl i (by omega)
  refine ⟨hw.2.2.2.2.2.2.1, ?_⟩
  unfold lkW
  by_cases c : i = 0
  · rw [if_pos c, c, show (slS (tlD n B) n z 0).2.2.1 = tlD n B 0 from rfl, hlt _ (t1 0 (by omega)).1, (t1 0 (by omega)).2]
  · rw [if_neg c]
    obtain ⟨c1, c2⟩ := hc (by omega)
    rw [c2, hlt _ (l3 _ c1).2]
    unfold wkM wwW
    rw [if_neg (by omega), l1, Nat.sub_zero, Nat.sub_zero]
