/-! NEAREST WAYS: arcs relaxed, round by round -/
abbrev Ed := Nat × Nat × Int × Int
def rlE (I : Int) (s : LX) (e : Ed) : LX := if s.1 e.1 < I ∧ s.1 e.1 + e.2.2.1 < s.1 e.2.1 then (upI s.1 e.2.1 (s.1 e.1 + e.2.2.1), upI s.2 e.2.1 e.2.2.2) else s
def bfK (I : Int) (E : List Ed) (s : LX) : LX := E.foldl (rlE I) s
def bfR (I : Int) (E : List Ed) : Nat → LX → LX
  | 0, s => s
  | r + 1, s => bfK I E (bfR I E r s)
def EdO (P : Nat) (E : List Ed) (π : Nat → Int) : Prop := ∀ e, e ∈ E → e.1 < P ∧ e.2.1 < P ∧ 0 ≤ e.2.2.2 ∧ π e.2.1 ≤ π e.1 + e.2.2.1
/-- one arc: it changes nothing, or one point's entry -/
theorem rl_cases (I : Int) (s : LX) (e : Ed) : (rlE I s e = s ∧ ¬ (s.1 e.1 < I ∧ s.1 e.1 + e.2.2.1 < s.1 e.2.1)) ∨ ((s.1 e.1 < I ∧ s.1 e.1 + e.2.2.1 < s.1 e.2.1) ∧ (∀ p, (rlE I s e).1 p = if p = e.2.1 then s.1 e.1 + e.2.2.1 else s.1 p) ∧ ∀ p, (rlE I s e).2 p = if p = e.2.1 then e.2.2.2 else s.2 p) := by
  unfold rlE
  by_cases c : s.1 e.1 < I ∧ s.1 e.1 + e.2.2.1 < s.1 e.2.1
  · right
    rw [if_pos c]
    exact ⟨c, fun p => rfl, fun p => rfl⟩
  · left
    rw [if_neg c]
    exact ⟨rfl, c⟩
/-- what holds all along -/
def BfJ (P : Nat) (I : Int) (E : List Ed) (π D0 : Nat → Int) (s : LX) (τ : Nat → Nat) (N : Nat) : Prop := (∀ p, p < P → s.1 p ≤ D0 p) ∧ (∀ p, p < P → s.2 p = -1 → s.1 p = D0 p) ∧ (∀ p, p < P → s.2 p ≠ -1 → ∃ e, e ∈ E ∧ e.2.1 = p ∧ e.2.2.2 = s.2 p ∧ s.1 e.1 < I ∧ s.1 e.1 + e.2.2.1 ≤ s.1 p ∧ s.1 p < I ∧ (s.1 e.1 - π e.1 < s.1 p - π p ∨ (s.1 e.1 - π e.1 ≤ s.1 p - π p ∧ τ e.1 < τ p))) ∧ ∀ p, τ p < N
theorem BfJ.step {P : Nat} {I : Int} {E : List Ed} {π D0 : Nat → Int} {s : LX} {τ : Nat → Nat} {N : Nat} (hE : EdO P E π) (hD : ∀ p, p < P → D0 p ≤ I) (h : BfJ P I E π D0 s τ N) {e : Ed} (he : e ∈ E) : ∃ τ' N', BfJ P I E π D0 (rlE I s e) τ' N' := by
  obtain ⟨j1, j2, j3, j4⟩ := id h
  obtain ⟨e1, e2, e3, e4⟩ := hE e he
  rcases rl_cases I s e with ⟨c, -⟩ | ⟨c, d1, d2⟩
  · rw [c]; exact ⟨τ, N, h⟩
  · have huv : e.1 ≠ e.2.1 := fun z => by rw [z] at c e4; omega
    refine ⟨fun p => if p = e.2.1 then N else τ p, N + 1, fun p hp => ?_, fun p hp hv => ?_, fun p hp hv => ?_, fun p => ?_⟩
    · rw [d1]
      split
      · next z => have := j1 p hp; rw [z] at this ⊢; omega
      · exact j1 p hp
    · rw [d2] at hv
      rw [d1]
      by_cases z : p = e.2.1
      · rw [if_pos z] at hv; omega
      · rw [if_neg z] at hv ⊢
        exact j2 p hp hv
    · rw [d2] at hv
      by_cases z : p = e.2.1
      · refine ⟨e, he, z.symm, by rw [d2, if_pos z], ?_⟩
        have hj1 := j1 p hp
        have hI := hD p hp
        rw [d1, d1, if_neg huv, if_pos z]
        simp only [if_neg huv, if_pos z]
        have := j4 e.1
        rw [z] at hj1 hI ⊢
        refine ⟨c.1, Int.le_refl _, by omega, ?_⟩
        by_cases y : s.1 e.1 - π e.1 < s.1 e.1 + e.2.2.1 - π e.2.1
        · exact Or.inl y
        · exact Or.inr ⟨by omega, this⟩
      · rw [if_neg z] at hv
        obtain ⟨e', x1, x2, x3, x4, x5, x6, x7⟩ := j3 p hp hv
        refine ⟨e', x1, x2, by rw [d2, if_neg z]; exact x3, ?_⟩
        rw [d1, d1, if_neg z]
        simp only [if_neg z]
        by_cases y : e'.1 = e.2.1
        · rw [if_pos y]
          simp only [if_pos y]
          rw [y] at x4 x5 x7 ⊢
          refine ⟨by omega, by omega, x6, Or.inl ?_⟩
          rcases x7 with x7 | x7 <;> omega
        · rw [if_neg y]
          simp only [if_neg y]
          exact ⟨x4, x5, x6, x7⟩
    · have := j4 p
      simp only
      split <;> omega
theorem BfJ.fold {P : Nat} {I : Int} {E : List Ed} {π D0 : Nat → Int} (hE : EdO P E π) (hD : ∀ p, p < P → D0 p ≤ I) : ∀ (L : List Ed) {s : LX} {τ : Nat → Nat} {N : Nat}, (∀ e, e ∈ L → e ∈ E) → BfJ P I E π D0 s τ N → ∃ τ' N', BfJ P I E π D0 (bfK I L s) τ' N'
  | [], s, τ, N, _, h => ⟨τ, N, h⟩
  | e :: L, s, τ, N, hL, h => by
    obtain ⟨τ', N', h'⟩ := h.step hE hD (hL e (by simp))
    exact BfJ.fold hE hD L (fun x hx => hL x (by simp [hx])) h'
theorem BfJ.rounds {P : Nat} {I : Int} {E : List Ed} {π D0 : Nat → Int} (hE : EdO P E π) (hD : ∀ p, p < P → D0 p ≤ I) : ∀ (r : Nat), ∃ τ N, BfJ P I E π D0 (bfR I E r (D0, fun _ => -1)) τ N
  | 0 => ⟨fun _ => 0, 1, fun p _ => Int.le_refl _, fun p _ _ => rfl, fun p _ h => absurd rfl h, fun p => by show 0 < 1; omega⟩
  | r + 1 => by
    obtain ⟨τ, N, h⟩ := BfJ.rounds hE hD r
    exact BfJ.fold hE hD E (fun e he => he) h
/-! points that are settled -/
def BfS (P : Nat) (I : Int) (E : List Ed) (π : Nat → Int) (s : LX) (S : Nat → Bool) : Prop := (∀ u, S u = true → u < P ∧ s.1 u < I) ∧ (∀ e, e ∈ E → S e.1 = true → s.1 e.2.1 ≤ s.1 e.1 + e.2.2.1) ∧ ∀ u w, S u = true → w < P → S w = false → s.1 w < I → s.1 u - π u ≤ s.1 w - π w
/-- the next one -/
def BfM (P : Nat) (I : Int) (π : Nat → Int) (s : LX) (S : Nat → Bool) (m : Nat) : Prop := m < P ∧ S m = false ∧ s.1 m < I ∧ ∀ w, w < P → S w = false → s.1 w < I → s.1 m - π m ≤ s.1 w - π w
theorem BfS.step {P : Nat} {I : Int} {E : List Ed} {π : Nat → Int} {s : LX} {S : Nat → Bool} (hE : EdO P E π) (h : BfS P I E π s S) {e : Ed} (he : e ∈ E) : BfS P I E π (rlE I s e) S ∧ (rlE I s e = s ∨ (S e.1 = false ∧ S e.2.1 = false ∧ s.1 e.1 < I ∧ (rlE I s e).1 e.2.1 = s.1 e.1 + e.2.2.1 ∧ (rlE I s e).1 e.2.1 < s.1 e.2.1 ∧ ∀ p, p ≠ e.2.1 → (rlE I s e).1 p = s.1 p)) := by
  obtain ⟨s1, s2, s3⟩ := id h
  obtain ⟨e1, e2, e3, e4⟩ := hE e he
  rcases rl_cases I s e with ⟨c, -⟩ | ⟨c, d1, d2⟩
  · rw [c]; exact ⟨h, Or.inl rfl⟩
  · have hu : S e.1 = false := by
      cases hb : S e.1 with
      | false => rfl
      | true => have := s2 e he hb; omega
    have hv : S e.2.1 = false := by
      cases hb : S e.2.1 with
      | false => rfl
      | true => have := s3 e.2.1 e.1 hb e1 hu c.1; omega
    refine ⟨⟨fun u hS => ?_, fun e' he' hS => ?_, fun u w hS hw hSw hI => ?_⟩, Or.inr ⟨hu, hv, c.1, by rw [d1, if_pos rfl], by rw [d1, if_pos rfl]; exact c.2, fun p hp => by rw [d1, if_neg hp]⟩⟩
    · have : u ≠ e.2.1 := fun z => by rw [z, hv] at hS; exact absurd hS (by decide)
      rw [d1, if_neg this]
      exact s1 u hS
    · have : e'.1 ≠ e.2.1 := fun z => by rw [z, hv] at hS; exact absurd hS (by decide)
      have h2 := s2 e' he' hS
      rw [d1, d1, if_neg this]
      split
      · next z => rw [z] at h2; omega
      · exact h2
    · have : u ≠ e.2.1 := fun z => by rw [z, hv] at hS; exact absurd hS (by decide)
      rw [d1] at hI ⊢
      rw [d1, if_neg this]
      by_cases z : w = e.2.1
      · rw [if_pos z]
        have := s3 u e.1 hS e1 hu c.1
        rw [z]
        omega
      · rw [if_neg z] at hI ⊢
        exact s3 u w hS hw hSw hI
theorem BfM.fold {P : Nat} {I : Int} {E : List Ed} {π : Nat → Int} {S : Nat → Bool} {m : Nat} (hE : EdO P E π) : ∀ (L : List Ed) {s : LX}, (∀ e, e ∈ L → e ∈ E) → BfS P I E π s S → BfM P I π s S m → BfS P I E π (bfK I L s) S ∧ BfM P I π (bfK I L s) S m ∧ (bfK I L s).1 m = s.1 m ∧ (∀ p, (bfK I L s).1 p ≤ s.1 p) ∧ ∀ e, e ∈ L → e.1 = m → (bfK I L s).1 e.2.1 ≤ s.1 m + e.2.2.1
  | [], s, _, h, hm => ⟨h, hm, rfl, fun p => Int.le_refl _, fun e he => absurd he (by simp)⟩
  | e :: L, s, hL, h, hm => by
    have he := hL e (by simp)
    obtain ⟨e1, e2, e3, e4⟩ := hE e he
    obtain ⟨h', hc⟩ := h.step hE he
    obtain ⟨m1, m2, m3, m4⟩ := id hm
    have key : BfM P I π (rlE I s e) S m ∧ (rlE I s e).1 m = s.1 m ∧ (∀ p, (rlE I s e).1 p ≤ s.1 p) ∧ (e.1 = m → (rlE I s e).1 e.2.1 ≤ s.1 m + e.2.2.1) := by
      rcases hc with hc | ⟨c1, c2, c3, c4, c5, c6⟩
      · rw [hc]
        refine ⟨hm, rfl, fun p => Int.le_refl _, fun z => ?_⟩
        rcases rl_cases I s e with ⟨-, c⟩ | ⟨c, d1, d2⟩
        · rw [z] at c
          apply Classical.byContradiction
          intro y
          exact c ⟨m3, by omega⟩
        · rw [hc] at d1
          have := d1 e.2.1
          rw [if_pos rfl] at this
          omega
      · have hu := m4 e.1 e1 c1 c3
        have hmv : m ≠ e.2.1 := fun z => by
          rw [z] at hu
          omega
        refine ⟨⟨m1, m2, by rw [c6 m hmv]; exact m3, fun w hw hSw hI => ?_⟩, c6 m hmv, fun p => ?_, fun z => by rw [c4, z]; exact Int.le_refl _⟩
        · rw [c6 m hmv]
          by_cases z : w = e.2.1
          · rw [z, c4]; omega
          · rw [c6 w z] at hI ⊢
            exact m4 w hw hSw hI
        · by_cases z : p = e.2.1
          · rw [z]; omega
          · rw [c6 p z]; exact Int.le_refl _
    obtain ⟨k1, k2, k3, k4⟩ := key
    obtain ⟨i1, i2, i3, i4, i5⟩ := BfM.fold hE L (fun x hx => hL x (by simp [hx])) h' k1
    refine ⟨i1, i2, i3.trans k2, fun p => Int.le_trans (i4 p) (k3 p), fun x hx hxm => ?_⟩
    rcases List.mem_cons.mp hx with z | z
    · rw [z] at hxm ⊢
      exact Int.le_trans (i4 _) (k4 hxm)
    · have := i5 x z hxm
      rw [k2] at this
      exact this
theorem min_ex {X : Nat → Prop} {f : Nat → Int} : ∀ {n : Nat}, (∃ p, p < n ∧ X p) → ∃ m, m < n ∧ X m ∧ ∀ w, w < n → X w → f m ≤ f w
  | 0, ⟨p, h, _⟩ => by omega
  | n + 1, ⟨p, h, hx⟩ => by
    by_cases c : ∃ q, q < n ∧ X q
    · obtain ⟨m, m1, m2, m3⟩ := min_ex (f := f) c
      by_cases d : X n ∧ f n < f m
      · refine ⟨n, by omega, d.1, fun w hw hxw => ?_⟩
        by_cases z : w = n
        · rw [z]; exact Int.le_refl _
        · have := m3 w (by omega) hxw; omega
      · refine ⟨m, by omega, m2, fun w hw hxw => ?_⟩
        by_cases z : w = n
        · rw [z] at hxw ⊢
          apply Classical.byContradiction
          intro y
          exact d ⟨hxw, by omega⟩
        · exact m3 w (by omega) hxw
    · have hpn : p = n := by
        apply Classical.byContradiction
        intro z
        exact c ⟨p, by omega, hx⟩
      refine ⟨n, by omega, by rw [← hpn]; exact hx, fun w hw hxw => ?_⟩
      by_cases z : w = n
      · rw [z]; exact Int.le_refl _
      · exact absurd ⟨w, by omega, hxw⟩ c
/-- nothing more to reach: nothing changes -/
theorem bf_done {P : Nat} {I : Int} {E : List Ed} {π : Nat → Int} {S : Nat → Bool} (hE : EdO P E π) : ∀ (L : List Ed) {s : LX}, (∀ e, e ∈ L → e ∈ E) → BfS P I E π s S → (∀ w, w < P → S w = false → ¬ s.1 w < I) → bfK I L s = s
  | [], s, _, _, _ => rfl
  | e :: L, s, hL, h, hn => by
    have he := hL e (by simp)
    obtain ⟨h', hc⟩ := h.step hE he
    have : rlE I s e = s := by
      rcases hc with hc | ⟨c1, c2, c3, -⟩
      · exact hc
      · exact absurd c3 (hn e.1 (hE e he).1 c1)
    show bfK I L (rlE I s e) = s
    rw [this]
    exact bf_done hE L (fun x hx => hL x (by simp [hx])) h hn
theorem cnt_one {S : Nat → Bool} {m : Nat} (hS : S m = false) (hm : m < 8) : (List.range 8).countP (fun x => S x || decide (x = m)) = (List.range 8).countP S + 1 := by
  rw [cnt_add (X := fun x => S x || decide (x = m)) (Y := S) (Z := fun x => decide (x = m)) (List.range 8) (fun x _ => by
    refine ⟨by simp only [Bool.or_eq_true, decide_eq_true_eq], fun z => ?_⟩
    rw [of_decide_eq_true z.2, hS] at z
    exact absurd z.1 (by decide))]
  congr 1
  have : (List.range 8).countP (fun x => decide (x = m)) = (List.range 8).count m := by
    rw [List.count]
    exact List.countP_congr (fun x _ => by simp)
  rw [this]
  have h1 := List.nodup_iff_count.mp (List.nodup_range (n := 8)) m
  have h2 := List.count_pos_iff.mpr (List.mem_range.mpr hm)
  omega
/-- after eight rounds all is settled -/
theorem bf_settle {P : Nat} {I : Int} {E : List Ed} {π : Nat → Int} {s0 : LX} (hP : P ≤ 8) (hE : EdO P E π) : ∀ r, ∃ S, BfS P I E π (bfR I E r s0) S ∧ (r ≤ (List.range 8).countP S ∨ ∀ w, w < P → S w = false → ¬ (bfR I E r s0).1 w < I)
  | 0 => ⟨fun _ => false, ⟨fun u h => by simp at h, fun e _ h => by simp at h, fun u w h => by simp at h⟩, Or.inl (by simp)⟩
  | r + 1 => by
    obtain ⟨S, h, hc⟩ := bf_settle (I := I) (s0 := s0) hP hE r
    by_cases hn : ∀ w, w < P → S w = false → ¬ (bfR I E r s0).1 w < I
    · refine ⟨S, ?_, Or.inr ?_⟩
      · rw [bfR, bf_done hE E (fun e he => he) h hn]; exact h
      · rw [bfR, bf_done hE E (fun e he => he) h hn]; exact hn
    · have hex : ∃ p, p < P ∧ (S p = false ∧ (bfR I E r s0).1 p < I) := by
        apply Classical.byContradiction
        intro z
        exact hn (fun w hw hS hI => z ⟨w, hw, hS, hI⟩)
      obtain ⟨m, m1, m2, m3⟩ := min_ex (f := fun p => (bfR I E r s0).1 p - π p) hex
      have hM : BfM P I π (bfR I E r s0) S m := ⟨m1, m2.1, m2.2, fun w hw hS hI => m3 w hw ⟨hS, hI⟩⟩
      obtain ⟨i1, i2, i3, i4, i5⟩ := BfM.fold hE E (fun e he => he) h hM
      refine ⟨fun x => S x || decide (x = m), ?_, Or.inl ?_⟩
      · obtain ⟨t1, t2, t3⟩ := i1
        obtain ⟨n1, n2, n3, n4⟩ := i2
        refine ⟨fun u hu => ?_, fun e he hu => ?_, fun u w hu hw hSw hI => ?_⟩
        · rw [Bool.or_eq_true, decide_eq_true_eq] at hu
          rcases hu with hu | hu
          · exact t1 u hu
          · rw [hu]; exact ⟨n1, n3⟩
        · rw [Bool.or_eq_true, decide_eq_true_eq] at hu
          rcases hu with hu | hu
          · exact t2 e he hu
          · have := i5 e he hu
            rw [hu]
            show (bfK I E (bfR I E r s0)).1 e.2.1 ≤ (bfK I E (bfR I E r s0)).1 m + e.2.2.1
            rw [i3]
            exact this
        · rw [Bool.or_eq_true, decide_eq_true_eq] at hu
          rw [Bool.or_eq_false_iff] at hSw
          rcases hu with hu | hu
          · exact t3 u w hu hw hSw.1 hI
          · rw [hu]; exact n4 w hw hSw.1 hI
      · rw [cnt_one m2.1 (by omega)]
        rcases hc with hc | hc
        · omega
        · exact absurd hc hn
theorem bf_fix {P : Nat} {I : Int} {E : List Ed} {π : Nat → Int} {s0 : LX} (hP : P ≤ 8) (hE : EdO P E π) {r : Nat} (hr : 8 ≤ r) : ∀ e, e ∈ E → (bfR I E r s0).1 e.1 < I → (bfR I E r s0).1 e.2.1 ≤ (bfR I E r s0).1 e.1 + e.2.2.1 := by
  obtain ⟨S, h, hc⟩ := bf_settle (I := I) (s0 := s0) hP hE r
  intro e he hI
  have hu : S e.1 = true := by
    rcases hc with hc | hc
    · have hle := List.countP_le_length (p := S) (l := List.range 8)
      rw [List.length_range] at hle
      exact List.countP_eq_length.mp (show (List.range 8).countP S = (List.range 8).length by rw [List.length_range]; omega) e.1 (List.mem_range.mpr (by have := (hE e he).1; omega))
    · cases hb : S e.1 with
      | true => rfl
      | false => exact absurd hI (hc e.1 (hE e he).1 hb)
  exact h.2.1 e he hu
/-- bounds -/
theorem bf_bnd {P : Nat} {I c : Int} : ∀ (L : List Ed) {s : LX} {m : Int}, 0 ≤ c → (∀ e, e ∈ L → e.1 < P ∧ -c ≤ e.2.2.1 ∧ e.2.2.1 ≤ c) → (∀ p, p < P → (s.1 p < I → s.1 p ≤ m) ∧ -m ≤ s.1 p) → ∀ p, p < P → ((bfK I L s).1 p < I → (bfK I L s).1 p ≤ m + L.length * c) ∧ -(m + L.length * c) ≤ (bfK I L s).1 p
  | [], s, m, _, _, h, p, hp => by
    have := h p hp
    simp only [bfK, List.foldl_nil, List.length_nil]
    omega
  | e :: L, s, m, hc, hL, h, p, hp => by
    obtain ⟨x1, x2, x3⟩ := hL e (by simp)
    have ih := bf_bnd (I := I) L (s := rlE I s e) (m := m + c) hc (fun x hx => hL x (by simp [hx])) (fun q hq => by
      have h1 := h q hq
      have h2 := h e.1 x1
      rcases rl_cases I s e with ⟨z, -⟩ | ⟨z, d1, d2⟩
      · rw [z]; omega
      · rw [d1]
        split
        · omega
        · omega) p hp
    have e1 : m + c + (L.length : Int) * c = m + ((e :: L).length : Int) * c := by
      rw [List.length_cons]
      grind
    rw [e1] at ih
    exact ih
theorem bf_bnds {P : Nat} {I c : Int} {E : List Ed} {s0 : LX} (hc : 0 ≤ c) (hE : ∀ e, e ∈ E → e.1 < P ∧ -c ≤ e.2.2.1 ∧ e.2.2.1 ≤ c) (h0 : ∀ p, p < P → (s0.1 p < I → s0.1 p ≤ 0) ∧ 0 ≤ s0.1 p) : ∀ r, ∀ p, p < P → ((bfR I E r s0).1 p < I → (bfR I E r s0).1 p ≤ r * (E.length * c)) ∧ -(r * (E.length * c)) ≤ (bfR I E r s0).1 p
  | 0, p, hp => by
    have := h0 p hp
    rw [bfR]
    simp only [Int.ofNat_zero, Int.zero_mul]
    omega
  | r + 1, p, hp => by
    have := bf_bnd (I := I) E (s := bfR I E r s0) (m := r * (E.length * c)) hc hE (fun q hq => bf_bnds hc hE h0 r q hq) p hp
    have e1 : (r : Int) * (E.length * c) + E.length * c = ((r + 1 : Nat) : Int) * (E.length * c) := by
      rw [Int.natCast_add]
      grind
    rw [e1] at this
    exact this
/-- what stands when all is settled -/
theorem bf_out {P : Nat} {I c : Int} {E : List Ed} {π D0 : Nat → Int} {r : Nat} (hP : P ≤ 8) (hE : EdO P E π) (hc : 0 ≤ c) (hEc : ∀ e, e ∈ E → -c ≤ e.2.2.1 ∧ e.2.2.1 ≤ c) (hr : 8 ≤ r) (hI : r * (E.length * c) + c < I) (hD0 : ∀ p, D0 p = 0 ∨ D0 p = I) (hI0 : 0 < I) :
    (∀ e, e ∈ E → (bfR I E r (D0, fun _ => -1)).1 e.1 < I → (bfR I E r (D0, fun _ => -1)).1 e.2.1 ≤ (bfR I E r (D0, fun _ => -1)).1 e.1 + e.2.2.1 ∧ (bfR I E r (D0, fun _ => -1)).1 e.2.1 < I) ∧ (∀ p, p < P → (bfR I E r (D0, fun _ => -1)).1 p ≤ D0 p ∧ -(r * (E.length * c)) ≤ (bfR I E r (D0, fun _ => -1)).1 p) ∧ (∀ p, p < P → (bfR I E r (D0, fun _ => -1)).2 p = -1 → (bfR I E r (D0, fun _ => -1)).1 p = D0 p) ∧ ∃ ρ : Nat → Nat, (∀ p, p < P → ρ p < 8) ∧ ∀ p, p < P → (bfR I E r (D0, fun _ => -1)).2 p ≠ -1 → ∃ e, e ∈ E ∧ e.2.1 = p ∧ e.2.2.2 = (bfR I E r (D0, fun _ => -1)).2 p ∧ (bfR I E r (D0, fun _ => -1)).1 e.1 < I ∧ (bfR I E r (D0, fun _ => -1)).1 p < I ∧ (bfR I E r (D0, fun _ => -1)).1 p = (bfR I E r (D0, fun _ => -1)).1 e.1 + e.2.2.1 ∧ ρ e.1 < ρ p := by
  have hb := bf_bnds (P := P) (I := I) (c := c) (E := E) (s0 := (D0, fun _ => -1)) hc (fun e he => ⟨(hE e he).1, hEc e he⟩) (fun p _ => by have := hD0 p; simp only; omega) r
  have hf := bf_fix (I := I) (s0 := (D0, fun _ => -1)) hP hE hr
  obtain ⟨τ, N, j1, j2, j3, j4⟩ := BfJ.rounds (I := I) (D0 := D0) hE (fun p _ => by have := hD0 p; omega) r
  generalize bfR I E r (D0, fun _ => -1) = s at *
  refine ⟨fun e he hu => ⟨hf e he hu, ?_⟩, fun p hp => ⟨j1 p hp, (hb p hp).2⟩, j2, fun p => (List.range 8).countP (fun x => decide (s.1 x - π x < s.1 p - π p ∨ (s.1 x - π x ≤ s.1 p - π p ∧ τ x < τ p))), fun p hp => ?_, fun p hp hv => ?_⟩
  · have h1 := hf e he hu
    have h2 := (hb e.1 (hE e he).1).1 hu
    have h3 := (hEc e he).2
    omega
  · have hle := List.countP_le_length (p := fun x => decide (s.1 x - π x < s.1 p - π p ∨ (s.1 x - π x ≤ s.1 p - π p ∧ τ x < τ p))) (l := List.range 8)
    rw [List.length_range] at hle
    rcases Nat.lt_or_ge ((List.range 8).countP (fun x => decide (s.1 x - π x < s.1 p - π p ∨ (s.1 x - π x ≤ s.1 p - π p ∧ τ x < τ p)))) 8 with z | z
    · exact z
    · have := List.countP_eq_length.mp (show (List.range 8).countP (fun x => decide (s.1 x - π x < s.1 p - π p ∨ (s.1 x - π x ≤ s.1 p - π p ∧ τ x < τ p))) = (List.range 8).length by rw [List.length_range]; omega) p (List.mem_range.mpr (by omega))
      rw [decide_eq_true_eq] at this
      omega
  · obtain ⟨e, x1, x2, x3, x4, x5, x6, x7⟩ := j3 p hp hv
    have h1 := hf e x1 x4
    rw [x2] at h1
    refine ⟨e, x1, x2, x3, x4, x6, by omega, ?_⟩
    simp only
    rw [cnt_add (X := fun x => decide (s.1 x - π x < s.1 p - π p ∨ (s.1 x - π x ≤ s.1 p - π p ∧ τ x < τ p))) (Y := fun x => decide (s.1 x - π x < s.1 e.1 - π e.1 ∨ (s.1 x - π x ≤ s.1 e.1 - π e.1 ∧ τ x < τ e.1))) (Z := fun x => decide ((s.1 x - π x < s.1 p - π p ∨ (s.1 x - π x ≤ s.1 p - π p ∧ τ x < τ p)) ∧ ¬ (s.1 x - π x < s.1 e.1 - π e.1 ∨ (s.1 x - π x ≤ s.1 e.1 - π e.1 ∧ τ x < τ e.1)))) (List.range 8) (fun y _ => by
      simp only [decide_eq_true_eq]
      omega)]
    have : 0 < (List.range 8).countP (fun x => decide ((s.1 x - π x < s.1 p - π p ∨ (s.1 x - π x ≤ s.1 p - π p ∧ τ x < τ p)) ∧ ¬ (s.1 x - π x < s.1 e.1 - π e.1 ∨ (s.1 x - π x ≤ s.1 e.1 - π e.1 ∧ τ x < τ e.1)))) := List.countP_pos_iff.mpr ⟨e.1, List.mem_range.mpr (by have := (hE e x1).1; omega), by
      rw [decide_eq_true_eq]
      omega⟩
    omega
/-! arcs with room, forth and back -/
def rsE (C X : Nat → Int) (F T : Nat → Nat) (room : Int) : Nat → List Ed
  | 0 => []
  | k + 1 => rsE C X F T room k ++ ((if X k < room then [(F k, T k, C k, (k : Int))] else []) ++ (if 0 < X k then [(T k, F k, -C k, 16 + (k : Int))] else []))
theorem rs_mem {C X : Nat → Int} {F T : Nat → Nat} {room : Int} {e : Ed} : ∀ A, e ∈ rsE C X F T room A ↔ ∃ k, k < A ∧ ((X k < room ∧ e = (F k, T k, C k, (k : Int))) ∨ (0 < X k ∧ e = (T k, F k, -C k, 16 + (k : Int))))
  | 0 => by simp [rsE]
  | A + 1 => by
    rw [rsE, List.mem_append, rs_mem A, List.mem_append]
    constructor
    · rintro (⟨k, a, b⟩ | h | h)
      · exact ⟨k, by omega, b⟩
      · split at h
        · next c => exact ⟨A, by omega, Or.inl ⟨c, by simpa using h⟩⟩
        · simp at h
      · split at h
        · next c => exact ⟨A, by omega, Or.inr ⟨c, by simpa using h⟩⟩
        · simp at h
    · rintro ⟨k, a, b⟩
      by_cases z : k = A
      · right
        rw [z] at b
        rcases b with b | b
        · left; rw [if_pos b.1]; simpa using b.2
        · right; rw [if_pos b.1]; simpa using b.2
      · exact Or.inl ⟨k, by omega, b⟩
theorem rs_len {C X : Nat → Int} {F T : Nat → Nat} {room : Int} : ∀ A, (rsE C X F T room A).length ≤ 2 * A
  | 0 => by simp [rsE]
  | A + 1 => by
    have := rs_len (C := C) (X := X) (F := F) (T := T) (room := room) A
    rw [rsE, List.length_append, List.length_append]
    split <;> split <;> simp <;> omega
theorem bf_app {I : Int} {E E' : List Ed} {s : LX} : bfK I (E ++ E') s = bfK I E' (bfK I E s) := by
  unfold bfK
  rw [List.foldl_append]
theorem rxK_bf {C X : Nat → Int} {F T : Nat → Nat} {room : Int} : ∀ A (s : FS), ((rxK C X F T room A s).1, (rxK C X F T room A s).2.1) = bfK 268435456 (rsE C X F T room A) (s.1, s.2.1)
  | 0, s => rfl
  | A + 1, s => by
    rw [rxK, rsE, bf_app, bf_app, ← rxK_bf A s]
    generalize rxK C X F T room A s = u
    have h1 : ((rxA C X F T room A u).1, (rxA C X F T room A u).2.1) = bfK 268435456 (if X A < room then [(F A, T A, C A, (A : Int))] else []) (u.1, u.2.1) := by
      unfold rxA
      by_cases c : X A < room
      · rw [if_pos c]
        show _ = rlE _ _ _
        unfold rlE
        simp only
        by_cases d : u.1 (F A) < 268435456 ∧ u.1 (F A) + C A < u.1 (T A)
        · rw [if_pos d, if_pos ⟨c, d⟩]
        · rw [if_neg d, if_neg (fun z => d z.2)]
      · rw [if_neg c, if_neg (fun z => c z.1)]
        rfl
    rw [← h1]
    generalize rxA C X F T room A u = w
    unfold rxB
    by_cases c : 0 < X A
    · rw [if_pos c]
      show _ = rlE _ _ _
      unfold rlE
      simp only
      by_cases d : w.1 (T A) < 268435456 ∧ w.1 (T A) - C A < w.1 (F A)
      · rw [if_pos ⟨c, d⟩, if_pos ⟨d.1, by omega⟩]
        refine Prod.ext ?_ ?_
        · show upI _ _ _ = upI _ _ _
          rw [Int.sub_eq_add_neg]
        · show upI _ _ _ = upI _ _ _
          rw [show ((A + 16 : Nat) : Int) = 16 + (A : Int) by omega]
      · rw [if_neg (fun z => d z.2), if_neg (fun z => d ⟨z.1, by omega⟩)]
    · rw [if_neg c, if_neg (fun z => c z.1)]
      rfl
theorem lxK_bf {X : Nat → Int} {F T : Nat → Nat} {room : Int} : ∀ A (s : LX), (∀ k, k < A → X k < room) → lxK X F T A s = bfK 1000 (rsE (fun _ => 1) X F T room A) s
  | 0, s, _ => rfl
  | A + 1, s, h => by
    rw [lxK, rsE, bf_app, bf_app, ← lxK_bf A s (fun k hk => h k (by omega)), if_pos (h A (by omega))]
    generalize lxK X F T A s = u
    have h1 : lxA F T A u = bfK 1000 [(F A, T A, 1, (A : Int))] u := by
      show _ = rlE _ _ _
      unfold rlE lxA
      rfl
    rw [← h1]
    generalize lxA F T A u = w
    unfold lxB
    by_cases c : 0 < X A
    · rw [if_pos c]
      show _ = rlE _ _ _
      unfold rlE
      simp only
      by_cases d : w.1 (T A) < 1000 ∧ w.1 (T A) - 1 < w.1 (F A)
      · rw [if_pos ⟨c, d⟩, if_pos ⟨d.1, by omega⟩]
        refine Prod.ext ?_ rfl
        show upI _ _ _ = upI _ _ _
        rw [Int.sub_eq_add_neg]
      · rw [if_neg (fun z => d z.2), if_neg (fun z => d ⟨z.1, by omega⟩)]
    · rw [if_neg c, if_neg (fun z => c z.1)]
      rfl
theorem lxR_bf {X : Nat → Int} {F T : Nat → Nat} {room : Int} {A : Nat} (h : ∀ k, k < A → X k < room) (s : LX) : ∀ r, lxR X F T A r s = bfR 1000 (rsE (fun _ => 1) X F T room A) r s
  | 0 => rfl
  | r + 1 => by rw [lxR, bfR, ← lxR_bf h s r, lxK_bf A _ h]
theorem rxK_flag {C X : Nat → Int} {F T : Nat → Nat} {room : Int} : ∀ A (s : FS), (rxK C X F T room A s).2.2 = false → rxK C X F T room A s = s
  | 0, s, _ => rfl
  | A + 1, s, h => by
    rw [rxK] at h ⊢
    have h1 : ∀ w : FS, (rxB C X F T A w).2.2 = false → rxB C X F T A w = w := fun w hw => by
      unfold rxB at hw ⊢
      split at hw
      · simp at hw
      · next c => rw [if_neg c]
    have h2 : ∀ w : FS, (rxA C X F T room A w).2.2 = false → rxA C X F T room A w = w := fun w hw => by
      unfold rxA at hw ⊢
      split at hw
      · simp at hw
      · next c => rw [if_neg c]
    have e1 := h1 _ h
    rw [e1] at h ⊢
    have e2 := h2 _ h
    rw [e2] at h ⊢
    exact rxK_flag A s h
theorem bf_left {I : Int} {E : List Ed} : ∀ r (s : LX), bfR I E (r + 1) s = bfR I E r (bfK I E s)
  | 0, s => rfl
  | r + 1, s => by rw [bfR, bf_left r s]; rfl
theorem bf_still {I : Int} {E : List Ed} {s : LX} (h : bfK I E s = s) : ∀ r, bfR I E r s = s
  | 0 => rfl
  | r + 1 => by rw [bfR, bf_still h r, h]
theorem rxR_bf {C X : Nat → Int} {F T : Nat → Nat} {room : Int} {A : Nat} : ∀ r (s : FS), (s.2.2 = true ∨ bfK 268435456 (rsE C X F T room A) (s.1, s.2.1) = (s.1, s.2.1)) → ((rxR C X F T room A r s).1, (rxR C X F T room A r s).2.1) = bfR 268435456 (rsE C X F T room A) r (s.1, s.2.1)
  | 0, s, _ => rfl
  | r + 1, s, h => by
    rw [rxR]
    by_cases c : s.2.2 = true
    · rw [if_pos c, bf_left]
      have hk := rxK_bf (C := C) (X := X) (F := F) (T := T) (room := room) A (s.1, s.2.1, false)
      have hfl := rxK_flag (C := C) (X := X) (F := F) (T := T) (room := room) A (s.1, s.2.1, false)
      generalize rxK C X F T room A (s.1, s.2.1, false) = u at hk hfl ⊢
      simp only at hk
      rw [← hk]
      refine rxR_bf r u ?_
      cases hb : u.2.2 with
      | true => exact Or.inl rfl
      | false =>
        right
        have := hfl hb
        rw [this] at hk ⊢
        exact hk.symm
    · rw [if_neg c]
      rcases h with h | h
      · exact absurd h c
      · exact (bf_still h (r + 1)).symm
