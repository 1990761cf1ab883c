/-! words by two bases -/
def wvR (b : Nat) : List Nat → Nat
  | [] => 0
  | d :: r => wvR b r * b + d
def DgO (ds : List Nat) : Prop := ∀ d, d ∈ ds → 1 ≤ d ∧ d ≤ 26
theorem wvR_inj {b : Nat} (hb : 27 ≤ b) : ∀ {x y : List Nat}, DgO x → DgO y → wvR b x = wvR b y → x = y
  | [], [], _, _, _ => rfl
  | [], d :: r, _, hy, h => by
    have := hy d (by simp)
    simp only [wvR] at h
    omega
  | d :: r, [], hx, _, h => by
    have := hx d (by simp)
    simp only [wvR] at h
    omega
  | d :: r, d' :: r', hx, hy, h => by
    have h1 := hx d (by simp)
    have h2 := hy d' (by simp)
    simp only [wvR] at h
    have e1 : d = d' := by
      have := congrArg (· % b) h
      simp only [Nat.mul_add_mod_self_right] at this
      rw [Nat.mod_eq_of_lt (by omega), Nat.mod_eq_of_lt (by omega)] at this
      exact this
    have e2 : wvR b r = wvR b r' := by
      rw [e1] at h
      exact Nat.eq_of_mul_eq_mul_right (show 0 < b by omega) (by omega)
    rw [e1, wvR_inj hb (fun z hz => hx z (by simp [hz])) (fun z hz => hy z (by simp [hz])) e2]
/-- the same word, by 27 and by 32 -/
def WRel (x y : Int) : Prop := ∃ ds : List Nat, ds ≠ [] ∧ ds.length ≤ 7 ∧ DgO ds ∧ x = wvR 27 ds ∧ y = wvR 32 ds
theorem WRel.iff {x y x' y' : Int} (h : WRel x y) (h' : WRel x' y') : x = x' ↔ y = y' := by
  obtain ⟨ds, -, -, d1, d2, d3⟩ := h
  obtain ⟨es, -, -, e1, e2, e3⟩ := h'
  rw [d2, d3, e2, e3]
  constructor
  · intro z
    rw [wvR_inj (by decide) d1 e1 (by omega : wvR 27 ds = wvR 27 es)]
  · intro z
    rw [wvR_inj (by decide) d1 e1 (by omega : wvR 32 ds = wvR 32 es)]
theorem WRel.point : WRel 8805260 17278420 := ⟨[20, 14, 9, 15, 16], by simp, by simp, by unfold DgO; simp, by decide, by decide⟩
theorem WRel.arc : WRel 1218 1603 := ⟨[3, 18, 1], by simp, by simp, by unfold DgO; simp, by decide, by decide⟩
theorem wvR_pos {b : Nat} (hb : 0 < b) : ∀ {ds : List Nat}, ds ≠ [] → DgO ds → 0 < wvR b ds
  | [], h, _ => absurd rfl h
  | d :: r, _, h => by
    have := h d (by simp)
    simp only [wvR]
    omega
theorem wvR_lt {b : Nat} (hb : 27 ≤ b) : ∀ {ds : List Nat}, DgO ds → wvR b ds < b ^ ds.length
  | [], _ => by simp [wvR]
  | d :: r, h => by
    have h1 := h d (by simp)
    have ih := wvR_lt hb (ds := r) (fun z hz => h z (by simp [hz]))
    simp only [wvR, List.length_cons, Nat.pow_succ]
    have : wvR b r * b + b ≤ b ^ r.length * b := by
      rw [← Nat.succ_mul]
      exact Nat.mul_le_mul_right b ih
    omega
theorem WRel.bnd {x y : Int} (h : WRel x y) : 0 < x ∧ x < 10460353203 ∧ 0 < y := by
  obtain ⟨ds, h1, h2, d1, d2, d3⟩ := h
  have p1 := wvR_pos (b := 27) (by decide) h1 d1
  have p2 := wvR_pos (b := 32) (by decide) h1 d1
  have p3 := wvR_lt (b := 27) (by decide) d1
  have p4 : 27 ^ ds.length ≤ 27 ^ 7 := Nat.pow_le_pow_right (by decide) h2
  rw [d2, d3]
  omega
def dgL (B : Nat → Nat) (i : Nat) : Nat → List Nat
  | 0 => []
  | t + 1 => (B (i + t) - 96) :: dgL B i t
theorem dgL_w {b : Nat} {B : Nat → Nat} {i : Nat} : ∀ t, wvR b (dgL B i t) = wdE b B i t
  | 0 => rfl
  | t + 1 => by simp only [dgL, wvR, wdE, dgL_w t]
theorem dgL_len {B : Nat → Nat} {i : Nat} : ∀ t, (dgL B i t).length = t
  | 0 => rfl
  | t + 1 => by simp only [dgL, List.length_cons, dgL_len t]
theorem dgL_ok {B : Nat → Nat} {i : Nat} : ∀ {t : Nat}, (∀ j, j < t → 97 ≤ B (i + j) ∧ B (i + j) ≤ 122) → DgO (dgL B i t)
  | 0, _ => by unfold DgO; simp [dgL]
  | t + 1, h => by
    intro d hd
    simp only [dgL, List.mem_cons] at hd
    rcases hd with hd | hd
    · have := h t (by omega)
      omega
    · exact dgL_ok (t := t) (fun j q => h j (by omega)) d hd
theorem wd_rel {B : Nat → Nat} {i t : Nat} (h : ∀ j, j < t → 97 ≤ B (i + j) ∧ B (i + j) ≤ 122) (h1 : 1 ≤ t) (h7 : t ≤ 7) : WRel (wdE 27 B i t) (wdE 32 B i t) := by
  refine ⟨dgL B i t, fun z => ?_, by rw [dgL_len]; exact h7, dgL_ok h, by rw [dgL_w], by rw [dgL_w]⟩
  have := dgL_len (B := B) (i := i) t
  rw [z] at this
  simp at this
  omega
theorem fd_rel {nm nm' : Nat → Int} {x y : Int} (hx : WRel x y) : ∀ (r i : Nat), (∀ j, i ≤ j → j < i + r → WRel (nm j) (nm' j)) → fdN nm x r i = fdN nm' y r i
  | 0, i, _ => rfl
  | r + 1, i, h => by
    have ih := fd_rel (nm := nm) (nm' := nm') hx r (i + 1) (fun j a b => h j (by omega) (by omega))
    have hi := (h i (by omega) (by omega)).iff hx
    simp only [fdN]
    by_cases c : nm i = x
    · rw [if_pos c, if_pos (hi.mp c)]
    · rw [if_neg c, if_neg (fun z => c (hi.mpr z)), ih]
