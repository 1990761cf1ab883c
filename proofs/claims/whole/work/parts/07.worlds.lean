/-! WORLDS BY PLACES -/
theorem cW_get {G : GW} {h : Hp} {i : Nat} (hi : i < G.1) : (cW G h)[i]? = some (G.2.1 i, cE G.2.1 G.2.2.1 (h i)) := by
  simp [cW, hi]
theorem cW_set {G : GW} {h : Hp} {i : Nat} {e : va_E} : (cW G h).set i (G.2.1 i, cE G.2.1 G.2.2.1 e) = cW G (va_up h i e) := by
  apply List.ext_getElem?
  intro j
  by_cases hj : j < G.1
  · rw [cW_get hj, List.getElem?_set]
    by_cases hij : i = j
    · subst hij
      simp [cW, va_up, hj]
    · rw [if_neg hij, cW_get hj]
      simp [va_up, Ne.symm hij]
  · have h1 : (cW G h).length = G.1 := by simp [cW]
    have h2 : (cW G (va_up h i e)).length = G.1 := by simp [cW]
    rw [List.getElem?_eq_none (by rw [List.length_set, h1]; omega), List.getElem?_eq_none (by rw [h2]; omega)]
theorem HW.lt {G : GW} {A : Nat → Prop} {h : Hp} {H : Heap} (hW : HW G A h H) {k : Nat} {e : va_E} (he : h k = e) (hne : e ≠ .inr (99, [])) : k < G.1 := by
  rcases Nat.lt_or_ge k G.1 with q | q
  · exact q
  · exact absurd (he.symm.trans (hW.2.2 k q)) hne
theorem HW.up {G : GW} {A : Nat → Prop} {h : Hp} {H H1 : Heap} (hW : HW G A h H) {k : Nat} {e : va_E} (hk : k < G.1)
    (hP : va_P G.2.2.2.1 cls ((cW G h).set k (G.2.1 k, cE G.2.1 G.2.2.1 e)) H1) (hD : va_D A ((cW G h).set k (G.2.1 k, cE G.2.1 G.2.2.1 e))) : HW G A (va_up h k e) H1 := by
  rw [cW_set] at hP hD
  refine ⟨hP, hD, fun j hj => ?_⟩
  have : j ≠ k := by omega
  simp [va_up, this, hW.2.2 j hj]
theorem HW.in {G : GW} {A : Nat → Prop} {h : Hp} {H : Heap} (hW : HW G A h H) {k : Nat} (hk : k < G.1) : A (G.2.1 k) := hW.2.1.2 k _ (cW_get hk)
theorem aw_sub {G : GW} {A : Nat → Prop} {h : Hp} {H0 H : Heap} {locs : List Loc} (hW : HW G A h H) (hS : va_S A H0 H locs) (hA : ∀ q, H0.size ≤ q → A q) : ∀ q, AW G H.size q → A q := by
  rintro q (⟨k, hk, rfl⟩ | hq)
  · exact hW.in hk
  · exact hA q (Nat.le_trans hS.1 hq)
theorem HW.self {G : GW} {A : Nat → Prop} {h : Hp} {H : Heap} (hW : HW G A h H) (sz : Nat) : HW G (AW G sz) h H := by
  refine ⟨hW.1, ⟨hW.2.1.1, fun k q hk => ?_⟩, hW.2.2⟩
  by_cases hk2 : k < G.1
  · rw [cW_get hk2] at hk
    cases hk
    exact Or.inl ⟨k, hk2, rfl⟩
  · rw [List.getElem?_eq_none (by simp [cW]; omega)] at hk
    cases hk
theorem HW.wide {G : GW} {A B : Nat → Prop} {h : Hp} {H : Heap} (hW : HW G A h H) (hAB : ∀ q, A q → B q) : HW G B h H := ⟨hW.1, hW.2.1.weaken (fun _ _ _ q => hAB _ q), hW.2.2⟩
theorem KW.to {G : GW} {A : Nat → Prop} {s U : State} {H : Heap} {locs : List Loc} {h : Hp} (hK : KW G A s) (hW : HW G A h H) (hS : va_S A s.heap H locs) (hA : ∀ q, s.heap.size ≤ q → A q) (hw : s.WarmedH U.vm) (hU : U.heap = H) : KW G (AW G H.size) U := by
  obtain ⟨h1, h2, h3, h4⟩ := hK
  have hvm := hw.alike
  refine ⟨va_K.moved hvm h1, ?_, ?_, nw_warm hw h4⟩
  · rw [hU]
    exact ((h2.kept (H1 := H) (fun a h4 h5 => hS.2.1 a h4 h5)).narrow (aw_sub hW hS hA)).moved hvm
  · rw [hU]
    exact ((h3.kept (H1 := H) (fun a h4 h5 => hS.2.1 a h4 h5)).narrow (aw_sub hW hS hA)).moved hvm
theorem tys_at (kc : Nat → ClassId) : (tysL kc)[0]? = some (kc 0, .int) ∧ (tysL kc)[1]? = some (kc 1, .long) ∧ (tysL kc)[2]? = some (kc 2, .boolean) := ⟨rfl, rfl, rfl⟩
/-! LOCALS -/
theorem cat2_cV (ad : Nat → Nat) (v : Value) : (cV ad v).category = (if cat2 v = true then 2 else 1) := by cases v <;> rfl
theorem catS_cV (ad : Nat → Nat) : ∀ st : List Value, ((st.map (cV ad)).map fun v => v.category).sum = catS st
  | [] => rfl
  | v :: r => by
    have := catS_cV ad r
    simp only [List.map_cons, List.sum_cons, catS, cat2_cV]
    rw [this]
def lvp (ad : Nat → Nat) : Nat → LV → List (Nat × Value)
  | _, [] => []
  | i, none :: r => lvp ad (i + 1) r
  | i, some v :: r => (i, cV ad v) :: lvp ad (i + 1) r
theorem lvp_of (ad : Nat → Nat) : ∀ (ls : LV) (i j : Nat) (v : Value), ls[j]? = some (some v) → (i + j, cV ad v) ∈ lvp ad i ls
  | [], i, j, v, h => by simp at h
  | none :: r, i, 0, v, h => by simp at h
  | some w :: r, i, 0, v, h => by
    simp only [List.getElem?_cons_zero, Option.some.injEq] at h
    subst h
    simp [lvp]
  | none :: r, i, j + 1, v, h => by
    have := lvp_of ad r (i + 1) j v (by simpa using h)
    simp only [lvp]
    rwa [show i + (j + 1) = i + 1 + j by omega]
  | some w :: r, i, j + 1, v, h => by
    have := lvp_of ad r (i + 1) j v (by simpa using h)
    simp only [lvp, List.mem_cons]
    right
    rwa [show i + (j + 1) = i + 1 + j by omega]
theorem lvp_to (ad : Nat → Nat) : ∀ (ls : LV) (i : Nat) (q : Nat × Value), q ∈ lvp ad i ls → ∃ j v, ls[j]? = some (some v) ∧ q = (i + j, cV ad v)
  | [], i, q, h => by simp [lvp] at h
  | none :: r, i, q, h => by
    obtain ⟨j, v, h1, h2⟩ := lvp_to ad r (i + 1) q (by simpa [lvp] using h)
    exact ⟨j + 1, v, by simpa using h1, by rw [h2]; congr 1; omega⟩
  | some w :: r, i, q, h => by
    simp only [lvp, List.mem_cons] at h
    rcases h with rfl | h
    · exact ⟨0, w, by simp, by simp⟩
    · obtain ⟨j, v, h1, h2⟩ := lvp_to ad r (i + 1) q h
      exact ⟨j + 1, v, by simpa using h1, by rw [h2]; congr 1; omega⟩
theorem LH.has {ad : Nat → Nat} {sl : Array Slot} {n : Nat} {ls : LV} (h : LH ad sl n ls) : lv_has sl n (lvp ad 0 ls) := by
  refine ⟨h.1, h.2.1, fun q hq => ?_⟩
  obtain ⟨j, v, h1, rfl⟩ := lvp_to ad ls 0 q hq
  simpa using h.2.2 j v h1
theorem clr_at {ls : LV} {i j : Nat} {v : Value} (h : (ab_clr ls i)[j]? = some (some v)) : ls[j]? = some (some v) ∧ (j + 1 = i → cat2 v = false) := by
  cases i with
  | zero => exact ⟨h, fun q => by omega⟩
  | succ i =>
    simp only [ab_clr] at h
    cases hc : ls[i]? with
    | none => rw [hc] at h; exact ⟨h, fun q => by simp only at h; rw [show j = i by omega, hc] at h; cases h⟩
    | some o =>
      rw [hc] at h
      cases o with
      | none => exact ⟨h, fun q => by simp only at h; rw [show j = i by omega, hc] at h; cases h⟩
      | some w =>
        simp only at h
        by_cases hw : cat2 w = true
        · rw [if_pos hw, List.getElem?_set] at h
          by_cases hij : i = j
          · subst hij
            have hl := (List.getElem?_eq_some_iff.mp hc).1
            simp [hl] at h
          · rw [if_neg hij] at h
            exact ⟨h, fun q => by omega⟩
        · rw [if_neg hw] at h
          refine ⟨h, fun q => ?_⟩
          rw [show j = i by omega, hc] at h
          cases h
          simpa using hw
theorem LH.st1 {ad : Nat → Nat} {sl' : Array Slot} {n i : Nat} {ls : LV} {v : Value}
    (h' : lv_has sl' n ((i, cV ad v) :: (lvp ad 0 ls).filter (fun q => !(q.1 == i) && !(q.1 + 1 == i && q.2.category == 2)))) : LH ad sl' n (ab_st1 ls i v) := by
  refine ⟨h'.1, h'.2.1, fun j w hj => ?_⟩
  unfold ab_st1 at hj
  rw [List.getElem?_set] at hj
  by_cases hij : i = j
  · subst hij
    rw [if_pos rfl] at hj
    split at hj
    · cases hj
      exact h'.2.2 _ List.mem_cons_self
    · cases hj
  · rw [if_neg hij] at hj
    obtain ⟨h1, h2⟩ := clr_at hj
    have hm := lvp_of ad ls 0 j w h1
    rw [Nat.zero_add] at hm
    refine h'.2.2 _ (List.mem_cons_of_mem _ (List.mem_filter.mpr ⟨hm, ?_⟩))
    simp only [cat2_cV]
    by_cases hq : j + 1 = i
    · simp [h2 hq]
      omega
    · simp [hq]
      omega
theorem LH.st2 {ad : Nat → Nat} {sl' : Array Slot} {n i : Nat} {ls : LV} {v : Value}
    (h' : lv_has sl' n ((i, cV ad v) :: (lvp ad 0 ls).filter (fun q => !(q.1 == i) && (!(q.1 == i + 1) && !(q.1 + 1 == i && q.2.category == 2))))) : LH ad sl' n (ab_st2 ls i v) := by
  refine ⟨h'.1, h'.2.1, fun j w hj => ?_⟩
  unfold ab_st2 at hj
  rw [List.getElem?_set] at hj
  by_cases hij2 : i + 1 = j
  · rw [if_pos hij2] at hj
    split at hj <;> cases hj
  rw [if_neg hij2, List.getElem?_set] at hj
  by_cases hij : i = j
  · subst hij
    rw [if_pos rfl] at hj
    split at hj
    · cases hj
      exact h'.2.2 _ List.mem_cons_self
    · cases hj
  · rw [if_neg hij] at hj
    obtain ⟨h1, h2⟩ := clr_at hj
    have hm := lvp_of ad ls 0 j w h1
    rw [Nat.zero_add] at hm
    refine h'.2.2 _ (List.mem_cons_of_mem _ (List.mem_filter.mpr ⟨hm, ?_⟩))
    simp only [cat2_cV]
    by_cases hq : j + 1 = i
    · simp [h2 hq]
      omega
    · simp [hq]
      omega
theorem i8_32 {n : Int} (h1 : -128 ≤ n) (h2 : n < 128) : (Int8.ofInt n).toInt32 = Int32.ofInt n := by
  apply Int32.toInt_inj.mp
  rw [Int8.toInt_toInt32, Int8.toInt_ofInt_of_le (by simpa using h1) (by simpa using h2), Int32.toInt_ofInt_of_le (by omega) (by omega)]
theorem i16_32 {n : Int} (h1 : -32768 ≤ n) (h2 : n < 32768) : (Int16.ofInt n).toInt32 = Int32.ofInt n := by
  apply Int32.toInt_inj.mp
  rw [Int16.toInt_toInt32, Int16.toInt_ofInt_of_le (by simpa using h1) (by simpa using h2), Int32.toInt_ofInt_of_le (by omega) (by omega)]
