/-! THE LINK TABLES HOLD -/
def inT (c : Cond) : Bool := decide (c ∈ lw_tbl) && goodWord c
def inTi (i : Nat) (c : Cond) : Bool := decide (lw_tbl[i]? = some c) && goodWord c
def inNi (i : Nat) (c : Cond) : Bool := decide (lw_tbl[i]? = some c) && isN c
theorem inT_mem {c : Cond} (h : inT c = true) : c ∈ tw := by
  simp only [inT, Bool.and_eq_true, decide_eq_true_eq] at h
  exact List.mem_filter.mpr ⟨h.1, h.2⟩
theorem inTi_mem {i : Nat} {c : Cond} (h : inTi i c = true) : c ∈ tw := by
  simp only [inTi, Bool.and_eq_true, decide_eq_true_eq] at h
  exact List.mem_filter.mpr ⟨List.mem_of_getElem? h.1, h.2⟩
theorem inNi_mem {i : Nat} {c : Cond} (h : inNi i c = true) : c ∈ nw := by
  simp only [inNi, Bool.and_eq_true, decide_eq_true_eq] at h
  exact List.mem_filter.mpr ⟨List.mem_of_getElem? h.1, h.2⟩
theorem tw_gi {ws : List Cond} (h : ∀ w ∈ ws, w ∈ tw) : GoodIn tw ws := fun w hw => ⟨h w hw, good_of_word (List.mem_filter.mp (h w hw)).2⟩
theorem nw_warm {s U : State} (hW : s.WarmedH U.vm) (h : ∀ w ∈ nw, va_Nw w s) : ∀ w ∈ nw, va_Nw w U := by
  intro w hw
  have h1 := h w hw
  have h2 := (List.mem_filter.mp hw).2
  cases w <;> simp only [isN, Bool.false_eq_true] at h2
  · exact va_Nw.warmM hW h1
  · exact va_Nw.warmF hW h1
theorem nw_same {s U : State} (hv : s.vm = U.vm) (h : ∀ w ∈ nw, va_Nw w s) : ∀ w ∈ nw, va_Nw w U := by
  intro w hw
  have h1 := h w hw
  have h2 := (List.mem_filter.mp hw).2
  cases w <;> simp only [isN, Bool.false_eq_true] at h2
  · exact va_Nw.same rfl hv h1
  · exact va_Nw.same rfl hv h1
/-- what a link of a field says -/
def fP (q : Nat × Nat × Nat × Nat × Nat × Nat) : Prop := ∃ C T N, cls[q.2.2.1]? = some (C, T, N) ∧ q.2.2.2.1 < N ∧ ((q.2.2.2.2.1 = 0 ∧ Cond.fieldLink (cn q.1) q.2.1 (T q.2.2.2.1).1 (T q.2.2.2.1).2.1 (T q.2.2.2.1).2.2.1 ∈ tw) ∨ (q.2.2.2.2.1 ≠ 0 ∧ Cond.fieldLinkNest (cn q.1) q.2.1 (T q.2.2.2.1).1 (T q.2.2.2.1).2.1 (T q.2.2.2.1).2.2.1 "RoundWalks" ∈ nw))
    ∧ (q.2.2.2.2.2 = 0 → parseFieldDescriptor (T q.2.2.2.1).2.2.1 = some .int ∧ (T q.2.2.2.1).2.2.2 = false) ∧ (q.2.2.2.2.2 = 1 → parseFieldDescriptor (T q.2.2.2.1).2.2.1 = some .long ∧ (T q.2.2.2.1).2.2.2 = false)
def fOK (q : Nat × Nat × Nat × Nat × Nat × Nat) (i : Nat) : Bool := match cls[q.2.2.1]? with
  | some (_, T, N) => decide (q.2.2.2.1 < N) && (if q.2.2.2.2.1 = 0 then inTi i (.fieldLink (cn q.1) q.2.1 (T q.2.2.2.1).1 (T q.2.2.2.1).2.1 (T q.2.2.2.1).2.2.1) else inNi i (.fieldLinkNest (cn q.1) q.2.1 (T q.2.2.2.1).1 (T q.2.2.2.1).2.1 (T q.2.2.2.1).2.2.1 "RoundWalks"))
    && (if q.2.2.2.2.2 = 0 then decide (parseFieldDescriptor (T q.2.2.2.1).2.2.1 = some .int) && !(T q.2.2.2.1).2.2.2 else if q.2.2.2.2.2 = 1 then decide (parseFieldDescriptor (T q.2.2.2.1).2.2.1 = some .long) && !(T q.2.2.2.1).2.2.2 else true)
  | none => false
theorem fOK_P {q : Nat × Nat × Nat × Nat × Nat × Nat} {i : Nat} (h : fOK q i = true) : fP q := by
  unfold fOK at h
  split at h
  · next C T N hc =>
    simp only [Bool.and_eq_true, decide_eq_true_eq] at h
    obtain ⟨⟨h1, h2⟩, h3⟩ := h
    refine ⟨C, T, N, hc, h1, ?_, fun h0 => ?_, fun h0 => ?_⟩
    · by_cases hk : q.2.2.2.2.1 = 0
      · rw [if_pos hk] at h2
        exact Or.inl ⟨hk, inTi_mem h2⟩
      · rw [if_neg hk] at h2
        exact Or.inr ⟨hk, inNi_mem h2⟩
    · rw [if_pos h0] at h3
      simpa using h3
    · rw [if_neg (by omega), if_pos h0] at h3
      simpa using h3
  · cases h
/-- what a method says -/
def mP (M : MI) : Prop := Cond.code (mName M) (mCode M) (mMax M) (mRet M) ∈ tw ∧ Cond.initialized (mName M).cls ∈ tw ∧ cn (mOwn M) = (mName M).cls ∧ (mName M).cls ≠ "java/lang/invoke/MethodHandle" ∧ (mName M).cls ≠ "java/lang/invoke/VarHandle" ∧ (parseMethodDescriptor (mName M).desc).map (fun d => d.parameters.length) = some (mArgs M) ∧ mMax M ≤ 40
def mOK (M : MI) (i j : Nat) : Bool := inTi i (.code (mName M) (mCode M) (mMax M) (mRet M)) && (inTi j (.initialized (mName M).cls) && (decide (cn (mOwn M) = (mName M).cls) && (decide ((mName M).cls ≠ "java/lang/invoke/MethodHandle") && (decide ((mName M).cls ≠ "java/lang/invoke/VarHandle")
  && (decide ((parseMethodDescriptor (mName M).desc).map (fun d => d.parameters.length) = some (mArgs M)) && decide (mMax M ≤ 40))))))
theorem mOK_P {M : MI} {i j : Nat} (h : mOK M i j = true) : mP M := by
  simp only [mOK, Bool.and_eq_true, decide_eq_true_eq] at h
  exact ⟨inTi_mem h.1, inTi_mem h.2.1, h.2.2⟩
def lP (q : Nat × Nat × Nat × MI) : Prop := mP q.2.2.2 ∧ (match q.2.2.1 with
  | 0 => Cond.methodLink (cn q.1) q.2.1 (mName q.2.2.2) ∈ tw ∧ Cond.instanceMethod (mName q.2.2.2) ∈ tw ∧ Cond.selects (mName q.2.2.2).cls (mName q.2.2.2) (mName q.2.2.2) ∈ tw ∧ (cls[mOwn q.2.2.2]?).map (fun r => r.1) = some (mName q.2.2.2).cls
  | 1 => Cond.methodLink (cn q.1) q.2.1 (mName q.2.2.2) ∈ tw ∧ Cond.static (mName q.2.2.2) ∈ tw
  | 2 => Cond.methodLinkNest (cn q.1) q.2.1 (mName q.2.2.2) "RoundWalks" ∈ nw ∧ Cond.instanceMethod (mName q.2.2.2) ∈ tw ∧ Cond.selects (mName q.2.2.2).cls (mName q.2.2.2) (mName q.2.2.2) ∈ tw ∧ (cls[mOwn q.2.2.2]?).map (fun r => r.1) = some (mName q.2.2.2).cls
  | 3 => Cond.methodLinkNest (cn q.1) q.2.1 (mName q.2.2.2) "RoundWalks" ∈ nw ∧ Cond.static (mName q.2.2.2) ∈ tw
  | _ => False)
def lOK (q : Nat × Nat × Nat × MI) (i : Nat × Nat × Nat × Nat × Nat) : Bool := mOK q.2.2.2 i.2.1 i.2.2.1 && (match q.2.2.1 with
  | 0 => inTi i.1 (.methodLink (cn q.1) q.2.1 (mName q.2.2.2)) && (inTi i.2.2.2.1 (.instanceMethod (mName q.2.2.2)) && (inTi i.2.2.2.2 (.selects (mName q.2.2.2).cls (mName q.2.2.2) (mName q.2.2.2)) && decide ((cls[mOwn q.2.2.2]?).map (fun r => r.1) = some (mName q.2.2.2).cls)))
  | 1 => inTi i.1 (.methodLink (cn q.1) q.2.1 (mName q.2.2.2)) && inTi i.2.2.2.1 (.static (mName q.2.2.2))
  | 2 => inNi i.1 (.methodLinkNest (cn q.1) q.2.1 (mName q.2.2.2) "RoundWalks") && (inTi i.2.2.2.1 (.instanceMethod (mName q.2.2.2)) && (inTi i.2.2.2.2 (.selects (mName q.2.2.2).cls (mName q.2.2.2) (mName q.2.2.2)) && decide ((cls[mOwn q.2.2.2]?).map (fun r => r.1) = some (mName q.2.2.2).cls)))
  | 3 => inNi i.1 (.methodLinkNest (cn q.1) q.2.1 (mName q.2.2.2) "RoundWalks") && inTi i.2.2.2.1 (.static (mName q.2.2.2))
  | _ => false)
theorem lOK_P {q : Nat × Nat × Nat × MI} {i : Nat × Nat × Nat × Nat × Nat} (h : lOK q i = true) : lP q := by
  simp only [lOK, Bool.and_eq_true] at h
  refine ⟨mOK_P h.1, ?_⟩
  have h2 := h.2
  split at h2
  · next e => simp only [Bool.and_eq_true, decide_eq_true_eq] at h2; exact ⟨inTi_mem h2.1, inTi_mem h2.2.1, inTi_mem h2.2.2.1, h2.2.2.2⟩
  · next e => simp only [Bool.and_eq_true] at h2; exact ⟨inTi_mem h2.1, inTi_mem h2.2⟩
  · next e => simp only [Bool.and_eq_true, decide_eq_true_eq] at h2; exact ⟨inNi_mem h2.1, inTi_mem h2.2.1, inTi_mem h2.2.2.1, h2.2.2.2⟩
  · next e => simp only [Bool.and_eq_true] at h2; exact ⟨inNi_mem h2.1, inTi_mem h2.2⟩
  · cases h2
theorem zip_all {α β : Type} {P : α → Prop} {f : α → β → Bool} (hP : ∀ a b, f a b = true → P a) : ∀ (as : List α) (bs : List β), as.length = bs.length → (as.zip bs).all (fun q => f q.1 q.2) = true → ∀ a ∈ as, P a
  | [], _, _, _, a, ha => by cases ha
  | x :: as, [], hl, _, _, _ => by cases hl
  | x :: as, y :: bs, hl, h, a, ha => by
    simp only [List.zip_cons_cons, List.all_cons, Bool.and_eq_true] at h
    rcases List.mem_cons.mp ha with rfl | ha
    · exact hP _ _ h.1
    · exact zip_all hP as bs (by simpa using hl) h.2 a ha
set_option maxRecDepth 100000 in
theorem flT_ok : ∀ q ∈ flT, fP q := zip_all (f := fOK) (fun _ _ h => fOK_P h) flT flH (by decide +kernel) (by decide +kernel)
set_option maxRecDepth 100000 in
theorem mlT_ok_0 : ∀ q ∈ mlT_0, lP q := zip_all (f := lOK) (fun _ _ h => lOK_P h) mlT_0 mlH_0 (by decide +kernel) (by decide +kernel)
set_option maxRecDepth 100000 in
theorem mlT_ok_1 : ∀ q ∈ mlT_1, lP q := zip_all (f := lOK) (fun _ _ h => lOK_P h) mlT_1 mlH_1 (by decide +kernel) (by decide +kernel)
set_option maxRecDepth 100000 in
theorem mlT_ok_2 : ∀ q ∈ mlT_2, lP q := zip_all (f := lOK) (fun _ _ h => lOK_P h) mlT_2 mlH_2 (by decide +kernel) (by decide +kernel)
set_option maxRecDepth 100000 in
theorem mlT_ok_3 : ∀ q ∈ mlT_3, lP q := zip_all (f := lOK) (fun _ _ h => lOK_P h) mlT_3 mlH_3 (by decide +kernel) (by decide +kernel)
set_option maxRecDepth 100000 in
theorem mlT_ok_4 : ∀ q ∈ mlT_4, lP q := zip_all (f := lOK) (fun _ _ h => lOK_P h) mlT_4 mlH_4 (by decide +kernel) (by decide +kernel)
set_option maxRecDepth 100000 in
theorem mlT_ok_5 : ∀ q ∈ mlT_5, lP q := zip_all (f := lOK) (fun _ _ h => lOK_P h) mlT_5 mlH_5 (by decide +kernel) (by decide +kernel)
set_option maxRecDepth 100000 in
theorem mlT_ok_6 : ∀ q ∈ mlT_6, lP q := zip_all (f := lOK) (fun _ _ h => lOK_P h) mlT_6 mlH_6 (by decide +kernel) (by decide +kernel)
set_option maxRecDepth 100000 in
theorem mlT_ok_7 : ∀ q ∈ mlT_7, lP q := zip_all (f := lOK) (fun _ _ h => lOK_P h) mlT_7 mlH_7 (by decide +kernel) (by decide +kernel)
set_option maxRecDepth 100000 in
theorem mlT_ok_8 : ∀ q ∈ mlT_8, lP q := zip_all (f := lOK) (fun _ _ h => lOK_P h) mlT_8 mlH_8 (by decide +kernel) (by decide +kernel)
set_option maxRecDepth 100000 in
theorem mlT_ok_9 : ∀ q ∈ mlT_9, lP q := zip_all (f := lOK) (fun _ _ h => lOK_P h) mlT_9 mlH_9 (by decide +kernel) (by decide +kernel)
set_option maxRecDepth 100000 in
theorem mlT_ok_10 : ∀ q ∈ mlT_10, lP q := zip_all (f := lOK) (fun _ _ h => lOK_P h) mlT_10 mlH_10 (by decide +kernel) (by decide +kernel)
set_option maxRecDepth 100000 in
theorem mlT_ok_11 : ∀ q ∈ mlT_11, lP q := zip_all (f := lOK) (fun _ _ h => lOK_P h) mlT_11 mlH_11 (by decide +kernel) (by decide +kernel)
set_option maxRecDepth 100000 in
theorem mlT_ok_12 : ∀ q ∈ mlT_12, lP q := zip_all (f := lOK) (fun _ _ h => lOK_P h) mlT_12 mlH_12 (by decide +kernel) (by decide +kernel)
theorem mlT_ok : ∀ q ∈ mlT, lP q := List.forall_mem_append.mpr ⟨mlT_ok_0, List.forall_mem_append.mpr ⟨mlT_ok_1, List.forall_mem_append.mpr ⟨mlT_ok_2, List.forall_mem_append.mpr ⟨mlT_ok_3, List.forall_mem_append.mpr ⟨mlT_ok_4, List.forall_mem_append.mpr ⟨mlT_ok_5, List.forall_mem_append.mpr ⟨mlT_ok_6, List.forall_mem_append.mpr ⟨mlT_ok_7, List.forall_mem_append.mpr ⟨mlT_ok_8, List.forall_mem_append.mpr ⟨mlT_ok_9, List.forall_mem_append.mpr ⟨mlT_ok_10, List.forall_mem_append.mpr ⟨mlT_ok_11, mlT_ok_12⟩⟩⟩⟩⟩⟩⟩⟩⟩⟩⟩⟩
set_option maxRecDepth 100000 in
theorem kiT_ok : kiT.all (fun q => inT (.constant (cn q.1) q.2.1 (Int32.ofInt q.2.2))) = true := by decide +kernel
set_option maxRecDepth 100000 in
theorem klT_ok : klT.all (fun q => inT (.constantLong (cn q.1) q.2.1 (Int64.ofInt q.2.2))) = true := by decide +kernel
theorem fl_spec {o i : Nat} {r : Nat × Nat × Nat × Nat} (h : fl o i = some r) : fP (o, i, r) := by
  unfold fl at h
  obtain ⟨q, hq, rfl⟩ := Option.map_eq_some_iff.mp h
  have h1 := List.find?_some hq
  have h2 := flT_ok q (List.mem_of_find?_eq_some hq)
  simp only [Bool.and_eq_true, beq_iff_eq] at h1
  obtain ⟨a, b, c⟩ := q
  simp only at h1
  obtain ⟨rfl, rfl⟩ := h1
  exact h2
theorem ml_spec {o i : Nat} {r : Nat × MI} (h : ml o i = some r) : lP (o, i, r) := by
  unfold ml at h
  obtain ⟨q, hq, rfl⟩ := Option.map_eq_some_iff.mp h
  have h1 := List.find?_some hq
  have h2 := mlT_ok q (List.mem_of_find?_eq_some hq)
  simp only [Bool.and_eq_true, beq_iff_eq] at h1
  obtain ⟨a, b, c⟩ := q
  simp only at h1
  obtain ⟨rfl, rfl⟩ := h1
  exact h2
theorem ki_spec {o i : Nat} {v : Int} (h : ki o i = some v) : Cond.constant (cn o) i (Int32.ofInt v) ∈ tw := by
  unfold ki at h
  obtain ⟨q, hq, rfl⟩ := Option.map_eq_some_iff.mp h
  have h1 := List.find?_some hq
  have h2 := List.all_eq_true.mp kiT_ok q (List.mem_of_find?_eq_some hq)
  simp only [Bool.and_eq_true, beq_iff_eq] at h1
  obtain ⟨a, b, c⟩ := q
  simp only at h1
  obtain ⟨rfl, rfl⟩ := h1
  exact inT_mem h2
theorem kl_spec {o i : Nat} {v : Int} (h : kl o i = some v) : Cond.constantLong (cn o) i (Int64.ofInt v) ∈ tw := by
  unfold kl at h
  obtain ⟨q, hq, rfl⟩ := Option.map_eq_some_iff.mp h
  have h1 := List.find?_some hq
  have h2 := List.all_eq_true.mp klT_ok q (List.mem_of_find?_eq_some hq)
  simp only [Bool.and_eq_true, beq_iff_eq] at h1
  obtain ⟨a, b, c⟩ := q
  simp only at h1
  obtain ⟨rfl, rfl⟩ := h1
  exact inT_mem h2
set_option maxRecDepth 100000 in
theorem wsX_in : ∀ q ∈ cls, (u_ws q.1 q.2.1 q.2.2).all inT = true := by decide +kernel
theorem cls_in {ci : Nat} {C : String} {T : u_T} {N : Nat} (h : cls[ci]? = some (C, T, N)) : ∀ w ∈ u_ws C T N, w ∈ tw := fun w hw => inT_mem (List.all_eq_true.mp (wsX_in _ (List.mem_of_getElem? h)) w hw)
theorem cls_ty : ∀ q ∈ cls, ∃ ty : Nat → FieldType, (∀ k, k < q.2.2 → parseFieldDescriptor (q.2.1 k).2.2.1 = some (ty k)) ∧ (∀ a, a < q.2.2 → ∀ b, b < q.2.2 → a ≠ b → (q.2.1 a).2.1 ≠ (q.2.1 b).2.1) := by
  intro q hq
  simp only [cls, List.mem_cons, List.not_mem_nil, or_false] at hq
  rcases hq with rfl | rfl | rfl | rfl | rfl | rfl | rfl | rfl | rfl | rfl | rfl | rfl

  · exact ⟨tyX0, tyX0_ok, nmX0⟩
  · exact ⟨tyX1, tyX1_ok, nmX1⟩
  · exact ⟨tyX2, tyX2_ok, nmX2⟩
  · exact ⟨tyX3, tyX3_ok, nmX3⟩
  · exact ⟨tyX4, tyX4_ok, nmX4⟩
  · exact ⟨tyX5, tyX5_ok, nmX5⟩
  · exact ⟨tyX6, tyX6_ok, nmX6⟩
  · exact ⟨tyX7, tyX7_ok, nmX7⟩
  · exact ⟨tyX8, tyX8_ok, nmX8⟩
  · exact ⟨tyX9, tyX9_ok, nmX9⟩
  · exact ⟨tyX10, tyX10_ok, nmX10⟩
  · exact ⟨tyX11, tyX11_ok, nmX11⟩
/-! WORLDS BY PLACES -/
theorem cW_get {G : GW} {h : Hp} {i : Nat} (hi : i < G.1) : (cW G h)[i]? = some (G.2.1 i, cE G.2.1 G.2.2.1 (h i)) := by
  simp [cW, hi]
theorem cW_set {G : GW} {h : Hp} {i : Nat} {e : va_E} : (cW G h).set i (G.2.1 i, cE G.2.1 G.2.2.1 e) = cW G (va_up h i e) := by
  apply List.ext_getElem?
  intro j
  by_cases hj : j < G.1
  · rw [cW_get hj, List.getElem?_set]
    by_cases hij : i = j
    · subst hij
      simp [cW, va_up, hj]
    · rw [if_neg hij, cW_get hj]
      simp [va_up, Ne.symm hij]
  · have h1 : (cW G h).length = G.1 := by simp [cW]
    have h2 : (cW G (va_up h i e)).length = G.1 := by simp [cW]
    rw [List.getElem?_eq_none (by rw [List.length_set, h1]; omega), List.getElem?_eq_none (by rw [h2]; omega)]
theorem HW.lt {G : GW} {A : Nat → Prop} {h : Hp} {H : Heap} (hW : HW G A h H) {k : Nat} {e : va_E} (he : h k = e) (hne : e ≠ .inr (99, [])) : k < G.1 := by
  rcases Nat.lt_or_ge k G.1 with q | q
  · exact q
  · exact absurd (he.symm.trans (hW.2.2 k q)) hne
theorem HW.up {G : GW} {A : Nat → Prop} {h : Hp} {H H1 : Heap} (hW : HW G A h H) {k : Nat} {e : va_E} (hk : k < G.1)
    (hP : va_P G.2.2.2.1 cls ((cW G h).set k (G.2.1 k, cE G.2.1 G.2.2.1 e)) H1) (hD : va_D A ((cW G h).set k (G.2.1 k, cE G.2.1 G.2.2.1 e))) : HW G A (va_up h k e) H1 := by
  rw [cW_set] at hP hD
  refine ⟨hP, hD, fun j hj => ?_⟩
  have : j ≠ k := by omega
  simp [va_up, this, hW.2.2 j hj]
theorem HW.in {G : GW} {A : Nat → Prop} {h : Hp} {H : Heap} (hW : HW G A h H) {k : Nat} (hk : k < G.1) : A (G.2.1 k) := hW.2.1.2 k _ (cW_get hk)
theorem aw_sub {G : GW} {A : Nat → Prop} {h : Hp} {H0 H : Heap} {locs : List Loc} (hW : HW G A h H) (hS : va_S A H0 H locs) (hA : ∀ q, H0.size ≤ q → A q) : ∀ q, AW G H.size q → A q := by
  rintro q (⟨k, hk, rfl⟩ | hq)
  · exact hW.in hk
  · exact hA q (Nat.le_trans hS.1 hq)
theorem HW.self {G : GW} {A : Nat → Prop} {h : Hp} {H : Heap} (hW : HW G A h H) (sz : Nat) : HW G (AW G sz) h H := by
  refine ⟨hW.1, ⟨hW.2.1.1, fun k q hk => ?_⟩, hW.2.2⟩
  by_cases hk2 : k < G.1
  · rw [cW_get hk2] at hk
    cases hk
    exact Or.inl ⟨k, hk2, rfl⟩
  · rw [List.getElem?_eq_none (by simp [cW]; omega)] at hk
    cases hk
theorem HW.wide {G : GW} {A B : Nat → Prop} {h : Hp} {H : Heap} (hW : HW G A h H) (hAB : ∀ q, A q → B q) : HW G B h H := ⟨hW.1, hW.2.1.weaken (fun _ _ _ q => hAB _ q), hW.2.2⟩
theorem KW.to {G : GW} {A : Nat → Prop} {s U : State} {H : Heap} {locs : List Loc} {h : Hp} (hK : KW G A s) (hW : HW G A h H) (hS : va_S A s.heap H locs) (hA : ∀ q, s.heap.size ≤ q → A q) (hw : s.WarmedH U.vm) (hU : U.heap = H) : KW G (AW G H.size) U := by
  obtain ⟨h1, h2, h3, h4⟩ := hK
  have hvm := hw.alike
  refine ⟨va_K.moved hvm h1, ?_, ?_, nw_warm hw h4⟩
  · rw [hU]
    exact ((h2.kept (H1 := H) (fun a h4 h5 => hS.2.1 a h4 h5)).narrow (aw_sub hW hS hA)).moved hvm
  · rw [hU]
    exact ((h3.kept (H1 := H) (fun a h4 h5 => hS.2.1 a h4 h5)).narrow (aw_sub hW hS hA)).moved hvm
theorem tys_at (kc : Nat → ClassId) : (tysL kc)[0]? = some (kc 0, .int) ∧ (tysL kc)[1]? = some (kc 1, .long) ∧ (tysL kc)[2]? = some (kc 2, .boolean) := ⟨rfl, rfl, rfl⟩
/-! LOCALS -/
theorem cat2_cV (ad : Nat → Nat) (v : Value) : (cV ad v).category = (if cat2 v = true then 2 else 1) := by cases v <;> rfl
theorem catS_cV (ad : Nat → Nat) : ∀ st : List Value, ((st.map (cV ad)).map fun v => v.category).sum = catS st
  | [] => rfl
  | v :: r => by
    have := catS_cV ad r
    simp only [List.map_cons, List.sum_cons, catS, cat2_cV]
    rw [this]
def lvp (ad : Nat → Nat) : Nat → LV → List (Nat × Value)
  | _, [] => []
  | i, none :: r => lvp ad (i + 1) r
  | i, some v :: r => (i, cV ad v) :: lvp ad (i + 1) r
theorem lvp_of (ad : Nat → Nat) : ∀ (ls : LV) (i j : Nat) (v : Value), ls[j]? = some (some v) → (i + j, cV ad v) ∈ lvp ad i ls
  | [], i, j, v, h => by simp at h
  | none :: r, i, 0, v, h => by simp at h
  | some w :: r, i, 0, v, h => by
    simp only [List.getElem?_cons_zero, Option.some.injEq] at h
    subst h
    simp [lvp]
  | none :: r, i, j + 1, v, h => by
    have := lvp_of ad r (i + 1) j v (by simpa using h)
    simp only [lvp]
    rwa [show i + (j + 1) = i + 1 + j by omega]
  | some w :: r, i, j + 1, v, h => by
    have := lvp_of ad r (i + 1) j v (by simpa using h)
    simp only [lvp, List.mem_cons]
    right
    rwa [show i + (j + 1) = i + 1 + j by omega]
theorem lvp_to (ad : Nat → Nat) : ∀ (ls : LV) (i : Nat) (q : Nat × Value), q ∈ lvp ad i ls → ∃ j v, ls[j]? = some (some v) ∧ q = (i + j, cV ad v)
  | [], i, q, h => by simp [lvp] at h
  | none :: r, i, q, h => by
    obtain ⟨j, v, h1, h2⟩ := lvp_to ad r (i + 1) q (by simpa [lvp] using h)
    exact ⟨j + 1, v, by simpa using h1, by rw [h2]; congr 1; omega⟩
  | some w :: r, i, q, h => by
    simp only [lvp, List.mem_cons] at h
    rcases h with rfl | h
    · exact ⟨0, w, by simp, by simp⟩
    · obtain ⟨j, v, h1, h2⟩ := lvp_to ad r (i + 1) q h
      exact ⟨j + 1, v, by simpa using h1, by rw [h2]; congr 1; omega⟩
theorem LH.has {ad : Nat → Nat} {sl : Array Slot} {n : Nat} {ls : LV} (h : LH ad sl n ls) : lv_has sl n (lvp ad 0 ls) := by
  refine ⟨h.1, h.2.1, fun q hq => ?_⟩
  obtain ⟨j, v, h1, rfl⟩ := lvp_to ad ls 0 q hq
  simpa using h.2.2 j v h1
theorem clr_at {ls : LV} {i j : Nat} {v : Value} (h : (ab_clr ls i)[j]? = some (some v)) : ls[j]? = some (some v) ∧ (j + 1 = i → cat2 v = false) := by
  cases i with
  | zero => exact ⟨h, fun q => by omega⟩
  | succ i =>
    simp only [ab_clr] at h
    cases hc : ls[i]? with
    | none => rw [hc] at h; exact ⟨h, fun q => by simp only at h; rw [show j = i by omega, hc] at h; cases h⟩
    | some o =>
      rw [hc] at h
      cases o with
      | none => exact ⟨h, fun q => by simp only at h; rw [show j = i by omega, hc] at h; cases h⟩
      | some w =>
        simp only at h
        by_cases hw : cat2 w = true
        · rw [if_pos hw, List.getElem?_set] at h
          by_cases hij : i = j
          · subst hij
            have hl := (List.getElem?_eq_some_iff.mp hc).1
            simp [hl] at h
          · rw [if_neg hij] at h
            exact ⟨h, fun q => by omega⟩
        · rw [if_neg hw] at h
          refine ⟨h, fun q => ?_⟩
          rw [show j = i by omega, hc] at h
          cases h
          simpa using hw
theorem LH.st1 {ad : Nat → Nat} {sl' : Array Slot} {n i : Nat} {ls : LV} {v : Value}
    (h' : lv_has sl' n ((i, cV ad v) :: (lvp ad 0 ls).filter (fun q => !(q.1 == i) && !(q.1 + 1 == i && q.2.category == 2)))) : LH ad sl' n (ab_st1 ls i v) := by
  refine ⟨h'.1, h'.2.1, fun j w hj => ?_⟩
  unfold ab_st1 at hj
  rw [List.getElem?_set] at hj
  by_cases hij : i = j
  · subst hij
    rw [if_pos rfl] at hj
    split at hj
    · cases hj
      exact h'.2.2 _ List.mem_cons_self
    · cases hj
  · rw [if_neg hij] at hj
    obtain ⟨h1, h2⟩ := clr_at hj
    have hm := lvp_of ad ls 0 j w h1
    rw [Nat.zero_add] at hm
    refine h'.2.2 _ (List.mem_cons_of_mem _ (List.mem_filter.mpr ⟨hm, ?_⟩))
    simp only [cat2_cV]
    by_cases hq : j + 1 = i
    · simp [h2 hq]
      omega
    · simp [hq]
      omega
theorem LH.st2 {ad : Nat → Nat} {sl' : Array Slot} {n i : Nat} {ls : LV} {v : Value}
    (h' : lv_has sl' n ((i, cV ad v) :: (lvp ad 0 ls).filter (fun q => !(q.1 == i) && (!(q.1 == i + 1) && !(q.1 + 1 == i && q.2.category == 2))))) : LH ad sl' n (ab_st2 ls i v) := by
  refine ⟨h'.1, h'.2.1, fun j w hj => ?_⟩
  unfold ab_st2 at hj
  rw [List.getElem?_set] at hj
  by_cases hij2 : i + 1 = j
  · rw [if_pos hij2] at hj
    split at hj <;> cases hj
  rw [if_neg hij2, List.getElem?_set] at hj
  by_cases hij : i = j
  · subst hij
    rw [if_pos rfl] at hj
    split at hj
    · cases hj
      exact h'.2.2 _ List.mem_cons_self
    · cases hj
  · rw [if_neg hij] at hj
    obtain ⟨h1, h2⟩ := clr_at hj
    have hm := lvp_of ad ls 0 j w h1
    rw [Nat.zero_add] at hm
    refine h'.2.2 _ (List.mem_cons_of_mem _ (List.mem_filter.mpr ⟨hm, ?_⟩))
    simp only [cat2_cV]
    by_cases hq : j + 1 = i
    · simp [h2 hq]
      omega
    · simp [hq]
      omega
theorem i8_32 {n : Int} (h1 : -128 ≤ n) (h2 : n < 128) : (Int8.ofInt n).toInt32 = Int32.ofInt n := by
  apply Int32.toInt_inj.mp
  rw [Int8.toInt_toInt32, Int8.toInt_ofInt_of_le (by simpa using h1) (by simpa using h2), Int32.toInt_ofInt_of_le (by omega) (by omega)]
theorem i16_32 {n : Int} (h1 : -32768 ≤ n) (h2 : n < 32768) : (Int16.ofInt n).toInt32 = Int32.ofInt n := by
  apply Int32.toInt_inj.mp
  rw [Int16.toInt_toInt32, Int16.toInt_ofInt_of_le (by simpa using h1) (by simpa using h2), Int32.toInt_ofInt_of_le (by omega) (by omega)]
