def mName (M : MI) : MethodName := M.1
def mCode (M : MI) : ByteArray := M.2.1
def mMax (M : MI) : Nat := M.2.2.1
def mRet (M : MI) : Option FieldType := M.2.2.2.1
def mOwn (M : MI) : Nat := M.2.2.2.2.1
def mArgs (M : MI) : Nat := M.2.2.2.2.2
/-- the words that any method may rest on -/
def tw : List Cond := lw_tbl.filter goodWord
/-- links to private members of nest mates: carried beside the words -/
def isN : Cond → Bool
  | .fieldLinkNest _ _ _ _ _ _ => true
  | .methodLinkNest _ _ _ _ => true
  | _ => false
def nw : List Cond := lw_tbl.filter isN
def wy (M : MI) : List Cond := .code (mName M) (mCode M) (mMax M) (mRet M) :: tw
/-! THE LINK TABLES HOLD -/
def inT (c : Cond) : Bool := decide (c ∈ lw_tbl) && goodWord c
def inTi (i : Nat) (c : Cond) : Bool := decide (lw_tbl[i]? = some c) && goodWord c
def inNi (i : Nat) (c : Cond) : Bool := decide (lw_tbl[i]? = some c) && isN c
theorem inT_mem {c : Cond} (h : inT c = true) : c ∈ tw := by
  simp only [inT, Bool.and_eq_true, decide_eq_true_eq] at h
  exact List.mem_filter.mpr ⟨h.1, h.2⟩
theorem inTi_mem {i : Nat} {c : Cond} (h : inTi i c = true) : c ∈ tw := by
  simp only [inTi, Bool.and_eq_true, decide_eq_true_eq] at h
  exact List.mem_filter.mpr ⟨List.mem_of_getElem? h.1, h.2⟩
theorem inNi_mem {i : Nat} {c : Cond} (h : inNi i c = true) : c ∈ nw := by
  simp only [inNi, Bool.and_eq_true, decide_eq_true_eq] at h
  exact List.mem_filter.mpr ⟨List.mem_of_getElem? h.1, h.2⟩
theorem tw_gi {ws : List Cond} (h : ∀ w ∈ ws, w ∈ tw) : GoodIn tw ws := fun w hw => ⟨h w hw, good_of_word (List.mem_filter.mp (h w hw)).2⟩
theorem nw_warm {s U : State} (hW : s.WarmedH U.vm) (h : ∀ w ∈ nw, va_Nw w s) : ∀ w ∈ nw, va_Nw w U := by
  intro w hw
  have h1 := h w hw
  have h2 := (List.mem_filter.mp hw).2
  cases w <;> simp only [isN, Bool.false_eq_true] at h2
  · exact va_Nw.warmM hW h1
  · exact va_Nw.warmF hW h1
theorem nw_same {s U : State} (hv : s.vm = U.vm) (h : ∀ w ∈ nw, va_Nw w s) : ∀ w ∈ nw, va_Nw w U := by
  intro w hw
  have h1 := h w hw
  have h2 := (List.mem_filter.mp hw).2
  cases w <;> simp only [isN, Bool.false_eq_true] at h2
  · exact va_Nw.same rfl hv h1
  · exact va_Nw.same rfl hv h1
/-- what a link of a field says -/
def fP (q : Nat × Nat × Nat × Nat × Nat × Nat) : Prop := ∃ C T N, cls[q.2.2.1]? = some (C, T, N) ∧ q.2.2.2.1 < N ∧ ((q.2.2.2.2.1 = 0 ∧ Cond.fieldLink (cn q.1) q.2.1 (T q.2.2.2.1).1 (T q.2.2.2.1).2.1 (T q.2.2.2.1).2.2.1 ∈ tw) ∨ (q.2.2.2.2.1 ≠ 0 ∧ Cond.fieldLinkNest (cn q.1) q.2.1 (T q.2.2.2.1).1 (T q.2.2.2.1).2.1 (T q.2.2.2.1).2.2.1 "RoundWalks" ∈ nw))
    ∧ (q.2.2.2.2.2 = 0 → parseFieldDescriptor (T q.2.2.2.1).2.2.1 = some .int ∧ (T q.2.2.2.1).2.2.2 = false) ∧ (q.2.2.2.2.2 = 1 → parseFieldDescriptor (T q.2.2.2.1).2.2.1 = some .long ∧ (T q.2.2.2.1).2.2.2 = false)
def fOK (q : Nat × Nat × Nat × Nat × Nat × Nat) (i : Nat) : Bool := match cls[q.2.2.1]? with
  | some (_, T, N) => decide (q.2.2.2.1 < N) && (if q.2.2.2.2.1 = 0 then inTi i (.fieldLink (cn q.1) q.2.1 (T q.2.2.2.1).1 (T q.2.2.2.1).2.1 (T q.2.2.2.1).2.2.1) else inNi i (.fieldLinkNest (cn q.1) q.2.1 (T q.2.2.2.1).1 (T q.2.2.2.1).2.1 (T q.2.2.2.1).2.2.1 "RoundWalks"))
    && (if q.2.2.2.2.2 = 0 then decide (parseFieldDescriptor (T q.2.2.2.1).2.2.1 = some .int) && !(T q.2.2.2.1).2.2.2 else if q.2.2.2.2.2 = 1 then decide (parseFieldDescriptor (T q.2.2.2.1).2.2.1 = some .long) && !(T q.2.2.2.1).2.2.2 else true)
  | none => false
theorem fOK_P {q : Nat × Nat × Nat × Nat × Nat × Nat} {i : Nat} (h : fOK q i = true) : fP q := by
  unfold fOK at h
  split at h
  · next C T N hc =>
    simp only [Bool.and_eq_true, decide_eq_true_eq] at h
    obtain ⟨⟨h1, h2⟩, h3⟩ := h
    refine ⟨C, T, N, hc, h1, ?_, fun h0 => ?_, fun h0 => ?_⟩
    · by_cases hk : q.2.2.2.2.1 = 0
      · rw [if_pos hk] at h2
        exact Or.inl ⟨hk, inTi_mem h2⟩
      · rw [if_neg hk] at h2
        exact Or.inr ⟨hk, inNi_mem h2⟩
    · rw [if_pos h0] at h3
      simpa using h3
    · rw [if_neg (by omega), if_pos h0] at h3
      simpa using h3
  · cases h
/-- what a method says -/
def mP (M : MI) : Prop := Cond.code (mName M) (mCode M) (mMax M) (mRet M) ∈ tw ∧ Cond.initialized (mName M).cls ∈ tw ∧ cn (mOwn M) = (mName M).cls ∧ (mName M).cls ≠ "java/lang/invoke/MethodHandle" ∧ (mName M).cls ≠ "java/lang/invoke/VarHandle" ∧ (parseMethodDescriptor (mName M).desc).map (fun d => d.parameters.length) = some (mArgs M) ∧ mMax M ≤ 40
def mOK (M : MI) (i j : Nat) : Bool := inTi i (.code (mName M) (mCode M) (mMax M) (mRet M)) && (inTi j (.initialized (mName M).cls) && (decide (cn (mOwn M) = (mName M).cls) && (decide ((mName M).cls ≠ "java/lang/invoke/MethodHandle") && (decide ((mName M).cls ≠ "java/lang/invoke/VarHandle")
  && (decide ((parseMethodDescriptor (mName M).desc).map (fun d => d.parameters.length) = some (mArgs M)) && decide (mMax M ≤ 40))))))
theorem mOK_P {M : MI} {i j : Nat} (h : mOK M i j = true) : mP M := by
  simp only [mOK, Bool.and_eq_true, decide_eq_true_eq] at h
  exact ⟨inTi_mem h.1, inTi_mem h.2.1, h.2.2⟩
def lP (q : Nat × Nat × Nat × MI) : Prop := mP q.2.2.2 ∧ (match q.2.2.1 with
  | 0 => Cond.methodLink (cn q.1) q.2.1 (mName q.2.2.2) ∈ tw ∧ Cond.instanceMethod (mName q.2.2.2) ∈ tw ∧ Cond.selects (mName q.2.2.2).cls (mName q.2.2.2) (mName q.2.2.2) ∈ tw ∧ (cls[mOwn q.2.2.2]?).map (fun r => r.1) = some (mName q.2.2.2).cls
  | 1 => Cond.methodLink (cn q.1) q.2.1 (mName q.2.2.2) ∈ tw ∧ Cond.static (mName q.2.2.2) ∈ tw
  | 2 => Cond.methodLinkNest (cn q.1) q.2.1 (mName q.2.2.2) "RoundWalks" ∈ nw ∧ Cond.instanceMethod (mName q.2.2.2) ∈ tw ∧ Cond.selects (mName q.2.2.2).cls (mName q.2.2.2) (mName q.2.2.2) ∈ tw ∧ (cls[mOwn q.2.2.2]?).map (fun r => r.1) = some (mName q.2.2.2).cls
  | 3 => Cond.methodLinkNest (cn q.1) q.2.1 (mName q.2.2.2) "RoundWalks" ∈ nw ∧ Cond.static (mName q.2.2.2) ∈ tw
  | _ => False)
def lOK (q : Nat × Nat × Nat × MI) (i : Nat × Nat × Nat × Nat × Nat) : Bool := mOK q.2.2.2 i.2.1 i.2.2.1 && (match q.2.2.1 with
  | 0 => inTi i.1 (.methodLink (cn q.1) q.2.1 (mName q.2.2.2)) && (inTi i.2.2.2.1 (.instanceMethod (mName q.2.2.2)) && (inTi i.2.2.2.2 (.selects (mName q.2.2.2).cls (mName q.2.2.2) (mName q.2.2.2)) && decide ((cls[mOwn q.2.2.2]?).map (fun r => r.1) = some (mName q.2.2.2).cls)))
  | 1 => inTi i.1 (.methodLink (cn q.1) q.2.1 (mName q.2.2.2)) && inTi i.2.2.2.1 (.static (mName q.2.2.2))
  | 2 => inNi i.1 (.methodLinkNest (cn q.1) q.2.1 (mName q.2.2.2) "RoundWalks") && (inTi i.2.2.2.1 (.instanceMethod (mName q.2.2.2)) && (inTi i.2.2.2.2 (.selects (mName q.2.2.2).cls (mName q.2.2.2) (mName q.2.2.2)) && decide ((cls[mOwn q.2.2.2]?).map (fun r => r.1) = some (mName q.2.2.2).cls)))
  | 3 => inNi i.1 (.methodLinkNest (cn q.1) q.2.1 (mName q.2.2.2) "RoundWalks") && inTi i.2.2.2.1 (.static (mName q.2.2.2))
  | _ => false)
theorem lOK_P {q : Nat × Nat × Nat × MI} {i : Nat × Nat × Nat × Nat × Nat} (h : lOK q i = true) : lP q := by
  simp only [lOK, Bool.and_eq_true] at h
  refine ⟨mOK_P h.1, ?_⟩
  have h2 := h.2
  split at h2
  · next e => simp only [Bool.and_eq_true, decide_eq_true_eq] at h2; exact ⟨inTi_mem h2.1, inTi_mem h2.2.1, inTi_mem h2.2.2.1, h2.2.2.2⟩
  · next e => simp only [Bool.and_eq_true] at h2; exact ⟨inTi_mem h2.1, inTi_mem h2.2⟩
  · next e => simp only [Bool.and_eq_true, decide_eq_true_eq] at h2; exact ⟨inNi_mem h2.1, inTi_mem h2.2.1, inTi_mem h2.2.2.1, h2.2.2.2⟩
  · next e => simp only [Bool.and_eq_true] at h2; exact ⟨inNi_mem h2.1, inTi_mem h2.2⟩
  · cases h2
theorem zip_all {α β : Type} {P : α → Prop} {f : α → β → Bool} (hP : ∀ a b, f a b = true → P a) : ∀ (as : List α) (bs : List β), as.length = bs.length → (as.zip bs).all (fun q => f q.1 q.2) = true → ∀ a ∈ as, P a
  | [], _, _, _, a, ha => by cases ha
  | x :: as, [], hl, _, _, _ => by cases hl
  | x :: as, y :: bs, hl, h, a, ha => by
    simp only [List.zip_cons_cons, List.all_cons, Bool.and_eq_true] at h
    rcases List.mem_cons.mp ha with rfl | ha
    · exact hP _ _ h.1
    · exact zip_all hP as bs (by simpa using hl) h.2 a ha
set_option maxRecDepth 100000 in
theorem flT_ok : ∀ q ∈ flT, fP q := zip_all (f := fOK) (fun _ _ h => fOK_P h) flT flH (by decide +kernel) (by decide +kernel)
set_option maxRecDepth 100000 in
theorem mlT_ok_0 : ∀ q ∈ mlT_0, lP q := zip_all (f := lOK) (fun _ _ h => lOK_P h) mlT_0 mlH_0 (by decide +kernel) (by decide +kernel)
set_option maxRecDepth 100000 in
theorem mlT_ok_1 : ∀ q ∈ mlT_1, lP q := zip_all (f := lOK) (fun _ _ h => lOK_P h) mlT_1 mlH_1 (by decide +kernel) (by decide +kernel)
set_option maxRecDepth 100000 in
theorem mlT_ok_2 : ∀ q ∈ mlT_2, lP q := zip_all (f := lOK) (fun _ _ h => lOK_P h) mlT_2 mlH_2 (by decide +kernel) (by decide +kernel)
set_option maxRecDepth 100000 in
theorem mlT_ok_3 : ∀ q ∈ mlT_3, lP q := zip_all (f := lOK) (fun _ _ h => lOK_P h) mlT_3 mlH_3 (by decide +kernel) (by decide +kernel)
set_option maxRecDepth 100000 in
theorem mlT_ok_4 : ∀ q ∈ mlT_4, lP q := zip_all (f := lOK) (fun _ _ h => lOK_P h) mlT_4 mlH_4 (by decide +kernel) (by decide +kernel)
set_option maxRecDepth 100000 in
theorem mlT_ok_5 : ∀ q ∈ mlT_5, lP q := zip_all (f := lOK) (fun _ _ h => lOK_P h) mlT_5 mlH_5 (by decide +kernel) (by decide +kernel)
set_option maxRecDepth 100000 in
theorem mlT_ok_6 : ∀ q ∈ mlT_6, lP q := zip_all (f := lOK) (fun _ _ h => lOK_P h) mlT_6 mlH_6 (by decide +kernel) (by decide +kernel)
set_option maxRecDepth 100000 in
theorem mlT_ok_7 : ∀ q ∈ mlT_7, lP q := zip_all (f := lOK) (fun _ _ h => lOK_P h) mlT_7 mlH_7 (by decide +kernel) (by decide +kernel)
set_option maxRecDepth 100000 in
theorem mlT_ok_8 : ∀ q ∈ mlT_8, lP q := zip_all (f := lOK) (fun _ _ h => lOK_P h) mlT_8 mlH_8 (by decide +kernel) (by decide +kernel)
set_option maxRecDepth 100000 in
theorem mlT_ok_9 : ∀ q ∈ mlT_9, lP q := zip_all (f := lOK) (fun _ _ h => lOK_P h) mlT_9 mlH_9 (by decide +kernel) (by decide +kernel)
set_option maxRecDepth 100000 in
theorem mlT_ok_10 : ∀ q ∈ mlT_10, lP q := zip_all (f := lOK) (fun _ _ h => lOK_P h) mlT_10 mlH_10 (by decide +kernel) (by decide +kernel)
set_option maxRecDepth 100000 in
theorem mlT_ok_11 : ∀ q ∈ mlT_11, lP q := zip_all (f := lOK) (fun _ _ h => lOK_P h) mlT_11 mlH_11 (by decide +kernel) (by decide +kernel)
set_option maxRecDepth 100000 in
theorem mlT_ok_12 : ∀ q ∈ mlT_12, lP q := zip_all (f := lOK) (fun _ _ h => lOK_P h) mlT_12 mlH_12 (by decide +kernel) (by decide +kernel)
theorem mlT_ok : ∀ q ∈ mlT, lP q := List.forall_mem_append.mpr ⟨mlT_ok_0, List.forall_mem_append.mpr ⟨mlT_ok_1, List.forall_mem_append.mpr ⟨mlT_ok_2, List.forall_mem_append.mpr ⟨mlT_ok_3, List.forall_mem_append.mpr ⟨mlT_ok_4, List.forall_mem_append.mpr ⟨mlT_ok_5, List.forall_mem_append.mpr ⟨mlT_ok_6, List.forall_mem_append.mpr ⟨mlT_ok_7, List.forall_mem_append.mpr ⟨mlT_ok_8, List.forall_mem_append.mpr ⟨mlT_ok_9, List.forall_mem_append.mpr ⟨mlT_ok_10, List.forall_mem_append.mpr ⟨mlT_ok_11, mlT_ok_12⟩⟩⟩⟩⟩⟩⟩⟩⟩⟩⟩⟩
set_option maxRecDepth 100000 in
theorem kiT_ok : kiT.all (fun q => inT (.constant (cn q.1) q.2.1 (Int32.ofInt q.2.2))) = true := by decide +kernel
set_option maxRecDepth 100000 in
theorem klT_ok : klT.all (fun q => inT (.constantLong (cn q.1) q.2.1 (Int64.ofInt q.2.2))) = true := by decide +kernel
theorem fl_spec {o i : Nat} {r : Nat × Nat × Nat × Nat} (h : fl o i = some r) : fP (o, i, r) := by
  unfold fl at h
  obtain ⟨q, hq, rfl⟩ := Option.map_eq_some_iff.mp h
  have h1 := List.find?_some hq
  have h2 := flT_ok q (List.mem_of_find?_eq_some hq)
  simp only [Bool.and_eq_true, beq_iff_eq] at h1
  obtain ⟨a, b, c⟩ := q
  simp only at h1
  obtain ⟨rfl, rfl⟩ := h1
  exact h2
theorem ml_spec {o i : Nat} {r : Nat × MI} (h : ml o i = some r) : lP (o, i, r) := by
  unfold ml at h
  obtain ⟨q, hq, rfl⟩ := Option.map_eq_some_iff.mp h
  have h1 := List.find?_some hq
  have h2 := mlT_ok q (List.mem_of_find?_eq_some hq)
  simp only [Bool.and_eq_true, beq_iff_eq] at h1
  obtain ⟨a, b, c⟩ := q
  simp only at h1
  obtain ⟨rfl, rfl⟩ := h1
  exact h2
theorem ki_spec {o i : Nat} {v : Int} (h : ki o i = some v) : Cond.constant (cn o) i (Int32.ofInt v) ∈ tw := by
  unfold ki at h
  obtain ⟨q, hq, rfl⟩ := Option.map_eq_some_iff.mp h
  have h1 := List.find?_some hq
  have h2 := List.all_eq_true.mp kiT_ok q (List.mem_of_find?_eq_some hq)
  simp only [Bool.and_eq_true, beq_iff_eq] at h1
  obtain ⟨a, b, c⟩ := q
  simp only at h1
  obtain ⟨rfl, rfl⟩ := h1
  exact inT_mem h2
theorem kl_spec {o i : Nat} {v : Int} (h : kl o i = some v) : Cond.constantLong (cn o) i (Int64.ofInt v) ∈ tw := by
  unfold kl at h
  obtain ⟨q, hq, rfl⟩ := Option.map_eq_some_iff.mp h
  have h1 := List.find?_some hq
  have h2 := List.all_eq_true.mp klT_ok q (List.mem_of_find?_eq_some hq)
  simp only [Bool.and_eq_true, beq_iff_eq] at h1
  obtain ⟨a, b, c⟩ := q
  simp only at h1
  obtain ⟨rfl, rfl⟩ := h1
  exact inT_mem h2
set_option maxRecDepth 100000 in
theorem wsX_in : ∀ q ∈ cls, (u_ws q.1 q.2.1 q.2.2).all inT = true := by decide +kernel
theorem cls_in {ci : Nat} {C : String} {T : u_T} {N : Nat} (h : cls[ci]? = some (C, T, N)) : ∀ w ∈ u_ws C T N, w ∈ tw := fun w hw => inT_mem (List.all_eq_true.mp (wsX_in _ (List.mem_of_getElem? h)) w hw)
theorem cls_ty : ∀ q ∈ cls, ∃ ty : Nat → FieldType, (∀ k, k < q.2.2 → parseFieldDescriptor (q.2.1 k).2.2.1 = some (ty k)) ∧ (∀ a, a < q.2.2 → ∀ b, b < q.2.2 → a ≠ b → (q.2.1 a).2.1 ≠ (q.2.1 b).2.1) := by
  intro q hq
  simp only [cls, List.mem_cons, List.not_mem_nil, or_false] at hq
  rcases hq with rfl | rfl | rfl | rfl | rfl | rfl | rfl | rfl | rfl | rfl | rfl | rfl

  · exact ⟨tyX0, tyX0_ok, nmX0⟩
  · exact ⟨tyX1, tyX1_ok, nmX1⟩
  · exact ⟨tyX2, tyX2_ok, nmX2⟩
  · exact ⟨tyX3, tyX3_ok, nmX3⟩
  · exact ⟨tyX4, tyX4_ok, nmX4⟩
  · exact ⟨tyX5, tyX5_ok, nmX5⟩
  · exact ⟨tyX6, tyX6_ok, nmX6⟩
  · exact ⟨tyX7, tyX7_ok, nmX7⟩
  · exact ⟨tyX8, tyX8_ok, nmX8⟩
  · exact ⟨tyX9, tyX9_ok, nmX9⟩
  · exact ⟨tyX10, tyX10_ok, nmX10⟩
  · exact ⟨tyX11, tyX11_ok, nmX11⟩
