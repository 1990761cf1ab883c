/-! arrays of arrays can be made: a word of the tables, whatever the arguments -/
def va_AOA (t : FieldType) (U : State) : Prop := ∃ a : Array Value, (Cond.arrayOver (.array t)).before a U = true
theorem va_AOA.of {t : FieldType} {U : State} {args : Array Value} (h : (Cond.arrayOver (.array t)).before args U = true) : va_AOA t U := ⟨args, h⟩
theorem va_AOA.use {t : FieldType} {U : State} {args : Array Value} (h : va_AOA t U) : (Cond.arrayOver (.array t)).before args U = true := by
  obtain ⟨a, h⟩ := h
  exact h
/-- what that word says: both classes, and how they hang together -/
theorem mg_over {t : FieldType} {U : State} (h : va_AOA t U) : ∃ (cy cA : ClassId) (kA : Class), U.vm.findClass (FieldType.array t).toString = some cy ∧ U.vm.classes[cA]? = some kA ∧ kA.kind = .array cy (.array t) ∧ U.vm.findClass ("[" ++ (FieldType.array t).toString) = some cA := by
  obtain ⟨a, h⟩ := h
  simp only [Cond.before, Cond.holds, Cond.value, beq_iff_eq, Option.bind_eq_some_iff, Option.map_eq_some_iff] at h
  obtain ⟨cy, h1, cA, h2, kA, h3, h4⟩ := h
  have h5 := (Array.findIdx?_eq_some_iff_getElem.mp h2).2.1
  rw [(Array.getElem?_eq_some_iff.mp h3).2] at h5
  refine ⟨cy, cA, kA, h1, h3, ?_, ?_⟩ <;> rcases hq : kA.kind with _ | _ | _ <;> rw [hq] at h4 h5 <;> simp at h4 h5 <;> simp [h4, h5]
/-! new T[n][m] over the machine's own words: a text of mine, over the narrow library alone.
x goes from S to S2 and answers v, whatever has been noted of it by then -/
def mg_go {α : Type} (e : Env) (x : Sem α) (S : State) (v : α) (S2 : State) : Prop :=
  ∀ (E : CtlPost) (d : Bool) (acts : List Action) (Q : α → Pre), (∀ (d2 : Bool) (acts2 : List Action), Q v d2 acts2 S2) → wp x Q E e d acts S
theorem mg_pure {α : Type} {e : Env} {S : State} (v : α) : mg_go e (Pure.pure v : Sem α) S v S := fun _ _ _ _ hq => by
  rw [wp_pure']
  exact hq _ _
theorem mg_bind {α β : Type} {e : Env} {x : Sem α} {f : α → Sem β} {S S1 S2 : State} {v : α} {w : β} (h1 : mg_go e x S v S1) (h2 : mg_go e (f v) S1 w S2) : mg_go e (x >>= f) S w S2 := fun E d acts Q hq => by
  rw [wp_bind']
  exact h1 _ _ _ _ (fun d2 acts2 => h2 E d2 acts2 Q hq)
/-- one array of equal values -/
theorem mg_arr {e : Env} {S : State} {cI cJ : ClassId} {kI : Class} {ty : FieldType} {N : Nat} {v : Value} (hk : S.vm.classes[cI]? = some kI) (hkk : kI.kind = .array cJ ty) (hN : N ≤ e.platform.arrayLengthLimit) (hB : N * componentBytes ty ≤ e.platform.maxHeapBytes)
    (hf : fits ty v = true) (h1 : S.heap.size + 1 ≤ e.platform.maxCells) (h2 : S.slotsUsed + N ≤ e.platform.maxSlots) : mg_go e (Jvm.newArray cI N v) S S.heap.size (S.pushCell (arrV cI N (fun _ => v))) := by
  intro E d acts Q hq
  have hfit : ∀ i w, (Array.replicate N v)[i]? = some w → S.fitsSlot cI .none i w = true := fun i w hw => by
    rw [Array.getElem?_replicate] at hw
    split at hw
    · cases hw
      simp [State.fitsSlot, State.slotType?, hk, hkk, hf]
    · cases hw
  have n1 : ¬ e.platform.arrayLengthLimit < N := Nat.not_lt.mpr hN
  have n2 : ¬ e.platform.maxHeapBytes < N * componentBytes ty := Nat.not_lt.mpr hB
  have n3 : ¬ e.platform.maxSlots < N := by omega
  have hq2 := fun d2 acts2 => hq d2 acts2
  rw [← arrV_new] at hq2
  simp only [Jvm.newArray, Jvm.arrayFits, wp_bind', W.ask, W.ite, gt_iff_lt, n1, n2, n3, if_false, wp_pure', W.theClass, hk, hkk, W.alloc, Option.some.injEq, exists_eq_left', Array.size_replicate]
  exact ⟨h1, h2, hfit, hq2 _ _⟩
/-- a row: the last count -/
theorem mg_row {e : Env} {S : State} {cI cJ : ClassId} {kI : Class} {ty : FieldType} {k : Int32} (hk : S.vm.classes[cI]? = some kI) (hkk : kI.kind = .array cJ ty) (h0 : ¬ k < 0) (hN : k.toNatClampNeg ≤ e.platform.arrayLengthLimit) (hB : k.toNatClampNeg * componentBytes ty ≤ e.platform.maxHeapBytes)
    (hf : fits ty (defaultValue ty) = true) (h1 : S.heap.size + 1 ≤ e.platform.maxCells) (h2 : S.slotsUsed + k.toNatClampNeg ≤ e.platform.maxSlots) : mg_go e (multianewarray.make cI [k]) S S.heap.size (S.pushCell (arrV cI k.toNatClampNeg (fun _ => defaultValue ty))) := by
  intro E d acts Q hq
  rw [multianewarray.make]
  simp only [wp_bind', W.ite, h0, if_false, wp_pure', W.theClass, hk, hkk, Option.some.injEq, exists_eq_left']
  exact mg_arr hk hkk hN hB hf h1 h2 E d acts Q hq
/-- a reference into an array of references -/
theorem mg_put {e : Env} {S : State} {a b i N : Nat} {cI cJ : ClassId} {kI : Class} {ty : FieldType} {f : Nat → Value} (hc : S.heap[a]? = some (arrV cI N f)) (hi : i < N) (hk : S.vm.classes[cI]? = some kI) (hkk : kI.kind = .array cJ (.array ty)) :
    mg_go e (Jvm.writeLoc a i (.ref b)) S () (S.setCell a (arrV cI N (updV f i (.ref b)))) := by
  intro E d acts Q hq
  rw [W.writeLoc]
  refine ⟨arrV cI N f, hc, (fun h => by cases h), (by simpa [arrV] using hi), ?_, ?_⟩
  · simp [arrV, State.fitsSlot, State.slotType?, hk, hkk, fits]
  · rw [arrV_store]
    exact hq _ _
section MGG
variable {p : Program} {l : Launch} {e : Env} {R : Room} {s : State} {m : MethodId} {args : Array Value} {below : List Frame} {meth : Method} {c : Code} {locs : List Loc} {cells slots : Nat}
/-- i rows stand behind the outer array, which lies at the end of H -/
def mg_G (p : Program) (l : Launch) (e : Env) (R : Room) (s : State) (m : MethodId) (args : Array Value) (below : List Frame) (meth : Method) (c : Code) (locs : List Loc) (cells slots : Nat) (H : Heap) (vm1 : Vm) (cA cy : ClassId) (N K : Nat) (dv : Value) (i : Nat) (U : State) : Prop :=
  Stand p l e R s m args below meth c U locs (cells + 1 + i) (slots + N + i * K) ∧ U.vm = vm1 ∧ U.heap.size = H.size + 1 + i ∧ (∀ x : Nat, x < H.size → U.heap[x]? = H[x]?) ∧
    U.heap[H.size]? = some (arrV cA N (fun j => va_rf (if j < i then some (H.size + 1 + j) else none))) ∧ ∀ j : Nat, j < i → U.heap[H.size + 1 + j]? = some (arrV cy K (fun _ => dv))
variable {H : Heap} {vm1 : Vm} {cA cy cJ : ClassId} {kA kC : Class} {N K i : Nat} {ty : FieldType} {U : State} {fr : JFrame}
/-- one turn of the loop -/
theorem mg_turn {k : Int32} (hG : mg_G p l e R s m args below meth c locs cells slots H vm1 cA cy N k.toNatClampNeg (defaultValue ty) i U) (hi : i < N) (hs : s.heap.size ≤ H.size) (hkA : vm1.classes[cA]? = some kA) (hkkA : kA.kind = .array cy (.array ty)) (hkC : vm1.classes[cy]? = some kC) (hkkC : kC.kind = .array cJ ty)
    (h0 : ¬ k < 0) (hN : k.toNatClampNeg ≤ e.platform.arrayLengthLimit) (hB : k.toNatClampNeg * componentBytes ty ≤ e.platform.maxHeapBytes) (hf : fits ty (defaultValue ty) = true) (hcells : cells + (1 + N) ≤ R.cells) (hslots : slots + (N + N * k.toNatClampNeg) ≤ R.slots) :
    ∃ U2, mg_G p l e R s m args below meth c locs cells slots H vm1 cA cy N k.toNatClampNeg (defaultValue ty) (i + 1) U2 ∧ mg_go e (multianewarray.make cy [k]) (U.setTop fr) (H.size + 1 + i) ((U.pushCell (arrV cy k.toNatClampNeg (fun _ => defaultValue ty))).setTop fr) ∧
      mg_go e (Jvm.writeLoc H.size i (.ref (H.size + 1 + i))) ((U.pushCell (arrV cy k.toNatClampNeg (fun _ => defaultValue ty))).setTop fr) () (U2.setTop fr) := by
  obtain ⟨X, hv, hz, hold, hout, hrow⟩ := hG
  have hm : i * k.toNatClampNeg + k.toNatClampNeg ≤ N * k.toNatClampNeg := by
    have := Nat.mul_le_mul_right k.toNatClampNeg (Nat.succ_le_of_lt hi)
    rwa [Nat.succ_mul] at this
  obtain ⟨r1, r2⟩ := X.roomAbove (a := 1) (b := k.toNatClampNeg) (by omega) (by omega)
  generalize hD : arrV cy k.toNatClampNeg (fun _ => defaultValue ty) = D
  have hDs : D.slots.size = k.toNatClampNeg := by rw [← hD]; simp [arrV]
  have hnew : ∀ x : Nat, x < U.heap.size → (U.pushCell D).heap[x]? = U.heap[x]? := fun x hx => State.heap_pushCell_of_lt _ _ hx
  have hout1 : (U.pushCell D).heap[H.size]? = some (arrV cA N (fun j => va_rf (if j < i then some (H.size + 1 + j) else none))) := (hnew _ (by omega)).trans hout
  have X1 := (X.pushed D).stored hout1 i (.ref (H.size + 1 + i))
  have X2 := X1.dropFresh (fun x hx => by
    cases List.mem_singleton.mp hx
    exact hs)
  rw [arrV_store] at X2
  have hup : updV (fun j => va_rf (if j < i then some (H.size + 1 + j) else none)) i (.ref (H.size + 1 + i)) = fun j => va_rf (if j < i + 1 then some (H.size + 1 + j) else none) := by
    funext j
    by_cases e1 : j = i
    · subst e1
      simp [updV, va_rf]
    · by_cases e2 : j < i
      · simp [updV, e1, e2, Nat.lt_succ_of_lt e2]
      · simp [updV, e1, e2, show ¬ j < i + 1 by omega]
  rw [hup] at X2
  refine ⟨(U.pushCell D).setCell H.size (arrV cA N (fun j => va_rf (if j < i + 1 then some (H.size + 1 + j) else none))), ⟨?_, hv, ?_, fun x hx => ?_, ?_, fun j hj => ?_⟩, ?_, ?_⟩
  · have e3 : slots + N + (i + 1) * k.toNatClampNeg = slots + N + i * k.toNatClampNeg + D.slots.size := by
      rw [hDs, Nat.succ_mul]
      omega
    rw [e3]
    exact X2
  · simp [State.setCell, hz]
    omega
  · rw [State.heap_setCell_other (show H.size ≠ x by omega), hnew x (by omega)]
    exact hold x hx
  · exact State.heap_setCell_self hout1
  · rw [State.heap_setCell_other (show H.size ≠ H.size + 1 + j by omega)]
    by_cases e1 : j = i
    · subst e1
      rw [← hz, State.heap_pushCell_size, hD]
    · rw [hnew _ (by omega)]
      exact hrow j (by omega)
  · have := mg_row (e := e) (S := U.setTop fr) (cI := cy) (kI := kC) (cJ := cJ) (ty := ty) (k := k) (by show U.vm.classes[cy]? = _; rw [hv]; exact hkC) hkkC h0 hN hB hf r1 r2
    rw [hD, State.pushCell_setTop, State.heap_setTop, hz] at this
    exact this
  · have := mg_put (e := e) (S := (U.pushCell D).setTop fr) (a := H.size) (b := H.size + 1 + i) (i := i) (kI := kA) (ty := ty) hout1 hi (by show U.vm.classes[cA]? = _; rw [hv]; exact hkA) hkkA
    rw [hup, State.setCell_setTop] at this
    exact this
/-- the loop, whatever its body, if the body takes such turns -/
theorem mg_loop {B : Nat → PUnit → Sem (ForInStep PUnit)} {G : Nat → State → Prop} (hB : ∀ (i : Nat) (U : State), i < N → G i U → ∃ U2, G (i + 1) U2 ∧ mg_go e (B i PUnit.unit) (U.setTop fr) (.yield PUnit.unit) (U2.setTop fr)) :
    ∀ (r i : Nat) (U : State), i + r = N → G i U → ∃ U2, G N U2 ∧ mg_go e (forIn (List.range' i r 1) PUnit.unit B) (U.setTop fr) PUnit.unit (U2.setTop fr)
  | 0, i, U, hr, hG => by
    cases hr
    exact ⟨U, hG, mg_pure _⟩
  | r + 1, i, U, hr, hG => by
    obtain ⟨U1, hG1, h1⟩ := hB i U (by omega) hG
    obtain ⟨U2, hG2, h2⟩ := mg_loop hB r (i + 1) U1 (by omega) hG1
    refine ⟨U2, hG2, ?_⟩
    rw [List.range'_succ, List.forIn_cons]
    exact mg_bind h1 h2
/-- both counts -/
theorem mg_both {k n : Int32} {T : State} (X : Stand p l e R s m args below meth c T locs cells slots) (hT : T.heap = H) (hv : T.vm = vm1) (hkA : vm1.classes[cA]? = some kA) (hkkA : kA.kind = .array cy (.array ty)) (hkC : vm1.classes[cy]? = some kC) (hkkC : kC.kind = .array cJ ty)
    (hn : ¬ n < 0) (h0 : ¬ k < 0) (hN1 : n.toNatClampNeg ≤ e.platform.arrayLengthLimit) (hB1 : n.toNatClampNeg * 4 ≤ e.platform.maxHeapBytes) (hN : k.toNatClampNeg ≤ e.platform.arrayLengthLimit) (hB : k.toNatClampNeg * componentBytes ty ≤ e.platform.maxHeapBytes) (hf : fits ty (defaultValue ty) = true)
    (hcells : cells + (1 + n.toNatClampNeg) ≤ R.cells) (hslots : slots + (n.toNatClampNeg + n.toNatClampNeg * k.toNatClampNeg) ≤ R.slots) :
    ∃ U, mg_G p l e R s m args below meth c locs cells slots H vm1 cA cy n.toNatClampNeg k.toNatClampNeg (defaultValue ty) n.toNatClampNeg U ∧ mg_go e (multianewarray.make cA [n, k]) (T.setTop fr) H.size (U.setTop fr) := by
  have hs : s.heap.size ≤ H.size := by rw [← hT]; exact X.heapGrown
  obtain ⟨r1, r2⟩ := X.roomAbove (a := 1) (b := n.toNatClampNeg) (by omega) (by omega)
  have hG0 : mg_G p l e R s m args below meth c locs cells slots H vm1 cA cy n.toNatClampNeg k.toNatClampNeg (defaultValue ty) 0 (T.pushCell (arrV cA n.toNatClampNeg (fun _ => .null))) := by
    have X1 := X.pushed (arrV cA n.toNatClampNeg (fun _ => .null))
    have e1 : (arrV cA n.toNatClampNeg (fun _ => Value.null)).slots.size = n.toNatClampNeg := by simp [arrV]
    rw [e1] at X1
    refine ⟨by simpa using X1, hv, by simp [hT], fun x hx => ?_, ?_, fun j hj => absurd hj (Nat.not_lt_zero _)⟩
    · rw [State.heap_pushCell_of_lt _ _ (by rw [hT]; exact hx), hT]
    · rw [← hT, State.heap_pushCell_size]
      simp [va_rf]
  have hnew := mg_arr (e := e) (S := T.setTop fr) (cI := cA) (kI := kA) (cJ := cy) (ty := .array ty) (N := n.toNatClampNeg) (v := .null) (by show T.vm.classes[cA]? = _; rw [hv]; exact hkA) hkkA hN1 hB1 rfl r1 r2
  rw [State.pushCell_setTop, State.heap_setTop, hT] at hnew
  obtain ⟨U, hU, hl⟩ := mg_loop (e := e) (fr := fr) (N := n.toNatClampNeg) (B := fun i _ => do let b ← multianewarray.make cy [k]; Jvm.writeLoc H.size i (.ref b); Pure.pure (ForInStep.yield PUnit.unit)) (G := mg_G p l e R s m args below meth c locs cells slots H vm1 cA cy n.toNatClampNeg k.toNatClampNeg (defaultValue ty)) (fun i U hi hG => by
    obtain ⟨U2, g2, a1, a2⟩ := mg_turn (fr := fr) hG hi hs hkA hkkA hkC hkkC h0 hN hB hf hcells hslots
    exact ⟨U2, g2, mg_bind a1 (mg_bind a2 (mg_pure _))⟩) n.toNatClampNeg 0 _ (by omega) hG0
  refine ⟨U, hU, ?_⟩
  intro E d acts Q hq
  have hkA2 : (T.setTop fr).vm.classes[cA]? = some kA := by
    show T.vm.classes[cA]? = _
    rw [hv]
    exact hkA
  have hfind : ([k].find? (· < 0)) = none := by simp [h0]
  rw [multianewarray.make]
  simp only [wp_bind', W.ite, hn, if_false, wp_pure', W.theClass, hkA2, hkkA, Option.some.injEq, exists_eq_left']
  refine hnew _ _ _ _ (fun d2 acts2 => ?_)
  simp only [hfind, ite_self, wp_bind', wp_pure']
  rw [Std.Legacy.Range.forIn_eq_forIn_range']
  have hz : ([:n.toNatClampNeg] : Std.Legacy.Range).size = n.toNatClampNeg := by simp [Std.Legacy.Range.size]
  rw [hz]
  exact hl _ _ _ _ (fun d3 acts3 => hq _ _)
/-- the entry is looked up -/
theorem mg_res {T : State} {g : JFrame} {index : Nat} (ht : T.topJava?.isSome) (hr : (Jvm.resolveClass g.method.cls index).Gives e.toSetting T.vm (.ok cA) vm1) (hz : vm1.classes.size ≤ T.vm.classes.size) : mg_go e (Jvm.resolveClassAt index) (T.setTop g) cA ((T.setVm vm1).setTop g) := fun _ _ _ _ hq =>
  (W.resolveClassAt_links (State.method?_setTop g ht) hr hz).mpr (hq _ _)
/-- one value comes off the stack -/
theorem mg_off {T : State} {g : JFrame} {v : Value} {rest : List Value} (ht : T.topJava?.isSome) (hg : g.stack = v :: rest) : mg_go e Jvm.pop (T.setTop g) v (T.setTop { g with stack := rest }) := fun _ _ _ _ hq => by
  rw [W.pop]
  refine ⟨g, State.topJava?_setTop' g ht, v, rest, hg, ?_⟩
  rw [State.setTop_setTop]
  exact hq _ _
/-- both counts come off it -/
theorem mg_counts {T : State} {g : JFrame} {n k : Int32} {rest : List Value} (ht : T.topJava?.isSome) (hg : g.stack = .int k :: .int n :: rest) : mg_go e (Jvm.popN 2) (T.setTop g) [.int n, .int k] (T.setTop { g with stack := rest }) :=
  mg_bind (mg_off ht hg) (mg_bind (mg_bind (mg_off (g := { g with stack := .int n :: rest }) ht rfl) (mg_bind (mg_pure _) (mg_pure _))) (mg_pure _))
/-- the array comes on it -/
theorem mg_on {T : State} {g : JFrame} {a : Nat} (ht : T.topJava?.isSome) : mg_go e (Jvm.pushRef a) (T.setTop g) () (T.setTop { g with stack := .ref a :: g.stack }) := fun _ _ _ _ hq => by
  rw [W.pushRef]
  refine ⟨g, State.topJava?_setTop' g ht, ?_⟩
  rw [State.setTop_setTop]
  exact hq _ _
/-- all of it, one behind the other -/
theorem mg_sem {T U : State} {g : JFrame} {index a : Nat} {n k : Int32} {rest : List Value} (ht : T.topJava?.isSome) (hu : U.topJava?.isSome) (hr : (Jvm.resolveClass g.method.cls index).Gives e.toSetting T.vm (.ok cA) vm1) (hz : vm1.classes.size ≤ T.vm.classes.size) (hg : g.stack = .int k :: .int n :: rest)
    (go : mg_go e (multianewarray.make cA [n, k]) ((T.setVm vm1).setTop { g with stack := rest }) a (U.setTop { g with stack := rest })) : mg_go e (multianewarray.sem index 2) (T.setTop g) () (U.setTop { g with stack := .ref a :: rest }) := by
  unfold multianewarray.sem
  refine mg_bind (mg_res ht hr hz) (mg_bind (mg_counts (T := T.setVm vm1) ht hg) (mg_bind (v := [n, k]) ?_ (mg_bind go (mg_bind (v := ()) (fun _ _ _ _ hq => ?_) (mg_on (g := { g with stack := rest }) hu)))))
  · simp only [List.mapM_cons, List.mapM_nil]
    exact mg_bind (mg_pure _) (mg_bind (mg_bind (mg_pure _) (mg_bind (mg_pure _) (mg_pure _))) (mg_pure _))
  · rw [W.mark]
    exact hq _ _
/-- the instruction -/
theorem mg_multi {T : State} (X : Stand p l e R s m args below meth c T locs cells slots) (hexec : p.tables.exec = Jvm.exec) {own : String} {index : Nat} (hown : s.vm.findClass own = some m.cls) (hclink : (Cond.classLink own index ("[" ++ (FieldType.array ty).toString)).before args s = true) (hover : va_AOA ty s) (harr : (Cond.arrayClass ty).before args s = true)
    {g : JFrame} (hg : g.method = m) (hdg : decode c.code g.pc = .ok (.multianewarray index 2, 4)) {n k : Int32} {rest : List Value} (hstack : g.stack = .int k :: .int n :: rest) (hn : ¬ n < 0) (h0 : ¬ k < 0) (hb1 : n.toNatClampNeg * 4 ≤ 536870912) (hb2 : k.toNatClampNeg * componentBytes ty ≤ 536870912) (hb3 : k.toNatClampNeg ≤ 536870912)
    (hf : fits ty (defaultValue ty) = true) (hcells : cells + (1 + n.toNatClampNeg) ≤ R.cells) (hslots : slots + (n.toNatClampNeg + n.toNatClampNeg * k.toNatClampNeg) ≤ R.slots) :
    ∃ (vm1 : Vm) (cA cy : ClassId) (U : State), s.vm.findClass ("[" ++ (FieldType.array ty).toString) = some cA ∧ s.vm.findClass (FieldType.array ty).toString = some cy ∧ ArrOfT s cA (.array ty) ∧ mg_G p l e R s m args below meth c locs cells slots T.heap vm1 cA cy n.toNatClampNeg k.toNatClampNeg (defaultValue ty) n.toNatClampNeg U ∧
      ∀ target, Steps p.tables e below (U.setTop { g with pc := g.pc + 4, stack := .ref T.heap.size :: rest }) target → Steps p.tables e below (T.setTop g) target := by
  subst hg
  obtain ⟨cy, cA, kA, f1, f2, f3, f4⟩ := mg_over hover
  obtain ⟨cz, kC, cJ, g1, g2, g3⟩ := Cond.arrayClass_spec harr
  cases Option.some.inj (g1.symm.trans f1)
  obtain ⟨cB, q1, q2⟩ := Cond.classLink_spec hown hclink e.platform (by rw [X.admits.platform])
  cases Option.some.inj (q1.symm.trans f4)
  obtain ⟨w1, w2, -⟩ := State.classEntry (e := e) X.warmed q2
  generalize T.vm.noted g.method.cls index (.cls cA) = vm1 at w1 w2
  obtain ⟨kA1, hkA1, eA⟩ := w2.alike.2.2 _ _ f2
  obtain ⟨kC1, hkC1, eC⟩ := w2.alike.2.2 _ _ g2
  have lim := Launch.admits_arrayLengthLimit X.admits
  have byt := Launch.admits_maxHeapBytes X.admits
  obtain ⟨U, hU, go⟩ := mg_both (fr := { g with stack := rest }) (H := T.heap) (vm1 := vm1) (cA := cA) (cy := cy) (kA := kA1) (kC := kC1) (cJ := cJ) (ty := ty) (n := n) (k := k) (X.noted w2) rfl rfl hkA1 (by rw [eA]; exact f3) hkC1 (by rw [eC]; exact g3) hn h0 (by rw [lim]; omega) (by rw [byt]; exact hb1) (by rw [lim]; omega) (by rw [byt]; exact hb2) hf hcells hslots
  refine ⟨vm1, cA, cy, U, f4, f1, fun N9 z9 => ⟨fun q hq => by (cases hq), kA, f2, cy, f3⟩, hU, fun target hrest => ?_⟩
  have ht := hU.1.here.top
  have hz : vm1.classes.size ≤ T.vm.classes.size := by
    have h1 := w2.alike.2.1
    have h2 := X.warmed.alike.2.1
    omega
  jvm_step X.here [hexec, hdg]
  refine mg_sem X.here.top ht w1 hz hstack go _ _ _ _ (fun d2 acts2 => ?_)
  simp [jvm, ht]
  exact hrest
end MGG
