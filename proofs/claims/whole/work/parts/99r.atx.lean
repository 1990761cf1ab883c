/-! THE MACHINE ONCE MORE: any room, any end, a script beside the places -/
abbrev BT : Type := Program → Launch → Env → Room → State → MethodId → Array Value → List Frame → Method → Code → GW → (Nat → Prop) → Nat → Nat → Prop
abbrev ZT : Type := Launch → State → Array Value → List Frame → GW → (Nat → Prop) → State → Prop
def RM (R : Room) (d cells slots : Nat) : Prop := d ≤ R.frames ∧ 64 * d ≤ R.locals ∧ cells ≤ R.cells ∧ slots ≤ R.slots
def AtX (B : BT) (Z : ZT) (M : MI) (d : Nat) (pc : Nat) (ls : LV) (st : List Value) (h : Hp) : Prop :=
  ∀ (p : Program) (l : Launch) (e : Env) (s : State) (m : MethodId) (args : Array Value) (below : List Frame) (meth : Method) (c : Code) (G : GW) (A : Nat → Prop) (H : Heap) (locs : List Loc) (sl : Array Slot),
    Cx M p s m args meth c → KW G A s → HW G A h H → va_S A s.heap H locs → (∀ q, s.heap.size ≤ q → A q) → LH G.2.1 sl (mMax M) ls → ∀ (R : Room) (cells slots : Nat), RM R d cells slots → B p l e R s m args below meth c G A cells slots →
    W p l e R s m args below meth c H locs cells slots (Z l s args below G A) (F0 m pc sl (st.map (cV G.2.1)))
abbrev SCT : Type := Nat × (Nat → Int32)
def ab_iaX (S : SCT) (K : KT) (pc : Nat) (ls : LV) (st : List Value) (h : Hp) : Prop := match st with
  | .int i :: .ref a :: r => if a = 150 then S.1 < 4000 ∧ vp_in i S.1 ∧ K (pc + 1) ls (.int (S.2 i.toNatClampNeg) :: r) h else ab_iald 0 K pc ls (.int i :: .ref a :: r) h
  | _ => False
def ab_alX (S : SCT) (K : KT) (pc : Nat) (ls : LV) (st : List Value) (h : Hp) : Prop := match st with
  | .ref a :: r => a = 150 ∧ S.1 < 4000 ∧ K (pc + 1) ls (.int (Int32.ofNat S.1) :: r) h
  | _ => False
def ab_inX (M : MI) (d idx : Nat) (K : KT) (pc : Nat) (ls : LV) (st : List Value) (h : Hp) : Prop := match ml (mOwn M) idx with
  | some (kd, M') => match popN (mArgs M') [] st with
    | some (as, r) => (kd = 1 ∨ kd = 3) ∧ catS r ≤ 8 ∧ Call d M' as h (kC K (pc + 3) ls r)
    | none => False
  | none => False
/-- the script is there -/
def ScO (S : SCT) (G : GW) (A : Nat → Prop) (s : State) : Prop := va_X (G.2.1 150) S.1 S.2 s s.heap ∧ G.2.1 150 < s.heap.size ∧ ¬ A (G.2.1 150) ∧ G.1 ≤ 150
def exX (S : SCT) (M : MI) (d : Nat) (K : KT) (pc : Nat) (ls : LV) (st : List Value) (h : Hp) (i : Instr) (len : Nat) : Prop := match i with
  | .iconst n => len = 1 ∧ K (pc + 1) ls (.int (Int32.ofInt n) :: st) h
  | .bipush n => len = 2 ∧ -128 ≤ n ∧ n < 128 ∧ K (pc + 2) ls (.int (Int32.ofInt n) :: st) h
  | .sipush n => len = 3 ∧ -32768 ≤ n ∧ n < 32768 ∧ K (pc + 3) ls (.int (Int32.ofInt n) :: st) h
  | .lconst n => len = 1 ∧ K (pc + 1) ls (.long (Int64.ofInt (n : Nat)) :: st) h
  | .ldc k => len = 2 ∧ ab_ki M k 2 K pc ls st h
  | .ldc_w k => len = 3 ∧ ab_ki M k 3 K pc ls st h
  | .ldc2_w k => len = 3 ∧ ab_kl M k K pc ls st h
  | .iload_n n => len = 1 ∧ ab_ld isI n 1 K pc ls st h
  | .iload n => len = 2 ∧ ab_ld isI n 2 K pc ls st h
  | .lload_n n => len = 1 ∧ ab_ld isL n 1 K pc ls st h
  | .lload n => len = 2 ∧ ab_ld isL n 2 K pc ls st h
  | .aload_n n => len = 1 ∧ ab_ld isR n 1 K pc ls st h
  | .aload n => len = 2 ∧ ab_ld isR n 2 K pc ls st h
  | .istore_n n => len = 1 ∧ ab_sti (mMax M) n 1 K pc ls st h
  | .istore n => len = 2 ∧ ab_sti (mMax M) n 2 K pc ls st h
  | .lstore_n n => len = 1 ∧ ab_stl (mMax M) n 1 K pc ls st h
  | .lstore n => len = 2 ∧ ab_stl (mMax M) n 2 K pc ls st h
  | .iinc n k => len = 3 ∧ ab_inc (mMax M) n k K pc ls st h
  | .iadd => len = 1 ∧ ab_b2 (fun x y => x + y) K pc ls st h
  | .isub => len = 1 ∧ ab_b2 (fun x y => x - y) K pc ls st h
  | .imul => len = 1 ∧ ab_b2 (fun x y => x * y) K pc ls st h
  | .idiv => len = 1 ∧ ab_q2 (fun x y => x / y) K pc ls st h
  | .irem => len = 1 ∧ ab_q2 (fun x y => x - x / y * y) K pc ls st h
  | .iand => len = 1 ∧ ab_b2 (fun x y => x &&& y) K pc ls st h
  | .ior => len = 1 ∧ ab_b2 (fun x y => x ||| y) K pc ls st h
  | .ixor => len = 1 ∧ ab_b2 (fun x y => x ^^^ y) K pc ls st h
  | .ishl => len = 1 ∧ ab_b2 (fun x y => x <<< (y &&& 31)) K pc ls st h
  | .ishr => len = 1 ∧ ab_b2 (fun x y => x >>> (y &&& 31)) K pc ls st h
  | .iushr => len = 1 ∧ ab_b2 (fun x y => (x.toUInt32 >>> (y.toUInt32 &&& Int32.toUInt32 31)).toInt32) K pc ls st h
  | .ineg => len = 1 ∧ ab_neg K pc ls st h
  | .ladd => len = 1 ∧ ab_l2 (fun x y => x + y) K pc ls st h
  | .lsub => len = 1 ∧ ab_l2 (fun x y => x - y) K pc ls st h
  | .lmul => len = 1 ∧ ab_l2 (fun x y => x * y) K pc ls st h
  | .ldiv => len = 1 ∧ ab_p2 (fun x y => x / y) K pc ls st h
  | .lrem => len = 1 ∧ ab_p2 (fun x y => x - x / y * y) K pc ls st h
  | .land => len = 1 ∧ ab_l2 (fun x y => x &&& y) K pc ls st h
  | .lor => len = 1 ∧ ab_l2 (fun x y => x ||| y) K pc ls st h
  | .lshl => len = 1 ∧ ab_lshl K pc ls st h
  | .lcmp => len = 1 ∧ ab_lcmp K pc ls st h
  | .i2l => len = 1 ∧ ab_i2l K pc ls st h
  | .dup => len = 1 ∧ ab_dup K pc ls st h
  | .dup2 => len = 1 ∧ ab_dup2 K pc ls st h
  | .pop => len = 1 ∧ ab_pop K pc ls st h
  | .pop2 => len = 1 ∧ ab_pop2 K pc ls st h
  | .goto off => len = 3 ∧ ab_goto off K pc ls st h
  | .if_icmp cd off => len = 3 ∧ ab_icmp cd off K pc ls st h
  | .ifCond cd off => len = 3 ∧ ab_if cd off K pc ls st h
  | .tableswitch dflt lo hi offs => ab_table dflt lo hi offs K pc ls st h
  | .getfield k => len = 3 ∧ ab_get M k K pc ls st h
  | .putfield k => len = 3 ∧ ab_put M k K pc ls st h
  | .iaload => len = 1 ∧ ab_iaX S K pc ls st h
  | .arraylength => len = 1 ∧ ab_alX S K pc ls st h
  | .iastore => len = 1 ∧ ab_iast 0 K pc ls st h
  | .baload => len = 1 ∧ ab_iald 2 K pc ls st h
  | .bastore => len = 1 ∧ ab_iast 2 K pc ls st h
  | .laload => len = 1 ∧ ab_lald K pc ls st h
  | .lastore => len = 1 ∧ ab_last K pc ls st h
  | .aaload => len = 1 ∧ ab_aald K pc ls st h
  | .invokevirtual k => len = 3 ∧ ab_inv M d k K pc ls st h
  | .invokestatic k => len = 3 ∧ ab_inX M d k K pc ls st h
  | _ => False
def blX (S : SCT) (B : BT) (Z : ZT) (M : MI) (d : Nat) (cuts : List Nat) : Nat → KT
  | 0 => fun _ _ _ _ => False
  | n + 1 => fun pc ls st h => match decode (mCode M) pc with
    | .ok (i, len) => exX S M d (fun pc' ls' st' h' => if cuts.contains pc' = true then AtX B Z M (d + 1) pc' ls' st' h' else blX S B Z M d cuts n pc' ls' st' h') pc ls st h i len
    | .error _ => False
def nxX (S : SCT) (B : BT) (Z : ZT) (M : MI) (d : Nat) (cuts : List Nat) (n : Nat) : KT := fun pc' ls' st' h' => if cuts.contains pc' = true then AtX B Z M (d + 1) pc' ls' st' h' else blX S B Z M d cuts n pc' ls' st' h'
theorem nxX_s {S : SCT} {B : BT} {Z : ZT} {M : MI} {d : Nat} {cuts : List Nat} {n pc : Nat} {ls : LV} {st : List Value} {h : Hp} : nxX S B Z M d cuts n pc ls st h = if cuts.contains pc = true then AtX B Z M (d + 1) pc ls st h else blX S B Z M d cuts n pc ls st h := rfl
theorem blX_s {S : SCT} {B : BT} {Z : ZT} {M : MI} {d : Nat} {cuts : List Nat} {n pc : Nat} {ls : LV} {st : List Value} {h : Hp} : blX S B Z M d cuts (n + 1) pc ls st h = (match decode (mCode M) pc with
    | .ok (i, len) => exX S M d (nxX S B Z M d cuts n) pc ls st h i len
    | .error _ => False) := rfl
theorem rmx_room {n d : Nat} {R : Room} {cells slots : Nat} (h : n ≤ 40) (hR : RM R (d + 1) cells slots) : (rmd d).frames + 1 ≤ R.frames ∧ 8 + (n + 11) + (rmd d).locals ≤ R.locals := by
  obtain ⟨a, b, -, -⟩ := hR
  simp only [rmd]
  omega
section SX
variable {B : BT} {Z : ZT} {M : MI} {d : Nat} {K : KT} {pc : Nat} {ls : LV} {st : List Value} {h : Hp}
theorem sx_b2 (hK : ∀ pc ls st h, K pc ls st h → AtX B Z M (d + 1) pc ls st h) {f : Int32 → Int32 → Int32} (row : ∀ {p : Program} {l : Launch} {e : Env} {s : State} {m : MethodId} {args : Array Value} {below : List Frame} {meth : Method} {c : Code} {H : Heap} {locs : List Loc} {Zz : State → Prop} {R : Room} {cells slots : Nat} {sl : Array Slot} {rest : List Value} {x y : Int32}, p.tables.exec = Jvm.exec → c.code = mCode M → W p l e R s m args below meth c H locs cells slots Zz (F0 m (pc + 1) sl (.int (f x y) :: rest)) → W p l e R s m args below meth c H locs cells slots Zz (F0 m pc sl (.int y :: .int x :: rest))) (hE : ab_b2 f K pc ls st h) : AtX B Z M (d + 1) pc ls st h := by
  intro p l e s m args below meth c G A H locs sl hC hKW hW hS hA hL R cells slots hRR hBB
  unfold ab_b2 at hE
  split at hE
  · exact row hC.1 hC.2.1 (hK _ _ _ _ hE p l e s m args below meth c G A H locs sl hC hKW hW hS hA hL R cells slots hRR hBB)
  · exact hE.elim
theorem sx_q2 (hK : ∀ pc ls st h, K pc ls st h → AtX B Z M (d + 1) pc ls st h) {f : Int32 → Int32 → Int32} (row : ∀ {p : Program} {l : Launch} {e : Env} {s : State} {m : MethodId} {args : Array Value} {below : List Frame} {meth : Method} {c : Code} {H : Heap} {locs : List Loc} {Zz : State → Prop} {R : Room} {cells slots : Nat} {sl : Array Slot} {rest : List Value} {x y : Int32}, p.tables.exec = Jvm.exec → c.code = mCode M → ¬ y = 0 → W p l e R s m args below meth c H locs cells slots Zz (F0 m (pc + 1) sl (.int (f x y) :: rest)) → W p l e R s m args below meth c H locs cells slots Zz (F0 m pc sl (.int y :: .int x :: rest))) (hE : ab_q2 f K pc ls st h) : AtX B Z M (d + 1) pc ls st h := by
  intro p l e s m args below meth c G A H locs sl hC hKW hW hS hA hL R cells slots hRR hBB
  unfold ab_q2 at hE
  split at hE
  · exact row hC.1 hC.2.1 hE.1 (hK _ _ _ _ hE.2 p l e s m args below meth c G A H locs sl hC hKW hW hS hA hL R cells slots hRR hBB)
  · exact hE.elim
theorem sx_l2 (hK : ∀ pc ls st h, K pc ls st h → AtX B Z M (d + 1) pc ls st h) {f : Int64 → Int64 → Int64} (row : ∀ {p : Program} {l : Launch} {e : Env} {s : State} {m : MethodId} {args : Array Value} {below : List Frame} {meth : Method} {c : Code} {H : Heap} {locs : List Loc} {Zz : State → Prop} {R : Room} {cells slots : Nat} {sl : Array Slot} {rest : List Value} {x y : Int64}, p.tables.exec = Jvm.exec → c.code = mCode M → W p l e R s m args below meth c H locs cells slots Zz (F0 m (pc + 1) sl (.long (f x y) :: rest)) → W p l e R s m args below meth c H locs cells slots Zz (F0 m pc sl (.long y :: .long x :: rest))) (hE : ab_l2 f K pc ls st h) : AtX B Z M (d + 1) pc ls st h := by
  intro p l e s m args below meth c G A H locs sl hC hKW hW hS hA hL R cells slots hRR hBB
  unfold ab_l2 at hE
  split at hE
  · exact row hC.1 hC.2.1 (hK _ _ _ _ hE p l e s m args below meth c G A H locs sl hC hKW hW hS hA hL R cells slots hRR hBB)
  · exact hE.elim
theorem sx_p2 (hK : ∀ pc ls st h, K pc ls st h → AtX B Z M (d + 1) pc ls st h) {f : Int64 → Int64 → Int64} (row : ∀ {p : Program} {l : Launch} {e : Env} {s : State} {m : MethodId} {args : Array Value} {below : List Frame} {meth : Method} {c : Code} {H : Heap} {locs : List Loc} {Zz : State → Prop} {R : Room} {cells slots : Nat} {sl : Array Slot} {rest : List Value} {x y : Int64}, p.tables.exec = Jvm.exec → c.code = mCode M → ¬ y = 0 → W p l e R s m args below meth c H locs cells slots Zz (F0 m (pc + 1) sl (.long (f x y) :: rest)) → W p l e R s m args below meth c H locs cells slots Zz (F0 m pc sl (.long y :: .long x :: rest))) (hE : ab_p2 f K pc ls st h) : AtX B Z M (d + 1) pc ls st h := by
  intro p l e s m args below meth c G A H locs sl hC hKW hW hS hA hL R cells slots hRR hBB
  unfold ab_p2 at hE
  split at hE
  · exact row hC.1 hC.2.1 hE.1 (hK _ _ _ _ hE.2 p l e s m args below meth c G A H locs sl hC hKW hW hS hA hL R cells slots hRR hBB)
  · exact hE.elim
theorem sx_neg (hK : ∀ pc ls st h, K pc ls st h → AtX B Z M (d + 1) pc ls st h) (hd : decode (mCode M) pc = .ok (.ineg, 1)) (hE : ab_neg K pc ls st h) : AtX B Z M (d + 1) pc ls st h := by
  intro p l e s m args below meth c G A H locs sl hC hKW hW hS hA hL R cells slots hRR hBB
  unfold ab_neg at hE
  split at hE
  · exact lv_ineg hC.1 hC.2.1 hd (hK _ _ _ _ hE p l e s m args below meth c G A H locs sl hC hKW hW hS hA hL R cells slots hRR hBB)
  · exact hE.elim
theorem sx_i2l (hK : ∀ pc ls st h, K pc ls st h → AtX B Z M (d + 1) pc ls st h) (hd : decode (mCode M) pc = .ok (.i2l, 1)) (hE : ab_i2l K pc ls st h) : AtX B Z M (d + 1) pc ls st h := by
  intro p l e s m args below meth c G A H locs sl hC hKW hW hS hA hL R cells slots hRR hBB
  unfold ab_i2l at hE
  split at hE
  · exact lv_i2l hC.1 hC.2.1 hd rfl (hK _ _ _ _ hE p l e s m args below meth c G A H locs sl hC hKW hW hS hA hL R cells slots hRR hBB)
  · exact hE.elim
theorem sx_lcmp (hK : ∀ pc ls st h, K pc ls st h → AtX B Z M (d + 1) pc ls st h) (hd : decode (mCode M) pc = .ok (.lcmp, 1)) (hE : ab_lcmp K pc ls st h) : AtX B Z M (d + 1) pc ls st h := by
  intro p l e s m args below meth c G A H locs sl hC hKW hW hS hA hL R cells slots hRR hBB
  unfold ab_lcmp at hE
  split at hE
  · exact W.lcmp hC.1 hC.2.1 hd (hK _ _ _ _ hE p l e s m args below meth c G A H locs sl hC hKW hW hS hA hL R cells slots hRR hBB)
  · exact hE.elim
theorem sx_lshl (hK : ∀ pc ls st h, K pc ls st h → AtX B Z M (d + 1) pc ls st h) (hd : decode (mCode M) pc = .ok (.lshl, 1)) (hE : ab_lshl K pc ls st h) : AtX B Z M (d + 1) pc ls st h := by
  intro p l e s m args below meth c G A H locs sl hC hKW hW hS hA hL R cells slots hRR hBB
  unfold ab_lshl at hE
  split at hE
  · exact lv_lshl hC.1 hC.2.1 hd rfl (hK _ _ _ _ hE p l e s m args below meth c G A H locs sl hC hKW hW hS hA hL R cells slots hRR hBB)
  · exact hE.elim
theorem sx_dup (hK : ∀ pc ls st h, K pc ls st h → AtX B Z M (d + 1) pc ls st h) (hd : decode (mCode M) pc = .ok (.dup, 1)) (hE : ab_dup K pc ls st h) : AtX B Z M (d + 1) pc ls st h := by
  intro p l e s m args below meth c G A H locs sl hC hKW hW hS hA hL R cells slots hRR hBB
  unfold ab_dup at hE
  split at hE
  · exact lv_dup hC.1 hC.2.1 hd (by rw [cat2_cV, if_neg (by rw [hE.1]; simp)]) (hK _ _ _ _ hE.2 p l e s m args below meth c G A H locs sl hC hKW hW hS hA hL R cells slots hRR hBB)
  · exact hE.elim
theorem sx_pop (hK : ∀ pc ls st h, K pc ls st h → AtX B Z M (d + 1) pc ls st h) (hd : decode (mCode M) pc = .ok (.pop, 1)) (hE : ab_pop K pc ls st h) : AtX B Z M (d + 1) pc ls st h := by
  intro p l e s m args below meth c G A H locs sl hC hKW hW hS hA hL R cells slots hRR hBB
  unfold ab_pop at hE
  split at hE
  · exact lv_pop hC.1 hC.2.1 hd (by rw [cat2_cV, if_neg (by rw [hE.1]; simp)]) (hK _ _ _ _ hE.2 p l e s m args below meth c G A H locs sl hC hKW hW hS hA hL R cells slots hRR hBB)
  · exact hE.elim
theorem sx_dup2 (hK : ∀ pc ls st h, K pc ls st h → AtX B Z M (d + 1) pc ls st h) (hd : decode (mCode M) pc = .ok (.dup2, 1)) (hE : ab_dup2 K pc ls st h) : AtX B Z M (d + 1) pc ls st h := by
  intro p l e s m args below meth c G A H locs sl hC hKW hW hS hA hL R cells slots hRR hBB
  unfold ab_dup2 at hE
  split at hE
  · exact lv_dup2_11 hC.1 hC.2.1 hd (by rw [cat2_cV, if_neg (by rw [hE.1]; simp)]) (by rw [cat2_cV, if_neg (by rw [hE.2.1]; simp)]) (hK _ _ _ _ hE.2.2 p l e s m args below meth c G A H locs sl hC hKW hW hS hA hL R cells slots hRR hBB)
  · exact hE.elim
theorem sx_pop2 (hK : ∀ pc ls st h, K pc ls st h → AtX B Z M (d + 1) pc ls st h) (hd : decode (mCode M) pc = .ok (.pop2, 1)) (hE : ab_pop2 K pc ls st h) : AtX B Z M (d + 1) pc ls st h := by
  intro p l e s m args below meth c G A H locs sl hC hKW hW hS hA hL R cells slots hRR hBB
  unfold ab_pop2 at hE
  split at hE
  · exact lv_pop2_2 hC.1 hC.2.1 hd rfl (hK _ _ _ _ hE p l e s m args below meth c G A H locs sl hC hKW hW hS hA hL R cells slots hRR hBB)
  · exact hE.elim
theorem sx_iload_n (hK : ∀ pc ls st h, K pc ls st h → AtX B Z M (d + 1) pc ls st h) {k : Fin 4} (hd : decode (mCode M) pc = .ok (.iload_n k, 1)) (hE : ab_ld isI k 1 K pc ls st h) : AtX B Z M (d + 1) pc ls st h := by
  intro p l e s m args below meth c G A H locs sl hC hKW hW hS hA hL R cells slots hRR hBB
  unfold ab_ld at hE
  split at hE
  · next v hv =>
    obtain ⟨h1, h2⟩ := hE
    cases v <;> simp only [isI, Bool.false_eq_true] at h1
    exact lv_iload_n hC.1 hC.2.1 hd rfl (hL.2.2 _ _ hv) (hK _ _ _ _ h2 p l e s m args below meth c G A H locs sl hC hKW hW hS hA hL R cells slots hRR hBB)
  · exact hE.elim
theorem sx_lload_n (hK : ∀ pc ls st h, K pc ls st h → AtX B Z M (d + 1) pc ls st h) {k : Fin 4} (hd : decode (mCode M) pc = .ok (.lload_n k, 1)) (hE : ab_ld isL k 1 K pc ls st h) : AtX B Z M (d + 1) pc ls st h := by
  intro p l e s m args below meth c G A H locs sl hC hKW hW hS hA hL R cells slots hRR hBB
  unfold ab_ld at hE
  split at hE
  · next v hv =>
    obtain ⟨h1, h2⟩ := hE
    cases v <;> simp only [isL, Bool.false_eq_true] at h1
    exact lv_lload_n hC.1 hC.2.1 hd rfl (hL.2.2 _ _ hv) (hK _ _ _ _ h2 p l e s m args below meth c G A H locs sl hC hKW hW hS hA hL R cells slots hRR hBB)
  · exact hE.elim
theorem sx_aload_n (hK : ∀ pc ls st h, K pc ls st h → AtX B Z M (d + 1) pc ls st h) {k : Fin 4} (hd : decode (mCode M) pc = .ok (.aload_n k, 1)) (hE : ab_ld isR k 1 K pc ls st h) : AtX B Z M (d + 1) pc ls st h := by
  intro p l e s m args below meth c G A H locs sl hC hKW hW hS hA hL R cells slots hRR hBB
  unfold ab_ld at hE
  split at hE
  · next v hv =>
    obtain ⟨h1, h2⟩ := hE
    cases v <;> simp only [isR, Bool.false_eq_true] at h1
    exact lv_aload_n hC.1 hC.2.1 hd rfl (hL.2.2 _ _ hv) (hK _ _ _ _ h2 p l e s m args below meth c G A H locs sl hC hKW hW hS hA hL R cells slots hRR hBB)
  · exact hE.elim
theorem sx_iload (hK : ∀ pc ls st h, K pc ls st h → AtX B Z M (d + 1) pc ls st h) {k : Nat} (hd : decode (mCode M) pc = .ok (.iload k, 2)) (hE : ab_ld isI k 2 K pc ls st h) : AtX B Z M (d + 1) pc ls st h := by
  intro p l e s m args below meth c G A H locs sl hC hKW hW hS hA hL R cells slots hRR hBB
  unfold ab_ld at hE
  split at hE
  · next v hv =>
    obtain ⟨h1, h2⟩ := hE
    cases v <;> simp only [isI, Bool.false_eq_true] at h1
    exact lv_iload hC.1 hC.2.1 hd (hL.2.2 _ _ hv) (hK _ _ _ _ h2 p l e s m args below meth c G A H locs sl hC hKW hW hS hA hL R cells slots hRR hBB)
  · exact hE.elim
theorem sx_lload (hK : ∀ pc ls st h, K pc ls st h → AtX B Z M (d + 1) pc ls st h) {k : Nat} (hd : decode (mCode M) pc = .ok (.lload k, 2)) (hE : ab_ld isL k 2 K pc ls st h) : AtX B Z M (d + 1) pc ls st h := by
  intro p l e s m args below meth c G A H locs sl hC hKW hW hS hA hL R cells slots hRR hBB
  unfold ab_ld at hE
  split at hE
  · next v hv =>
    obtain ⟨h1, h2⟩ := hE
    cases v <;> simp only [isL, Bool.false_eq_true] at h1
    exact lv_lload hC.1 hC.2.1 hd (hL.2.2 _ _ hv) (hK _ _ _ _ h2 p l e s m args below meth c G A H locs sl hC hKW hW hS hA hL R cells slots hRR hBB)
  · exact hE.elim
theorem sx_aload (hK : ∀ pc ls st h, K pc ls st h → AtX B Z M (d + 1) pc ls st h) {k : Nat} (hd : decode (mCode M) pc = .ok (.aload k, 2)) (hE : ab_ld isR k 2 K pc ls st h) : AtX B Z M (d + 1) pc ls st h := by
  intro p l e s m args below meth c G A H locs sl hC hKW hW hS hA hL R cells slots hRR hBB
  unfold ab_ld at hE
  split at hE
  · next v hv =>
    obtain ⟨h1, h2⟩ := hE
    cases v <;> simp only [isR, Bool.false_eq_true] at h1
    exact lv_aload hC.1 hC.2.1 hd (hL.2.2 _ _ hv) (hK _ _ _ _ h2 p l e s m args below meth c G A H locs sl hC hKW hW hS hA hL R cells slots hRR hBB)
  · exact hE.elim
theorem sx_istore_n (hK : ∀ pc ls st h, K pc ls st h → AtX B Z M (d + 1) pc ls st h) {k : Fin 4} (hd : decode (mCode M) pc = .ok (.istore_n k, 1)) (hE : ab_sti (mMax M) k 1 K pc ls st h) : AtX B Z M (d + 1) pc ls st h := by
  intro p l e s m args below meth c G A H locs sl hC hKW hW hS hA hL R cells slots hRR hBB
  unfold ab_sti at hE
  split at hE
  · exact lv_istore_n hC.1 hC.2.1 hd rfl hL.has hE.1 rfl (fun sl' hl' => hK _ _ _ _ hE.2 p l e s m args below meth c G A H locs sl' hC hKW hW hS hA (LH.st1 hl') R cells slots hRR hBB)
  · exact hE.elim
theorem sx_istore (hK : ∀ pc ls st h, K pc ls st h → AtX B Z M (d + 1) pc ls st h) {k : Nat} (hd : decode (mCode M) pc = .ok (.istore k, 2)) (hE : ab_sti (mMax M) k 2 K pc ls st h) : AtX B Z M (d + 1) pc ls st h := by
  intro p l e s m args below meth c G A H locs sl hC hKW hW hS hA hL R cells slots hRR hBB
  unfold ab_sti at hE
  split at hE
  · exact lv_istore hC.1 hC.2.1 hd hL.has hE.1 rfl (fun sl' hl' => hK _ _ _ _ hE.2 p l e s m args below meth c G A H locs sl' hC hKW hW hS hA (LH.st1 hl') R cells slots hRR hBB)
  · exact hE.elim
theorem sx_lstore_n (hK : ∀ pc ls st h, K pc ls st h → AtX B Z M (d + 1) pc ls st h) {k : Fin 4} (hd : decode (mCode M) pc = .ok (.lstore_n k, 1)) (hE : ab_stl (mMax M) k 1 K pc ls st h) : AtX B Z M (d + 1) pc ls st h := by
  intro p l e s m args below meth c G A H locs sl hC hKW hW hS hA hL R cells slots hRR hBB
  unfold ab_stl at hE
  split at hE
  · exact lv_lstore_n hC.1 hC.2.1 hd rfl hL.has hE.1 rfl (fun sl' hl' => hK _ _ _ _ hE.2 p l e s m args below meth c G A H locs sl' hC hKW hW hS hA (LH.st2 hl') R cells slots hRR hBB)
  · exact hE.elim
theorem sx_lstore (hK : ∀ pc ls st h, K pc ls st h → AtX B Z M (d + 1) pc ls st h) {k : Nat} (hd : decode (mCode M) pc = .ok (.lstore k, 2)) (hE : ab_stl (mMax M) k 2 K pc ls st h) : AtX B Z M (d + 1) pc ls st h := by
  intro p l e s m args below meth c G A H locs sl hC hKW hW hS hA hL R cells slots hRR hBB
  unfold ab_stl at hE
  split at hE
  · exact lv_lstore hC.1 hC.2.1 hd hL.has hE.1 rfl (fun sl' hl' => hK _ _ _ _ hE.2 p l e s m args below meth c G A H locs sl' hC hKW hW hS hA (LH.st2 hl') R cells slots hRR hBB)
  · exact hE.elim
theorem sx_inc (hK : ∀ pc ls st h, K pc ls st h → AtX B Z M (d + 1) pc ls st h) {k : Nat} {n : Int} (hd : decode (mCode M) pc = .ok (.iinc k n, 3)) (hE : ab_inc (mMax M) k n K pc ls st h) : AtX B Z M (d + 1) pc ls st h := by
  intro p l e s m args below meth c G A H locs sl hC hKW hW hS hA hL R cells slots hRR hBB
  unfold ab_inc at hE
  split at hE
  · next x hv =>
    have hm := lvp_of G.2.1 ls 0 k (.int x) hv
    rw [Nat.zero_add] at hm
    obtain ⟨j, hj⟩ := List.getElem?_of_mem hm
    exact lv_iinc hC.1 hC.2.1 hd hL.has hj rfl hE.1 rfl (fun sl' hl' => hK _ _ _ _ hE.2 p l e s m args below meth c G A H locs sl' hC hKW hW hS hA (LH.st1 (v := .int (x + Int32.ofInt n)) hl') R cells slots hRR hBB)
  · exact hE.elim
theorem sx_goto (hK : ∀ pc ls st h, K pc ls st h → AtX B Z M (d + 1) pc ls st h) {off : Int} (hd : decode (mCode M) pc = .ok (.goto off, 3)) (hE : ab_goto off K pc ls st h) : AtX B Z M (d + 1) pc ls st h := by
  intro p l e s m args below meth c G A H locs sl hC hKW hW hS hA hL R cells slots hRR hBB
  exact lv_goto hC.1 hC.2.1 hd (tgt_eq hE.1) (hK _ _ _ _ hE.2 p l e s m args below meth c G A H locs sl hC hKW hW hS hA hL R cells slots hRR hBB)
theorem sx_icmp (hK : ∀ pc ls st h, K pc ls st h → AtX B Z M (d + 1) pc ls st h) {cd : ClassFile.Cond} {off : Int} (hd : decode (mCode M) pc = .ok (.if_icmp cd off, 3)) (hE : ab_icmp cd off K pc ls st h) : AtX B Z M (d + 1) pc ls st h := by
  intro p l e s m args below meth c G A H locs sl hC hKW hW hS hA hL R cells slots hRR hBB
  unfold ab_icmp at hE
  split at hE
  · obtain ⟨h0, h1, h2⟩ := hE
    cases cd
    · exact lv_icmp_eq hC.1 hC.2.1 hd (tgt_eq h0) (fun q => hK _ _ _ _ (h1 q) p l e s m args below meth c G A H locs sl hC hKW hW hS hA hL R cells slots hRR hBB) (fun q => hK _ _ _ _ (h2 q) p l e s m args below meth c G A H locs sl hC hKW hW hS hA hL R cells slots hRR hBB)
    · exact lv_icmp_ne hC.1 hC.2.1 hd (tgt_eq h0) (fun q => hK _ _ _ _ (h1 q) p l e s m args below meth c G A H locs sl hC hKW hW hS hA hL R cells slots hRR hBB) (fun q => hK _ _ _ _ (h2 (fun z => z q)) p l e s m args below meth c G A H locs sl hC hKW hW hS hA hL R cells slots hRR hBB)
    · exact lv_icmp_lt hC.1 hC.2.1 hd (tgt_eq h0) (fun q => hK _ _ _ _ (h1 q) p l e s m args below meth c G A H locs sl hC hKW hW hS hA hL R cells slots hRR hBB) (fun q => hK _ _ _ _ (h2 q) p l e s m args below meth c G A H locs sl hC hKW hW hS hA hL R cells slots hRR hBB)
    · exact lv_icmp_ge hC.1 hC.2.1 hd (tgt_eq h0) (fun q => hK _ _ _ _ (h1 q) p l e s m args below meth c G A H locs sl hC hKW hW hS hA hL R cells slots hRR hBB) (fun q => hK _ _ _ _ (h2 q) p l e s m args below meth c G A H locs sl hC hKW hW hS hA hL R cells slots hRR hBB)
    · exact lv_icmp_gt hC.1 hC.2.1 hd (tgt_eq h0) (fun q => hK _ _ _ _ (h1 q) p l e s m args below meth c G A H locs sl hC hKW hW hS hA hL R cells slots hRR hBB) (fun q => hK _ _ _ _ (h2 q) p l e s m args below meth c G A H locs sl hC hKW hW hS hA hL R cells slots hRR hBB)
    · exact lv_icmp_le hC.1 hC.2.1 hd (tgt_eq h0) (fun q => hK _ _ _ _ (h1 q) p l e s m args below meth c G A H locs sl hC hKW hW hS hA hL R cells slots hRR hBB) (fun q => hK _ _ _ _ (h2 q) p l e s m args below meth c G A H locs sl hC hKW hW hS hA hL R cells slots hRR hBB)
  · exact hE.elim
theorem sx_if (hK : ∀ pc ls st h, K pc ls st h → AtX B Z M (d + 1) pc ls st h) {cd : ClassFile.Cond} {off : Int} (hd : decode (mCode M) pc = .ok (.ifCond cd off, 3)) (hE : ab_if cd off K pc ls st h) : AtX B Z M (d + 1) pc ls st h := by
  intro p l e s m args below meth c G A H locs sl hC hKW hW hS hA hL R cells slots hRR hBB
  unfold ab_if at hE
  split at hE
  · obtain ⟨h0, h1, h2⟩ := hE
    cases cd
    · exact lv_if_eq hC.1 hC.2.1 hd (tgt_eq h0) (fun q => hK _ _ _ _ (h1 q) p l e s m args below meth c G A H locs sl hC hKW hW hS hA hL R cells slots hRR hBB) (fun q => hK _ _ _ _ (h2 q) p l e s m args below meth c G A H locs sl hC hKW hW hS hA hL R cells slots hRR hBB)
    · exact lv_if_ne hC.1 hC.2.1 hd (tgt_eq h0) (fun q => hK _ _ _ _ (h1 q) p l e s m args below meth c G A H locs sl hC hKW hW hS hA hL R cells slots hRR hBB) (fun q => hK _ _ _ _ (h2 (fun z => z q)) p l e s m args below meth c G A H locs sl hC hKW hW hS hA hL R cells slots hRR hBB)
    · exact lv_if_lt hC.1 hC.2.1 hd (tgt_eq h0) (fun q => hK _ _ _ _ (h1 q) p l e s m args below meth c G A H locs sl hC hKW hW hS hA hL R cells slots hRR hBB) (fun q => hK _ _ _ _ (h2 q) p l e s m args below meth c G A H locs sl hC hKW hW hS hA hL R cells slots hRR hBB)
    · exact lv_if_ge hC.1 hC.2.1 hd (tgt_eq h0) (fun q => hK _ _ _ _ (h1 q) p l e s m args below meth c G A H locs sl hC hKW hW hS hA hL R cells slots hRR hBB) (fun q => hK _ _ _ _ (h2 q) p l e s m args below meth c G A H locs sl hC hKW hW hS hA hL R cells slots hRR hBB)
    · exact lv_if_gt hC.1 hC.2.1 hd (tgt_eq h0) (fun q => hK _ _ _ _ (h1 q) p l e s m args below meth c G A H locs sl hC hKW hW hS hA hL R cells slots hRR hBB) (fun q => hK _ _ _ _ (h2 q) p l e s m args below meth c G A H locs sl hC hKW hW hS hA hL R cells slots hRR hBB)
    · exact lv_if_le hC.1 hC.2.1 hd (tgt_eq h0) (fun q => hK _ _ _ _ (h1 q) p l e s m args below meth c G A H locs sl hC hKW hW hS hA hL R cells slots hRR hBB) (fun q => hK _ _ _ _ (h2 q) p l e s m args below meth c G A H locs sl hC hKW hW hS hA hL R cells slots hRR hBB)
  · exact hE.elim
theorem sx_table (hK : ∀ pc ls st h, K pc ls st h → AtX B Z M (d + 1) pc ls st h) {dflt lo hi : Int} {offs : Array Int} {len : Nat} (hd : decode (mCode M) pc = .ok (.tableswitch dflt lo hi offs, len)) (hE : ab_table dflt lo hi offs K pc ls st h) : AtX B Z M (d + 1) pc ls st h := by
  intro p l e s m args below meth c G A H locs sl hC hKW hW hS hA hL R cells slots hRR hBB
  unfold ab_table at hE
  split at hE
  · next x r =>
    obtain ⟨h0, h1, h2⟩ := hE
    by_cases ho : x.toInt < lo ∨ hi < x.toInt
    · obtain ⟨h3, h4⟩ := h1 ho
      exact lv_tableOut hC.1 hC.2.1 hd ho (tgt_eq h3) (hK _ _ _ _ h4 p l e s m args below meth c G A H locs sl hC hKW hW hS hA hL R cells slots hRR hBB)
    · have hj : (x.toInt - lo).toNat < offs.toList.length := by omega
      have hj2 : offs.toList[(x.toInt - lo).toNat]? = some offs.toList[(x.toInt - lo).toNat] := List.getElem?_eq_getElem hj
      obtain ⟨h3, h4⟩ := sw_at _ _ _ _ h2 hj2 (by omega)
      exact lv_tableIn hC.1 hC.2.1 hd (by omega) (by omega) (by rw [← Array.getElem?_toList]; exact hj2) (tgt_eq h3) (hK _ _ _ _ h4 p l e s m args below meth c G A H locs sl hC hKW hW hS hA hL R cells slots hRR hBB)
  · exact hE.elim
theorem sx_get (hK : ∀ pc ls st h, K pc ls st h → AtX B Z M (d + 1) pc ls st h) {k : Nat} (hd : decode (mCode M) pc = .ok (.getfield k, 3)) (hE : ab_get M k K pc ls st h) : AtX B Z M (d + 1) pc ls st h := by
  intro p l e s m args below meth c G A H locs sl hC hKW hW hS hA hL R cells slots hRR hBB
  unfold ab_get at hE
  split at hE
  · next ci kf x t hf =>
    split at hE
    · next a r =>
      split at hE
      · next cj fs hh =>
        obtain ⟨rfl, hE⟩ := hE
        split at hE
        · next v hv =>
          obtain ⟨C, T, N, c1, c2, c3, -⟩ := fl_spec hf
          have ha : a < G.1 := hW.lt hh (fun q => by cases q; simp [cls] at c1)
          have hcell : (cW G h)[a]? = some (G.2.1 a, .inr (cj, fs.map (cV G.2.1))) := by rw [cW_get ha, hh]; rfl
          have hv2 : (fs.map (cV G.2.1))[kf]? = some (cV G.2.1 v) := by rw [List.getElem?_map, hv]; rfl
          rcases c3 with ⟨-, c3⟩ | ⟨-, c3⟩
          · exact va_get (D := G.2.2.2.1) hC.1 hC.2.1 hC.2.2.2.2.2.1 (cls_in c1) hC.2.2.2.2.1 hKW.1 hW.1 a hcell c1 kf c2 (hC.2.2.2.2.2.1 _ c3) (fun _ q => q) hv2 hd (hK _ _ _ _ hE p l e s m args below meth c G A H locs sl hC hKW hW hS hA hL R cells slots hRR hBB)
          · exact va_getN (D := G.2.2.2.1) hC.1 hC.2.1 hC.2.2.2.2.2.1 (cls_in c1) hC.2.2.2.2.1 hKW.1 hW.1 a hcell c1 kf c2 (va_Nw.use rfl (hKW.2.2.2 _ c3)) (fun _ q => q) hv2 hd (hK _ _ _ _ hE p l e s m args below meth c G A H locs sl hC hKW hW hS hA hL R cells slots hRR hBB)
        · exact hE.elim
      · exact hE.elim
    · exact hE.elim
  · exact hE.elim
theorem sx_put (hK : ∀ pc ls st h, K pc ls st h → AtX B Z M (d + 1) pc ls st h) {k : Nat} (hd : decode (mCode M) pc = .ok (.putfield k, 3)) (hE : ab_put M k K pc ls st h) : AtX B Z M (d + 1) pc ls st h := by
  intro p l e s m args below meth c G A H locs sl hC hKW hW hS hA hL R cells slots hRR hBB
  unfold ab_put at hE
  split at hE
  · next ci kf x t hf =>
    split at hE
    · next v a r =>
      split at hE
      · next cj fs hh =>
        obtain ⟨rfl, hl, ht, hE⟩ := hE
        obtain ⟨C, T, N, c1, c2, c3, c4, c5⟩ := fl_spec hf
        have ha : a < G.1 := hW.lt hh (fun q => by cases q; simp [cls] at c1)
        have hcell : (cW G h)[a]? = some (G.2.1 a, .inr (cj, fs.map (cV G.2.1))) := by rw [cW_get ha, hh]; rfl
        obtain ⟨ty0, hty, hnm⟩ := cls_ty _ (List.mem_of_getElem? c1)
        have hval : ∃ ty, parseFieldDescriptor (T kf).2.2.1 = some ty ∧ narrow ty (cV G.2.1 v) = cV G.2.1 v ∧ fits ty (cV G.2.1 v) = true ∧ (T kf).2.2.2 = false := by
          rcases ht with ⟨t0, t1⟩ | ⟨t0, t1⟩
          · obtain ⟨q1, q2⟩ := c4 t0
            cases v <;> simp only [isI, Bool.false_eq_true] at t1
            exact ⟨_, q1, rfl, rfl, q2⟩
          · obtain ⟨q1, q2⟩ := c5 t0
            cases v <;> simp only [isL, Bool.false_eq_true] at t1
            exact ⟨_, q1, rfl, rfl, q2⟩
        obtain ⟨ty, w1, w2, w3, w4⟩ := hval
        have hl2 : kf < (fs.map (cV G.2.1)).length := by rw [List.length_map]; exact hl
        rcases c3 with ⟨-, c3⟩ | ⟨-, c3⟩
        · refine va_put (D := G.2.2.2.1) hC.1 hC.2.1 hC.2.2.2.2.2.1 (cls_in c1) ty0 hty hnm hC.2.2.2.2.1 hKW.1 hW.1 hW.2.1 hS a hcell c1 kf c2 (hC.2.2.2.2.2.1 _ c3) (fun _ q => q) w4 w1 w2 w3 hl2 hd (fun H1 locs1 hP hD hS => ?_)
          rw [cE_set (kc := G.2.2.1)] at hP hD
          exact hK _ _ _ _ hE p l e s m args below meth c G A H1 locs1 sl hC hKW (hW.up ha hP hD) hS hA hL R cells slots hRR hBB
        · refine va_putN (D := G.2.2.2.1) hC.1 hC.2.1 hC.2.2.2.2.2.1 (cls_in c1) ty0 hty hnm hC.2.2.2.2.1 hKW.1 hW.1 hW.2.1 hS a hcell c1 kf c2 (va_Nw.use rfl (hKW.2.2.2 _ c3)) (fun _ q => q) w4 w1 w2 w3 hl2 hd (fun H1 locs1 hP hD hS => ?_)
          rw [cE_set (kc := G.2.2.1)] at hP hD
          exact hK _ _ _ _ hE p l e s m args below meth c G A H1 locs1 sl hC hKW (hW.up ha hP hD) hS hA hL R cells slots hRR hBB
      · exact hE.elim
    · exact hE.elim
  · exact hE.elim
theorem sx_iald (hK : ∀ pc ls st h, K pc ls st h → AtX B Z M (d + 1) pc ls st h) (hd : decode (mCode M) pc = .ok (.iaload, 1)) (hE : ab_iald 0 K pc ls st h) : AtX B Z M (d + 1) pc ls st h := by
  intro p l e s m args below meth c G A H locs sl hC hKW hW hS hA hL R cells slots hRR hBB
  unfold ab_iald at hE
  split at hE
  · next i a r =>
    split at hE
    · next t' n f hh =>
      obtain ⟨rfl, hin, hE⟩ := hE
      have ha : a < G.1 := hW.lt hh (fun q => by cases q)
      have hcell : (cW G h)[a]? = some (G.2.1 a, .inl (G.2.2.1 0, n, .inl f)) := by rw [cW_get ha, hh]; rfl
      exact va_iald (D := G.2.2.2.1) hC.1 hC.2.1 hKW.1 hW.1 a 0 hcell rfl hin hd (hK _ _ _ _ hE p l e s m args below meth c G A H locs sl hC hKW hW hS hA hL R cells slots hRR hBB)
    · exact hE.elim
  · exact hE.elim
theorem sx_zald (hK : ∀ pc ls st h, K pc ls st h → AtX B Z M (d + 1) pc ls st h) (hd : decode (mCode M) pc = .ok (.baload, 1)) (hE : ab_iald 2 K pc ls st h) : AtX B Z M (d + 1) pc ls st h := by
  intro p l e s m args below meth c G A H locs sl hC hKW hW hS hA hL R cells slots hRR hBB
  unfold ab_iald at hE
  split at hE
  · next i a r =>
    split at hE
    · next t' n f hh =>
      obtain ⟨rfl, hin, hE⟩ := hE
      have ha : a < G.1 := hW.lt hh (fun q => by cases q)
      have hcell : (cW G h)[a]? = some (G.2.1 a, .inl (G.2.2.1 2, n, .inl f)) := by rw [cW_get ha, hh]; rfl
      exact va_zald (D := G.2.2.2.1) hC.1 hC.2.1 hKW.1 hW.1 a 2 hcell rfl hin hd (hK _ _ _ _ hE p l e s m args below meth c G A H locs sl hC hKW hW hS hA hL R cells slots hRR hBB)
    · exact hE.elim
  · exact hE.elim
theorem sx_iast (hK : ∀ pc ls st h, K pc ls st h → AtX B Z M (d + 1) pc ls st h) (hd : decode (mCode M) pc = .ok (.iastore, 1)) (hE : ab_iast 0 K pc ls st h) : AtX B Z M (d + 1) pc ls st h := by
  intro p l e s m args below meth c G A H locs sl hC hKW hW hS hA hL R cells slots hRR hBB
  unfold ab_iast at hE
  split at hE
  · next x i a r =>
    split at hE
    · next t' n f hh =>
      obtain ⟨rfl, hin, hE⟩ := hE
      have ha : a < G.1 := hW.lt hh (fun q => by cases q)
      have hcell : (cW G h)[a]? = some (G.2.1 a, .inl (G.2.2.1 0, n, .inl f)) := by rw [cW_get ha, hh]; rfl
      exact va_iast (D := G.2.2.2.1) hC.1 hC.2.1 hKW.1 hW.1 hW.2.1 hS a 0 hcell rfl hin hd (fun H1 locs1 hP hD hS => hK _ _ _ _ hE p l e s m args below meth c G A H1 locs1 sl hC hKW (hW.up ha hP hD) hS hA hL R cells slots hRR hBB)
    · exact hE.elim
  · exact hE.elim
theorem sx_zast (hK : ∀ pc ls st h, K pc ls st h → AtX B Z M (d + 1) pc ls st h) (hd : decode (mCode M) pc = .ok (.bastore, 1)) (hE : ab_iast 2 K pc ls st h) : AtX B Z M (d + 1) pc ls st h := by
  intro p l e s m args below meth c G A H locs sl hC hKW hW hS hA hL R cells slots hRR hBB
  unfold ab_iast at hE
  split at hE
  · next x i a r =>
    split at hE
    · next t' n f hh =>
      obtain ⟨rfl, hin, hE⟩ := hE
      have ha : a < G.1 := hW.lt hh (fun q => by cases q)
      have hcell : (cW G h)[a]? = some (G.2.1 a, .inl (G.2.2.1 2, n, .inl f)) := by rw [cW_get ha, hh]; rfl
      exact va_zast (D := G.2.2.2.1) hC.1 hC.2.1 hKW.1 hW.1 hW.2.1 hS a 2 hcell rfl hin hd (fun H1 locs1 hP hD hS => hK _ _ _ _ hE p l e s m args below meth c G A H1 locs1 sl hC hKW (hW.up ha hP hD) hS hA hL R cells slots hRR hBB)
    · exact hE.elim
  · exact hE.elim
theorem sx_lald (hK : ∀ pc ls st h, K pc ls st h → AtX B Z M (d + 1) pc ls st h) (hd : decode (mCode M) pc = .ok (.laload, 1)) (hE : ab_lald K pc ls st h) : AtX B Z M (d + 1) pc ls st h := by
  intro p l e s m args below meth c G A H locs sl hC hKW hW hS hA hL R cells slots hRR hBB
  unfold ab_lald at hE
  split at hE
  · next i a r =>
    split at hE
    · next t' n f hh =>
      obtain ⟨rfl, hin, hE⟩ := hE
      have ha : a < G.1 := hW.lt hh (fun q => by cases q)
      have hcell : (cW G h)[a]? = some (G.2.1 a, .inl (G.2.2.1 1, n, .inr (.inl f))) := by rw [cW_get ha, hh]; rfl
      exact va_lald (D := G.2.2.2.1) hC.1 hC.2.1 hKW.1 hW.1 a 1 hcell rfl hin hd (hK _ _ _ _ hE p l e s m args below meth c G A H locs sl hC hKW hW hS hA hL R cells slots hRR hBB)
    · exact hE.elim
  · exact hE.elim
theorem sx_last (hK : ∀ pc ls st h, K pc ls st h → AtX B Z M (d + 1) pc ls st h) (hd : decode (mCode M) pc = .ok (.lastore, 1)) (hE : ab_last K pc ls st h) : AtX B Z M (d + 1) pc ls st h := by
  intro p l e s m args below meth c G A H locs sl hC hKW hW hS hA hL R cells slots hRR hBB
  unfold ab_last at hE
  split at hE
  · next x i a r =>
    split at hE
    · next t' n f hh =>
      obtain ⟨rfl, hin, hE⟩ := hE
      have ha : a < G.1 := hW.lt hh (fun q => by cases q)
      have hcell : (cW G h)[a]? = some (G.2.1 a, .inl (G.2.2.1 1, n, .inr (.inl f))) := by rw [cW_get ha, hh]; rfl
      exact va_last (D := G.2.2.2.1) hC.1 hC.2.1 hKW.1 hW.1 hW.2.1 hS a 1 hcell rfl hin hd (fun H1 locs1 hP hD hS => hK _ _ _ _ hE p l e s m args below meth c G A H1 locs1 sl hC hKW (hW.up ha hP hD) hS hA hL R cells slots hRR hBB)
    · exact hE.elim
  · exact hE.elim
theorem sx_aald (hK : ∀ pc ls st h, K pc ls st h → AtX B Z M (d + 1) pc ls st h) (hd : decode (mCode M) pc = .ok (.aaload, 1)) (hE : ab_aald K pc ls st h) : AtX B Z M (d + 1) pc ls st h := by
  intro p l e s m args below meth c G A H locs sl hC hKW hW hS hA hL R cells slots hRR hBB
  unfold ab_aald at hE
  split at hE
  · next i a r =>
    split at hE
    · next t' n f hh =>
      obtain ⟨ht, hin, hE⟩ := hE
      split at hE
      · next b hb =>
        have ha : a < G.1 := hW.lt hh (fun q => by cases q)
        have hcell : va_at G.2.2.2.1 cls (G.2.1 a, .inl (G.2.2.1 t', n, .inr (.inr (.inr (.inr (fun j => (f j).map G.2.1)))))) H := hW.1 a _ (by rw [cW_get ha, hh]; rfl)
        have hlt : i.toNatClampNeg < n := Nat.not_le.mp fun q => hin (Or.inr q)
        have hty : ∃ ty : FieldType, ty.isReference = true ∧ ArrOfT s (G.2.2.1 t') ty := by
          rcases ht with rfl | rfl | rfl
          · exact ⟨_, rfl, (hKW.1.2 3 _ rfl).1⟩
          · exact ⟨_, rfl, (hKW.1.2 4 _ rfl).1⟩
          · exact ⟨_, rfl, (hKW.1.2 5 _ rfl).1⟩
        obtain ⟨ty, hr1, hr2⟩ := hty
        exact W.aald (v := .ref (G.2.1 b)) (ty := ty) hC.1 hC.2.1 hcell (hr2 n (fun j => va_rf ((f j).map G.2.1))) hr1 (fun q => by cases q) (by show ¬ (i < 0 ∨ (arrV _ _ _).slots.size ≤ _); rw [arrV_size]; exact hin) (by show (arrV _ _ _).slots[_]? = _; rw [arrV_read _ _ hlt]; show some (va_rf ((f i.toNatClampNeg).map G.2.1)) = _; rw [hb]; rfl) rfl rfl hd (hK _ _ _ _ hE p l e s m args below meth c G A H locs sl hC hKW hW hS hA hL R cells slots hRR hBB)
      · exact hE.elim
    · exact hE.elim
  · exact hE.elim
theorem sx_ki1 (hK : ∀ pc ls st h, K pc ls st h → AtX B Z M (d + 1) pc ls st h) {k : Nat} (hd : decode (mCode M) pc = .ok (.ldc k, 2)) (hE : ab_ki M k 2 K pc ls st h) : AtX B Z M (d + 1) pc ls st h := by
  intro p l e s m args below meth c G A H locs sl hC hKW hW hS hA hL R cells slots hRR hBB
  unfold ab_ki at hE
  split at hE
  · next v hv => exact lv_ldc hC.1 hC.2.1 hC.2.2.2.2.1 (hC.2.2.2.2.2.1 _ (ki_spec hv)) hd (hK _ _ _ _ hE p l e s m args below meth c G A H locs sl hC hKW hW hS hA hL R cells slots hRR hBB)
  · exact hE.elim
theorem sx_ki2 (hK : ∀ pc ls st h, K pc ls st h → AtX B Z M (d + 1) pc ls st h) {k : Nat} (hd : decode (mCode M) pc = .ok (.ldc_w k, 3)) (hE : ab_ki M k 3 K pc ls st h) : AtX B Z M (d + 1) pc ls st h := by
  intro p l e s m args below meth c G A H locs sl hC hKW hW hS hA hL R cells slots hRR hBB
  unfold ab_ki at hE
  split at hE
  · next v hv => exact lv_ldcw hC.1 hC.2.1 hC.2.2.2.2.1 (hC.2.2.2.2.2.1 _ (ki_spec hv)) hd (hK _ _ _ _ hE p l e s m args below meth c G A H locs sl hC hKW hW hS hA hL R cells slots hRR hBB)
  · exact hE.elim
theorem sx_kl (hK : ∀ pc ls st h, K pc ls st h → AtX B Z M (d + 1) pc ls st h) {k : Nat} (hd : decode (mCode M) pc = .ok (.ldc2_w k, 3)) (hE : ab_kl M k K pc ls st h) : AtX B Z M (d + 1) pc ls st h := by
  intro p l e s m args below meth c G A H locs sl hC hKW hW hS hA hL R cells slots hRR hBB
  unfold ab_kl at hE
  split at hE
  · next v hv => exact lv_ldc2 hC.1 hC.2.1 hC.2.2.2.2.1 (hC.2.2.2.2.2.1 _ (kl_spec hv)) hd (hK _ _ _ _ hE p l e s m args below meth c G A H locs sl hC hKW hW hS hA hL R cells slots hRR hBB)
  · exact hE.elim
theorem sx_after {p : Program} {l : Launch} {e : Env} {s : State} {m : MethodId} {args : Array Value} {below : List Frame} {meth : Method} {c : Code} {G : GW} {A : Nat → Prop} {H : Heap} {locs : List Loc} {sl : Array Slot} {r st0 : List Value} {a : Array Value} {ret : Option FieldType}
    (hK : ∀ pc ls st h, K pc ls st h → AtX B Z M (d + 1) pc ls st h) (hC : Cx M p s m args meth c) (hKW : KW G A s) (hW : HW G A h H) (hS : va_S A s.heap H locs) (hA : ∀ q, s.heap.size ≤ q → A q) (hL : LH G.2.1 sl (mMax M) ls) (R : Room) (cells slots : Nat) (hRR : RM R (d + 1) cells slots) (hBB : B p l e R s m args below meth c G A cells slots)
    (run : va_Run p l e R s m args below meth c H locs cells slots 0 0 (F0 m pc sl st0) (r.map (cV G.2.1)) (QC ret G (AW G H.size) (fun v h' => K (pc + 3) ls (pushO v r) h') a) (AW G H.size)) :
    W p l e R s m args below meth c H locs cells slots (Z l s args below G A) (F0 m pc sl st0) := by
  have hsub := aw_sub hW hS hA
  have key : ∀ (u : Hp) (t : State) (H1 : Heap) (locs1 : List Loc) (v : Option Value), t.heap = H1 → K (pc + 3) ls (pushO v r) u → BW G (AW G H.size) u t → va_S A s.heap H1 locs1 →
      W p l e R s m args below meth c H1 locs1 cells slots (Z l s args below G A) (F0 m (pc + 3) sl ((pushO v r).map (cV G.2.1))) := by
    intro u t H1 locs1 v ht hk hB hS1
    have hB' : HW G A u H1 := by
      have : HW G (AW G H.size) u t.heap := hB
      rw [ht] at this
      exact this.wide hsub
    exact hK _ _ _ _ hk p l e s m args below meth c G A H1 locs1 sl hC hKW hB' hS1 hA hL R cells slots hRR hBB
  cases ret with
  | none => exact va_callv (a := a) run hS (fun q _ hq => hsub q hq) hsub (fun u t H1 locs1 ht hvm hk hB _ _ hS1 => key u t H1 locs1 none ht hk hB hS1)
  | some ty =>
    cases ty with
    | long => exact va_calll (a := a) run hS (fun q _ hq => hsub q hq) hsub (fun x u t H1 locs1 ht hvm hk hB _ _ hS1 => key u t H1 locs1 (some (.long x)) ht hk hB hS1)
    | _ => exact va_calli (a := a) run hS (fun q _ hq => hsub q hq) hsub (fun x u t H1 locs1 ht hvm hk hB _ _ hS1 => key u t H1 locs1 (some (.int x)) ht hk hB hS1)
theorem sx_inv (hK : ∀ pc ls st h, K pc ls st h → AtX B Z M (d + 1) pc ls st h) {k : Nat} (hd : decode (mCode M) pc = .ok (.invokevirtual k, 3)) (hE : ab_inv M d k K pc ls st h) : AtX B Z M (d + 1) pc ls st h := by
  intro p l e s m args below meth c G A H locs sl hC hKW hW hS hA hL R cells slots hRR hBB
  unfold ab_inv at hE
  split at hE
  · next kd M' hm =>
    split at hE
    · next as b r hp =>
      obtain ⟨hk, hc, hcat, hcall⟩ := hE
      obtain ⟨hst, hlen⟩ := popN_at hp
      obtain ⟨hmP, hl⟩ := ml_spec hm
      obtain ⟨m1, m2, m3, m5, m6, m7, m8⟩ := id hmP
      have hh : ∃ fs, h b = .inr (mOwn M', fs) := by
        unfold isC at hc
        split at hc
        · next ci fs e1 => exact ⟨fs, by rw [e1, beq_iff_eq.mp hc]⟩
        · cases hc
      obtain ⟨fs, hh⟩ := hh
      have hl4 : (cls[mOwn M']?).map (fun r => r.1) = some (mName M').cls := by
        rcases hk with rfl | rfl
        · exact hl.2.2.2
        · exact hl.2.2.2
      obtain ⟨q, hq1, hq2⟩ := Option.map_eq_some_iff.mp hl4
      have hb : b < G.1 := hW.lt hh (fun z => by simp only [Sum.inr.injEq, Prod.mk.injEq] at z; rw [z.1] at hq1; simp [cls] at hq1)
      have hcell : (cW G h)[b]? = some (G.2.1 b, .inr (mOwn M', fs.map (cV G.2.1))) := by rw [cW_get hb, hh]; rfl
      have hrecv := va_recv hKW.1 hW.1 hq1 hcell
      rw [hq2] at hrecv
      have hstack : (st.map (cV G.2.1)) = (as.map (cV G.2.1)).reverse ++ .ref (G.2.1 b) :: r.map (cV G.2.1) := by rw [hst]; simp [cV]
      have hpre : PreV s H (mName M').cls (G.2.1 b) (va_Pc ((Value.ref b :: as).map (cV G.2.1)) (fun U => U.heap.size = H.size ∧ HW G (AW G H.size) h U.heap ∧ KW G (AW G H.size) U)) (as.map (cV G.2.1)) :=
        ⟨pc_blind, hrecv, fun U hU hw => ⟨rfl, by rw [hU], by rw [hU]; exact hW.self _, hKW.to hW hS hA hw hU⟩⟩
      have hroom := rmx_room (n := mMax M') (d := d) m8 hRR
      rcases hk with rfl | rfl
      · obtain ⟨l1, l2, l3, -⟩ := hl
        have run := va_runV (n := mArgs M') (cells := cells) (slots := slots) (locs := locs) (e := e) (below := below) (meth := meth) (g := F0 m pc sl (st.map (cV G.2.1))) (rest := r.map (cV G.2.1)) ⟨hC.1, hC.2.1, hC.2.2.2.1, hC.2.2.2.2.1, hC.2.2.2.2.2.1⟩ (hcall l G H.size)
          (cwV (own := cn (mOwn M)) (index := k) (C := (mName M').cls) (mArgs M') hC.2.2.2.2.2.1 (tw_gi (fun w hw => by
            rcases List.mem_append.mp hw with hw | hw
            · simp only [List.mem_cons, List.not_mem_nil, or_false] at hw
              rcases hw with rfl | rfl | rfl | rfl
              · exact l1
              · exact l2
              · exact l3
              · exact m2
            · exact mw_gi hmP w hw)) rfl rfl rfl ⟨rfl, m5, m6, m7⟩ hroom) hpre rfl (by rw [List.length_map]; exact hlen) hL.1 hstack (lv_room (by rw [catS_cV]; exact hcat)) hd ⟨hRR.2.2.1, hRR.2.2.2⟩
        exact sx_after hK hC hKW hW hS hA hL R cells slots hRR hBB run
      · obtain ⟨l1, l2, l3, -⟩ := hl
        have run := va_runVN (host := "RoundWalks") (n := mArgs M') (cells := cells) (slots := slots) (locs := locs) (e := e) (below := below) (meth := meth) (g := F0 m pc sl (st.map (cV G.2.1))) (rest := r.map (cV G.2.1)) ⟨hC.1, hC.2.1, hC.2.2.2.1, hC.2.2.2.2.1, hC.2.2.2.2.2.1⟩ (hcall l G H.size)
          ⟨va_cnB (own := cn (mOwn M)) (index := k) (mArgs M') hC.2.2.2.2.2.1 (tw_gi (mw_gi hmP)) rfl rfl rfl (hKW.2.2.2 _ l1) (hC.2.2.2.2.2.1 _ m2) ⟨m5, m6, m7⟩ hroom, hC.2.2.2.2.2.1 _ l2, hC.2.2.2.2.2.1 _ l3⟩ hpre rfl (by rw [List.length_map]; exact hlen) hL.1 hstack (lv_room (by rw [catS_cV]; exact hcat)) hd ⟨hRR.2.2.1, hRR.2.2.2⟩
        exact sx_after hK hC hKW hW hS hA hL R cells slots hRR hBB run
    · exact hE.elim
  · exact hE.elim
theorem sx_ins (hK : ∀ pc ls st h, K pc ls st h → AtX B Z M (d + 1) pc ls st h) {k : Nat} (hd : decode (mCode M) pc = .ok (.invokestatic k, 3)) (hE : ab_inX M d k K pc ls st h) : AtX B Z M (d + 1) pc ls st h := by
  unfold ab_inX at hE
  split at hE
  · next kd M' hm =>
    split at hE
    · next as r hp =>
      intro p l e s m args below meth c G A H locs sl hC hKW hW hS hA hL R cells slots hRR hBB
      obtain ⟨hk, hcat, hcall⟩ := hE
      obtain ⟨hst, hlen⟩ := popN_at hp
      obtain ⟨hmP, hl⟩ := ml_spec hm
      obtain ⟨m1, m2, m3, m5, m6, m7, m8⟩ := id hmP
      have hstack : (st.map (cV G.2.1)) = (as.map (cV G.2.1)).reverse ++ r.map (cV G.2.1) := by rw [hst]; simp
      have hpre : PreS s H (va_Pc (as.map (cV G.2.1)) (fun U => U.heap.size = H.size ∧ HW G (AW G H.size) h U.heap ∧ KW G (AW G H.size) U)) (as.map (cV G.2.1)) :=
        ⟨pc_blind, fun U hU hw => ⟨rfl, by rw [hU], by rw [hU]; exact hW.self _, hKW.to hW hS hA hw hU⟩⟩
      have hroom := rmx_room (n := mMax M') (d := d) m8 hRR
      rcases hk with rfl | rfl
      · obtain ⟨l1, l2⟩ := hl
        have run := va_runS (n := mArgs M') (cells := cells) (slots := slots) (locs := locs) (e := e) (below := below) (meth := meth) (g := F0 m pc sl (st.map (cV G.2.1))) (rest := r.map (cV G.2.1)) ⟨hC.1, hC.2.1, hC.2.2.2.1, hC.2.2.2.2.1, hC.2.2.2.2.2.1⟩ (hcall l G H.size)
          (va_cwS (own := cn (mOwn M)) (index := k) (mArgs M') hC.2.2.2.2.2.1 (tw_gi (fun w hw => by
            rcases List.mem_append.mp hw with hw | hw
            · simp only [List.mem_cons, List.not_mem_nil, or_false] at hw
              rcases hw with rfl | rfl | rfl
              · exact l1
              · exact l2
              · exact m2
            · exact mw_gi hmP w hw)) rfl rfl rfl ⟨m5, m6, m7⟩ hroom) hpre rfl (by rw [List.length_map]; exact hlen) hL.1 hstack (lv_room (by rw [catS_cV]; exact hcat)) hd ⟨hRR.2.2.1, hRR.2.2.2⟩
        exact sx_after hK hC hKW hW hS hA hL R cells slots hRR hBB run
      · obtain ⟨l1, l2⟩ := hl
        have run := va_runSN (host := "RoundWalks") (n := mArgs M') (cells := cells) (slots := slots) (locs := locs) (e := e) (below := below) (meth := meth) (g := F0 m pc sl (st.map (cV G.2.1))) (rest := r.map (cV G.2.1)) ⟨hC.1, hC.2.1, hC.2.2.2.1, hC.2.2.2.2.1, hC.2.2.2.2.2.1⟩ (hcall l G H.size)
          ⟨va_cnB (own := cn (mOwn M)) (index := k) (mArgs M') hC.2.2.2.2.2.1 (tw_gi (mw_gi hmP)) rfl rfl rfl (hKW.2.2.2 _ l1) (hC.2.2.2.2.2.1 _ m2) ⟨m5, m6, m7⟩ hroom, hC.2.2.2.2.2.1 _ l2, trivial⟩ hpre rfl (by rw [List.length_map]; exact hlen) hL.1 hstack (lv_room (by rw [catS_cV]; exact hcat)) hd ⟨hRR.2.2.1, hRR.2.2.2⟩
        exact sx_after hK hC hKW hW hS hA hL R cells slots hRR hBB run
    · exact hE.elim
  · exact hE.elim
theorem sx_iaX {S : SCT} (hSc : ∀ {p : Program} {l : Launch} {e : Env} {R : Room} {s : State} {m : MethodId} {args : Array Value} {below : List Frame} {meth : Method} {c : Code} {G : GW} {A : Nat → Prop} {cells slots : Nat}, B p l e R s m args below meth c G A cells slots → S.1 < 4000 → ScO S G A s) (hK : ∀ pc ls st h, K pc ls st h → AtX B Z M (d + 1) pc ls st h) (hd : decode (mCode M) pc = .ok (.iaload, 1)) (hE : ab_iaX S K pc ls st h) : AtX B Z M (d + 1) pc ls st h := by
  unfold ab_iaX at hE
  split at hE
  · next i a r =>
    split at hE
    · next ha =>
      intro p l e s m args below meth c G A H locs sl hC hKW hW hS hA hL R cells slots hRR hBB
      obtain ⟨h0, hin, hE⟩ := hE
      obtain ⟨s1, s2, s3, -⟩ := hSc hBB h0
      rw [ha]
      exact va_sld hC.1 hC.2.1 s1 s2 s3 hS hin hd (hK _ _ _ _ hE p l e s m args below meth c G A H locs sl hC hKW hW hS hA hL R cells slots hRR hBB)
    · exact sx_iald hK hd hE
  · exact hE.elim
theorem sx_alX {S : SCT} (hSc : ∀ {p : Program} {l : Launch} {e : Env} {R : Room} {s : State} {m : MethodId} {args : Array Value} {below : List Frame} {meth : Method} {c : Code} {G : GW} {A : Nat → Prop} {cells slots : Nat}, B p l e R s m args below meth c G A cells slots → S.1 < 4000 → ScO S G A s) (hK : ∀ pc ls st h, K pc ls st h → AtX B Z M (d + 1) pc ls st h) (hd : decode (mCode M) pc = .ok (.arraylength, 1)) (hE : ab_alX S K pc ls st h) : AtX B Z M (d + 1) pc ls st h := by
  unfold ab_alX at hE
  split at hE
  · next a r =>
    intro p l e s m args below meth c G A H locs sl hC hKW hW hS hA hL R cells slots hRR hBB
    obtain ⟨ha, h0, hE⟩ := hE
    obtain ⟨s1, s2, s3, -⟩ := hSc hBB h0
    rw [ha]
    exact va_slen hC.1 hC.2.1 s1 s2 s3 hS hd (hK _ _ _ _ hE p l e s m args below meth c G A H locs sl hC hKW hW hS hA hL R cells slots hRR hBB)
  · exact hE.elim
end SX
theorem exX_sound {S : SCT} {B : BT} {Z : ZT} {M : MI} {d : Nat} {K : KT} {pc : Nat} {ls : LV} {st : List Value} {h : Hp} (hSc : ∀ {p : Program} {l : Launch} {e : Env} {R : Room} {s : State} {m : MethodId} {args : Array Value} {below : List Frame} {meth : Method} {c : Code} {G : GW} {A : Nat → Prop} {cells slots : Nat}, B p l e R s m args below meth c G A cells slots → S.1 < 4000 → ScO S G A s) (hK : ∀ pc ls st h, K pc ls st h → AtX B Z M (d + 1) pc ls st h) {i : Instr} {len : Nat} (hd : decode (mCode M) pc = .ok (i, len)) (hE : exX S M d K pc ls st h i len) : AtX B Z M (d + 1) pc ls st h := by
  unfold exX at hE
  split at hE
  · obtain ⟨rfl, hE⟩ := hE; intro p l e s m args below meth c G A H locs sl hC hKW hW hS hA hL R cells slots hRR hBB; exact lv_iconst hC.1 hC.2.1 hd rfl (hK _ _ _ _ hE p l e s m args below meth c G A H locs sl hC hKW hW hS hA hL R cells slots hRR hBB)
  · obtain ⟨rfl, h1, h2, hE⟩ := hE; intro p l e s m args below meth c G A H locs sl hC hKW hW hS hA hL R cells slots hRR hBB; exact lv_bipush hC.1 hC.2.1 hd (i8_32 h1 h2) (hK _ _ _ _ hE p l e s m args below meth c G A H locs sl hC hKW hW hS hA hL R cells slots hRR hBB)
  · obtain ⟨rfl, h1, h2, hE⟩ := hE; intro p l e s m args below meth c G A H locs sl hC hKW hW hS hA hL R cells slots hRR hBB; exact lv_sipush hC.1 hC.2.1 hd (i16_32 h1 h2) (hK _ _ _ _ hE p l e s m args below meth c G A H locs sl hC hKW hW hS hA hL R cells slots hRR hBB)
  · next n => obtain ⟨rfl, hE⟩ := hE; intro p l e s m args below meth c G A H locs sl hC hKW hW hS hA hL R cells slots hRR hBB; exact lv_lconst hC.1 hC.2.1 hd (by rcases n with ⟨_ | _ | n, hn⟩ <;> first | rfl | omega) (hK _ _ _ _ hE p l e s m args below meth c G A H locs sl hC hKW hW hS hA hL R cells slots hRR hBB)
  · obtain ⟨rfl, hE⟩ := hE; exact sx_ki1 hK hd hE
  · obtain ⟨rfl, hE⟩ := hE; exact sx_ki2 hK hd hE
  · obtain ⟨rfl, hE⟩ := hE; exact sx_kl hK hd hE
  · obtain ⟨rfl, hE⟩ := hE; exact sx_iload_n hK hd hE
  · obtain ⟨rfl, hE⟩ := hE; exact sx_iload hK hd hE
  · obtain ⟨rfl, hE⟩ := hE; exact sx_lload_n hK hd hE
  · obtain ⟨rfl, hE⟩ := hE; exact sx_lload hK hd hE
  · obtain ⟨rfl, hE⟩ := hE; exact sx_aload_n hK hd hE
  · obtain ⟨rfl, hE⟩ := hE; exact sx_aload hK hd hE
  · obtain ⟨rfl, hE⟩ := hE; exact sx_istore_n hK hd hE
  · obtain ⟨rfl, hE⟩ := hE; exact sx_istore hK hd hE
  · obtain ⟨rfl, hE⟩ := hE; exact sx_lstore_n hK hd hE
  · obtain ⟨rfl, hE⟩ := hE; exact sx_lstore hK hd hE
  · obtain ⟨rfl, hE⟩ := hE; exact sx_inc hK hd hE
  · obtain ⟨rfl, hE⟩ := hE; exact sx_b2 hK (fun hx hb k => lv_iadd hx hb hd k) hE
  · obtain ⟨rfl, hE⟩ := hE; exact sx_b2 hK (fun hx hb k => lv_isub hx hb hd k) hE
  · obtain ⟨rfl, hE⟩ := hE; exact sx_b2 hK (fun hx hb k => lv_imul hx hb hd k) hE
  · obtain ⟨rfl, hE⟩ := hE; exact sx_q2 hK (fun hx hb hn k => lv_idiv hx hb hd hn k) hE
  · obtain ⟨rfl, hE⟩ := hE; exact sx_q2 hK (fun hx hb hn k => lv_irem hx hb hd hn k) hE
  · obtain ⟨rfl, hE⟩ := hE; exact sx_b2 hK (fun hx hb k => lv_iand hx hb hd k) hE
  · obtain ⟨rfl, hE⟩ := hE; exact sx_b2 hK (fun hx hb k => lv_ior hx hb hd k) hE
  · obtain ⟨rfl, hE⟩ := hE; exact sx_b2 hK (fun hx hb k => lv_ixor hx hb hd k) hE
  · obtain ⟨rfl, hE⟩ := hE; exact sx_b2 hK (fun hx hb k => lv_ishl hx hb hd k) hE
  · obtain ⟨rfl, hE⟩ := hE; exact sx_b2 hK (fun hx hb k => lv_ishr hx hb hd k) hE
  · obtain ⟨rfl, hE⟩ := hE; exact sx_b2 hK (fun hx hb k => lv_iushr hx hb hd rfl k) hE
  · obtain ⟨rfl, hE⟩ := hE; exact sx_neg hK hd hE
  · obtain ⟨rfl, hE⟩ := hE; exact sx_l2 hK (fun hx hb k => lv_ladd hx hb hd k) hE
  · obtain ⟨rfl, hE⟩ := hE; exact sx_l2 hK (fun hx hb k => lv_lsub hx hb hd k) hE
  · obtain ⟨rfl, hE⟩ := hE; exact sx_l2 hK (fun hx hb k => lv_lmul hx hb hd k) hE
  · obtain ⟨rfl, hE⟩ := hE; exact sx_p2 hK (fun hx hb hn k => lv_ldiv hx hb hd hn k) hE
  · obtain ⟨rfl, hE⟩ := hE; exact sx_p2 hK (fun hx hb hn k => lv_lrem hx hb hd hn k) hE
  · obtain ⟨rfl, hE⟩ := hE; exact sx_l2 hK (fun hx hb k => lv_land hx hb hd k) hE
  · obtain ⟨rfl, hE⟩ := hE; exact sx_l2 hK (fun hx hb k => lv_lor hx hb hd k) hE
  · obtain ⟨rfl, hE⟩ := hE; exact sx_lshl hK hd hE
  · obtain ⟨rfl, hE⟩ := hE; exact sx_lcmp hK hd hE
  · obtain ⟨rfl, hE⟩ := hE; exact sx_i2l hK hd hE
  · obtain ⟨rfl, hE⟩ := hE; exact sx_dup hK hd hE
  · obtain ⟨rfl, hE⟩ := hE; exact sx_dup2 hK hd hE
  · obtain ⟨rfl, hE⟩ := hE; exact sx_pop hK hd hE
  · obtain ⟨rfl, hE⟩ := hE; exact sx_pop2 hK hd hE
  · obtain ⟨rfl, hE⟩ := hE; exact sx_goto hK hd hE
  · obtain ⟨rfl, hE⟩ := hE; exact sx_icmp hK hd hE
  · obtain ⟨rfl, hE⟩ := hE; exact sx_if hK hd hE
  · exact sx_table hK hd hE
  · obtain ⟨rfl, hE⟩ := hE; exact sx_get hK hd hE
  · obtain ⟨rfl, hE⟩ := hE; exact sx_put hK hd hE
  · obtain ⟨rfl, hE⟩ := hE; exact sx_iaX hSc hK hd hE
  · obtain ⟨rfl, hE⟩ := hE; exact sx_alX hSc hK hd hE
  · obtain ⟨rfl, hE⟩ := hE; exact sx_iast hK hd hE
  · obtain ⟨rfl, hE⟩ := hE; exact sx_zald hK hd hE
  · obtain ⟨rfl, hE⟩ := hE; exact sx_zast hK hd hE
  · obtain ⟨rfl, hE⟩ := hE; exact sx_lald hK hd hE
  · obtain ⟨rfl, hE⟩ := hE; exact sx_last hK hd hE
  · obtain ⟨rfl, hE⟩ := hE; exact sx_aald hK hd hE
  · obtain ⟨rfl, hE⟩ := hE; exact sx_inv hK hd hE
  · obtain ⟨rfl, hE⟩ := hE; exact sx_ins hK hd hE
  · exact hE.elim
theorem blX_sound {S : SCT} {B : BT} {Z : ZT} {M : MI} {d : Nat} (hSc : ∀ {p : Program} {l : Launch} {e : Env} {R : Room} {s : State} {m : MethodId} {args : Array Value} {below : List Frame} {meth : Method} {c : Code} {G : GW} {A : Nat → Prop} {cells slots : Nat}, B p l e R s m args below meth c G A cells slots → S.1 < 4000 → ScO S G A s) (cuts : List Nat) : ∀ (n : Nat) {pc : Nat} {ls : LV} {st : List Value} {h : Hp}, blX S B Z M d cuts n pc ls st h → AtX B Z M (d + 1) pc ls st h
  | 0, pc, ls, st, h, hE => False.elim hE
  | n + 1, pc, ls, st, h, hE => by
    simp only [blX] at hE
    split at hE
    · next i len hd =>
      refine exX_sound hSc (fun pc' ls' st' h' hk => ?_) hd hE
      by_cases hc : cuts.contains pc' = true
      · rw [if_pos hc] at hk
        exact hk
      · rw [if_neg hc] at hk
        exact blX_sound hSc cuts n hk
    · exact hE.elim
