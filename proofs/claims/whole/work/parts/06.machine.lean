/-! THE ABSTRACT MACHINE: heaps by places (numbers), a method's instructions turned into a condition -/
abbrev Hp : Type := Nat → va_E
abbrev LV : Type := List (Option Value)
abbrev KT : Type := Nat → LV → List Value → Hp → Prop
abbrev QT : Type := Option Value → Hp → Prop
/-- how many places, the address of a place, the class of a kind of array, the classes' numbers, the table of factorials -/
abbrev GW : Type := Nat × (Nat → Nat) × (Nat → ClassId) × va_G × Nat
def rmd (d : Nat) : Room := { frames := d, cells := 0, slots := 0, locals := 64 * d }
def cV (ad : Nat → Nat) : Value → Value
  | .ref a => .ref (ad a)
  | v => v
def cC (ad : Nat → Nat) : ((Nat → Int32) ⊕ (Nat → Int64) ⊕ (Nat → UInt32) ⊕ (Nat → UInt64) ⊕ (Nat → Option Nat)) → ((Nat → Int32) ⊕ (Nat → Int64) ⊕ (Nat → UInt32) ⊕ (Nat → UInt64) ⊕ (Nat → Option Nat))
  | .inl f => .inl f
  | .inr (.inl f) => .inr (.inl f)
  | .inr (.inr (.inl f)) => .inr (.inr (.inl f))
  | .inr (.inr (.inr (.inl f))) => .inr (.inr (.inr (.inl f)))
  | .inr (.inr (.inr (.inr r))) => .inr (.inr (.inr (.inr (fun i => (r i).map ad))))
def cE (ad : Nat → Nat) (kc : Nat → ClassId) : va_E → va_E
  | .inl (t, n, x) => .inl (kc t, n, cC ad x)
  | .inr (ci, fs) => .inr (ci, fs.map (cV ad))
def cW (G : GW) (h : Hp) : va_W := (List.range G.1).map (fun i => (G.2.1 i, cE G.2.1 G.2.2.1 (h i)))
def tysL (kc : Nat → ClassId) : List (ClassId × FieldType) := [(kc 0, .int), (kc 1, .long), (kc 2, .boolean), (kc 3, .array .int), (kc 4, .array .long), (kc 5, .object "RoundWalks$Net")]
def facT : Nat → Int64 := fun n => [1, 1, 2, 6, 24, 120, 720, 5040, 40320, 362880, 3628800, 39916800, 479001600, 6227020800, 87178291200, 1307674368000, 20922789888000].getD n 0
/-- the heap holds the places -/
def HW (G : GW) (A : Nat → Prop) (h : Hp) (H : Heap) : Prop := va_P G.2.2.2.1 cls (cW G h) H ∧ va_D A (cW G h) ∧ ∀ k, G.1 ≤ k → h k = .inr (99, [])
/-- what is known of classes and statics -/
def KW (G : GW) (A : Nat → Prop) (s : State) : Prop := va_K G.2.2.2.1 cls (tysL G.2.2.1) s ∧ va_Z "RoundWalks" "FACTORIALS" "[J" (.ref G.2.2.2.2) A s s.heap ∧ va_T .long G.2.2.2.2 17 (fun n => .long (facT n)) A s s.heap ∧ ∀ w ∈ nw, va_Nw w s
def BW (G : GW) (A : Nat → Prop) (u : Hp) (t : State) : Prop := HW G A u t.heap
def QC (ret : Option FieldType) (G : GW) (A : Nat → Prop) (Q : QT) : Array Value → State → Outcome → State → Prop := match ret with
  | none => va_Qv (fun u => Q none u) (BW G A) A
  | some .long => va_Ql (fun r u => Q (some (.long r)) u) (BW G A) A
  | some _ => va_Qi (fun r u => Q (some (.int r)) u) (BW G A) A
def AW (G : GW) (sz : Nat) : Nat → Prop := fun q => (∃ k, k < G.1 ∧ q = G.2.1 k) ∨ sz ≤ q
def LH (ad : Nat → Nat) (sl : Array Slot) (n : Nat) (ls : LV) : Prop := sl.size = n ∧ lv_wf sl ∧ ∀ (i : Nat) (v : Value), ls[i]? = some (some v) → sl[i]? = some (.val (cV ad v))
def Cx (M : MI) (p : Program) (s : State) (m : MethodId) (args : Array Value) (meth : Method) (c : Code) : Prop :=
  p.tables.exec = Jvm.exec ∧ c.code = mCode M ∧ meth.sig.returnType = mRet M ∧ c.maxLocals = mMax M ∧ s.vm.findClass (cn (mOwn M)) = some m.cls ∧ (∀ w ∈ tw, w.before args s = true) ∧ meth.locks = false
/-- from this place in the method the machine comes to the method's end, with Q -/
def At (M : MI) (d : Nat) (pc : Nat) (ls : LV) (st : List Value) (h : Hp) (Q : QT) : Prop :=
  ∀ (p : Program) (l : Launch) (e : Env) (s : State) (m : MethodId) (args : Array Value) (below : List Frame) (meth : Method) (c : Code) (G : GW) (A : Nat → Prop) (H : Heap) (locs : List Loc) (sl : Array Slot),
    Cx M p s m args meth c → KW G A s → HW G A h H → va_S A s.heap H locs → (∀ q, s.heap.size ≤ q → A q) → LH G.2.1 sl (mMax M) ls →
    W p l e (rmd d) s m args below meth c H locs 0 0 (MQ below (QC (mRet M) G A Q) args s 0 0 A) (F0 m pc sl (st.map (cV G.2.1)))
/-- a method's contract -/
def Call (d : Nat) (M : MI) (as : List Value) (h : Hp) (Q : QT) : Prop :=
  ∀ (l : Launch) (G : GW) (sz : Nat), Met l (mName M) (wy M) (rmd d)
    (va_Pc (as.map (cV G.2.1)) (fun U => U.heap.size = sz ∧ HW G (AW G sz) h U.heap ∧ KW G (AW G sz) U))
    (QC (mRet M) G (AW G sz) Q) 0 0 (AW G sz)
/-! one instruction -/
def cat2 : Value → Bool
  | .long _ => true
  | .double _ => true
  | _ => false
def isI : Value → Bool
  | .int _ => true
  | _ => false
def isL : Value → Bool
  | .long _ => true
  | _ => false
def isR : Value → Bool
  | .ref _ => true
  | _ => false
def catS : List Value → Nat
  | [] => 0
  | v :: r => (if cat2 v = true then 2 else 1) + catS r
def ab_clr (ls : LV) : Nat → LV
  | 0 => ls
  | j + 1 => match ls[j]? with
    | some (some v) => if cat2 v = true then ls.set j none else ls
    | _ => ls
def ab_st1 (ls : LV) (i : Nat) (v : Value) : LV := (ab_clr ls i).set i (some v)
def ab_st2 (ls : LV) (i : Nat) (v : Value) : LV := ((ab_clr ls i).set i (some v)).set (i + 1) none
def ab_b2 (f : Int32 → Int32 → Int32) (K : KT) (pc : Nat) (ls : LV) (st : List Value) (h : Hp) : Prop := match st with
  | .int y :: .int x :: r => K (pc + 1) ls (.int (f x y) :: r) h
  | _ => False
def ab_q2 (f : Int32 → Int32 → Int32) (K : KT) (pc : Nat) (ls : LV) (st : List Value) (h : Hp) : Prop := match st with
  | .int y :: .int x :: r => ¬ y = 0 ∧ K (pc + 1) ls (.int (f x y) :: r) h
  | _ => False
def ab_l2 (f : Int64 → Int64 → Int64) (K : KT) (pc : Nat) (ls : LV) (st : List Value) (h : Hp) : Prop := match st with
  | .long y :: .long x :: r => K (pc + 1) ls (.long (f x y) :: r) h
  | _ => False
def ab_p2 (f : Int64 → Int64 → Int64) (K : KT) (pc : Nat) (ls : LV) (st : List Value) (h : Hp) : Prop := match st with
  | .long y :: .long x :: r => ¬ y = 0 ∧ K (pc + 1) ls (.long (f x y) :: r) h
  | _ => False
def ab_neg (K : KT) (pc : Nat) (ls : LV) (st : List Value) (h : Hp) : Prop := match st with
  | .int x :: r => K (pc + 1) ls (.int (-x) :: r) h
  | _ => False
def ab_i2l (K : KT) (pc : Nat) (ls : LV) (st : List Value) (h : Hp) : Prop := match st with
  | .int x :: r => K (pc + 1) ls (.long x.toInt64 :: r) h
  | _ => False
def ab_lcmp (K : KT) (pc : Nat) (ls : LV) (st : List Value) (h : Hp) : Prop := match st with
  | .long y :: .long x :: r => K (pc + 1) ls (.int (lg_cmp x y) :: r) h
  | _ => False
def ab_lshl (K : KT) (pc : Nat) (ls : LV) (st : List Value) (h : Hp) : Prop := match st with
  | .int y :: .long x :: r => K (pc + 1) ls (.long (x <<< (y.toInt64 &&& 63)) :: r) h
  | _ => False
def ab_ld (chk : Value → Bool) (i n : Nat) (K : KT) (pc : Nat) (ls : LV) (st : List Value) (h : Hp) : Prop := match ls[i]? with
  | some (some v) => chk v = true ∧ K (pc + n) ls (v :: st) h
  | _ => False
def ab_sti (mx i n : Nat) (K : KT) (pc : Nat) (ls : LV) (st : List Value) (h : Hp) : Prop := match st with
  | .int x :: r => i < mx ∧ K (pc + n) (ab_st1 ls i (.int x)) r h
  | _ => False
def ab_stl (mx i n : Nat) (K : KT) (pc : Nat) (ls : LV) (st : List Value) (h : Hp) : Prop := match st with
  | .long x :: r => i + 1 < mx ∧ K (pc + n) (ab_st2 ls i (.long x)) r h
  | _ => False
def ab_inc (mx i : Nat) (k : Int) (K : KT) (pc : Nat) (ls : LV) (st : List Value) (h : Hp) : Prop := match ls[i]? with
  | some (some (.int x)) => i < mx ∧ K (pc + 3) (ab_st1 ls i (.int (x + Int32.ofInt k))) st h
  | _ => False
def ab_dup (K : KT) (pc : Nat) (ls : LV) (st : List Value) (h : Hp) : Prop := match st with
  | v :: r => cat2 v = false ∧ K (pc + 1) ls (v :: v :: r) h
  | _ => False
def ab_dup2 (K : KT) (pc : Nat) (ls : LV) (st : List Value) (h : Hp) : Prop := match st with
  | v :: w :: r => cat2 v = false ∧ cat2 w = false ∧ K (pc + 1) ls (v :: w :: v :: w :: r) h
  | _ => False
def ab_pop (K : KT) (pc : Nat) (ls : LV) (st : List Value) (h : Hp) : Prop := match st with
  | v :: r => cat2 v = false ∧ K (pc + 1) ls r h
  | _ => False
def ab_pop2 (K : KT) (pc : Nat) (ls : LV) (st : List Value) (h : Hp) : Prop := match st with
  | .long _ :: r => K (pc + 1) ls r h
  | _ => False
def cmpP : ClassFile.Cond → Int32 → Int32 → Prop
  | .eq, x, y => x = y
  | .ne, x, y => ¬ x = y
  | .lt, x, y => x < y
  | .ge, x, y => y ≤ x
  | .gt, x, y => y < x
  | .le, x, y => x ≤ y
def tgt (pc : Nat) (off : Int) : Nat := ((pc : Int) + off).toNat
def ab_goto (off : Int) (K : KT) (pc : Nat) (ls : LV) (st : List Value) (h : Hp) : Prop := 0 ≤ (pc : Int) + off ∧ K (tgt pc off) ls st h
def ab_icmp (cd : ClassFile.Cond) (off : Int) (K : KT) (pc : Nat) (ls : LV) (st : List Value) (h : Hp) : Prop := match st with
  | .int y :: .int x :: r => 0 ≤ (pc : Int) + off ∧ (cmpP cd x y → K (tgt pc off) ls r h) ∧ (¬ cmpP cd x y → K (pc + 3) ls r h)
  | _ => False
def ab_if (cd : ClassFile.Cond) (off : Int) (K : KT) (pc : Nat) (ls : LV) (st : List Value) (h : Hp) : Prop := match st with
  | .int x :: r => 0 ≤ (pc : Int) + off ∧ (cmpP cd x 0 → K (tgt pc off) ls r h) ∧ (¬ cmpP cd x 0 → K (pc + 3) ls r h)
  | _ => False
def ab_sw (x : Int) (K : KT) (pc : Nat) (ls : LV) (r : List Value) (h : Hp) : Int → List Int → Prop
  | _, [] => True
  | lo, o :: os => (x = lo → 0 ≤ (pc : Int) + o ∧ K (tgt pc o) ls r h) ∧ ab_sw x K pc ls r h (lo + 1) os
def ab_table (dflt lo hi : Int) (offs : Array Int) (K : KT) (pc : Nat) (ls : LV) (st : List Value) (h : Hp) : Prop := match st with
  | .int x :: r => hi - lo + 1 = offs.toList.length ∧ (x.toInt < lo ∨ hi < x.toInt → 0 ≤ (pc : Int) + dflt ∧ K (tgt pc dflt) ls r h) ∧ ab_sw x.toInt K pc ls r h lo offs.toList
  | _ => False
def ab_get (M : MI) (idx : Nat) (K : KT) (pc : Nat) (ls : LV) (st : List Value) (h : Hp) : Prop := match fl (mOwn M) idx with
  | some (ci, k, _, _) => match st with
    | .ref a :: r => match h a with
      | .inr (cj, fs) => cj = ci ∧ match fs[k]? with
        | some v => K (pc + 3) ls (v :: r) h
        | none => False
      | _ => False
    | _ => False
  | none => False
def ab_put (M : MI) (idx : Nat) (K : KT) (pc : Nat) (ls : LV) (st : List Value) (h : Hp) : Prop := match fl (mOwn M) idx with
  | some (ci, k, _, t) => match st with
    | v :: .ref a :: r => match h a with
      | .inr (cj, fs) => cj = ci ∧ k < fs.length ∧ ((t = 0 ∧ isI v = true) ∨ (t = 1 ∧ isL v = true)) ∧ K (pc + 3) ls r (va_up h a (.inr (ci, fs.set k v)))
      | _ => False
    | _ => False
  | none => False
def ab_iald (t : Nat) (K : KT) (pc : Nat) (ls : LV) (st : List Value) (h : Hp) : Prop := match st with
  | .int i :: .ref a :: r => match h a with
    | .inl (t', n, .inl f) => t' = t ∧ vp_in i n ∧ K (pc + 1) ls (.int (f i.toNatClampNeg) :: r) h
    | _ => False
  | _ => False
def ab_iast (t : Nat) (K : KT) (pc : Nat) (ls : LV) (st : List Value) (h : Hp) : Prop := match st with
  | .int x :: .int i :: .ref a :: r => match h a with
    | .inl (t', n, .inl f) => t' = t ∧ vp_in i n ∧ K (pc + 1) ls r (va_up h a (.inl (t, n, .inl (upd f i.toNatClampNeg (if t = 2 then vp_nar .boolean x else x)))))
    | _ => False
  | _ => False
def ab_lald (K : KT) (pc : Nat) (ls : LV) (st : List Value) (h : Hp) : Prop := match st with
  | .int i :: .ref a :: r => match h a with
    | .inl (t', n, .inr (.inl f)) => t' = 1 ∧ vp_in i n ∧ K (pc + 1) ls (.long (f i.toNatClampNeg) :: r) h
    | _ => False
  | _ => False
def ab_last (K : KT) (pc : Nat) (ls : LV) (st : List Value) (h : Hp) : Prop := match st with
  | .long x :: .int i :: .ref a :: r => match h a with
    | .inl (t', n, .inr (.inl f)) => t' = 1 ∧ vp_in i n ∧ K (pc + 1) ls r (va_up h a (.inl (1, n, .inr (.inl (vp_updL f i.toNatClampNeg x)))))
    | _ => False
  | _ => False
def ab_aald (K : KT) (pc : Nat) (ls : LV) (st : List Value) (h : Hp) : Prop := match st with
  | .int i :: .ref a :: r => match h a with
    | .inl (t', n, .inr (.inr (.inr (.inr f)))) => (t' = 3 ∨ t' = 4 ∨ t' = 5) ∧ vp_in i n ∧ match f i.toNatClampNeg with
      | some b => K (pc + 1) ls (.ref b :: r) h
      | none => False
    | _ => False
  | _ => False
def ab_ki (M : MI) (idx n : Nat) (K : KT) (pc : Nat) (ls : LV) (st : List Value) (h : Hp) : Prop := match ki (mOwn M) idx with
  | some v => K (pc + n) ls (.int (Int32.ofInt v) :: st) h
  | none => False
def ab_kl (M : MI) (idx : Nat) (K : KT) (pc : Nat) (ls : LV) (st : List Value) (h : Hp) : Prop := match kl (mOwn M) idx with
  | some v => K (pc + 3) ls (.long (Int64.ofInt v) :: st) h
  | none => False
def popN : Nat → List Value → List Value → Option (List Value × List Value)
  | 0, acc, st => some (acc, st)
  | _ + 1, _, [] => none
  | n + 1, acc, v :: st => popN n (v :: acc) st
def pushO : Option Value → List Value → List Value
  | none, r => r
  | some v, r => v :: r
def isC (e : va_E) (o : Nat) : Bool := match e with
  | .inr (ci, _) => ci == o
  | _ => false
/-- what is to be done with a call's answer -/
def kC (K : KT) (pc : Nat) (ls : LV) (r : List Value) : QT := fun v h' => K pc ls (pushO v r) h'
def ab_inv (M : MI) (d idx : Nat) (K : KT) (pc : Nat) (ls : LV) (st : List Value) (h : Hp) : Prop := match ml (mOwn M) idx with
  | some (kd, M') => match popN (mArgs M') [] st with
    | some (as, .ref b :: r) => (kd = 0 ∨ kd = 2) ∧ isC (h b) (mOwn M') = true ∧ catS r ≤ 8 ∧ Call d M' (.ref b :: as) h (kC K (pc + 3) ls r)
    | _ => False
  | none => False
def ab_copy (K : KT) (pc : Nat) (ls : LV) (st : List Value) (h : Hp) : Prop := match st with
  | .int n :: .int dp :: .ref b :: .int sp :: .ref a :: r => match h a with
    | .inl (t0, n0, .inl f) => match h b with
      | .inl (t1, n1, .inl g) => catS r ≤ 8 ∧ t0 = 0 ∧ t1 = 0 ∧ ¬ sp < 0 ∧ ¬ dp < 0 ∧ ¬ n < 0 ∧ sp.toNatClampNeg + n.toNatClampNeg ≤ n0 ∧ dp.toNatClampNeg + n.toNatClampNeg ≤ n1 ∧ K (pc + 3) ls r (va_up h b (.inl (0, n1, .inl (va_cpy f g sp.toNatClampNeg dp.toNatClampNeg n.toNatClampNeg))))
      | _ => False
    | _ => False
  | _ => False
def ab_mx (f : Int32 → Int32 → Int32) (K : KT) (pc : Nat) (ls : LV) (st : List Value) (h : Hp) : Prop := match st with
  | .int y :: .int x :: r => catS r ≤ 8 ∧ K (pc + 3) ls (.int (f x y) :: r) h
  | _ => False
def ab_ins (M : MI) (d idx : Nat) (K : KT) (pc : Nat) (ls : LV) (st : List Value) (h : Hp) : Prop := match ml (mOwn M) idx with
  | some (kd, M') => match popN (mArgs M') [] st with
    | some (as, r) => (kd = 1 ∨ kd = 3) ∧ catS r ≤ 8 ∧ Call d M' as h (kC K (pc + 3) ls r)
    | none => False
  | none => if mOwn M = 4 ∧ idx = 25 then ab_copy K pc ls st h else if mOwn M = 10 ∧ idx = 252 then ab_mx (fun x y => if x < y then y else x) K pc ls st h else if mOwn M = 3 ∧ idx = 29 then ab_mx (fun x y => if y < x then y else x) K pc ls st h else False
def ab_nr (ret : Option FieldType) (x : Int32) : Prop := match ret with
  | some .int => True
  | some .boolean => x = 0 ∨ x = 1
  | _ => False
def ab_iret (M : MI) (st : List Value) (h : Hp) (Q : QT) : Prop := match st with
  | [.int x] => ab_nr (mRet M) x ∧ Q (some (.int x)) h
  | _ => False
def ab_lret (M : MI) (st : List Value) (h : Hp) (Q : QT) : Prop := match st with
  | [.long x] => mRet M = some .long ∧ Q (some (.long x)) h
  | _ => False
def ab_vret (M : MI) (st : List Value) (h : Hp) (Q : QT) : Prop := match st with
  | [] => mRet M = none ∧ Q none h
  | _ => False
def exI (M : MI) (d : Nat) (K : KT) (pc : Nat) (ls : LV) (st : List Value) (h : Hp) (Q : QT) (i : Instr) (len : Nat) : Prop := match i with
  | .iconst n => len = 1 ∧ K (pc + 1) ls (.int (Int32.ofInt n) :: st) h
  | .bipush n => len = 2 ∧ -128 ≤ n ∧ n < 128 ∧ K (pc + 2) ls (.int (Int32.ofInt n) :: st) h
  | .sipush n => len = 3 ∧ -32768 ≤ n ∧ n < 32768 ∧ K (pc + 3) ls (.int (Int32.ofInt n) :: st) h
  | .lconst n => len = 1 ∧ K (pc + 1) ls (.long (Int64.ofInt (n : Nat)) :: st) h
  | .ldc k => len = 2 ∧ ab_ki M k 2 K pc ls st h
  | .ldc_w k => len = 3 ∧ ab_ki M k 3 K pc ls st h
  | .ldc2_w k => len = 3 ∧ ab_kl M k K pc ls st h
  | .iload_n n => len = 1 ∧ ab_ld isI n 1 K pc ls st h
  | .iload n => len = 2 ∧ ab_ld isI n 2 K pc ls st h
  | .lload_n n => len = 1 ∧ ab_ld isL n 1 K pc ls st h
  | .lload n => len = 2 ∧ ab_ld isL n 2 K pc ls st h
  | .aload_n n => len = 1 ∧ ab_ld isR n 1 K pc ls st h
  | .aload n => len = 2 ∧ ab_ld isR n 2 K pc ls st h
  | .istore_n n => len = 1 ∧ ab_sti (mMax M) n 1 K pc ls st h
  | .istore n => len = 2 ∧ ab_sti (mMax M) n 2 K pc ls st h
  | .lstore_n n => len = 1 ∧ ab_stl (mMax M) n 1 K pc ls st h
  | .lstore n => len = 2 ∧ ab_stl (mMax M) n 2 K pc ls st h
  | .iinc n k => len = 3 ∧ ab_inc (mMax M) n k K pc ls st h
  | .iadd => len = 1 ∧ ab_b2 (fun x y => x + y) K pc ls st h
  | .isub => len = 1 ∧ ab_b2 (fun x y => x - y) K pc ls st h
  | .imul => len = 1 ∧ ab_b2 (fun x y => x * y) K pc ls st h
  | .idiv => len = 1 ∧ ab_q2 (fun x y => x / y) K pc ls st h
  | .irem => len = 1 ∧ ab_q2 (fun x y => x - x / y * y) K pc ls st h
  | .iand => len = 1 ∧ ab_b2 (fun x y => x &&& y) K pc ls st h
  | .ior => len = 1 ∧ ab_b2 (fun x y => x ||| y) K pc ls st h
  | .ixor => len = 1 ∧ ab_b2 (fun x y => x ^^^ y) K pc ls st h
  | .ishl => len = 1 ∧ ab_b2 (fun x y => x <<< (y &&& 31)) K pc ls st h
  | .ishr => len = 1 ∧ ab_b2 (fun x y => x >>> (y &&& 31)) K pc ls st h
  | .iushr => len = 1 ∧ ab_b2 (fun x y => (x.toUInt32 >>> (y.toUInt32 &&& Int32.toUInt32 31)).toInt32) K pc ls st h
  | .ineg => len = 1 ∧ ab_neg K pc ls st h
  | .ladd => len = 1 ∧ ab_l2 (fun x y => x + y) K pc ls st h
  | .lsub => len = 1 ∧ ab_l2 (fun x y => x - y) K pc ls st h
  | .lmul => len = 1 ∧ ab_l2 (fun x y => x * y) K pc ls st h
  | .ldiv => len = 1 ∧ ab_p2 (fun x y => x / y) K pc ls st h
  | .lrem => len = 1 ∧ ab_p2 (fun x y => x - x / y * y) K pc ls st h
  | .land => len = 1 ∧ ab_l2 (fun x y => x &&& y) K pc ls st h
  | .lor => len = 1 ∧ ab_l2 (fun x y => x ||| y) K pc ls st h
  | .lshl => len = 1 ∧ ab_lshl K pc ls st h
  | .lcmp => len = 1 ∧ ab_lcmp K pc ls st h
  | .i2l => len = 1 ∧ ab_i2l K pc ls st h
  | .dup => len = 1 ∧ ab_dup K pc ls st h
  | .dup2 => len = 1 ∧ ab_dup2 K pc ls st h
  | .pop => len = 1 ∧ ab_pop K pc ls st h
  | .pop2 => len = 1 ∧ ab_pop2 K pc ls st h
  | .goto off => len = 3 ∧ ab_goto off K pc ls st h
  | .if_icmp cd off => len = 3 ∧ ab_icmp cd off K pc ls st h
  | .ifCond cd off => len = 3 ∧ ab_if cd off K pc ls st h
  | .tableswitch dflt lo hi offs => ab_table dflt lo hi offs K pc ls st h
  | .getfield k => len = 3 ∧ ab_get M k K pc ls st h
  | .putfield k => len = 3 ∧ ab_put M k K pc ls st h
  | .iaload => len = 1 ∧ ab_iald 0 K pc ls st h
  | .iastore => len = 1 ∧ ab_iast 0 K pc ls st h
  | .baload => len = 1 ∧ ab_iald 2 K pc ls st h
  | .bastore => len = 1 ∧ ab_iast 2 K pc ls st h
  | .laload => len = 1 ∧ ab_lald K pc ls st h
  | .lastore => len = 1 ∧ ab_last K pc ls st h
  | .aaload => len = 1 ∧ ab_aald K pc ls st h
  | .invokevirtual k => len = 3 ∧ ab_inv M d k K pc ls st h
  | .invokestatic k => len = 3 ∧ ab_ins M d k K pc ls st h
  | .ireturn => len = 1 ∧ ab_iret M st h Q
  | .lreturn => len = 1 ∧ ab_lret M st h Q
  | .return_ => len = 1 ∧ ab_vret M st h Q
  | _ => False
def blk (M : MI) (d : Nat) (cuts : List Nat) (Q : QT) : Nat → KT
  | 0 => fun _ _ _ _ => False
  | n + 1 => fun pc ls st h => match decode (mCode M) pc with
    | .ok (i, len) => exI M d (fun pc' ls' st' h' => if cuts.contains pc' = true then At M (d + 1) pc' ls' st' h' Q else blk M d cuts Q n pc' ls' st' h') pc ls st h Q i len
    | .error _ => False
def nx (M : MI) (d : Nat) (cuts : List Nat) (Q : QT) (n : Nat) : KT := fun pc' ls' st' h' => if cuts.contains pc' = true then At M (d + 1) pc' ls' st' h' Q else blk M d cuts Q n pc' ls' st' h'
theorem nx_s {M : MI} {d : Nat} {cuts : List Nat} {Q : QT} {n pc : Nat} {ls : LV} {st : List Value} {h : Hp} : nx M d cuts Q n pc ls st h = if cuts.contains pc = true then At M (d + 1) pc ls st h Q else blk M d cuts Q n pc ls st h := rfl
theorem blk_s {M : MI} {d : Nat} {cuts : List Nat} {Q : QT} {n pc : Nat} {ls : LV} {st : List Value} {h : Hp} : blk M d cuts Q (n + 1) pc ls st h = (match decode (mCode M) pc with
    | .ok (i, len) => exI M d (nx M d cuts Q n) pc ls st h Q i len
    | .error _ => False) := rfl
theorem kC_s {K : KT} {pc : Nat} {ls : LV} {r : List Value} {v : Option Value} {h : Hp} : kC K pc ls r v h = K pc ls (pushO v r) h := rfl
