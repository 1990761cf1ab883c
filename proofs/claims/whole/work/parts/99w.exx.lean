/-! the machine's rows, one instruction each, for simp -/
section EXX
variable {S : SCT} {M : MI} {d : Nat} {K : KT} {pc : Nat} {ls : LV} {st : List Value} {h : Hp} {len : Nat}
theorem exX_iconst {n : Int} : exX S M d K pc ls st h (.iconst n) len = (len = 1 ∧ K (pc + 1) ls (.int (Int32.ofInt n) :: st) h) := rfl
theorem exX_bipush {n : Int} : exX S M d K pc ls st h (.bipush n) len = (len = 2 ∧ -128 ≤ n ∧ n < 128 ∧ K (pc + 2) ls (.int (Int32.ofInt n) :: st) h) := rfl
theorem exX_sipush {n : Int} : exX S M d K pc ls st h (.sipush n) len = (len = 3 ∧ -32768 ≤ n ∧ n < 32768 ∧ K (pc + 3) ls (.int (Int32.ofInt n) :: st) h) := rfl
theorem exX_lconst {n : Fin 2} : exX S M d K pc ls st h (.lconst n) len = (len = 1 ∧ K (pc + 1) ls (.long (Int64.ofInt (n : Nat)) :: st) h) := rfl
theorem exX_ldc {k : Nat} : exX S M d K pc ls st h (.ldc k) len = (len = 2 ∧ ab_ki M k 2 K pc ls st h) := rfl
theorem exX_ldc_w {k : Nat} : exX S M d K pc ls st h (.ldc_w k) len = (len = 3 ∧ ab_ki M k 3 K pc ls st h) := rfl
theorem exX_ldc2_w {k : Nat} : exX S M d K pc ls st h (.ldc2_w k) len = (len = 3 ∧ ab_kl M k K pc ls st h) := rfl
theorem exX_iload_n {n : Fin 4} : exX S M d K pc ls st h (.iload_n n) len = (len = 1 ∧ ab_ld isI n 1 K pc ls st h) := rfl
theorem exX_iload {n : Nat} : exX S M d K pc ls st h (.iload n) len = (len = 2 ∧ ab_ld isI n 2 K pc ls st h) := rfl
theorem exX_lload_n {n : Fin 4} : exX S M d K pc ls st h (.lload_n n) len = (len = 1 ∧ ab_ld isL n 1 K pc ls st h) := rfl
theorem exX_lload {n : Nat} : exX S M d K pc ls st h (.lload n) len = (len = 2 ∧ ab_ld isL n 2 K pc ls st h) := rfl
theorem exX_aload_n {n : Fin 4} : exX S M d K pc ls st h (.aload_n n) len = (len = 1 ∧ ab_ld isR n 1 K pc ls st h) := rfl
theorem exX_aload {n : Nat} : exX S M d K pc ls st h (.aload n) len = (len = 2 ∧ ab_ld isR n 2 K pc ls st h) := rfl
theorem exX_istore_n {n : Fin 4} : exX S M d K pc ls st h (.istore_n n) len = (len = 1 ∧ ab_sti (mMax M) n 1 K pc ls st h) := rfl
theorem exX_istore {n : Nat} : exX S M d K pc ls st h (.istore n) len = (len = 2 ∧ ab_sti (mMax M) n 2 K pc ls st h) := rfl
theorem exX_lstore_n {n : Fin 4} : exX S M d K pc ls st h (.lstore_n n) len = (len = 1 ∧ ab_stl (mMax M) n 1 K pc ls st h) := rfl
theorem exX_lstore {n : Nat} : exX S M d K pc ls st h (.lstore n) len = (len = 2 ∧ ab_stl (mMax M) n 2 K pc ls st h) := rfl
theorem exX_iinc {n : Nat} {k : Int} : exX S M d K pc ls st h (.iinc n k) len = (len = 3 ∧ ab_inc (mMax M) n k K pc ls st h) := rfl
theorem exX_iadd : exX S M d K pc ls st h (.iadd) len = (len = 1 ∧ ab_b2 (fun x y => x + y) K pc ls st h) := rfl
theorem exX_isub : exX S M d K pc ls st h (.isub) len = (len = 1 ∧ ab_b2 (fun x y => x - y) K pc ls st h) := rfl
theorem exX_imul : exX S M d K pc ls st h (.imul) len = (len = 1 ∧ ab_b2 (fun x y => x * y) K pc ls st h) := rfl
theorem exX_idiv : exX S M d K pc ls st h (.idiv) len = (len = 1 ∧ ab_q2 (fun x y => x / y) K pc ls st h) := rfl
theorem exX_irem : exX S M d K pc ls st h (.irem) len = (len = 1 ∧ ab_q2 (fun x y => x - x / y * y) K pc ls st h) := rfl
theorem exX_iand : exX S M d K pc ls st h (.iand) len = (len = 1 ∧ ab_b2 (fun x y => x &&& y) K pc ls st h) := rfl
theorem exX_ior : exX S M d K pc ls st h (.ior) len = (len = 1 ∧ ab_b2 (fun x y => x ||| y) K pc ls st h) := rfl
theorem exX_ixor : exX S M d K pc ls st h (.ixor) len = (len = 1 ∧ ab_b2 (fun x y => x ^^^ y) K pc ls st h) := rfl
theorem exX_ishl : exX S M d K pc ls st h (.ishl) len = (len = 1 ∧ ab_b2 (fun x y => x <<< (y &&& 31)) K pc ls st h) := rfl
theorem exX_ishr : exX S M d K pc ls st h (.ishr) len = (len = 1 ∧ ab_b2 (fun x y => x >>> (y &&& 31)) K pc ls st h) := rfl
theorem exX_iushr : exX S M d K pc ls st h (.iushr) len = (len = 1 ∧ ab_b2 (fun x y => (x.toUInt32 >>> (y.toUInt32 &&& Int32.toUInt32 31)).toInt32) K pc ls st h) := rfl
theorem exX_ineg : exX S M d K pc ls st h (.ineg) len = (len = 1 ∧ ab_neg K pc ls st h) := rfl
theorem exX_ladd : exX S M d K pc ls st h (.ladd) len = (len = 1 ∧ ab_l2 (fun x y => x + y) K pc ls st h) := rfl
theorem exX_lsub : exX S M d K pc ls st h (.lsub) len = (len = 1 ∧ ab_l2 (fun x y => x - y) K pc ls st h) := rfl
theorem exX_lmul : exX S M d K pc ls st h (.lmul) len = (len = 1 ∧ ab_l2 (fun x y => x * y) K pc ls st h) := rfl
theorem exX_ldiv : exX S M d K pc ls st h (.ldiv) len = (len = 1 ∧ ab_p2 (fun x y => x / y) K pc ls st h) := rfl
theorem exX_lrem : exX S M d K pc ls st h (.lrem) len = (len = 1 ∧ ab_p2 (fun x y => x - x / y * y) K pc ls st h) := rfl
theorem exX_land : exX S M d K pc ls st h (.land) len = (len = 1 ∧ ab_l2 (fun x y => x &&& y) K pc ls st h) := rfl
theorem exX_lor : exX S M d K pc ls st h (.lor) len = (len = 1 ∧ ab_l2 (fun x y => x ||| y) K pc ls st h) := rfl
theorem exX_lshl : exX S M d K pc ls st h (.lshl) len = (len = 1 ∧ ab_lshl K pc ls st h) := rfl
theorem exX_lcmp : exX S M d K pc ls st h (.lcmp) len = (len = 1 ∧ ab_lcmp K pc ls st h) := rfl
theorem exX_i2l : exX S M d K pc ls st h (.i2l) len = (len = 1 ∧ ab_i2l K pc ls st h) := rfl
theorem exX_dup : exX S M d K pc ls st h (.dup) len = (len = 1 ∧ ab_dup K pc ls st h) := rfl
theorem exX_dup2 : exX S M d K pc ls st h (.dup2) len = (len = 1 ∧ ab_dup2 K pc ls st h) := rfl
theorem exX_pop : exX S M d K pc ls st h (.pop) len = (len = 1 ∧ ab_pop K pc ls st h) := rfl
theorem exX_pop2 : exX S M d K pc ls st h (.pop2) len = (len = 1 ∧ ab_pop2 K pc ls st h) := rfl
theorem exX_goto {off : Int} : exX S M d K pc ls st h (.goto off) len = (len = 3 ∧ ab_goto off K pc ls st h) := rfl
theorem exX_if_icmp {cd : ClassFile.Cond} {off : Int} : exX S M d K pc ls st h (.if_icmp cd off) len = (len = 3 ∧ ab_icmp cd off K pc ls st h) := rfl
theorem exX_ifCond {cd : ClassFile.Cond} {off : Int} : exX S M d K pc ls st h (.ifCond cd off) len = (len = 3 ∧ ab_if cd off K pc ls st h) := rfl
theorem exX_tableswitch {dflt : Int} {lo : Int} {hi : Int} {offs : Array Int} : exX S M d K pc ls st h (.tableswitch dflt lo hi offs) len = (ab_table dflt lo hi offs K pc ls st h) := rfl
theorem exX_getfield {k : Nat} : exX S M d K pc ls st h (.getfield k) len = (len = 3 ∧ ab_get M k K pc ls st h) := rfl
theorem exX_putfield {k : Nat} : exX S M d K pc ls st h (.putfield k) len = (len = 3 ∧ ab_put M k K pc ls st h) := rfl
theorem exX_iaload : exX S M d K pc ls st h (.iaload) len = (len = 1 ∧ ab_iaX S K pc ls st h) := rfl
theorem exX_arraylength : exX S M d K pc ls st h (.arraylength) len = (len = 1 ∧ ab_alX S K pc ls st h) := rfl
theorem exX_iastore : exX S M d K pc ls st h (.iastore) len = (len = 1 ∧ ab_iast 0 K pc ls st h) := rfl
theorem exX_baload : exX S M d K pc ls st h (.baload) len = (len = 1 ∧ ab_iald 2 K pc ls st h) := rfl
theorem exX_bastore : exX S M d K pc ls st h (.bastore) len = (len = 1 ∧ ab_iast 2 K pc ls st h) := rfl
theorem exX_laload : exX S M d K pc ls st h (.laload) len = (len = 1 ∧ ab_lald K pc ls st h) := rfl
theorem exX_lastore : exX S M d K pc ls st h (.lastore) len = (len = 1 ∧ ab_last K pc ls st h) := rfl
theorem exX_aaload : exX S M d K pc ls st h (.aaload) len = (len = 1 ∧ ab_aald K pc ls st h) := rfl
theorem exX_invokevirtual {k : Nat} : exX S M d K pc ls st h (.invokevirtual k) len = (len = 3 ∧ ab_inv M d k K pc ls st h) := rfl
theorem exX_invokestatic {k : Nat} : exX S M d K pc ls st h (.invokestatic k) len = (len = 3 ∧ ab_inX M d k K pc ls st h) := rfl
end EXX
def ML_law : MI := (yL_law, cL_law, 7, some .boolean, 14, 1)
theorem p_L_law : mCode ML_law = cL_law ∧ mOwn ML_law = 14 ∧ mMax ML_law = 7 ∧ mRet ML_law = some .boolean := ⟨rfl, rfl, rfl, rfl⟩
def ML_arc : MI := (yL_arc, cL_arc, 5, some .int, 14, 4)
theorem p_L_arc : mCode ML_arc = cL_arc ∧ mOwn ML_arc = 14 ∧ mMax ML_arc = 5 ∧ mRet ML_arc = some .int := ⟨rfl, rfl, rfl, rfl⟩
def ML_degree : MI := (yL_degree, cL_degree, 5, some .int, 14, 4)
theorem p_L_degree : mCode ML_degree = cL_degree ∧ mOwn ML_degree = 14 ∧ mMax ML_degree = 5 ∧ mRet ML_degree = some .int := ⟨rfl, rfl, rfl, rfl⟩
def ML_tree : MI := (yL_tree, cL_tree, 5, some .int, 14, 4)
theorem p_L_tree : mCode ML_tree = cL_tree ∧ mOwn ML_tree = 14 ∧ mMax ML_tree = 5 ∧ mRet ML_tree = some .int := ⟨rfl, rfl, rfl, rfl⟩
def ML_walk : MI := (yL_walk, cL_walk, 5, some .int, 14, 3)
theorem p_L_walk : mCode ML_walk = cL_walk ∧ mOwn ML_walk = 14 ∧ mMax ML_walk = 5 ∧ mRet ML_walk = some .int := ⟨rfl, rfl, rfl, rfl⟩
def ML_word : MI := (yL_word, cL_word, 5, some .int, 14, 3)
theorem p_L_word : mCode ML_word = cL_word ∧ mOwn ML_word = 14 ∧ mMax ML_word = 5 ∧ mRet ML_word = some .int := ⟨rfl, rfl, rfl, rfl⟩
