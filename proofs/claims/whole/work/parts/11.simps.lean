section SX
variable {M : MI} {d : Nat} {K : KT} {pc : Nat} {ls : LV} {st : List Value} {h : Hp} {Q : QT} {len : Nat}
theorem exI_iconst {n : Int} : exI M d K pc ls st h Q (.iconst n) len = (len = 1 ∧ K (pc + 1) ls (.int (Int32.ofInt n) :: st) h) := rfl
theorem exI_bipush {n : Int} : exI M d K pc ls st h Q (.bipush n) len = (len = 2 ∧ -128 ≤ n ∧ n < 128 ∧ K (pc + 2) ls (.int (Int32.ofInt n) :: st) h) := rfl
theorem exI_sipush {n : Int} : exI M d K pc ls st h Q (.sipush n) len = (len = 3 ∧ -32768 ≤ n ∧ n < 32768 ∧ K (pc + 3) ls (.int (Int32.ofInt n) :: st) h) := rfl
theorem exI_lconst {n : Fin 2} : exI M d K pc ls st h Q (.lconst n) len = (len = 1 ∧ K (pc + 1) ls (.long (Int64.ofInt (n : Nat)) :: st) h) := rfl
theorem exI_ldc {k : Nat} : exI M d K pc ls st h Q (.ldc k) len = (len = 2 ∧ ab_ki M k 2 K pc ls st h) := rfl
theorem exI_ldc_w {k : Nat} : exI M d K pc ls st h Q (.ldc_w k) len = (len = 3 ∧ ab_ki M k 3 K pc ls st h) := rfl
theorem exI_ldc2_w {k : Nat} : exI M d K pc ls st h Q (.ldc2_w k) len = (len = 3 ∧ ab_kl M k K pc ls st h) := rfl
theorem exI_iload_n {n : Fin 4} : exI M d K pc ls st h Q (.iload_n n) len = (len = 1 ∧ ab_ld isI n 1 K pc ls st h) := rfl
theorem exI_iload {n : Nat} : exI M d K pc ls st h Q (.iload n) len = (len = 2 ∧ ab_ld isI n 2 K pc ls st h) := rfl
theorem exI_lload_n {n : Fin 4} : exI M d K pc ls st h Q (.lload_n n) len = (len = 1 ∧ ab_ld isL n 1 K pc ls st h) := rfl
theorem exI_lload {n : Nat} : exI M d K pc ls st h Q (.lload n) len = (len = 2 ∧ ab_ld isL n 2 K pc ls st h) := rfl
theorem exI_aload_n {n : Fin 4} : exI M d K pc ls st h Q (.aload_n n) len = (len = 1 ∧ ab_ld isR n 1 K pc ls st h) := rfl
theorem exI_aload {n : Nat} : exI M d K pc ls st h Q (.aload n) len = (len = 2 ∧ ab_ld isR n 2 K pc ls st h) := rfl
theorem exI_istore_n {n : Fin 4} : exI M d K pc ls st h Q (.istore_n n) len = (len = 1 ∧ ab_sti (mMax M) n 1 K pc ls st h) := rfl
theorem exI_istore {n : Nat} : exI M d K pc ls st h Q (.istore n) len = (len = 2 ∧ ab_sti (mMax M) n 2 K pc ls st h) := rfl
theorem exI_lstore_n {n : Fin 4} : exI M d K pc ls st h Q (.lstore_n n) len = (len = 1 ∧ ab_stl (mMax M) n 1 K pc ls st h) := rfl
theorem exI_lstore {n : Nat} : exI M d K pc ls st h Q (.lstore n) len = (len = 2 ∧ ab_stl (mMax M) n 2 K pc ls st h) := rfl
theorem exI_iinc {n : Nat} {k : Int} : exI M d K pc ls st h Q (.iinc n k) len = (len = 3 ∧ ab_inc (mMax M) n k K pc ls st h) := rfl
theorem exI_iadd : exI M d K pc ls st h Q (.iadd) len = (len = 1 ∧ ab_b2 (fun x y => x + y) K pc ls st h) := rfl
theorem exI_isub : exI M d K pc ls st h Q (.isub) len = (len = 1 ∧ ab_b2 (fun x y => x - y) K pc ls st h) := rfl
theorem exI_imul : exI M d K pc ls st h Q (.imul) len = (len = 1 ∧ ab_b2 (fun x y => x * y) K pc ls st h) := rfl
theorem exI_idiv : exI M d K pc ls st h Q (.idiv) len = (len = 1 ∧ ab_q2 (fun x y => x / y) K pc ls st h) := rfl
theorem exI_irem : exI M d K pc ls st h Q (.irem) len = (len = 1 ∧ ab_q2 (fun x y => x - x / y * y) K pc ls st h) := rfl
theorem exI_iand : exI M d K pc ls st h Q (.iand) len = (len = 1 ∧ ab_b2 (fun x y => x &&& y) K pc ls st h) := rfl
theorem exI_ior : exI M d K pc ls st h Q (.ior) len = (len = 1 ∧ ab_b2 (fun x y => x ||| y) K pc ls st h) := rfl
theorem exI_ixor : exI M d K pc ls st h Q (.ixor) len = (len = 1 ∧ ab_b2 (fun x y => x ^^^ y) K pc ls st h) := rfl
theorem exI_ishl : exI M d K pc ls st h Q (.ishl) len = (len = 1 ∧ ab_b2 (fun x y => x <<< (y &&& 31)) K pc ls st h) := rfl
theorem exI_ishr : exI M d K pc ls st h Q (.ishr) len = (len = 1 ∧ ab_b2 (fun x y => x >>> (y &&& 31)) K pc ls st h) := rfl
theorem exI_iushr : exI M d K pc ls st h Q (.iushr) len = (len = 1 ∧ ab_b2 (fun x y => (x.toUInt32 >>> (y.toUInt32 &&& Int32.toUInt32 31)).toInt32) K pc ls st h) := rfl
theorem exI_ineg : exI M d K pc ls st h Q (.ineg) len = (len = 1 ∧ ab_neg K pc ls st h) := rfl
theorem exI_ladd : exI M d K pc ls st h Q (.ladd) len = (len = 1 ∧ ab_l2 (fun x y => x + y) K pc ls st h) := rfl
theorem exI_lsub : exI M d K pc ls st h Q (.lsub) len = (len = 1 ∧ ab_l2 (fun x y => x - y) K pc ls st h) := rfl
theorem exI_lmul : exI M d K pc ls st h Q (.lmul) len = (len = 1 ∧ ab_l2 (fun x y => x * y) K pc ls st h) := rfl
theorem exI_ldiv : exI M d K pc ls st h Q (.ldiv) len = (len = 1 ∧ ab_p2 (fun x y => x / y) K pc ls st h) := rfl
theorem exI_lrem : exI M d K pc ls st h Q (.lrem) len = (len = 1 ∧ ab_p2 (fun x y => x - x / y * y) K pc ls st h) := rfl
theorem exI_land : exI M d K pc ls st h Q (.land) len = (len = 1 ∧ ab_l2 (fun x y => x &&& y) K pc ls st h) := rfl
theorem exI_lor : exI M d K pc ls st h Q (.lor) len = (len = 1 ∧ ab_l2 (fun x y => x ||| y) K pc ls st h) := rfl
theorem exI_lshl : exI M d K pc ls st h Q (.lshl) len = (len = 1 ∧ ab_lshl K pc ls st h) := rfl
theorem exI_lcmp : exI M d K pc ls st h Q (.lcmp) len = (len = 1 ∧ ab_lcmp K pc ls st h) := rfl
theorem exI_i2l : exI M d K pc ls st h Q (.i2l) len = (len = 1 ∧ ab_i2l K pc ls st h) := rfl
theorem exI_dup : exI M d K pc ls st h Q (.dup) len = (len = 1 ∧ ab_dup K pc ls st h) := rfl
theorem exI_dup2 : exI M d K pc ls st h Q (.dup2) len = (len = 1 ∧ ab_dup2 K pc ls st h) := rfl
theorem exI_pop : exI M d K pc ls st h Q (.pop) len = (len = 1 ∧ ab_pop K pc ls st h) := rfl
theorem exI_pop2 : exI M d K pc ls st h Q (.pop2) len = (len = 1 ∧ ab_pop2 K pc ls st h) := rfl
theorem exI_goto {off : Int} : exI M d K pc ls st h Q (.goto off) len = (len = 3 ∧ ab_goto off K pc ls st h) := rfl
theorem exI_if_icmp {cd : ClassFile.Cond} {off : Int} : exI M d K pc ls st h Q (.if_icmp cd off) len = (len = 3 ∧ ab_icmp cd off K pc ls st h) := rfl
theorem exI_ifCond {cd : ClassFile.Cond} {off : Int} : exI M d K pc ls st h Q (.ifCond cd off) len = (len = 3 ∧ ab_if cd off K pc ls st h) := rfl
theorem exI_tableswitch {dflt : Int} {lo : Int} {hi : Int} {offs : Array Int} : exI M d K pc ls st h Q (.tableswitch dflt lo hi offs) len = (ab_table dflt lo hi offs K pc ls st h) := rfl
theorem exI_getfield {k : Nat} : exI M d K pc ls st h Q (.getfield k) len = (len = 3 ∧ ab_get M k K pc ls st h) := rfl
theorem exI_putfield {k : Nat} : exI M d K pc ls st h Q (.putfield k) len = (len = 3 ∧ ab_put M k K pc ls st h) := rfl
theorem exI_iaload : exI M d K pc ls st h Q (.iaload) len = (len = 1 ∧ ab_iald 0 K pc ls st h) := rfl
theorem exI_iastore : exI M d K pc ls st h Q (.iastore) len = (len = 1 ∧ ab_iast 0 K pc ls st h) := rfl
theorem exI_baload : exI M d K pc ls st h Q (.baload) len = (len = 1 ∧ ab_iald 2 K pc ls st h) := rfl
theorem exI_bastore : exI M d K pc ls st h Q (.bastore) len = (len = 1 ∧ ab_iast 2 K pc ls st h) := rfl
theorem exI_laload : exI M d K pc ls st h Q (.laload) len = (len = 1 ∧ ab_lald K pc ls st h) := rfl
theorem exI_lastore : exI M d K pc ls st h Q (.lastore) len = (len = 1 ∧ ab_last K pc ls st h) := rfl
theorem exI_aaload : exI M d K pc ls st h Q (.aaload) len = (len = 1 ∧ ab_aald K pc ls st h) := rfl
theorem exI_invokevirtual {k : Nat} : exI M d K pc ls st h Q (.invokevirtual k) len = (len = 3 ∧ ab_inv M d k K pc ls st h) := rfl
theorem exI_invokestatic {k : Nat} : exI M d K pc ls st h Q (.invokestatic k) len = (len = 3 ∧ ab_ins M d k K pc ls st h) := rfl
theorem exI_ireturn : exI M d K pc ls st h Q (.ireturn) len = (len = 1 ∧ ab_iret M st h Q) := rfl
theorem exI_lreturn : exI M d K pc ls st h Q (.lreturn) len = (len = 1 ∧ ab_lret M st h Q) := rfl
theorem exI_return : exI M d K pc ls st h Q (.return_) len = (len = 1 ∧ ab_vret M st h Q) := rfl
end SX
theorem p_X10_feed : mCode MX10_feed = cX10_feed ∧ mOwn MX10_feed = 10 ∧ mMax MX10_feed = 6 ∧ mRet MX10_feed = some .int := ⟨rfl, rfl, rfl, rfl⟩
theorem a_X10_feed : mArgs MX10_feed = 5 := rfl
theorem p_X7_push : mCode MX7_push = cX7_push ∧ mOwn MX7_push = 7 ∧ mMax MX7_push = 3 ∧ mRet MX7_push = none := ⟨rfl, rfl, rfl, rfl⟩
theorem a_X7_push : mArgs MX7_push = 1 := rfl
theorem p_X10_end : mCode MX10_end = cX10_end ∧ mOwn MX10_end = 10 ∧ mMax MX10_end = 2 ∧ mRet MX10_end = some .boolean := ⟨rfl, rfl, rfl, rfl⟩
theorem a_X10_end : mArgs MX10_end = 1 := rfl
theorem p_X7_cut : mCode MX7_cut = cX7_cut ∧ mOwn MX7_cut = 7 ∧ mMax MX7_cut = 2 ∧ mRet MX7_cut = some .boolean := ⟨rfl, rfl, rfl, rfl⟩
theorem a_X7_cut : mArgs MX7_cut = 1 := rfl
theorem p_X10_net : mCode MX10_net = cX10_net ∧ mOwn MX10_net = 10 ∧ mMax MX10_net = 2 ∧ mRet MX10_net = some .int := ⟨rfl, rfl, rfl, rfl⟩
theorem a_X10_net : mArgs MX10_net = 0 := rfl
theorem p_X5_parse : mCode MX5_parse = cX5_parse ∧ mOwn MX5_parse = 5 ∧ mMax MX5_parse = 5 ∧ mRet MX5_parse = some .int := ⟨rfl, rfl, rfl, rfl⟩
theorem a_X5_parse : mArgs MX5_parse = 1 := rfl
theorem p_X5_skipBlanks : mCode MX5_skipBlanks = cX5_skipBlanks ∧ mOwn MX5_skipBlanks = 5 ∧ mMax MX5_skipBlanks = 2 ∧ mRet MX5_skipBlanks = none := ⟨rfl, rfl, rfl, rfl⟩
theorem a_X5_skipBlanks : mArgs MX5_skipBlanks = 1 := rfl
theorem p_X7_byteAt : mCode MX7_byteAt = cX7_byteAt ∧ mOwn MX7_byteAt = 7 ∧ mMax MX7_byteAt = 2 ∧ mRet MX7_byteAt = some .int := ⟨rfl, rfl, rfl, rfl⟩
theorem a_X7_byteAt : mArgs MX7_byteAt = 1 := rfl
theorem p_X5_refuse : mCode MX5_refuse = cX5_refuse ∧ mOwn MX5_refuse = 5 ∧ mMax MX5_refuse = 3 ∧ mRet MX5_refuse = some .int := ⟨rfl, rfl, rfl, rfl⟩
theorem a_X5_refuse : mArgs MX5_refuse = 2 := rfl
theorem p_X5_takeToken : mCode MX5_takeToken = cX5_takeToken ∧ mOwn MX5_takeToken = 5 ∧ mMax MX5_takeToken = 7 ∧ mRet MX5_takeToken = some .long := ⟨rfl, rfl, rfl, rfl⟩
theorem a_X5_takeToken : mArgs MX5_takeToken = 1 := rfl
theorem p_X10_isSmallLetter : mCode MX10_isSmallLetter = cX10_isSmallLetter ∧ mOwn MX10_isSmallLetter = 10 ∧ mMax MX10_isSmallLetter = 1 ∧ mRet MX10_isSmallLetter = some .boolean := ⟨rfl, rfl, rfl, rfl⟩
theorem a_X10_isSmallLetter : mArgs MX10_isSmallLetter = 1 := rfl
theorem p_X5_accept : mCode MX5_accept = cX5_accept ∧ mOwn MX5_accept = 5 ∧ mMax MX5_accept = 3 ∧ mRet MX5_accept = some .int := ⟨rfl, rfl, rfl, rfl⟩
theorem a_X5_accept : mArgs MX5_accept = 1 := rfl
theorem p_X5_acceptRow : mCode MX5_acceptRow = cX5_acceptRow ∧ mOwn MX5_acceptRow = 5 ∧ mMax MX5_acceptRow = 3 ∧ mRet MX5_acceptRow = some .int := ⟨rfl, rfl, rfl, rfl⟩
theorem a_X5_acceptRow : mArgs MX5_acceptRow = 1 := rfl
theorem p_X5_acceptName : mCode MX5_acceptName = cX5_acceptName ∧ mOwn MX5_acceptName = 5 ∧ mMax MX5_acceptName = 3 ∧ mRet MX5_acceptName = some .int := ⟨rfl, rfl, rfl, rfl⟩
theorem a_X5_acceptName : mArgs MX5_acceptName = 1 := rfl
theorem p_X5_isName : mCode MX5_isName = cX5_isName ∧ mOwn MX5_isName = 5 ∧ mMax MX5_isName = 2 ∧ mRet MX5_isName = some .boolean := ⟨rfl, rfl, rfl, rfl⟩
theorem a_X5_isName : mArgs MX5_isName = 1 := rfl
theorem p_X5_find : mCode MX5_find = cX5_find ∧ mOwn MX5_find = 5 ∧ mMax MX5_find = 4 ∧ mRet MX5_find = some .int := ⟨rfl, rfl, rfl, rfl⟩
theorem a_X5_find : mArgs MX5_find = 1 := rfl
theorem p_X5_acceptPoint : mCode MX5_acceptPoint = cX5_acceptPoint ∧ mOwn MX5_acceptPoint = 5 ∧ mMax MX5_acceptPoint = 4 ∧ mRet MX5_acceptPoint = some .int := ⟨rfl, rfl, rfl, rfl⟩
theorem a_X5_acceptPoint : mArgs MX5_acceptPoint = 1 := rfl
theorem p_X4_append : mCode MX4_append = cX4_append ∧ mOwn MX4_append = 4 ∧ mMax MX4_append = 3 ∧ mRet MX4_append = none := ⟨rfl, rfl, rfl, rfl⟩
theorem a_X4_append : mArgs MX4_append = 2 := rfl
theorem p_X4_hasPoint : mCode MX4_hasPoint = cX4_hasPoint ∧ mOwn MX4_hasPoint = 4 ∧ mMax MX4_hasPoint = 2 ∧ mRet MX4_hasPoint = some .boolean := ⟨rfl, rfl, rfl, rfl⟩
theorem a_X4_hasPoint : mArgs MX4_hasPoint = 1 := rfl
theorem p_X4_copyFrom : mCode MX4_copyFrom = cX4_copyFrom ∧ mOwn MX4_copyFrom = 4 ∧ mMax MX4_copyFrom = 2 ∧ mRet MX4_copyFrom = none := ⟨rfl, rfl, rfl, rfl⟩
theorem a_X4_copyFrom : mArgs MX4_copyFrom = 1 := rfl
theorem p_X3_forget : mCode MX3_forget = cX3_forget ∧ mOwn MX3_forget = 3 ∧ mMax MX3_forget = 1 ∧ mRet MX3_forget = none := ⟨rfl, rfl, rfl, rfl⟩
theorem a_X3_forget : mArgs MX3_forget = 0 := rfl
theorem p_X10_fault : mCode MX10_fault = cX10_fault ∧ mOwn MX10_fault = 10 ∧ mMax MX10_fault = 1 ∧ mRet MX10_fault = some .int := ⟨rfl, rfl, rfl, rfl⟩
theorem a_X10_fault : mArgs MX10_fault = 0 := rfl
theorem p_X10_now : mCode MX10_now = cX10_now ∧ mOwn MX10_now = 10 ∧ mMax MX10_now = 2 ∧ mRet MX10_now = some .int := ⟨rfl, rfl, rfl, rfl⟩
theorem a_X10_now : mArgs MX10_now = 1 := rfl
theorem p_X4_usedPoints : mCode MX4_usedPoints = cX4_usedPoints ∧ mOwn MX4_usedPoints = 4 ∧ mMax MX4_usedPoints = 3 ∧ mRet MX4_usedPoints = some .int := ⟨rfl, rfl, rfl, rfl⟩
theorem a_X4_usedPoints : mArgs MX4_usedPoints = 0 := rfl
theorem p_X4_isJoined : mCode MX4_isJoined = cX4_isJoined ∧ mOwn MX4_isJoined = 4 ∧ mMax MX4_isJoined = 1 ∧ mRet MX4_isJoined = some .boolean := ⟨rfl, rfl, rfl, rfl⟩
theorem a_X4_isJoined : mArgs MX4_isJoined = 0 := rfl
theorem p_X4_spread : mCode MX4_spread = cX4_spread ∧ mOwn MX4_spread = 4 ∧ mMax MX4_spread = 8 ∧ mRet MX4_spread = some .int := ⟨rfl, rfl, rfl, rfl⟩
theorem a_X4_spread : mArgs MX4_spread = 3 := rfl
theorem p_X10_inSet : mCode MX10_inSet = cX10_inSet ∧ mOwn MX10_inSet = 10 ∧ mMax MX10_inSet = 2 ∧ mRet MX10_inSet = some .boolean := ⟨rfl, rfl, rfl, rfl⟩
theorem a_X10_inSet : mArgs MX10_inSet = 2 := rfl
theorem p_X4_pointsWithExcess : mCode MX4_pointsWithExcess = cX4_pointsWithExcess ∧ mOwn MX4_pointsWithExcess = 4 ∧ mMax MX4_pointsWithExcess = 4 ∧ mRet MX4_pointsWithExcess = some .int := ⟨rfl, rfl, rfl, rfl⟩
theorem a_X4_pointsWithExcess : mArgs MX4_pointsWithExcess = 1 := rfl
theorem p_X4_excess : mCode MX4_excess = cX4_excess ∧ mOwn MX4_excess = 4 ∧ mMax MX4_excess = 2 ∧ mRet MX4_excess = some .int := ⟨rfl, rfl, rfl, rfl⟩
theorem a_X4_excess : mArgs MX4_excess = 1 := rfl
theorem p_X4_outOf : mCode MX4_outOf = cX4_outOf ∧ mOwn MX4_outOf = 4 ∧ mMax MX4_outOf = 4 ∧ mRet MX4_outOf = some .int := ⟨rfl, rfl, rfl, rfl⟩
theorem a_X4_outOf : mArgs MX4_outOf = 1 := rfl
theorem p_X4_into : mCode MX4_into = cX4_into ∧ mOwn MX4_into = 4 ∧ mMax MX4_into = 4 ∧ mRet MX4_into = some .int := ⟨rfl, rfl, rfl, rfl⟩
theorem a_X4_into : mArgs MX4_into = 1 := rfl
theorem p_X4_isStrong : mCode MX4_isStrong = cX4_isStrong ∧ mOwn MX4_isStrong = 4 ∧ mMax MX4_isStrong = 2 ∧ mRet MX4_isStrong = some .boolean := ⟨rfl, rfl, rfl, rfl⟩
theorem a_X4_isStrong : mArgs MX4_isStrong = 0 := rfl
theorem p_X10_kind : mCode MX10_kind = cX10_kind ∧ mOwn MX10_kind = 10 ∧ mMax MX10_kind = 1 ∧ mRet MX10_kind = some .int := ⟨rfl, rfl, rfl, rfl⟩
theorem a_X10_kind : mArgs MX10_kind = 0 := rfl
theorem p_X4_shape : mCode MX4_shape = cX4_shape ∧ mOwn MX4_shape = 4 ∧ mMax MX4_shape = 4 ∧ mRet MX4_shape = some .int := ⟨rfl, rfl, rfl, rfl⟩
theorem a_X4_shape : mArgs MX4_shape = 0 := rfl
theorem p_X10_ends : mCode MX10_ends = cX10_ends ∧ mOwn MX10_ends = 10 ∧ mMax MX10_ends = 3 ∧ mRet MX10_ends = some .int := ⟨rfl, rfl, rfl, rfl⟩
theorem a_X10_ends : mArgs MX10_ends = 1 := rfl
theorem p_X4_start : mCode MX4_start = cX4_start ∧ mOwn MX4_start = 4 ∧ mMax MX4_start = 2 ∧ mRet MX4_start = some .int := ⟨rfl, rfl, rfl, rfl⟩
theorem a_X4_start : mArgs MX4_start = 1 := rfl
theorem p_X4_pointOfExcess : mCode MX4_pointOfExcess = cX4_pointOfExcess ∧ mOwn MX4_pointOfExcess = 4 ∧ mMax MX4_pointOfExcess = 3 ∧ mRet MX4_pointOfExcess = some .int := ⟨rfl, rfl, rfl, rfl⟩
theorem a_X4_pointOfExcess : mArgs MX4_pointOfExcess = 1 := rfl
theorem p_X4_finish : mCode MX4_finish = cX4_finish ∧ mOwn MX4_finish = 4 ∧ mMax MX4_finish = 2 ∧ mRet MX4_finish = some .int := ⟨rfl, rfl, rfl, rfl⟩
theorem a_X4_finish : mArgs MX4_finish = 1 := rfl
theorem p_X10_trees : mCode MX10_trees = cX10_trees ∧ mOwn MX10_trees = 10 ∧ mMax MX10_trees = 2 ∧ mRet MX10_trees = some .long := ⟨rfl, rfl, rfl, rfl⟩
theorem a_X10_trees : mArgs MX10_trees = 1 := rfl
theorem p_X4_isUsed : mCode MX4_isUsed = cX4_isUsed ∧ mOwn MX4_isUsed = 4 ∧ mMax MX4_isUsed = 2 ∧ mRet MX4_isUsed = some .boolean := ⟨rfl, rfl, rfl, rfl⟩
theorem a_X4_isUsed : mArgs MX4_isUsed = 1 := rfl
theorem p_X8_count : mCode MX8_count = cX8_count ∧ mOwn MX8_count = 8 ∧ mMax MX8_count = 3 ∧ mRet MX8_count = some .long := ⟨rfl, rfl, rfl, rfl⟩
theorem a_X8_count : mArgs MX8_count = 2 := rfl
theorem p_X8_countWithin : mCode MX8_countWithin = cX8_countWithin ∧ mOwn MX8_countWithin = 8 ∧ mMax MX8_countWithin = 4 ∧ mRet MX8_countWithin = some .long := ⟨rfl, rfl, rfl, rfl⟩
theorem a_X8_countWithin : mArgs MX8_countWithin = 3 := rfl
theorem p_X0_load : mCode MX0_load = cX0_load ∧ mOwn MX0_load = 0 ∧ mMax MX0_load = 4 ∧ mRet MX0_load = none := ⟨rfl, rfl, rfl, rfl⟩
theorem a_X0_load : mArgs MX0_load = 2 := rfl
theorem p_X0_clear : mCode MX0_clear = cX0_clear ∧ mOwn MX0_clear = 0 ∧ mMax MX0_clear = 3 ∧ mRet MX0_clear = none := ⟨rfl, rfl, rfl, rfl⟩
theorem a_X0_clear : mArgs MX0_clear = 0 := rfl
theorem p_X0_shift : mCode MX0_shift = cX0_shift ∧ mOwn MX0_shift = 0 ∧ mMax MX0_shift = 4 ∧ mRet MX0_shift = none := ⟨rfl, rfl, rfl, rfl⟩
theorem a_X0_shift : mArgs MX0_shift = 3 := rfl
theorem p_X0_treesTo : mCode MX0_treesTo = cX0_treesTo ∧ mOwn MX0_treesTo = 0 ∧ mMax MX0_treesTo = 7 ∧ mRet MX0_treesTo = some .long := ⟨rfl, rfl, rfl, rfl⟩
theorem a_X0_treesTo : mArgs MX0_treesTo = 2 := rfl
theorem p_X0_determinant : mCode MX0_determinant = cX0_determinant ∧ mOwn MX0_determinant = 0 ∧ mMax MX0_determinant = 9 ∧ mRet MX0_determinant = some .long := ⟨rfl, rfl, rfl, rfl⟩
theorem a_X0_determinant : mArgs MX0_determinant = 1 := rfl
theorem p_X10_walks : mCode MX10_walks = cX10_walks ∧ mOwn MX10_walks = 10 ∧ mMax MX10_walks = 1 ∧ mRet MX10_walks = some .long := ⟨rfl, rfl, rfl, rfl⟩
theorem a_X10_walks : mArgs MX10_walks = 0 := rfl
theorem p_X9_count : mCode MX9_count = cX9_count ∧ mOwn MX9_count = 9 ∧ mMax MX9_count = 3 ∧ mRet MX9_count = some .long := ⟨rfl, rfl, rfl, rfl⟩
theorem a_X9_count : mArgs MX9_count = 1 := rfl
theorem p_X0_trailsTo : mCode MX0_trailsTo = cX0_trailsTo ∧ mOwn MX0_trailsTo = 0 ∧ mMax MX0_trailsTo = 6 ∧ mRet MX0_trailsTo = some .long := ⟨rfl, rfl, rfl, rfl⟩
theorem a_X0_trailsTo : mArgs MX0_trailsTo = 1 := rfl
theorem p_X10_factorial : mCode MX10_factorial = cX10_factorial ∧ mOwn MX10_factorial = 10 ∧ mMax MX10_factorial = 1 ∧ mRet MX10_factorial = some .long := ⟨rfl, rfl, rfl, rfl⟩
theorem a_X10_factorial : mArgs MX10_factorial = 1 := rfl
theorem p_X10_walkAt : mCode MX10_walkAt = cX10_walkAt ∧ mOwn MX10_walkAt = 10 ∧ mMax MX10_walkAt = 2 ∧ mRet MX10_walkAt = some .int := ⟨rfl, rfl, rfl, rfl⟩
theorem a_X10_walkAt : mArgs MX10_walkAt = 1 := rfl
theorem p_X9_seenAt : mCode MX9_seenAt = cX9_seenAt ∧ mOwn MX9_seenAt = 9 ∧ mMax MX9_seenAt = 2 ∧ mRet MX9_seenAt = some .int := ⟨rfl, rfl, rfl, rfl⟩
theorem a_X9_seenAt : mArgs MX9_seenAt = 1 := rfl
theorem p_X10_lasts : mCode MX10_lasts = cX10_lasts ∧ mOwn MX10_lasts = 10 ∧ mMax MX10_lasts = 1 ∧ mRet MX10_lasts = some .int := ⟨rfl, rfl, rfl, rfl⟩
theorem a_X10_lasts : mArgs MX10_lasts = 0 := rfl
theorem p_X10_rank : mCode MX10_rank = cX10_rank ∧ mOwn MX10_rank = 10 ∧ mMax MX10_rank = 3 ∧ mRet MX10_rank = some .long := ⟨rfl, rfl, rfl, rfl⟩
theorem a_X10_rank : mArgs MX10_rank = 0 := rfl
theorem p_X9_lookAtTape : mCode MX9_lookAtTape = cX9_lookAtTape ∧ mOwn MX9_lookAtTape = 9 ∧ mMax MX9_lookAtTape = 8 ∧ mRet MX9_lookAtTape = some .long := ⟨rfl, rfl, rfl, rfl⟩
theorem a_X9_lookAtTape : mArgs MX9_lookAtTape = 2 := rfl
theorem p_X4_hasArc : mCode MX4_hasArc = cX4_hasArc ∧ mOwn MX4_hasArc = 4 ∧ mMax MX4_hasArc = 2 ∧ mRet MX4_hasArc = some .boolean := ⟨rfl, rfl, rfl, rfl⟩
theorem a_X4_hasArc : mArgs MX4_hasArc = 1 := rfl
theorem p_X9_lookAtPath : mCode MX9_lookAtPath = cX9_lookAtPath ∧ mOwn MX9_lookAtPath = 9 ∧ mMax MX9_lookAtPath = 4 ∧ mRet MX9_lookAtPath = none := ⟨rfl, rfl, rfl, rfl⟩
theorem a_X9_lookAtPath : mArgs MX9_lookAtPath = 2 := rfl
theorem p_X9_rankOfPath : mCode MX9_rankOfPath = cX9_rankOfPath ∧ mOwn MX9_rankOfPath = 9 ∧ mMax MX9_rankOfPath = 10 ∧ mRet MX9_rankOfPath = some .long := ⟨rfl, rfl, rfl, rfl⟩
theorem a_X9_rankOfPath : mArgs MX9_rankOfPath = 2 := rfl
theorem p_X10_by : mCode MX10_by = cX10_by ∧ mOwn MX10_by = 10 ∧ mMax MX10_by = 2 ∧ mRet MX10_by = some .long := ⟨rfl, rfl, rfl, rfl⟩
theorem a_X10_by : mArgs MX10_by = 1 := rfl
theorem p_X9_countLeavingBy : mCode MX9_countLeavingBy = cX9_countLeavingBy ∧ mOwn MX9_countLeavingBy = 9 ∧ mMax MX9_countLeavingBy = 10 ∧ mRet MX9_countLeavingBy = some .long := ⟨rfl, rfl, rfl, rfl⟩
theorem a_X9_countLeavingBy : mArgs MX9_countLeavingBy = 2 := rfl
theorem p_X9_takeLasts : mCode MX9_takeLasts = cX9_takeLasts ∧ mOwn MX9_takeLasts = 9 ∧ mMax MX9_takeLasts = 6 ∧ mRet MX9_takeLasts = some .boolean := ⟨rfl, rfl, rfl, rfl⟩
theorem a_X9_takeLasts : mArgs MX9_takeLasts = 3 := rfl
theorem p_X9_comesTo : mCode MX9_comesTo = cX9_comesTo ∧ mOwn MX9_comesTo = 9 ∧ mMax MX9_comesTo = 7 ∧ mRet MX9_comesTo = some .boolean := ⟨rfl, rfl, rfl, rfl⟩
theorem a_X9_comesTo : mArgs MX9_comesTo = 3 := rfl
theorem p_X10_first : mCode MX10_first = cX10_first ∧ mOwn MX10_first = 10 ∧ mMax MX10_first = 2 ∧ mRet MX10_first = some .long := ⟨rfl, rfl, rfl, rfl⟩
theorem a_X10_first : mArgs MX10_first = 1 := rfl
theorem p_X9_firstLeavingBy : mCode MX9_firstLeavingBy = cX9_firstLeavingBy ∧ mOwn MX9_firstLeavingBy = 9 ∧ mMax MX9_firstLeavingBy = 8 ∧ mRet MX9_firstLeavingBy = some .long := ⟨rfl, rfl, rfl, rfl⟩
theorem a_X9_firstLeavingBy : mArgs MX9_firstLeavingBy = 2 := rfl
theorem p_X9_leastFree : mCode MX9_leastFree = cX9_leastFree ∧ mOwn MX9_leastFree = 9 ∧ mMax MX9_leastFree = 5 ∧ mRet MX9_leastFree = some .int := ⟨rfl, rfl, rfl, rfl⟩
theorem a_X9_leastFree : mArgs MX9_leastFree = 3 := rfl
theorem p_X10_drawn : mCode MX10_drawn = cX10_drawn ∧ mOwn MX10_drawn = 10 ∧ mMax MX10_drawn = 6 ∧ mRet MX10_drawn = some .long := ⟨rfl, rfl, rfl, rfl⟩
theorem a_X10_drawn : mArgs MX10_drawn = 1 := rfl
theorem p_X1_begin : mCode MX1_begin = cX1_begin ∧ mOwn MX1_begin = 1 ∧ mMax MX1_begin = 2 ∧ mRet MX1_begin = none := ⟨rfl, rfl, rfl, rfl⟩
theorem a_X1_begin : mArgs MX1_begin = 1 := rfl
theorem p_X1_evenBelow : mCode MX1_evenBelow = cX1_evenBelow ∧ mOwn MX1_evenBelow = 1 ∧ mMax MX1_evenBelow = 8 ∧ mRet MX1_evenBelow = some .long := ⟨rfl, rfl, rfl, rfl⟩
theorem a_X1_evenBelow : mArgs MX1_evenBelow = 1 := rfl
theorem p_X1_wideDraw : mCode MX1_wideDraw = cX1_wideDraw ∧ mOwn MX1_wideDraw = 1 ∧ mMax MX1_wideDraw = 7 ∧ mRet MX1_wideDraw = some .long := ⟨rfl, rfl, rfl, rfl⟩
theorem a_X1_wideDraw : mArgs MX1_wideDraw = 0 := rfl
theorem p_X1_draw : mCode MX1_draw = cX1_draw ∧ mOwn MX1_draw = 1 ∧ mMax MX1_draw = 1 ∧ mRet MX1_draw = some .int := ⟨rfl, rfl, rfl, rfl⟩
theorem a_X1_draw : mArgs MX1_draw = 0 := rfl
theorem p_X9_lookAtRank : mCode MX9_lookAtRank = cX9_lookAtRank ∧ mOwn MX9_lookAtRank = 9 ∧ mMax MX9_lookAtRank = 5 ∧ mRet MX9_lookAtRank = some .boolean := ⟨rfl, rfl, rfl, rfl⟩
theorem a_X9_lookAtRank : mArgs MX9_lookAtRank = 2 := rfl
theorem p_X9_buildPath : mCode MX9_buildPath = cX9_buildPath ∧ mOwn MX9_buildPath = 9 ∧ mMax MX9_buildPath = 10 ∧ mRet MX9_buildPath = some .boolean := ⟨rfl, rfl, rfl, rfl⟩
theorem a_X9_buildPath : mArgs MX9_buildPath = 3 := rfl
theorem p_X9_chooseNext : mCode MX9_chooseNext = cX9_chooseNext ∧ mOwn MX9_chooseNext = 9 ∧ mMax MX9_chooseNext = 8 ∧ mRet MX9_chooseNext = some .int := ⟨rfl, rfl, rfl, rfl⟩
theorem a_X9_chooseNext : mArgs MX9_chooseNext = 4 := rfl
theorem p_X10_words : mCode MX10_words = cX10_words ∧ mOwn MX10_words = 10 ∧ mMax MX10_words = 3 ∧ mRet MX10_words = some .long := ⟨rfl, rfl, rfl, rfl⟩
theorem a_X10_words : mArgs MX10_words = 0 := rfl
theorem p_X6_tell : mCode MX6_tell = cX6_tell ∧ mOwn MX6_tell = 6 ∧ mMax MX6_tell = 5 ∧ mRet MX6_tell = some .long := ⟨rfl, rfl, rfl, rfl⟩
theorem a_X6_tell : mArgs MX6_tell = 1 := rfl
theorem p_J6_bitCount : mCode MJ6_bitCount = cJ6_bitCount_0f7a4 ∧ mOwn MJ6_bitCount = 12 ∧ mMax MJ6_bitCount = 1 ∧ mRet MJ6_bitCount = some .int := ⟨rfl, rfl, rfl, rfl⟩
theorem a_J6_bitCount : mArgs MJ6_bitCount = 1 := rfl
theorem p_X6_takeLetters : mCode MX6_takeLetters = cX6_takeLetters ∧ mOwn MX6_takeLetters = 6 ∧ mMax MX6_takeLetters = 4 ∧ mRet MX6_takeLetters = none := ⟨rfl, rfl, rfl, rfl⟩
theorem a_X6_takeLetters : mArgs MX6_takeLetters = 1 := rfl
theorem p_X6_indexOf : mCode MX6_indexOf = cX6_indexOf ∧ mOwn MX6_indexOf = 6 ∧ mMax MX6_indexOf = 2 ∧ mRet MX6_indexOf = some .int := ⟨rfl, rfl, rfl, rfl⟩
theorem a_X6_indexOf : mArgs MX6_indexOf = 1 := rfl
theorem p_X6_loadTold : mCode MX6_loadTold = cX6_loadTold ∧ mOwn MX6_loadTold = 6 ∧ mMax MX6_loadTold = 2 ∧ mRet MX6_loadTold = none := ⟨rfl, rfl, rfl, rfl⟩
theorem a_X6_loadTold : mArgs MX6_loadTold = 0 := rfl
theorem p_X6_goal : mCode MX6_goal = cX6_goal ∧ mOwn MX6_goal = 6 ∧ mMax MX6_goal = 1 ∧ mRet MX6_goal = some .int := ⟨rfl, rfl, rfl, rfl⟩
theorem a_X6_goal : mArgs MX6_goal = 0 := rfl
theorem p_X0_spellingsTo : mCode MX0_spellingsTo = cX0_spellingsTo ∧ mOwn MX0_spellingsTo = 0 ∧ mMax MX0_spellingsTo = 6 ∧ mRet MX0_spellingsTo = some .long := ⟨rfl, rfl, rfl, rfl⟩
theorem a_X0_spellingsTo : mArgs MX0_spellingsTo = 1 := rfl
theorem p_X6_countAhead : mCode MX6_countAhead = cX6_countAhead ∧ mOwn MX6_countAhead = 6 ∧ mMax MX6_countAhead = 6 ∧ mRet MX6_countAhead = some .long := ⟨rfl, rfl, rfl, rfl⟩
theorem a_X6_countAhead : mArgs MX6_countAhead = 0 := rfl
theorem p_X6_spellingsOver : mCode MX6_spellingsOver = cX6_spellingsOver ∧ mOwn MX6_spellingsOver = 6 ∧ mMax MX6_spellingsOver = 5 ∧ mRet MX6_spellingsOver = some .long := ⟨rfl, rfl, rfl, rfl⟩
theorem a_X6_spellingsOver : mArgs MX6_spellingsOver = 2 := rfl
theorem p_X10_wordRank : mCode MX10_wordRank = cX10_wordRank ∧ mOwn MX10_wordRank = 10 ∧ mMax MX10_wordRank = 1 ∧ mRet MX10_wordRank = some .long := ⟨rfl, rfl, rfl, rfl⟩
theorem a_X10_wordRank : mArgs MX10_wordRank = 0 := rfl
theorem p_X10_letterAt : mCode MX10_letterAt = cX10_letterAt ∧ mOwn MX10_letterAt = 10 ∧ mMax MX10_letterAt = 2 ∧ mRet MX10_letterAt = some .int := ⟨rfl, rfl, rfl, rfl⟩
theorem a_X10_letterAt : mArgs MX10_letterAt = 1 := rfl
theorem p_X6_seenAt : mCode MX6_seenAt = cX6_seenAt ∧ mOwn MX6_seenAt = 6 ∧ mMax MX6_seenAt = 2 ∧ mRet MX6_seenAt = some .int := ⟨rfl, rfl, rfl, rfl⟩
theorem a_X6_seenAt : mArgs MX6_seenAt = 1 := rfl
theorem p_X10_braid : mCode MX10_braid = cX10_braid ∧ mOwn MX10_braid = 10 ∧ mMax MX10_braid = 5 ∧ mRet MX10_braid = some .int := ⟨rfl, rfl, rfl, rfl⟩
theorem a_X10_braid : mArgs MX10_braid = 2 := rfl
theorem p_X3_mark : mCode MX3_mark = cX3_mark ∧ mOwn MX3_mark = 3 ∧ mMax MX3_mark = 2 ∧ mRet MX3_mark = none := ⟨rfl, rfl, rfl, rfl⟩
theorem a_X3_mark : mArgs MX3_mark = 1 := rfl
theorem p_X4_weave : mCode MX4_weave = cX4_weave ∧ mOwn MX4_weave = 4 ∧ mMax MX4_weave = 4 ∧ mRet MX4_weave = none := ⟨rfl, rfl, rfl, rfl⟩
theorem a_X4_weave : mArgs MX4_weave = 2 := rfl
theorem p_X3_keep : mCode MX3_keep = cX3_keep ∧ mOwn MX3_keep = 3 ∧ mMax MX3_keep = 1 ∧ mRet MX3_keep = none := ⟨rfl, rfl, rfl, rfl⟩
theorem a_X3_keep : mArgs MX3_keep = 0 := rfl
theorem p_J9_min : mCode MJ9_min = cJ9_min_7cf53 ∧ mOwn MJ9_min = 13 ∧ mMax MJ9_min = 2 ∧ mRet MJ9_min = some .int := ⟨rfl, rfl, rfl, rfl⟩
theorem a_J9_min : mArgs MJ9_min = 2 := rfl
theorem p_X10_again : mCode MX10_again = cX10_again ∧ mOwn MX10_again = 10 ∧ mMax MX10_again = 1 ∧ mRet MX10_again = some .int := ⟨rfl, rfl, rfl, rfl⟩
theorem a_X10_again : mArgs MX10_again = 0 := rfl
theorem p_X2_fewestAgain : mCode MX2_fewestAgain = cX2_fewestAgain ∧ mOwn MX2_fewestAgain = 2 ∧ mMax MX2_fewestAgain = 4 ∧ mRet MX2_fewestAgain = some .int := ⟨rfl, rfl, rfl, rfl⟩
theorem a_X2_fewestAgain : mArgs MX2_fewestAgain = 1 := rfl
theorem p_X2_sendAll : mCode MX2_sendAll = cX2_sendAll ∧ mOwn MX2_sendAll = 2 ∧ mMax MX2_sendAll = 4 ∧ mRet MX2_sendAll = some .boolean := ⟨rfl, rfl, rfl, rfl⟩
theorem a_X2_sendAll : mArgs MX2_sendAll = 1 := rfl
theorem p_X2_hasSurplus : mCode MX2_hasSurplus = cX2_hasSurplus ∧ mOwn MX2_hasSurplus = 2 ∧ mMax MX2_hasSurplus = 3 ∧ mRet MX2_hasSurplus = some .boolean := ⟨rfl, rfl, rfl, rfl⟩
theorem a_X2_hasSurplus : mArgs MX2_hasSurplus = 1 := rfl
theorem p_X2_findDistances : mCode MX2_findDistances = cX2_findDistances ∧ mOwn MX2_findDistances = 2 ∧ mMax MX2_findDistances = 7 ∧ mRet MX2_findDistances = none := ⟨rfl, rfl, rfl, rfl⟩
theorem a_X2_findDistances : mArgs MX2_findDistances = 1 := rfl
theorem p_X2_nearestLacking : mCode MX2_nearestLacking = cX2_nearestLacking ∧ mOwn MX2_nearestLacking = 2 ∧ mMax MX2_nearestLacking = 5 ∧ mRet MX2_nearestLacking = some .int := ⟨rfl, rfl, rfl, rfl⟩
theorem a_X2_nearestLacking : mArgs MX2_nearestLacking = 1 := rfl
theorem p_X2_sendOne : mCode MX2_sendOne = cX2_sendOne ∧ mOwn MX2_sendOne = 2 ∧ mMax MX2_sendOne = 6 ∧ mRet MX2_sendOne = none := ⟨rfl, rfl, rfl, rfl⟩
theorem a_X2_sendOne : mArgs MX2_sendOne = 2 := rfl
theorem p_X10_lack : mCode MX10_lack = cX10_lack ∧ mOwn MX10_lack = 10 ∧ mMax MX10_lack = 3 ∧ mRet MX10_lack = some .int := ⟨rfl, rfl, rfl, rfl⟩
theorem a_X10_lack : mArgs MX10_lack = 0 := rfl
theorem p_J9_max : mCode MJ9_max = cJ9_max_7cf53 ∧ mOwn MJ9_max = 13 ∧ mMax MJ9_max = 2 ∧ mRet MJ9_max = some .int := ⟨rfl, rfl, rfl, rfl⟩
theorem a_J9_max : mArgs MJ9_max = 2 := rfl
theorem p_X10_righted : mCode MX10_righted = cX10_righted ∧ mOwn MX10_righted = 10 ∧ mMax MX10_righted = 3 ∧ mRet MX10_righted = some .int := ⟨rfl, rfl, rfl, rfl⟩
theorem a_X10_righted : mArgs MX10_righted = 1 := rfl
theorem p_X2_leastTurned : mCode MX2_leastTurned = cX2_leastTurned ∧ mOwn MX2_leastTurned = 2 ∧ mMax MX2_leastTurned = 4 ∧ mRet MX2_leastTurned = some .int := ⟨rfl, rfl, rfl, rfl⟩
theorem a_X2_leastTurned : mArgs MX2_leastTurned = 1 := rfl
theorem p_X10_add : mCode MX10_add = cX10_add ∧ mOwn MX10_add = 10 ∧ mMax MX10_add = 3 ∧ mRet MX10_add = some .int := ⟨rfl, rfl, rfl, rfl⟩
theorem a_X10_add : mArgs MX10_add = 2 := rfl
theorem p_X10_drop : mCode MX10_drop = cX10_drop ∧ mOwn MX10_drop = 10 ∧ mMax MX10_drop = 2 ∧ mRet MX10_drop = some .int := ⟨rfl, rfl, rfl, rfl⟩
theorem a_X10_drop : mArgs MX10_drop = 1 := rfl
theorem p_X4_remove : mCode MX4_remove = cX4_remove ∧ mOwn MX4_remove = 4 ∧ mMax MX4_remove = 3 ∧ mRet MX4_remove = none := ⟨rfl, rfl, rfl, rfl⟩
theorem a_X4_remove : mArgs MX4_remove = 1 := rfl
theorem p_X10_turn : mCode MX10_turn = cX10_turn ∧ mOwn MX10_turn = 10 ∧ mMax MX10_turn = 2 ∧ mRet MX10_turn = some .int := ⟨rfl, rfl, rfl, rfl⟩
theorem a_X10_turn : mArgs MX10_turn = 1 := rfl
theorem p_X4_flip : mCode MX4_flip = cX4_flip ∧ mOwn MX4_flip = 4 ∧ mMax MX4_flip = 3 ∧ mRet MX4_flip = none := ⟨rfl, rfl, rfl, rfl⟩
theorem a_X4_flip : mArgs MX4_flip = 1 := rfl
theorem p_X10_deeds : mCode MX10_deeds = cX10_deeds ∧ mOwn MX10_deeds = 10 ∧ mMax MX10_deeds = 5 ∧ mRet MX10_deeds = some .int := ⟨rfl, rfl, rfl, rfl⟩
theorem a_X10_deeds : mArgs MX10_deeds = 2 := rfl
theorem p_X1_doDeed : mCode MX1_doDeed = cX1_doDeed ∧ mOwn MX1_doDeed = 1 ∧ mMax MX1_doDeed = 4 ∧ mRet MX1_doDeed = some .boolean := ⟨rfl, rfl, rfl, rfl⟩
theorem a_X1_doDeed : mArgs MX1_doDeed = 1 := rfl
theorem p_X1_doAppend : mCode MX1_doAppend = cX1_doAppend ∧ mOwn MX1_doAppend = 1 ∧ mMax MX1_doAppend = 4 ∧ mRet MX1_doAppend = some .boolean := ⟨rfl, rfl, rfl, rfl⟩
theorem a_X1_doAppend : mArgs MX1_doAppend = 1 := rfl
theorem p_X10_undo : mCode MX10_undo = cX10_undo ∧ mOwn MX10_undo = 10 ∧ mMax MX10_undo = 1 ∧ mRet MX10_undo = some .int := ⟨rfl, rfl, rfl, rfl⟩
theorem a_X10_undo : mArgs MX10_undo = 0 := rfl
theorem p_X3_stepBack : mCode MX3_stepBack = cX3_stepBack ∧ mOwn MX3_stepBack = 3 ∧ mMax MX3_stepBack = 2 ∧ mRet MX3_stepBack = some .int := ⟨rfl, rfl, rfl, rfl⟩
theorem a_X3_stepBack : mArgs MX3_stepBack = 1 := rfl
theorem p_X10_image : mCode MX10_image = cX10_image ∧ mOwn MX10_image = 10 ∧ mMax MX10_image = 2 ∧ mRet MX10_image = some .boolean := ⟨rfl, rfl, rfl, rfl⟩
theorem a_X10_image : mArgs MX10_image = 1 := rfl
theorem p_X10_restore : mCode MX10_restore = cX10_restore ∧ mOwn MX10_restore = 10 ∧ mMax MX10_restore = 2 ∧ mRet MX10_restore = some .boolean := ⟨rfl, rfl, rfl, rfl⟩
theorem a_X10_restore : mArgs MX10_restore = 1 := rfl
theorem p_X10_arc : mCode MX10_arc = cX10_arc ∧ mOwn MX10_arc = 10 ∧ mMax MX10_arc = 3 ∧ mRet MX10_arc = some .int := ⟨rfl, rfl, rfl, rfl⟩
theorem a_X10_arc : mArgs MX10_arc = 2 := rfl
theorem p_X10_degree : mCode MX10_degree = cX10_degree ∧ mOwn MX10_degree = 10 ∧ mMax MX10_degree = 3 ∧ mRet MX10_degree = some .int := ⟨rfl, rfl, rfl, rfl⟩
theorem a_X10_degree : mArgs MX10_degree = 2 := rfl
theorem p_X10_tree : mCode MX10_tree = cX10_tree ∧ mOwn MX10_tree = 10 ∧ mMax MX10_tree = 4 ∧ mRet MX10_tree = some .int := ⟨rfl, rfl, rfl, rfl⟩
theorem a_X10_tree : mArgs MX10_tree = 2 := rfl
theorem p_X8_ofNumber : mCode MX8_ofNumber = cX8_ofNumber ∧ mOwn MX8_ofNumber = 8 ∧ mMax MX8_ofNumber = 11 ∧ mRet MX8_ofNumber = some .int := ⟨rfl, rfl, rfl, rfl⟩
theorem a_X8_ofNumber : mArgs MX8_ofNumber = 3 := rfl
theorem p_X8_withOneFrom : mCode MX8_withOneFrom = cX8_withOneFrom ∧ mOwn MX8_withOneFrom = 8 ∧ mMax MX8_withOneFrom = 5 ∧ mRet MX8_withOneFrom = some .int := ⟨rfl, rfl, rfl, rfl⟩
theorem a_X8_withOneFrom : mArgs MX8_withOneFrom = 3 := rfl
theorem p_X10_walk : mCode MX10_walk = cX10_walk ∧ mOwn MX10_walk = 10 ∧ mMax MX10_walk = 3 ∧ mRet MX10_walk = some .int := ⟨rfl, rfl, rfl, rfl⟩
theorem a_X10_walk : mArgs MX10_walk = 1 := rfl
theorem p_X10_word : mCode MX10_word = cX10_word ∧ mOwn MX10_word = 10 ∧ mMax MX10_word = 3 ∧ mRet MX10_word = some .int := ⟨rfl, rfl, rfl, rfl⟩
theorem a_X10_word : mArgs MX10_word = 1 := rfl
theorem p_X6_lookAtRank : mCode MX6_lookAtRank = cX6_lookAtRank ∧ mOwn MX6_lookAtRank = 6 ∧ mMax MX6_lookAtRank = 10 ∧ mRet MX6_lookAtRank = some .boolean := ⟨rfl, rfl, rfl, rfl⟩
theorem a_X6_lookAtRank : mArgs MX6_lookAtRank = 1 := rfl
theorem p_X11_thrown : mCode MX11_thrown = cX11_thrown ∧ mOwn MX11_thrown = 11 ∧ mMax MX11_thrown = 1 ∧ mRet MX11_thrown = some .int := ⟨rfl, rfl, rfl, rfl⟩
theorem a_X11_thrown : mArgs MX11_thrown = 0 := rfl
theorem p_X11_feed : mCode MX11_feed = cX11_feed ∧ mOwn MX11_feed = 11 ∧ mMax MX11_feed = 6 ∧ mRet MX11_feed = some .int := ⟨rfl, rfl, rfl, rfl⟩
theorem a_X11_feed : mArgs MX11_feed = 5 := rfl
theorem p_X11_lay : mCode MX11_lay = cX11_lay ∧ mOwn MX11_lay = 11 ∧ mMax MX11_lay = 3 ∧ mRet MX11_lay = none := ⟨rfl, rfl, rfl, rfl⟩
theorem a_X11_lay : mArgs MX11_lay = 1 := rfl
theorem p_X11_end : mCode MX11_end = cX11_end ∧ mOwn MX11_end = 11 ∧ mMax MX11_end = 2 ∧ mRet MX11_end = some .boolean := ⟨rfl, rfl, rfl, rfl⟩
theorem a_X11_end : mArgs MX11_end = 1 := rfl
theorem p_X11_net : mCode MX11_net = cX11_net ∧ mOwn MX11_net = 11 ∧ mMax MX11_net = 3 ∧ mRet MX11_net = some .int := ⟨rfl, rfl, rfl, rfl⟩
theorem a_X11_net : mArgs MX11_net = 0 := rfl
theorem p_X11_next : mCode MX11_next = cX11_next ∧ mOwn MX11_next = 11 ∧ mMax MX11_next = 1 ∧ mRet MX11_next = none := ⟨rfl, rfl, rfl, rfl⟩
theorem a_X11_next : mArgs MX11_next = 0 := rfl
theorem p_X11_isLetter : mCode MX11_isLetter = cX11_isLetter ∧ mOwn MX11_isLetter = 11 ∧ mMax MX11_isLetter = 1 ∧ mRet MX11_isLetter = some .boolean := ⟨rfl, rfl, rfl, rfl⟩
theorem a_X11_isLetter : mArgs MX11_isLetter = 1 := rfl
theorem p_X11_tapeAt : mCode MX11_tapeAt = cX11_tapeAt ∧ mOwn MX11_tapeAt = 11 ∧ mMax MX11_tapeAt = 2 ∧ mRet MX11_tapeAt = some .int := ⟨rfl, rfl, rfl, rfl⟩
theorem a_X11_tapeAt : mArgs MX11_tapeAt = 1 := rfl
theorem p_X11_isPointWord : mCode MX11_isPointWord = cX11_isPointWord ∧ mOwn MX11_isPointWord = 11 ∧ mMax MX11_isPointWord = 1 ∧ mRet MX11_isPointWord = some .boolean := ⟨rfl, rfl, rfl, rfl⟩
theorem a_X11_isPointWord : mArgs MX11_isPointWord = 0 := rfl
theorem p_X11_spelt : mCode MX11_spelt = cX11_spelt ∧ mOwn MX11_spelt = 11 ∧ mMax MX11_spelt = 7 ∧ mRet MX11_spelt = some .long := ⟨rfl, rfl, rfl, rfl⟩
theorem a_X11_spelt : mArgs MX11_spelt = 5 := rfl
theorem p_X11_readPoint : mCode MX11_readPoint = cX11_readPoint ∧ mOwn MX11_readPoint = 11 ∧ mMax MX11_readPoint = 1 ∧ mRet MX11_readPoint = some .boolean := ⟨rfl, rfl, rfl, rfl⟩
theorem a_X11_readPoint : mArgs MX11_readPoint = 0 := rfl
theorem p_X11_bad : mCode MX11_bad = cX11_bad ∧ mOwn MX11_bad = 11 ∧ mMax MX11_bad = 2 ∧ mRet MX11_bad = some .boolean := ⟨rfl, rfl, rfl, rfl⟩
theorem a_X11_bad : mArgs MX11_bad = 1 := rfl
theorem p_X11_isName : mCode MX11_isName = cX11_isName ∧ mOwn MX11_isName = 11 ∧ mMax MX11_isName = 1 ∧ mRet MX11_isName = some .boolean := ⟨rfl, rfl, rfl, rfl⟩
theorem a_X11_isName : mArgs MX11_isName = 0 := rfl
theorem p_X11_isArcWord : mCode MX11_isArcWord = cX11_isArcWord ∧ mOwn MX11_isArcWord = 11 ∧ mMax MX11_isArcWord = 1 ∧ mRet MX11_isArcWord = some .boolean := ⟨rfl, rfl, rfl, rfl⟩
theorem a_X11_isArcWord : mArgs MX11_isArcWord = 0 := rfl
theorem p_X11_named : mCode MX11_named = cX11_named ∧ mOwn MX11_named = 11 ∧ mMax MX11_named = 2 ∧ mRet MX11_named = some .int := ⟨rfl, rfl, rfl, rfl⟩
theorem a_X11_named : mArgs MX11_named = 0 := rfl
theorem p_X11_readArc : mCode MX11_readArc = cX11_readArc ∧ mOwn MX11_readArc = 11 ∧ mMax MX11_readArc = 3 ∧ mRet MX11_readArc = some .boolean := ⟨rfl, rfl, rfl, rfl⟩
theorem a_X11_readArc : mArgs MX11_readArc = 0 := rfl
theorem p_X11_goes : mCode MX11_goes = cX11_goes ∧ mOwn MX11_goes = 11 ∧ mMax MX11_goes = 3 ∧ mRet MX11_goes = none := ⟨rfl, rfl, rfl, rfl⟩
theorem a_X11_goes : mArgs MX11_goes = 3 := rfl
theorem p_X11_readEnd : mCode MX11_readEnd = cX11_readEnd ∧ mOwn MX11_readEnd = 11 ∧ mMax MX11_readEnd = 1 ∧ mRet MX11_readEnd = some .boolean := ⟨rfl, rfl, rfl, rfl⟩
theorem a_X11_readEnd : mArgs MX11_readEnd = 0 := rfl
theorem p_X11_copy : mCode MX11_copy = cX11_copy ∧ mOwn MX11_copy = 11 ∧ mMax MX11_copy = 5 ∧ mRet MX11_copy = none := ⟨rfl, rfl, rfl, rfl⟩
theorem a_X11_copy : mArgs MX11_copy = 4 := rfl
theorem p_X11_fault : mCode MX11_fault = cX11_fault ∧ mOwn MX11_fault = 11 ∧ mMax MX11_fault = 1 ∧ mRet MX11_fault = some .int := ⟨rfl, rfl, rfl, rfl⟩
theorem a_X11_fault : mArgs MX11_fault = 0 := rfl
theorem p_X11_now : mCode MX11_now = cX11_now ∧ mOwn MX11_now = 11 ∧ mMax MX11_now = 2 ∧ mRet MX11_now = some .int := ⟨rfl, rfl, rfl, rfl⟩
theorem a_X11_now : mArgs MX11_now = 1 := rfl
theorem p_X11_points : mCode MX11_points = cX11_points ∧ mOwn MX11_points = 11 ∧ mMax MX11_points = 1 ∧ mRet MX11_points = some .int := ⟨rfl, rfl, rfl, rfl⟩
theorem a_X11_points : mArgs MX11_points = 0 := rfl
theorem p_X11_arcs : mCode MX11_arcs = cX11_arcs ∧ mOwn MX11_arcs = 11 ∧ mMax MX11_arcs = 1 ∧ mRet MX11_arcs = some .int := ⟨rfl, rfl, rfl, rfl⟩
theorem a_X11_arcs : mArgs MX11_arcs = 0 := rfl
theorem p_X11_used : mCode MX11_used = cX11_used ∧ mOwn MX11_used = 11 ∧ mMax MX11_used = 3 ∧ mRet MX11_used = some .int := ⟨rfl, rfl, rfl, rfl⟩
theorem a_X11_used : mArgs MX11_used = 1 := rfl
theorem p_X11_isJoined : mCode MX11_isJoined = cX11_isJoined ∧ mOwn MX11_isJoined = 11 ∧ mMax MX11_isJoined = 1 ∧ mRet MX11_isJoined = some .boolean := ⟨rfl, rfl, rfl, rfl⟩
theorem a_X11_isJoined : mArgs MX11_isJoined = 1 := rfl
theorem p_X11_reach : mCode MX11_reach = cX11_reach ∧ mOwn MX11_reach = 11 ∧ mMax MX11_reach = 6 ∧ mRet MX11_reach = some .int := ⟨rfl, rfl, rfl, rfl⟩
theorem a_X11_reach : mArgs MX11_reach = 3 := rfl
theorem p_X11_has : mCode MX11_has = cX11_has ∧ mOwn MX11_has = 11 ∧ mMax MX11_has = 2 ∧ mRet MX11_has = some .boolean := ⟨rfl, rfl, rfl, rfl⟩
theorem a_X11_has : mArgs MX11_has = 2 := rfl
theorem p_X11_offs : mCode MX11_offs = cX11_offs ∧ mOwn MX11_offs = 11 ∧ mMax MX11_offs = 4 ∧ mRet MX11_offs = some .int := ⟨rfl, rfl, rfl, rfl⟩
theorem a_X11_offs : mArgs MX11_offs = 2 := rfl
theorem p_X11_off : mCode MX11_off = cX11_off ∧ mOwn MX11_off = 11 ∧ mMax MX11_off = 2 ∧ mRet MX11_off = some .int := ⟨rfl, rfl, rfl, rfl⟩
theorem a_X11_off : mArgs MX11_off = 2 := rfl
theorem p_X11_out : mCode MX11_out = cX11_out ∧ mOwn MX11_out = 11 ∧ mMax MX11_out = 4 ∧ mRet MX11_out = some .int := ⟨rfl, rfl, rfl, rfl⟩
theorem a_X11_out : mArgs MX11_out = 2 := rfl
theorem p_X11_in : mCode MX11_in = cX11_in ∧ mOwn MX11_in = 11 ∧ mMax MX11_in = 4 ∧ mRet MX11_in = some .int := ⟨rfl, rfl, rfl, rfl⟩
theorem a_X11_in : mArgs MX11_in = 2 := rfl
theorem p_X11_isStrong : mCode MX11_isStrong = cX11_isStrong ∧ mOwn MX11_isStrong = 11 ∧ mMax MX11_isStrong = 2 ∧ mRet MX11_isStrong = some .boolean := ⟨rfl, rfl, rfl, rfl⟩
theorem a_X11_isStrong : mArgs MX11_isStrong = 1 := rfl
theorem p_X11_arc : mCode MX11_arc = cX11_arc ∧ mOwn MX11_arc = 11 ∧ mMax MX11_arc = 3 ∧ mRet MX11_arc = some .int := ⟨rfl, rfl, rfl, rfl⟩
theorem a_X11_arc : mArgs MX11_arc = 2 := rfl
theorem p_X11_isArc : mCode MX11_isArc = cX11_isArc ∧ mOwn MX11_isArc = 11 ∧ mMax MX11_isArc = 2 ∧ mRet MX11_isArc = some .boolean := ⟨rfl, rfl, rfl, rfl⟩
theorem a_X11_isArc : mArgs MX11_isArc = 1 := rfl
theorem p_X11_isIn : mCode MX11_isIn = cX11_isIn ∧ mOwn MX11_isIn = 11 ∧ mMax MX11_isIn = 3 ∧ mRet MX11_isIn = some .boolean := ⟨rfl, rfl, rfl, rfl⟩
theorem a_X11_isIn : mArgs MX11_isIn = 3 := rfl
theorem p_X11_refuse : mCode MX11_refuse = cX11_refuse ∧ mOwn MX11_refuse = 11 ∧ mMax MX11_refuse = 1 ∧ mRet MX11_refuse = some .int := ⟨rfl, rfl, rfl, rfl⟩
theorem a_X11_refuse : mArgs MX11_refuse = 0 := rfl
theorem p_X11_degree : mCode MX11_degree = cX11_degree ∧ mOwn MX11_degree = 11 ∧ mMax MX11_degree = 3 ∧ mRet MX11_degree = some .int := ⟨rfl, rfl, rfl, rfl⟩
theorem a_X11_degree : mArgs MX11_degree = 2 := rfl
theorem p_X11_isPoint : mCode MX11_isPoint = cX11_isPoint ∧ mOwn MX11_isPoint = 11 ∧ mMax MX11_isPoint = 2 ∧ mRet MX11_isPoint = some .boolean := ⟨rfl, rfl, rfl, rfl⟩
theorem a_X11_isPoint : mArgs MX11_isPoint = 1 := rfl
theorem p_X11_kind : mCode MX11_kind = cX11_kind ∧ mOwn MX11_kind = 11 ∧ mMax MX11_kind = 1 ∧ mRet MX11_kind = some .int := ⟨rfl, rfl, rfl, rfl⟩
theorem a_X11_kind : mArgs MX11_kind = 0 := rfl
theorem p_X11_kindOf : mCode MX11_kindOf = cX11_kindOf ∧ mOwn MX11_kindOf = 11 ∧ mMax MX11_kindOf = 1 ∧ mRet MX11_kindOf = some .int := ⟨rfl, rfl, rfl, rfl⟩
theorem a_X11_kindOf : mArgs MX11_kindOf = 1 := rfl
theorem p_X11_lacking : mCode MX11_lacking = cX11_lacking ∧ mOwn MX11_lacking = 11 ∧ mMax MX11_lacking = 3 ∧ mRet MX11_lacking = some .int := ⟨rfl, rfl, rfl, rfl⟩
theorem a_X11_lacking : mArgs MX11_lacking = 1 := rfl
theorem p_X11_ends : mCode MX11_ends = cX11_ends ∧ mOwn MX11_ends = 11 ∧ mMax MX11_ends = 2 ∧ mRet MX11_ends = some .int := ⟨rfl, rfl, rfl, rfl⟩
theorem a_X11_ends : mArgs MX11_ends = 1 := rfl
theorem p_X11_start : mCode MX11_start = cX11_start ∧ mOwn MX11_start = 11 ∧ mMax MX11_start = 1 ∧ mRet MX11_start = some .int := ⟨rfl, rfl, rfl, rfl⟩
theorem a_X11_start : mArgs MX11_start = 1 := rfl
theorem p_X11_only : mCode MX11_only = cX11_only ∧ mOwn MX11_only = 11 ∧ mMax MX11_only = 2 ∧ mRet MX11_only = some .int := ⟨rfl, rfl, rfl, rfl⟩
theorem a_X11_only : mArgs MX11_only = 1 := rfl
theorem p_X11_last : mCode MX11_last = cX11_last ∧ mOwn MX11_last = 11 ∧ mMax MX11_last = 1 ∧ mRet MX11_last = some .int := ⟨rfl, rfl, rfl, rfl⟩
theorem a_X11_last : mArgs MX11_last = 1 := rfl
theorem p_X11_trees : mCode MX11_trees = cX11_trees ∧ mOwn MX11_trees = 11 ∧ mMax MX11_trees = 2 ∧ mRet MX11_trees = some .long := ⟨rfl, rfl, rfl, rfl⟩
theorem a_X11_trees : mArgs MX11_trees = 1 := rfl
theorem p_X11_laysTrees : mCode MX11_laysTrees = cX11_laysTrees ∧ mOwn MX11_laysTrees = 11 ∧ mMax MX11_laysTrees = 2 ∧ mRet MX11_laysTrees = none := ⟨rfl, rfl, rfl, rfl⟩
theorem a_X11_laysTrees : mArgs MX11_laysTrees = 1 := rfl
theorem p_X11_chooses : mCode MX11_chooses = cX11_chooses ∧ mOwn MX11_chooses = 11 ∧ mMax MX11_chooses = 5 ∧ mRet MX11_chooses = none := ⟨rfl, rfl, rfl, rfl⟩
theorem a_X11_chooses : mArgs MX11_chooses = 3 := rfl
theorem p_X11_isTree : mCode MX11_isTree = cX11_isTree ∧ mOwn MX11_isTree = 11 ∧ mMax MX11_isTree = 6 ∧ mRet MX11_isTree = some .boolean := ⟨rfl, rfl, rfl, rfl⟩
theorem a_X11_isTree : mArgs MX11_isTree = 2 := rfl
theorem p_X11_tree : mCode MX11_tree = cX11_tree ∧ mOwn MX11_tree = 11 ∧ mMax MX11_tree = 6 ∧ mRet MX11_tree = some .int := ⟨rfl, rfl, rfl, rfl⟩
theorem a_X11_tree : mArgs MX11_tree = 2 := rfl
theorem p_X11_walks : mCode MX11_walks = cX11_walks ∧ mOwn MX11_walks = 11 ∧ mMax MX11_walks = 1 ∧ mRet MX11_walks = some .long := ⟨rfl, rfl, rfl, rfl⟩
theorem a_X11_walks : mArgs MX11_walks = 0 := rfl
theorem p_X11_laysWalks : mCode MX11_laysWalks = cX11_laysWalks ∧ mOwn MX11_laysWalks = 11 ∧ mMax MX11_laysWalks = 3 ∧ mRet MX11_laysWalks = some .long := ⟨rfl, rfl, rfl, rfl⟩
theorem a_X11_laysWalks : mArgs MX11_laysWalks = 2 := rfl
theorem p_X11_laysWays : mCode MX11_laysWays = cX11_laysWays ∧ mOwn MX11_laysWays = 11 ∧ mMax MX11_laysWays = 9 ∧ mRet MX11_laysWays = none := ⟨rfl, rfl, rfl, rfl⟩
theorem a_X11_laysWays : mArgs MX11_laysWays = 4 := rfl
theorem p_X11_where : mCode MX11_where = cX11_where ∧ mOwn MX11_where = 11 ∧ mMax MX11_where = 6 ∧ mRet MX11_where = some .int := ⟨rfl, rfl, rfl, rfl⟩
theorem a_X11_where : mArgs MX11_where = 3 := rfl
theorem p_X11_mayGo : mCode MX11_mayGo = cX11_mayGo ∧ mOwn MX11_mayGo = 11 ∧ mMax MX11_mayGo = 8 ∧ mRet MX11_mayGo = some .boolean := ⟨rfl, rfl, rfl, rfl⟩
theorem a_X11_mayGo : mArgs MX11_mayGo = 5 := rfl
theorem p_X11_begun : mCode MX11_begun = cX11_begun ∧ mOwn MX11_begun = 11 ∧ mMax MX11_begun = 1 ∧ mRet MX11_begun = some .int := ⟨rfl, rfl, rfl, rfl⟩
theorem a_X11_begun : mArgs MX11_begun = 0 := rfl
theorem p_X11_walk : mCode MX11_walk = cX11_walk ∧ mOwn MX11_walk = 11 ∧ mMax MX11_walk = 3 ∧ mRet MX11_walk = some .int := ⟨rfl, rfl, rfl, rfl⟩
theorem a_X11_walk : mArgs MX11_walk = 1 := rfl
theorem p_X11_laysRank : mCode MX11_laysRank = cX11_laysRank ∧ mOwn MX11_laysRank = 11 ∧ mMax MX11_laysRank = 14 ∧ mRet MX11_laysRank = none := ⟨rfl, rfl, rfl, rfl⟩
theorem a_X11_laysRank : mArgs MX11_laysRank = 6 := rfl
theorem p_X11_bits : mCode MX11_bits = cX11_bits ∧ mOwn MX11_bits = 11 ∧ mMax MX11_bits = 3 ∧ mRet MX11_bits = some .int := ⟨rfl, rfl, rfl, rfl⟩
theorem a_X11_bits : mArgs MX11_bits = 1 := rfl
theorem p_X11_looks : mCode MX11_looks = cX11_looks ∧ mOwn MX11_looks = 11 ∧ mMax MX11_looks = 6 ∧ mRet MX11_looks = none := ⟨rfl, rfl, rfl, rfl⟩
theorem a_X11_looks : mArgs MX11_looks = 1 := rfl
theorem p_X11_walkAt : mCode MX11_walkAt = cX11_walkAt ∧ mOwn MX11_walkAt = 11 ∧ mMax MX11_walkAt = 2 ∧ mRet MX11_walkAt = some .int := ⟨rfl, rfl, rfl, rfl⟩
theorem a_X11_walkAt : mArgs MX11_walkAt = 1 := rfl
theorem p_X11_lasts : mCode MX11_lasts = cX11_lasts ∧ mOwn MX11_lasts = 11 ∧ mMax MX11_lasts = 1 ∧ mRet MX11_lasts = some .int := ⟨rfl, rfl, rfl, rfl⟩
theorem a_X11_lasts : mArgs MX11_lasts = 0 := rfl
theorem p_X11_rank : mCode MX11_rank = cX11_rank ∧ mOwn MX11_rank = 11 ∧ mMax MX11_rank = 3 ∧ mRet MX11_rank = some .long := ⟨rfl, rfl, rfl, rfl⟩
theorem a_X11_rank : mArgs MX11_rank = 0 := rfl
theorem p_X11_isWalk : mCode MX11_isWalk = cX11_isWalk ∧ mOwn MX11_isWalk = 11 ∧ mMax MX11_isWalk = 5 ∧ mRet MX11_isWalk = some .boolean := ⟨rfl, rfl, rfl, rfl⟩
theorem a_X11_isWalk : mArgs MX11_isWalk = 0 := rfl
theorem p_X11_ahead : mCode MX11_ahead = cX11_ahead ∧ mOwn MX11_ahead = 11 ∧ mMax MX11_ahead = 6 ∧ mRet MX11_ahead = some .long := ⟨rfl, rfl, rfl, rfl⟩
theorem a_X11_ahead : mArgs MX11_ahead = 0 := rfl
theorem p_X11_by : mCode MX11_by = cX11_by ∧ mOwn MX11_by = 11 ∧ mMax MX11_by = 2 ∧ mRet MX11_by = some .long := ⟨rfl, rfl, rfl, rfl⟩
theorem a_X11_by : mArgs MX11_by = 1 := rfl
theorem p_X11_laysBy : mCode MX11_laysBy = cX11_laysBy ∧ mOwn MX11_laysBy = 11 ∧ mMax MX11_laysBy = 3 ∧ mRet MX11_laysBy = some .long := ⟨rfl, rfl, rfl, rfl⟩
theorem a_X11_laysBy : mArgs MX11_laysBy = 1 := rfl
theorem p_X11_first : mCode MX11_first = cX11_first ∧ mOwn MX11_first = 11 ∧ mMax MX11_first = 2 ∧ mRet MX11_first = some .long := ⟨rfl, rfl, rfl, rfl⟩
theorem a_X11_first : mArgs MX11_first = 1 := rfl
theorem p_X11_drawn : mCode MX11_drawn = cX11_drawn ∧ mOwn MX11_drawn = 11 ∧ mMax MX11_drawn = 8 ∧ mRet MX11_drawn = some .long := ⟨rfl, rfl, rfl, rfl⟩
theorem a_X11_drawn : mArgs MX11_drawn = 1 := rfl
theorem p_X11_drawsMuch : mCode MX11_drawsMuch = cX11_drawsMuch ∧ mOwn MX11_drawsMuch = 11 ∧ mMax MX11_drawsMuch = 7 ∧ mRet MX11_drawsMuch = some .long := ⟨rfl, rfl, rfl, rfl⟩
theorem a_X11_drawsMuch : mArgs MX11_drawsMuch = 0 := rfl
theorem p_X11_draw : mCode MX11_draw = cX11_draw ∧ mOwn MX11_draw = 11 ∧ mMax MX11_draw = 1 ∧ mRet MX11_draw = some .int := ⟨rfl, rfl, rfl, rfl⟩
theorem a_X11_draw : mArgs MX11_draw = 0 := rfl
theorem p_X11_words : mCode MX11_words = cX11_words ∧ mOwn MX11_words = 11 ∧ mMax MX11_words = 3 ∧ mRet MX11_words = some .long := ⟨rfl, rfl, rfl, rfl⟩
theorem a_X11_words : mArgs MX11_words = 0 := rfl
theorem p_X11_isGood : mCode MX11_isGood = cX11_isGood ∧ mOwn MX11_isGood = 11 ∧ mMax MX11_isGood = 3 ∧ mRet MX11_isGood = some .boolean := ⟨rfl, rfl, rfl, rfl⟩
theorem a_X11_isGood : mArgs MX11_isGood = 1 := rfl
theorem p_X11_unlike : mCode MX11_unlike = cX11_unlike ∧ mOwn MX11_unlike = 11 ∧ mMax MX11_unlike = 4 ∧ mRet MX11_unlike = some .int := ⟨rfl, rfl, rfl, rfl⟩
theorem a_X11_unlike : mArgs MX11_unlike = 1 := rfl
theorem p_X11_laysLetters : mCode MX11_laysLetters = cX11_laysLetters ∧ mOwn MX11_laysLetters = 11 ∧ mMax MX11_laysLetters = 4 ∧ mRet MX11_laysLetters = none := ⟨rfl, rfl, rfl, rfl⟩
theorem a_X11_laysLetters : mArgs MX11_laysLetters = 0 := rfl
theorem p_X11_pointOf : mCode MX11_pointOf = cX11_pointOf ∧ mOwn MX11_pointOf = 11 ∧ mMax MX11_pointOf = 3 ∧ mRet MX11_pointOf = some .int := ⟨rfl, rfl, rfl, rfl⟩
theorem a_X11_pointOf : mArgs MX11_pointOf = 1 := rfl
theorem p_X11_wordRank : mCode MX11_wordRank = cX11_wordRank ∧ mOwn MX11_wordRank = 11 ∧ mMax MX11_wordRank = 9 ∧ mRet MX11_wordRank = some .long := ⟨rfl, rfl, rfl, rfl⟩
theorem a_X11_wordRank : mArgs MX11_wordRank = 0 := rfl
theorem p_X11_word : mCode MX11_word = cX11_word ∧ mOwn MX11_word = 11 ∧ mMax MX11_word = 4 ∧ mRet MX11_word = some .int := ⟨rfl, rfl, rfl, rfl⟩
theorem a_X11_word : mArgs MX11_word = 1 := rfl
theorem p_X11_letterAt : mCode MX11_letterAt = cX11_letterAt ∧ mOwn MX11_letterAt = 11 ∧ mMax MX11_letterAt = 2 ∧ mRet MX11_letterAt = some .int := ⟨rfl, rfl, rfl, rfl⟩
theorem a_X11_letterAt : mArgs MX11_letterAt = 1 := rfl
theorem p_X11_braid : mCode MX11_braid = cX11_braid ∧ mOwn MX11_braid = 11 ∧ mMax MX11_braid = 5 ∧ mRet MX11_braid = some .int := ⟨rfl, rfl, rfl, rfl⟩
theorem a_X11_braid : mArgs MX11_braid = 2 := rfl
theorem p_X11_snap : mCode MX11_snap = cX11_snap ∧ mOwn MX11_snap = 11 ∧ mMax MX11_snap = 2 ∧ mRet MX11_snap = none := ⟨rfl, rfl, rfl, rfl⟩
theorem a_X11_snap : mArgs MX11_snap = 0 := rfl
theorem p_X11_again : mCode MX11_again = cX11_again ∧ mOwn MX11_again = 11 ∧ mMax MX11_again = 3 ∧ mRet MX11_again = some .int := ⟨rfl, rfl, rfl, rfl⟩
theorem a_X11_again : mArgs MX11_again = 0 := rfl
theorem p_X11_laysFar : mCode MX11_laysFar = cX11_laysFar ∧ mOwn MX11_laysFar = 11 ∧ mMax MX11_laysFar = 5 ∧ mRet MX11_laysFar = none := ⟨rfl, rfl, rfl, rfl⟩
theorem a_X11_laysFar : mArgs MX11_laysFar = 0 := rfl
theorem p_X11_extra : mCode MX11_extra = cX11_extra ∧ mOwn MX11_extra = 11 ∧ mMax MX11_extra = 4 ∧ mRet MX11_extra = some .int := ⟨rfl, rfl, rfl, rfl⟩
theorem a_X11_extra : mArgs MX11_extra = 1 := rfl
theorem p_X11_goesAgain : mCode MX11_goesAgain = cX11_goesAgain ∧ mOwn MX11_goesAgain = 11 ∧ mMax MX11_goesAgain = 5 ∧ mRet MX11_goesAgain = none := ⟨rfl, rfl, rfl, rfl⟩
theorem a_X11_goesAgain : mArgs MX11_goesAgain = 1 := rfl
theorem p_X11_lack : mCode MX11_lack = cX11_lack ∧ mOwn MX11_lack = 11 ∧ mMax MX11_lack = 2 ∧ mRet MX11_lack = some .int := ⟨rfl, rfl, rfl, rfl⟩
theorem a_X11_lack : mArgs MX11_lack = 0 := rfl
theorem p_X11_righted : mCode MX11_righted = cX11_righted ∧ mOwn MX11_righted = 11 ∧ mMax MX11_righted = 4 ∧ mRet MX11_righted = some .int := ⟨rfl, rfl, rfl, rfl⟩
theorem a_X11_righted : mArgs MX11_righted = 1 := rfl
theorem p_X11_isRight : mCode MX11_isRight = cX11_isRight ∧ mOwn MX11_isRight = 11 ∧ mMax MX11_isRight = 3 ∧ mRet MX11_isRight = some .boolean := ⟨rfl, rfl, rfl, rfl⟩
theorem a_X11_isRight : mArgs MX11_isRight = 1 := rfl
theorem p_X11_add : mCode MX11_add = cX11_add ∧ mOwn MX11_add = 11 ∧ mMax MX11_add = 3 ∧ mRet MX11_add = some .int := ⟨rfl, rfl, rfl, rfl⟩
theorem a_X11_add : mArgs MX11_add = 2 := rfl
theorem p_X11_drop : mCode MX11_drop = cX11_drop ∧ mOwn MX11_drop = 11 ∧ mMax MX11_drop = 2 ∧ mRet MX11_drop = some .int := ⟨rfl, rfl, rfl, rfl⟩
theorem a_X11_drop : mArgs MX11_drop = 1 := rfl
theorem p_X11_drops : mCode MX11_drops = cX11_drops ∧ mOwn MX11_drops = 11 ∧ mMax MX11_drops = 3 ∧ mRet MX11_drops = none := ⟨rfl, rfl, rfl, rfl⟩
theorem a_X11_drops : mArgs MX11_drops = 2 := rfl
theorem p_X11_turn : mCode MX11_turn = cX11_turn ∧ mOwn MX11_turn = 11 ∧ mMax MX11_turn = 2 ∧ mRet MX11_turn = some .int := ⟨rfl, rfl, rfl, rfl⟩
theorem a_X11_turn : mArgs MX11_turn = 1 := rfl
theorem p_X11_turns : mCode MX11_turns = cX11_turns ∧ mOwn MX11_turns = 11 ∧ mMax MX11_turns = 3 ∧ mRet MX11_turns = none := ⟨rfl, rfl, rfl, rfl⟩
theorem a_X11_turns : mArgs MX11_turns = 2 := rfl
theorem p_X11_deeds : mCode MX11_deeds = cX11_deeds ∧ mOwn MX11_deeds = 11 ∧ mMax MX11_deeds = 5 ∧ mRet MX11_deeds = some .int := ⟨rfl, rfl, rfl, rfl⟩
theorem a_X11_deeds : mArgs MX11_deeds = 2 := rfl
theorem p_X11_does : mCode MX11_does = cX11_does ∧ mOwn MX11_does = 11 ∧ mMax MX11_does = 3 ∧ mRet MX11_does = some .boolean := ⟨rfl, rfl, rfl, rfl⟩
theorem a_X11_does : mArgs MX11_does = 0 := rfl
theorem p_X11_stay : mCode MX11_stay = cX11_stay ∧ mOwn MX11_stay = 11 ∧ mMax MX11_stay = 1 ∧ mRet MX11_stay = none := ⟨rfl, rfl, rfl, rfl⟩
theorem a_X11_stay : mArgs MX11_stay = 0 := rfl
theorem p_X11_undo : mCode MX11_undo = cX11_undo ∧ mOwn MX11_undo = 11 ∧ mMax MX11_undo = 1 ∧ mRet MX11_undo = some .int := ⟨rfl, rfl, rfl, rfl⟩
theorem a_X11_undo : mArgs MX11_undo = 0 := rfl
theorem p_X11_image : mCode MX11_image = cX11_image ∧ mOwn MX11_image = 11 ∧ mMax MX11_image = 2 ∧ mRet MX11_image = some .boolean := ⟨rfl, rfl, rfl, rfl⟩
theorem a_X11_image : mArgs MX11_image = 1 := rfl
theorem p_X11_restore : mCode MX11_restore = cX11_restore ∧ mOwn MX11_restore = 11 ∧ mMax MX11_restore = 2 ∧ mRet MX11_restore = some .boolean := ⟨rfl, rfl, rfl, rfl⟩
theorem a_X11_restore : mArgs MX11_restore = 1 := rfl
theorem tg_1_8 : tgt 1 (8) = 9 := rfl
theorem jn_1_8 : (0 ≤ ((1 : Nat) : Int) + (8)) = True := eq_true (by decide)
theorem tg_1_11 : tgt 1 (11) = 12 := rfl
theorem jn_1_11 : (0 ≤ ((1 : Nat) : Int) + (11)) = True := eq_true (by decide)
theorem tg_1_15 : tgt 1 (15) = 16 := rfl
theorem jn_1_15 : (0 ≤ ((1 : Nat) : Int) + (15)) = True := eq_true (by decide)
theorem tg_1_17 : tgt 1 (17) = 18 := rfl
theorem jn_1_17 : (0 ≤ ((1 : Nat) : Int) + (17)) = True := eq_true (by decide)
theorem tg_1_19 : tgt 1 (19) = 20 := rfl
theorem jn_1_19 : (0 ≤ ((1 : Nat) : Int) + (19)) = True := eq_true (by decide)
theorem tg_1_20 : tgt 1 (20) = 21 := rfl
theorem jn_1_20 : (0 ≤ ((1 : Nat) : Int) + (20)) = True := eq_true (by decide)
theorem tg_1_51 : tgt 1 (51) = 52 := rfl
theorem jn_1_51 : (0 ≤ ((1 : Nat) : Int) + (51)) = True := eq_true (by decide)
theorem tg_1_59 : tgt 1 (59) = 60 := rfl
theorem jn_1_59 : (0 ≤ ((1 : Nat) : Int) + (59)) = True := eq_true (by decide)
theorem tg_1_67 : tgt 1 (67) = 68 := rfl
theorem jn_1_67 : (0 ≤ ((1 : Nat) : Int) + (67)) = True := eq_true (by decide)
theorem tg_1_75 : tgt 1 (75) = 76 := rfl
theorem jn_1_75 : (0 ≤ ((1 : Nat) : Int) + (75)) = True := eq_true (by decide)
theorem tg_1_91 : tgt 1 (91) = 92 := rfl
theorem jn_1_91 : (0 ≤ ((1 : Nat) : Int) + (91)) = True := eq_true (by decide)
theorem tg_1_100 : tgt 1 (100) = 101 := rfl
theorem jn_1_100 : (0 ≤ ((1 : Nat) : Int) + (100)) = True := eq_true (by decide)
theorem tg_1_109 : tgt 1 (109) = 110 := rfl
theorem jn_1_109 : (0 ≤ ((1 : Nat) : Int) + (109)) = True := eq_true (by decide)
theorem tg_1_125 : tgt 1 (125) = 126 := rfl
theorem jn_1_125 : (0 ≤ ((1 : Nat) : Int) + (125)) = True := eq_true (by decide)
theorem tg_1_133 : tgt 1 (133) = 134 := rfl
theorem jn_1_133 : (0 ≤ ((1 : Nat) : Int) + (133)) = True := eq_true (by decide)
theorem tg_1_141 : tgt 1 (141) = 142 := rfl
theorem jn_1_141 : (0 ≤ ((1 : Nat) : Int) + (141)) = True := eq_true (by decide)
theorem tg_2_7 : tgt 2 (7) = 9 := rfl
theorem jn_2_7 : (0 ≤ ((2 : Nat) : Int) + (7)) = True := eq_true (by decide)
theorem tg_2_9 : tgt 2 (9) = 11 := rfl
theorem jn_2_9 : (0 ≤ ((2 : Nat) : Int) + (9)) = True := eq_true (by decide)
theorem tg_2_12 : tgt 2 (12) = 14 := rfl
theorem jn_2_12 : (0 ≤ ((2 : Nat) : Int) + (12)) = True := eq_true (by decide)
theorem tg_2_14 : tgt 2 (14) = 16 := rfl
theorem jn_2_14 : (0 ≤ ((2 : Nat) : Int) + (14)) = True := eq_true (by decide)
theorem tg_2_18 : tgt 2 (18) = 20 := rfl
theorem jn_2_18 : (0 ≤ ((2 : Nat) : Int) + (18)) = True := eq_true (by decide)
theorem tg_3_5 : tgt 3 (5) = 8 := rfl
theorem jn_3_5 : (0 ≤ ((3 : Nat) : Int) + (5)) = True := eq_true (by decide)
theorem tg_3_12 : tgt 3 (12) = 15 := rfl
theorem jn_3_12 : (0 ≤ ((3 : Nat) : Int) + (12)) = True := eq_true (by decide)
theorem tg_3_13 : tgt 3 (13) = 16 := rfl
theorem jn_3_13 : (0 ≤ ((3 : Nat) : Int) + (13)) = True := eq_true (by decide)
theorem tg_3_18 : tgt 3 (18) = 21 := rfl
theorem jn_3_18 : (0 ≤ ((3 : Nat) : Int) + (18)) = True := eq_true (by decide)
theorem tg_3_23 : tgt 3 (23) = 26 := rfl
theorem jn_3_23 : (0 ≤ ((3 : Nat) : Int) + (23)) = True := eq_true (by decide)
theorem tg_4_5 : tgt 4 (5) = 9 := rfl
theorem jn_4_5 : (0 ≤ ((4 : Nat) : Int) + (5)) = True := eq_true (by decide)
theorem tg_4_10 : tgt 4 (10) = 14 := rfl
theorem jn_4_10 : (0 ≤ ((4 : Nat) : Int) + (10)) = True := eq_true (by decide)
theorem tg_4_12 : tgt 4 (12) = 16 := rfl
theorem jn_4_12 : (0 ≤ ((4 : Nat) : Int) + (12)) = True := eq_true (by decide)
theorem tg_4_17 : tgt 4 (17) = 21 := rfl
theorem jn_4_17 : (0 ≤ ((4 : Nat) : Int) + (17)) = True := eq_true (by decide)
theorem tg_4_22 : tgt 4 (22) = 26 := rfl
theorem jn_4_22 : (0 ≤ ((4 : Nat) : Int) + (22)) = True := eq_true (by decide)
theorem tg_4_32 : tgt 4 (32) = 36 := rfl
theorem jn_4_32 : (0 ≤ ((4 : Nat) : Int) + (32)) = True := eq_true (by decide)
theorem tg_4_35 : tgt 4 (35) = 39 := rfl
theorem jn_4_35 : (0 ≤ ((4 : Nat) : Int) + (35)) = True := eq_true (by decide)
theorem tg_4_38 : tgt 4 (38) = 42 := rfl
theorem jn_4_38 : (0 ≤ ((4 : Nat) : Int) + (38)) = True := eq_true (by decide)
theorem tg_4_44 : tgt 4 (44) = 48 := rfl
theorem jn_4_44 : (0 ≤ ((4 : Nat) : Int) + (44)) = True := eq_true (by decide)
theorem tg_4_45 : tgt 4 (45) = 49 := rfl
theorem jn_4_45 : (0 ≤ ((4 : Nat) : Int) + (45)) = True := eq_true (by decide)
theorem tg_4_50 : tgt 4 (50) = 54 := rfl
theorem jn_4_50 : (0 ≤ ((4 : Nat) : Int) + (50)) = True := eq_true (by decide)
theorem tg_5_4 : tgt 5 (4) = 9 := rfl
theorem jn_5_4 : (0 ≤ ((5 : Nat) : Int) + (4)) = True := eq_true (by decide)
theorem tg_5_5 : tgt 5 (5) = 10 := rfl
theorem jn_5_5 : (0 ≤ ((5 : Nat) : Int) + (5)) = True := eq_true (by decide)
theorem tg_5_7 : tgt 5 (7) = 12 := rfl
theorem jn_5_7 : (0 ≤ ((5 : Nat) : Int) + (7)) = True := eq_true (by decide)
theorem tg_5_9 : tgt 5 (9) = 14 := rfl
theorem jn_5_9 : (0 ≤ ((5 : Nat) : Int) + (9)) = True := eq_true (by decide)
theorem tg_5_12 : tgt 5 (12) = 17 := rfl
theorem jn_5_12 : (0 ≤ ((5 : Nat) : Int) + (12)) = True := eq_true (by decide)
theorem tg_5_15 : tgt 5 (15) = 20 := rfl
theorem jn_5_15 : (0 ≤ ((5 : Nat) : Int) + (15)) = True := eq_true (by decide)
theorem tg_5_16 : tgt 5 (16) = 21 := rfl
theorem jn_5_16 : (0 ≤ ((5 : Nat) : Int) + (16)) = True := eq_true (by decide)
theorem tg_5_18 : tgt 5 (18) = 23 := rfl
theorem jn_5_18 : (0 ≤ ((5 : Nat) : Int) + (18)) = True := eq_true (by decide)
theorem tg_5_21 : tgt 5 (21) = 26 := rfl
theorem jn_5_21 : (0 ≤ ((5 : Nat) : Int) + (21)) = True := eq_true (by decide)
theorem tg_5_26 : tgt 5 (26) = 31 := rfl
theorem jn_5_26 : (0 ≤ ((5 : Nat) : Int) + (26)) = True := eq_true (by decide)
theorem tg_5_28 : tgt 5 (28) = 33 := rfl
theorem jn_5_28 : (0 ≤ ((5 : Nat) : Int) + (28)) = True := eq_true (by decide)
theorem tg_5_33 : tgt 5 (33) = 38 := rfl
theorem jn_5_33 : (0 ≤ ((5 : Nat) : Int) + (33)) = True := eq_true (by decide)
theorem tg_5_39 : tgt 5 (39) = 44 := rfl
theorem jn_5_39 : (0 ≤ ((5 : Nat) : Int) + (39)) = True := eq_true (by decide)
theorem tg_5_43 : tgt 5 (43) = 48 := rfl
theorem jn_5_43 : (0 ≤ ((5 : Nat) : Int) + (43)) = True := eq_true (by decide)
theorem tg_6_4 : tgt 6 (4) = 10 := rfl
theorem jn_6_4 : (0 ≤ ((6 : Nat) : Int) + (4)) = True := eq_true (by decide)
theorem tg_6_5 : tgt 6 (5) = 11 := rfl
theorem jn_6_5 : (0 ≤ ((6 : Nat) : Int) + (5)) = True := eq_true (by decide)
theorem tg_6_7 : tgt 6 (7) = 13 := rfl
theorem jn_6_7 : (0 ≤ ((6 : Nat) : Int) + (7)) = True := eq_true (by decide)
theorem tg_6_11 : tgt 6 (11) = 17 := rfl
theorem jn_6_11 : (0 ≤ ((6 : Nat) : Int) + (11)) = True := eq_true (by decide)
theorem tg_6_12 : tgt 6 (12) = 18 := rfl
theorem jn_6_12 : (0 ≤ ((6 : Nat) : Int) + (12)) = True := eq_true (by decide)
theorem tg_6_14 : tgt 6 (14) = 20 := rfl
theorem jn_6_14 : (0 ≤ ((6 : Nat) : Int) + (14)) = True := eq_true (by decide)
theorem tg_6_17 : tgt 6 (17) = 23 := rfl
theorem jn_6_17 : (0 ≤ ((6 : Nat) : Int) + (17)) = True := eq_true (by decide)
theorem tg_6_23 : tgt 6 (23) = 29 := rfl
theorem jn_6_23 : (0 ≤ ((6 : Nat) : Int) + (23)) = True := eq_true (by decide)
theorem tg_6_43 : tgt 6 (43) = 49 := rfl
theorem jn_6_43 : (0 ≤ ((6 : Nat) : Int) + (43)) = True := eq_true (by decide)
theorem tg_6_46 : tgt 6 (46) = 52 := rfl
theorem jn_6_46 : (0 ≤ ((6 : Nat) : Int) + (46)) = True := eq_true (by decide)
theorem tg_6_49 : tgt 6 (49) = 55 := rfl
theorem jn_6_49 : (0 ≤ ((6 : Nat) : Int) + (49)) = True := eq_true (by decide)
theorem tg_6_50 : tgt 6 (50) = 56 := rfl
theorem jn_6_50 : (0 ≤ ((6 : Nat) : Int) + (50)) = True := eq_true (by decide)
theorem tg_6_55 : tgt 6 (55) = 61 := rfl
theorem jn_6_55 : (0 ≤ ((6 : Nat) : Int) + (55)) = True := eq_true (by decide)
theorem tg_6_60 : tgt 6 (60) = 66 := rfl
theorem jn_6_60 : (0 ≤ ((6 : Nat) : Int) + (60)) = True := eq_true (by decide)
theorem tg_6_68 : tgt 6 (68) = 74 := rfl
theorem jn_6_68 : (0 ≤ ((6 : Nat) : Int) + (68)) = True := eq_true (by decide)
theorem tg_6_84 : tgt 6 (84) = 90 := rfl
theorem jn_6_84 : (0 ≤ ((6 : Nat) : Int) + (84)) = True := eq_true (by decide)
theorem tg_6_93 : tgt 6 (93) = 99 := rfl
theorem jn_6_93 : (0 ≤ ((6 : Nat) : Int) + (93)) = True := eq_true (by decide)
theorem tg_6_102 : tgt 6 (102) = 108 := rfl
theorem jn_6_102 : (0 ≤ ((6 : Nat) : Int) + (102)) = True := eq_true (by decide)
theorem tg_6_118 : tgt 6 (118) = 124 := rfl
theorem jn_6_118 : (0 ≤ ((6 : Nat) : Int) + (118)) = True := eq_true (by decide)
theorem tg_6_123 : tgt 6 (123) = 129 := rfl
theorem jn_6_123 : (0 ≤ ((6 : Nat) : Int) + (123)) = True := eq_true (by decide)
theorem tg_6_128 : tgt 6 (128) = 134 := rfl
theorem jn_6_128 : (0 ≤ ((6 : Nat) : Int) + (128)) = True := eq_true (by decide)
theorem tg_7_5 : tgt 7 (5) = 12 := rfl
theorem jn_7_5 : (0 ≤ ((7 : Nat) : Int) + (5)) = True := eq_true (by decide)
theorem tg_7_7 : tgt 7 (7) = 14 := rfl
theorem jn_7_7 : (0 ≤ ((7 : Nat) : Int) + (7)) = True := eq_true (by decide)
theorem tg_7_9 : tgt 7 (9) = 16 := rfl
theorem jn_7_9 : (0 ≤ ((7 : Nat) : Int) + (9)) = True := eq_true (by decide)
theorem tg_7_13 : tgt 7 (13) = 20 := rfl
theorem jn_7_13 : (0 ≤ ((7 : Nat) : Int) + (13)) = True := eq_true (by decide)
theorem tg_7_16 : tgt 7 (16) = 23 := rfl
theorem jn_7_16 : (0 ≤ ((7 : Nat) : Int) + (16)) = True := eq_true (by decide)
theorem tg_7_17 : tgt 7 (17) = 24 := rfl
theorem jn_7_17 : (0 ≤ ((7 : Nat) : Int) + (17)) = True := eq_true (by decide)
theorem tg_7_20 : tgt 7 (20) = 27 := rfl
theorem jn_7_20 : (0 ≤ ((7 : Nat) : Int) + (20)) = True := eq_true (by decide)
theorem tg_7_21 : tgt 7 (21) = 28 := rfl
theorem jn_7_21 : (0 ≤ ((7 : Nat) : Int) + (21)) = True := eq_true (by decide)
theorem tg_7_27 : tgt 7 (27) = 34 := rfl
theorem jn_7_27 : (0 ≤ ((7 : Nat) : Int) + (27)) = True := eq_true (by decide)
theorem tg_7_37 : tgt 7 (37) = 44 := rfl
theorem jn_7_37 : (0 ≤ ((7 : Nat) : Int) + (37)) = True := eq_true (by decide)
theorem tg_8_5 : tgt 8 (5) = 13 := rfl
theorem jn_8_5 : (0 ≤ ((8 : Nat) : Int) + (5)) = True := eq_true (by decide)
theorem tg_8_7 : tgt 8 (7) = 15 := rfl
theorem jn_8_7 : (0 ≤ ((8 : Nat) : Int) + (7)) = True := eq_true (by decide)
theorem tg_8_9 : tgt 8 (9) = 17 := rfl
theorem jn_8_9 : (0 ≤ ((8 : Nat) : Int) + (9)) = True := eq_true (by decide)
theorem tg_8_12 : tgt 8 (12) = 20 := rfl
theorem jn_8_12 : (0 ≤ ((8 : Nat) : Int) + (12)) = True := eq_true (by decide)
theorem tg_8_13 : tgt 8 (13) = 21 := rfl
theorem jn_8_13 : (0 ≤ ((8 : Nat) : Int) + (13)) = True := eq_true (by decide)
theorem tg_8_14 : tgt 8 (14) = 22 := rfl
theorem jn_8_14 : (0 ≤ ((8 : Nat) : Int) + (14)) = True := eq_true (by decide)
theorem tg_8_18 : tgt 8 (18) = 26 := rfl
theorem jn_8_18 : (0 ≤ ((8 : Nat) : Int) + (18)) = True := eq_true (by decide)
theorem tg_8_19 : tgt 8 (19) = 27 := rfl
theorem jn_8_19 : (0 ≤ ((8 : Nat) : Int) + (19)) = True := eq_true (by decide)
theorem tg_8_21 : tgt 8 (21) = 29 := rfl
theorem jn_8_21 : (0 ≤ ((8 : Nat) : Int) + (21)) = True := eq_true (by decide)
theorem tg_8_22 : tgt 8 (22) = 30 := rfl
theorem jn_8_22 : (0 ≤ ((8 : Nat) : Int) + (22)) = True := eq_true (by decide)
theorem tg_8_25 : tgt 8 (25) = 33 := rfl
theorem jn_8_25 : (0 ≤ ((8 : Nat) : Int) + (25)) = True := eq_true (by decide)
theorem tg_8_26 : tgt 8 (26) = 34 := rfl
theorem jn_8_26 : (0 ≤ ((8 : Nat) : Int) + (26)) = True := eq_true (by decide)
theorem tg_8_28 : tgt 8 (28) = 36 := rfl
theorem jn_8_28 : (0 ≤ ((8 : Nat) : Int) + (28)) = True := eq_true (by decide)
theorem tg_8_35 : tgt 8 (35) = 43 := rfl
theorem jn_8_35 : (0 ≤ ((8 : Nat) : Int) + (35)) = True := eq_true (by decide)
theorem tg_8_42 : tgt 8 (42) = 50 := rfl
theorem jn_8_42 : (0 ≤ ((8 : Nat) : Int) + (42)) = True := eq_true (by decide)
theorem tg_8_44 : tgt 8 (44) = 52 := rfl
theorem jn_8_44 : (0 ≤ ((8 : Nat) : Int) + (44)) = True := eq_true (by decide)
theorem tg_9_4 : tgt 9 (4) = 13 := rfl
theorem jn_9_4 : (0 ≤ ((9 : Nat) : Int) + (4)) = True := eq_true (by decide)
theorem tg_9_5 : tgt 9 (5) = 14 := rfl
theorem jn_9_5 : (0 ≤ ((9 : Nat) : Int) + (5)) = True := eq_true (by decide)
theorem tg_9_7 : tgt 9 (7) = 16 := rfl
theorem jn_9_7 : (0 ≤ ((9 : Nat) : Int) + (7)) = True := eq_true (by decide)
theorem tg_9_9 : tgt 9 (9) = 18 := rfl
theorem jn_9_9 : (0 ≤ ((9 : Nat) : Int) + (9)) = True := eq_true (by decide)
theorem tg_9_11 : tgt 9 (11) = 20 := rfl
theorem jn_9_11 : (0 ≤ ((9 : Nat) : Int) + (11)) = True := eq_true (by decide)
theorem tg_9_12 : tgt 9 (12) = 21 := rfl
theorem jn_9_12 : (0 ≤ ((9 : Nat) : Int) + (12)) = True := eq_true (by decide)
theorem tg_9_13 : tgt 9 (13) = 22 := rfl
theorem jn_9_13 : (0 ≤ ((9 : Nat) : Int) + (13)) = True := eq_true (by decide)
theorem tg_9_22 : tgt 9 (22) = 31 := rfl
theorem jn_9_22 : (0 ≤ ((9 : Nat) : Int) + (22)) = True := eq_true (by decide)
theorem tg_9_25 : tgt 9 (25) = 34 := rfl
theorem jn_9_25 : (0 ≤ ((9 : Nat) : Int) + (25)) = True := eq_true (by decide)
theorem tg_9_29 : tgt 9 (29) = 38 := rfl
theorem jn_9_29 : (0 ≤ ((9 : Nat) : Int) + (29)) = True := eq_true (by decide)
theorem tg_9_35 : tgt 9 (35) = 44 := rfl
theorem jn_9_35 : (0 ≤ ((9 : Nat) : Int) + (35)) = True := eq_true (by decide)
theorem tg_9_43 : tgt 9 (43) = 52 := rfl
theorem jn_9_43 : (0 ≤ ((9 : Nat) : Int) + (43)) = True := eq_true (by decide)
theorem tg_9_47 : tgt 9 (47) = 56 := rfl
theorem jn_9_47 : (0 ≤ ((9 : Nat) : Int) + (47)) = True := eq_true (by decide)
theorem tg_9_63 : tgt 9 (63) = 72 := rfl
theorem jn_9_63 : (0 ≤ ((9 : Nat) : Int) + (63)) = True := eq_true (by decide)
theorem tg_9_79 : tgt 9 (79) = 88 := rfl
theorem jn_9_79 : (0 ≤ ((9 : Nat) : Int) + (79)) = True := eq_true (by decide)
theorem tg_9_81 : tgt 9 (81) = 90 := rfl
theorem jn_9_81 : (0 ≤ ((9 : Nat) : Int) + (81)) = True := eq_true (by decide)
theorem tg_9_114 : tgt 9 (114) = 123 := rfl
theorem jn_9_114 : (0 ≤ ((9 : Nat) : Int) + (114)) = True := eq_true (by decide)
theorem tg_10_4 : tgt 10 (4) = 14 := rfl
theorem jn_10_4 : (0 ≤ ((10 : Nat) : Int) + (4)) = True := eq_true (by decide)
theorem tg_10_5 : tgt 10 (5) = 15 := rfl
theorem jn_10_5 : (0 ≤ ((10 : Nat) : Int) + (5)) = True := eq_true (by decide)
theorem tg_10_7 : tgt 10 (7) = 17 := rfl
theorem jn_10_7 : (0 ≤ ((10 : Nat) : Int) + (7)) = True := eq_true (by decide)
theorem tg_10_11 : tgt 10 (11) = 21 := rfl
theorem jn_10_11 : (0 ≤ ((10 : Nat) : Int) + (11)) = True := eq_true (by decide)
theorem tg_10_12 : tgt 10 (12) = 22 := rfl
theorem jn_10_12 : (0 ≤ ((10 : Nat) : Int) + (12)) = True := eq_true (by decide)
theorem tg_10_17 : tgt 10 (17) = 27 := rfl
theorem jn_10_17 : (0 ≤ ((10 : Nat) : Int) + (17)) = True := eq_true (by decide)
theorem tg_10_28 : tgt 10 (28) = 38 := rfl
theorem jn_10_28 : (0 ≤ ((10 : Nat) : Int) + (28)) = True := eq_true (by decide)
theorem tg_10_41 : tgt 10 (41) = 51 := rfl
theorem jn_10_41 : (0 ≤ ((10 : Nat) : Int) + (41)) = True := eq_true (by decide)
theorem tg_10_67 : tgt 10 (67) = 77 := rfl
theorem jn_10_67 : (0 ≤ ((10 : Nat) : Int) + (67)) = True := eq_true (by decide)
theorem tg_10_80 : tgt 10 (80) = 90 := rfl
theorem jn_10_80 : (0 ≤ ((10 : Nat) : Int) + (80)) = True := eq_true (by decide)
theorem tg_10_116 : tgt 10 (116) = 126 := rfl
theorem jn_10_116 : (0 ≤ ((10 : Nat) : Int) + (116)) = True := eq_true (by decide)
theorem tg_11_4 : tgt 11 (4) = 15 := rfl
theorem jn_11_4 : (0 ≤ ((11 : Nat) : Int) + (4)) = True := eq_true (by decide)
theorem tg_11_5 : tgt 11 (5) = 16 := rfl
theorem jn_11_5 : (0 ≤ ((11 : Nat) : Int) + (5)) = True := eq_true (by decide)
theorem tg_11_8 : tgt 11 (8) = 19 := rfl
theorem jn_11_8 : (0 ≤ ((11 : Nat) : Int) + (8)) = True := eq_true (by decide)
theorem tg_11_11 : tgt 11 (11) = 22 := rfl
theorem jn_11_11 : (0 ≤ ((11 : Nat) : Int) + (11)) = True := eq_true (by decide)
theorem tg_11_12 : tgt 11 (12) = 23 := rfl
theorem jn_11_12 : (0 ≤ ((11 : Nat) : Int) + (12)) = True := eq_true (by decide)
theorem tg_11_15 : tgt 11 (15) = 26 := rfl
theorem jn_11_15 : (0 ≤ ((11 : Nat) : Int) + (15)) = True := eq_true (by decide)
theorem tg_11_19 : tgt 11 (19) = 30 := rfl
theorem jn_11_19 : (0 ≤ ((11 : Nat) : Int) + (19)) = True := eq_true (by decide)
theorem tg_11_34 : tgt 11 (34) = 45 := rfl
theorem jn_11_34 : (0 ≤ ((11 : Nat) : Int) + (34)) = True := eq_true (by decide)
theorem tg_11_40 : tgt 11 (40) = 51 := rfl
theorem jn_11_40 : (0 ≤ ((11 : Nat) : Int) + (40)) = True := eq_true (by decide)
theorem tg_11_68 : tgt 11 (68) = 79 := rfl
theorem jn_11_68 : (0 ≤ ((11 : Nat) : Int) + (68)) = True := eq_true (by decide)
theorem tg_12_4 : tgt 12 (4) = 16 := rfl
theorem jn_12_4 : (0 ≤ ((12 : Nat) : Int) + (4)) = True := eq_true (by decide)
theorem tg_12_5 : tgt 12 (5) = 17 := rfl
theorem jn_12_5 : (0 ≤ ((12 : Nat) : Int) + (5)) = True := eq_true (by decide)
theorem tg_12_7 : tgt 12 (7) = 19 := rfl
theorem jn_12_7 : (0 ≤ ((12 : Nat) : Int) + (7)) = True := eq_true (by decide)
theorem tg_12_8 : tgt 12 (8) = 20 := rfl
theorem jn_12_8 : (0 ≤ ((12 : Nat) : Int) + (8)) = True := eq_true (by decide)
theorem tg_12_12 : tgt 12 (12) = 24 := rfl
theorem jn_12_12 : (0 ≤ ((12 : Nat) : Int) + (12)) = True := eq_true (by decide)
theorem tg_12_13 : tgt 12 (13) = 25 := rfl
theorem jn_12_13 : (0 ≤ ((12 : Nat) : Int) + (13)) = True := eq_true (by decide)
theorem tg_12_14 : tgt 12 (14) = 26 := rfl
theorem jn_12_14 : (0 ≤ ((12 : Nat) : Int) + (14)) = True := eq_true (by decide)
theorem tg_12_15 : tgt 12 (15) = 27 := rfl
theorem jn_12_15 : (0 ≤ ((12 : Nat) : Int) + (15)) = True := eq_true (by decide)
theorem tg_12_32 : tgt 12 (32) = 44 := rfl
theorem jn_12_32 : (0 ≤ ((12 : Nat) : Int) + (32)) = True := eq_true (by decide)
theorem tg_12_36 : tgt 12 (36) = 48 := rfl
theorem jn_12_36 : (0 ≤ ((12 : Nat) : Int) + (36)) = True := eq_true (by decide)
theorem tg_12_107 : tgt 12 (107) = 119 := rfl
theorem jn_12_107 : (0 ≤ ((12 : Nat) : Int) + (107)) = True := eq_true (by decide)
theorem tg_13_m11 : tgt 13 (-11) = 2 := rfl
theorem jn_13_m11 : (0 ≤ ((13 : Nat) : Int) + (-11)) = True := eq_true (by decide)
theorem tg_13_4 : tgt 13 (4) = 17 := rfl
theorem jn_13_4 : (0 ≤ ((13 : Nat) : Int) + (4)) = True := eq_true (by decide)
theorem tg_13_5 : tgt 13 (5) = 18 := rfl
theorem jn_13_5 : (0 ≤ ((13 : Nat) : Int) + (5)) = True := eq_true (by decide)
theorem tg_13_8 : tgt 13 (8) = 21 := rfl
theorem jn_13_8 : (0 ≤ ((13 : Nat) : Int) + (8)) = True := eq_true (by decide)
theorem tg_13_21 : tgt 13 (21) = 34 := rfl
theorem jn_13_21 : (0 ≤ ((13 : Nat) : Int) + (21)) = True := eq_true (by decide)
theorem tg_13_47 : tgt 13 (47) = 60 := rfl
theorem jn_13_47 : (0 ≤ ((13 : Nat) : Int) + (47)) = True := eq_true (by decide)
theorem tg_13_55 : tgt 13 (55) = 68 := rfl
theorem jn_13_55 : (0 ≤ ((13 : Nat) : Int) + (55)) = True := eq_true (by decide)
theorem tg_14_4 : tgt 14 (4) = 18 := rfl
theorem jn_14_4 : (0 ≤ ((14 : Nat) : Int) + (4)) = True := eq_true (by decide)
theorem tg_14_5 : tgt 14 (5) = 19 := rfl
theorem jn_14_5 : (0 ≤ ((14 : Nat) : Int) + (5)) = True := eq_true (by decide)
theorem tg_14_7 : tgt 14 (7) = 21 := rfl
theorem jn_14_7 : (0 ≤ ((14 : Nat) : Int) + (7)) = True := eq_true (by decide)
theorem tg_14_23 : tgt 14 (23) = 37 := rfl
theorem jn_14_23 : (0 ≤ ((14 : Nat) : Int) + (23)) = True := eq_true (by decide)
theorem tg_14_35 : tgt 14 (35) = 49 := rfl
theorem jn_14_35 : (0 ≤ ((14 : Nat) : Int) + (35)) = True := eq_true (by decide)
theorem tg_14_41 : tgt 14 (41) = 55 := rfl
theorem jn_14_41 : (0 ≤ ((14 : Nat) : Int) + (41)) = True := eq_true (by decide)
theorem tg_15_m13 : tgt 15 (-13) = 2 := rfl
theorem jn_15_m13 : (0 ≤ ((15 : Nat) : Int) + (-13)) = True := eq_true (by decide)
theorem tg_15_5 : tgt 15 (5) = 20 := rfl
theorem jn_15_5 : (0 ≤ ((15 : Nat) : Int) + (5)) = True := eq_true (by decide)
theorem tg_15_7 : tgt 15 (7) = 22 := rfl
theorem jn_15_7 : (0 ≤ ((15 : Nat) : Int) + (7)) = True := eq_true (by decide)
theorem tg_15_8 : tgt 15 (8) = 23 := rfl
theorem jn_15_8 : (0 ≤ ((15 : Nat) : Int) + (8)) = True := eq_true (by decide)
theorem tg_15_14 : tgt 15 (14) = 29 := rfl
theorem jn_15_14 : (0 ≤ ((15 : Nat) : Int) + (14)) = True := eq_true (by decide)
theorem tg_15_23 : tgt 15 (23) = 38 := rfl
theorem jn_15_23 : (0 ≤ ((15 : Nat) : Int) + (23)) = True := eq_true (by decide)
theorem tg_15_24 : tgt 15 (24) = 39 := rfl
theorem jn_15_24 : (0 ≤ ((15 : Nat) : Int) + (24)) = True := eq_true (by decide)
theorem tg_15_120 : tgt 15 (120) = 135 := rfl
theorem jn_15_120 : (0 ≤ ((15 : Nat) : Int) + (120)) = True := eq_true (by decide)
theorem tg_16_5 : tgt 16 (5) = 21 := rfl
theorem jn_16_5 : (0 ≤ ((16 : Nat) : Int) + (5)) = True := eq_true (by decide)
theorem tg_16_7 : tgt 16 (7) = 23 := rfl
theorem jn_16_7 : (0 ≤ ((16 : Nat) : Int) + (7)) = True := eq_true (by decide)
theorem tg_16_10 : tgt 16 (10) = 26 := rfl
theorem jn_16_10 : (0 ≤ ((16 : Nat) : Int) + (10)) = True := eq_true (by decide)
theorem tg_16_11 : tgt 16 (11) = 27 := rfl
theorem jn_16_11 : (0 ≤ ((16 : Nat) : Int) + (11)) = True := eq_true (by decide)
theorem tg_16_12 : tgt 16 (12) = 28 := rfl
theorem jn_16_12 : (0 ≤ ((16 : Nat) : Int) + (12)) = True := eq_true (by decide)
theorem tg_16_22 : tgt 16 (22) = 38 := rfl
theorem jn_16_22 : (0 ≤ ((16 : Nat) : Int) + (22)) = True := eq_true (by decide)
theorem tg_16_23 : tgt 16 (23) = 39 := rfl
theorem jn_16_23 : (0 ≤ ((16 : Nat) : Int) + (23)) = True := eq_true (by decide)
theorem tg_16_31 : tgt 16 (31) = 47 := rfl
theorem jn_16_31 : (0 ≤ ((16 : Nat) : Int) + (31)) = True := eq_true (by decide)
theorem tg_16_35 : tgt 16 (35) = 51 := rfl
theorem jn_16_35 : (0 ≤ ((16 : Nat) : Int) + (35)) = True := eq_true (by decide)
theorem tg_17_m13 : tgt 17 (-13) = 4 := rfl
theorem jn_17_m13 : (0 ≤ ((17 : Nat) : Int) + (-13)) = True := eq_true (by decide)
theorem tg_17_4 : tgt 17 (4) = 21 := rfl
theorem jn_17_4 : (0 ≤ ((17 : Nat) : Int) + (4)) = True := eq_true (by decide)
theorem tg_17_5 : tgt 17 (5) = 22 := rfl
theorem jn_17_5 : (0 ≤ ((17 : Nat) : Int) + (5)) = True := eq_true (by decide)
theorem tg_17_6 : tgt 17 (6) = 23 := rfl
theorem jn_17_6 : (0 ≤ ((17 : Nat) : Int) + (6)) = True := eq_true (by decide)
theorem tg_17_7 : tgt 17 (7) = 24 := rfl
theorem jn_17_7 : (0 ≤ ((17 : Nat) : Int) + (7)) = True := eq_true (by decide)
theorem tg_17_13 : tgt 17 (13) = 30 := rfl
theorem jn_17_13 : (0 ≤ ((17 : Nat) : Int) + (13)) = True := eq_true (by decide)
theorem tg_17_28 : tgt 17 (28) = 45 := rfl
theorem jn_17_28 : (0 ≤ ((17 : Nat) : Int) + (28)) = True := eq_true (by decide)
theorem tg_17_45 : tgt 17 (45) = 62 := rfl
theorem jn_17_45 : (0 ≤ ((17 : Nat) : Int) + (45)) = True := eq_true (by decide)
theorem tg_17_52 : tgt 17 (52) = 69 := rfl
theorem jn_17_52 : (0 ≤ ((17 : Nat) : Int) + (52)) = True := eq_true (by decide)
theorem tg_18_m16 : tgt 18 (-16) = 2 := rfl
theorem jn_18_m16 : (0 ≤ ((18 : Nat) : Int) + (-16)) = True := eq_true (by decide)
theorem tg_18_4 : tgt 18 (4) = 22 := rfl
theorem jn_18_4 : (0 ≤ ((18 : Nat) : Int) + (4)) = True := eq_true (by decide)
theorem tg_18_5 : tgt 18 (5) = 23 := rfl
theorem jn_18_5 : (0 ≤ ((18 : Nat) : Int) + (5)) = True := eq_true (by decide)
theorem tg_18_6 : tgt 18 (6) = 24 := rfl
theorem jn_18_6 : (0 ≤ ((18 : Nat) : Int) + (6)) = True := eq_true (by decide)
theorem tg_18_7 : tgt 18 (7) = 25 := rfl
theorem jn_18_7 : (0 ≤ ((18 : Nat) : Int) + (7)) = True := eq_true (by decide)
theorem tg_18_9 : tgt 18 (9) = 27 := rfl
theorem jn_18_9 : (0 ≤ ((18 : Nat) : Int) + (9)) = True := eq_true (by decide)
theorem tg_18_18 : tgt 18 (18) = 36 := rfl
theorem jn_18_18 : (0 ≤ ((18 : Nat) : Int) + (18)) = True := eq_true (by decide)
theorem tg_18_28 : tgt 18 (28) = 46 := rfl
theorem jn_18_28 : (0 ≤ ((18 : Nat) : Int) + (28)) = True := eq_true (by decide)
theorem tg_18_37 : tgt 18 (37) = 55 := rfl
theorem jn_18_37 : (0 ≤ ((18 : Nat) : Int) + (37)) = True := eq_true (by decide)
theorem tg_18_99 : tgt 18 (99) = 117 := rfl
theorem jn_18_99 : (0 ≤ ((18 : Nat) : Int) + (99)) = True := eq_true (by decide)
theorem tg_19_5 : tgt 19 (5) = 24 := rfl
theorem jn_19_5 : (0 ≤ ((19 : Nat) : Int) + (5)) = True := eq_true (by decide)
theorem tg_19_6 : tgt 19 (6) = 25 := rfl
theorem jn_19_6 : (0 ≤ ((19 : Nat) : Int) + (6)) = True := eq_true (by decide)
theorem tg_19_7 : tgt 19 (7) = 26 := rfl
theorem jn_19_7 : (0 ≤ ((19 : Nat) : Int) + (7)) = True := eq_true (by decide)
theorem tg_19_8 : tgt 19 (8) = 27 := rfl
theorem jn_19_8 : (0 ≤ ((19 : Nat) : Int) + (8)) = True := eq_true (by decide)
theorem tg_19_9 : tgt 19 (9) = 28 := rfl
theorem jn_19_9 : (0 ≤ ((19 : Nat) : Int) + (9)) = True := eq_true (by decide)
theorem tg_19_11 : tgt 19 (11) = 30 := rfl
theorem jn_19_11 : (0 ≤ ((19 : Nat) : Int) + (11)) = True := eq_true (by decide)
theorem tg_19_15 : tgt 19 (15) = 34 := rfl
theorem jn_19_15 : (0 ≤ ((19 : Nat) : Int) + (15)) = True := eq_true (by decide)
theorem tg_19_20 : tgt 19 (20) = 39 := rfl
theorem jn_19_20 : (0 ≤ ((19 : Nat) : Int) + (20)) = True := eq_true (by decide)
theorem tg_19_41 : tgt 19 (41) = 60 := rfl
theorem jn_19_41 : (0 ≤ ((19 : Nat) : Int) + (41)) = True := eq_true (by decide)
theorem tg_19_47 : tgt 19 (47) = 66 := rfl
theorem jn_19_47 : (0 ≤ ((19 : Nat) : Int) + (47)) = True := eq_true (by decide)
theorem tg_19_71 : tgt 19 (71) = 90 := rfl
theorem jn_19_71 : (0 ≤ ((19 : Nat) : Int) + (71)) = True := eq_true (by decide)
theorem tg_19_91 : tgt 19 (91) = 110 := rfl
theorem jn_19_91 : (0 ≤ ((19 : Nat) : Int) + (91)) = True := eq_true (by decide)
theorem tg_20_m18 : tgt 20 (-18) = 2 := rfl
theorem jn_20_m18 : (0 ≤ ((20 : Nat) : Int) + (-18)) = True := eq_true (by decide)
theorem tg_20_4 : tgt 20 (4) = 24 := rfl
theorem jn_20_4 : (0 ≤ ((20 : Nat) : Int) + (4)) = True := eq_true (by decide)
theorem tg_20_5 : tgt 20 (5) = 25 := rfl
theorem jn_20_5 : (0 ≤ ((20 : Nat) : Int) + (5)) = True := eq_true (by decide)
theorem tg_20_7 : tgt 20 (7) = 27 := rfl
theorem jn_20_7 : (0 ≤ ((20 : Nat) : Int) + (7)) = True := eq_true (by decide)
theorem tg_20_18 : tgt 20 (18) = 38 := rfl
theorem jn_20_18 : (0 ≤ ((20 : Nat) : Int) + (18)) = True := eq_true (by decide)
theorem tg_20_22 : tgt 20 (22) = 42 := rfl
theorem jn_20_22 : (0 ≤ ((20 : Nat) : Int) + (22)) = True := eq_true (by decide)
theorem tg_21_m18 : tgt 21 (-18) = 3 := rfl
theorem jn_21_m18 : (0 ≤ ((21 : Nat) : Int) + (-18)) = True := eq_true (by decide)
theorem tg_21_5 : tgt 21 (5) = 26 := rfl
theorem jn_21_5 : (0 ≤ ((21 : Nat) : Int) + (5)) = True := eq_true (by decide)
theorem tg_21_7 : tgt 21 (7) = 28 := rfl
theorem jn_21_7 : (0 ≤ ((21 : Nat) : Int) + (7)) = True := eq_true (by decide)
theorem tg_21_16 : tgt 21 (16) = 37 := rfl
theorem jn_21_16 : (0 ≤ ((21 : Nat) : Int) + (16)) = True := eq_true (by decide)
theorem tg_22_4 : tgt 22 (4) = 26 := rfl
theorem jn_22_4 : (0 ≤ ((22 : Nat) : Int) + (4)) = True := eq_true (by decide)
theorem tg_22_5 : tgt 22 (5) = 27 := rfl
theorem jn_22_5 : (0 ≤ ((22 : Nat) : Int) + (5)) = True := eq_true (by decide)
theorem tg_22_7 : tgt 22 (7) = 29 := rfl
theorem jn_22_7 : (0 ≤ ((22 : Nat) : Int) + (7)) = True := eq_true (by decide)
theorem tg_22_15 : tgt 22 (15) = 37 := rfl
theorem jn_22_15 : (0 ≤ ((22 : Nat) : Int) + (15)) = True := eq_true (by decide)
theorem tg_22_17 : tgt 22 (17) = 39 := rfl
theorem jn_22_17 : (0 ≤ ((22 : Nat) : Int) + (17)) = True := eq_true (by decide)
theorem tg_22_23 : tgt 22 (23) = 45 := rfl
theorem jn_22_23 : (0 ≤ ((22 : Nat) : Int) + (23)) = True := eq_true (by decide)
theorem tg_22_33 : tgt 22 (33) = 55 := rfl
theorem jn_22_33 : (0 ≤ ((22 : Nat) : Int) + (33)) = True := eq_true (by decide)
theorem tg_23_4 : tgt 23 (4) = 27 := rfl
theorem jn_23_4 : (0 ≤ ((23 : Nat) : Int) + (4)) = True := eq_true (by decide)
theorem tg_23_5 : tgt 23 (5) = 28 := rfl
theorem jn_23_5 : (0 ≤ ((23 : Nat) : Int) + (5)) = True := eq_true (by decide)
theorem tg_23_6 : tgt 23 (6) = 29 := rfl
theorem jn_23_6 : (0 ≤ ((23 : Nat) : Int) + (6)) = True := eq_true (by decide)
theorem tg_23_7 : tgt 23 (7) = 30 := rfl
theorem jn_23_7 : (0 ≤ ((23 : Nat) : Int) + (7)) = True := eq_true (by decide)
theorem tg_23_21 : tgt 23 (21) = 44 := rfl
theorem jn_23_21 : (0 ≤ ((23 : Nat) : Int) + (21)) = True := eq_true (by decide)
theorem tg_23_53 : tgt 23 (53) = 76 := rfl
theorem jn_23_53 : (0 ≤ ((23 : Nat) : Int) + (53)) = True := eq_true (by decide)
theorem tg_24_m22 : tgt 24 (-22) = 2 := rfl
theorem jn_24_m22 : (0 ≤ ((24 : Nat) : Int) + (-22)) = True := eq_true (by decide)
theorem tg_24_4 : tgt 24 (4) = 28 := rfl
theorem jn_24_4 : (0 ≤ ((24 : Nat) : Int) + (4)) = True := eq_true (by decide)
theorem tg_24_5 : tgt 24 (5) = 29 := rfl
theorem jn_24_5 : (0 ≤ ((24 : Nat) : Int) + (5)) = True := eq_true (by decide)
theorem tg_24_6 : tgt 24 (6) = 30 := rfl
theorem jn_24_6 : (0 ≤ ((24 : Nat) : Int) + (6)) = True := eq_true (by decide)
theorem tg_24_7 : tgt 24 (7) = 31 := rfl
theorem jn_24_7 : (0 ≤ ((24 : Nat) : Int) + (7)) = True := eq_true (by decide)
theorem tg_24_8 : tgt 24 (8) = 32 := rfl
theorem jn_24_8 : (0 ≤ ((24 : Nat) : Int) + (8)) = True := eq_true (by decide)
theorem tg_24_14 : tgt 24 (14) = 38 := rfl
theorem jn_24_14 : (0 ≤ ((24 : Nat) : Int) + (14)) = True := eq_true (by decide)
theorem tg_24_63 : tgt 24 (63) = 87 := rfl
theorem jn_24_63 : (0 ≤ ((24 : Nat) : Int) + (63)) = True := eq_true (by decide)
theorem tg_25_m22 : tgt 25 (-22) = 3 := rfl
theorem jn_25_m22 : (0 ≤ ((25 : Nat) : Int) + (-22)) = True := eq_true (by decide)
theorem tg_25_4 : tgt 25 (4) = 29 := rfl
theorem jn_25_4 : (0 ≤ ((25 : Nat) : Int) + (4)) = True := eq_true (by decide)
theorem tg_25_5 : tgt 25 (5) = 30 := rfl
theorem jn_25_5 : (0 ≤ ((25 : Nat) : Int) + (5)) = True := eq_true (by decide)
theorem tg_25_9 : tgt 25 (9) = 34 := rfl
theorem jn_25_9 : (0 ≤ ((25 : Nat) : Int) + (9)) = True := eq_true (by decide)
theorem tg_25_35 : tgt 25 (35) = 60 := rfl
theorem jn_25_35 : (0 ≤ ((25 : Nat) : Int) + (35)) = True := eq_true (by decide)
theorem tg_25_49 : tgt 25 (49) = 74 := rfl
theorem jn_25_49 : (0 ≤ ((25 : Nat) : Int) + (49)) = True := eq_true (by decide)
theorem tg_26_m22 : tgt 26 (-22) = 4 := rfl
theorem jn_26_m22 : (0 ≤ ((26 : Nat) : Int) + (-22)) = True := eq_true (by decide)
theorem tg_26_4 : tgt 26 (4) = 30 := rfl
theorem jn_26_4 : (0 ≤ ((26 : Nat) : Int) + (4)) = True := eq_true (by decide)
theorem tg_26_7 : tgt 26 (7) = 33 := rfl
theorem jn_26_7 : (0 ≤ ((26 : Nat) : Int) + (7)) = True := eq_true (by decide)
theorem tg_26_16 : tgt 26 (16) = 42 := rfl
theorem jn_26_16 : (0 ≤ ((26 : Nat) : Int) + (16)) = True := eq_true (by decide)
theorem tg_27_m23 : tgt 27 (-23) = 4 := rfl
theorem jn_27_m23 : (0 ≤ ((27 : Nat) : Int) + (-23)) = True := eq_true (by decide)
theorem tg_27_4 : tgt 27 (4) = 31 := rfl
theorem jn_27_4 : (0 ≤ ((27 : Nat) : Int) + (4)) = True := eq_true (by decide)
theorem tg_27_5 : tgt 27 (5) = 32 := rfl
theorem jn_27_5 : (0 ≤ ((27 : Nat) : Int) + (5)) = True := eq_true (by decide)
theorem tg_27_13 : tgt 27 (13) = 40 := rfl
theorem jn_27_13 : (0 ≤ ((27 : Nat) : Int) + (13)) = True := eq_true (by decide)
theorem tg_27_16 : tgt 27 (16) = 43 := rfl
theorem jn_27_16 : (0 ≤ ((27 : Nat) : Int) + (16)) = True := eq_true (by decide)
theorem tg_27_23 : tgt 27 (23) = 50 := rfl
theorem jn_27_23 : (0 ≤ ((27 : Nat) : Int) + (23)) = True := eq_true (by decide)
theorem tg_27_35 : tgt 27 (35) = 62 := rfl
theorem jn_27_35 : (0 ≤ ((27 : Nat) : Int) + (35)) = True := eq_true (by decide)
theorem tg_27_68 : tgt 27 (68) = 95 := rfl
theorem jn_27_68 : (0 ≤ ((27 : Nat) : Int) + (68)) = True := eq_true (by decide)
theorem tg_28_m24 : tgt 28 (-24) = 4 := rfl
theorem jn_28_m24 : (0 ≤ ((28 : Nat) : Int) + (-24)) = True := eq_true (by decide)
theorem tg_28_4 : tgt 28 (4) = 32 := rfl
theorem jn_28_4 : (0 ≤ ((28 : Nat) : Int) + (4)) = True := eq_true (by decide)
theorem tg_28_5 : tgt 28 (5) = 33 := rfl
theorem jn_28_5 : (0 ≤ ((28 : Nat) : Int) + (5)) = True := eq_true (by decide)
theorem tg_28_7 : tgt 28 (7) = 35 := rfl
theorem jn_28_7 : (0 ≤ ((28 : Nat) : Int) + (7)) = True := eq_true (by decide)
theorem tg_28_14 : tgt 28 (14) = 42 := rfl
theorem jn_28_14 : (0 ≤ ((28 : Nat) : Int) + (14)) = True := eq_true (by decide)
theorem tg_28_22 : tgt 28 (22) = 50 := rfl
theorem jn_28_22 : (0 ≤ ((28 : Nat) : Int) + (22)) = True := eq_true (by decide)
theorem tg_28_43 : tgt 28 (43) = 71 := rfl
theorem jn_28_43 : (0 ≤ ((28 : Nat) : Int) + (43)) = True := eq_true (by decide)
theorem tg_28_75 : tgt 28 (75) = 103 := rfl
theorem jn_28_75 : (0 ≤ ((28 : Nat) : Int) + (75)) = True := eq_true (by decide)
theorem tg_28_103 : tgt 28 (103) = 131 := rfl
theorem jn_28_103 : (0 ≤ ((28 : Nat) : Int) + (103)) = True := eq_true (by decide)
theorem tg_29_5 : tgt 29 (5) = 34 := rfl
theorem jn_29_5 : (0 ≤ ((29 : Nat) : Int) + (5)) = True := eq_true (by decide)
theorem tg_29_6 : tgt 29 (6) = 35 := rfl
theorem jn_29_6 : (0 ≤ ((29 : Nat) : Int) + (6)) = True := eq_true (by decide)
theorem tg_29_7 : tgt 29 (7) = 36 := rfl
theorem jn_29_7 : (0 ≤ ((29 : Nat) : Int) + (7)) = True := eq_true (by decide)
theorem tg_29_12 : tgt 29 (12) = 41 := rfl
theorem jn_29_12 : (0 ≤ ((29 : Nat) : Int) + (12)) = True := eq_true (by decide)
theorem tg_29_16 : tgt 29 (16) = 45 := rfl
theorem jn_29_16 : (0 ≤ ((29 : Nat) : Int) + (16)) = True := eq_true (by decide)
theorem tg_29_17 : tgt 29 (17) = 46 := rfl
theorem jn_29_17 : (0 ≤ ((29 : Nat) : Int) + (17)) = True := eq_true (by decide)
theorem tg_29_22 : tgt 29 (22) = 51 := rfl
theorem jn_29_22 : (0 ≤ ((29 : Nat) : Int) + (22)) = True := eq_true (by decide)
theorem tg_29_25 : tgt 29 (25) = 54 := rfl
theorem jn_29_25 : (0 ≤ ((29 : Nat) : Int) + (25)) = True := eq_true (by decide)
theorem tg_29_29 : tgt 29 (29) = 58 := rfl
theorem jn_29_29 : (0 ≤ ((29 : Nat) : Int) + (29)) = True := eq_true (by decide)
theorem tg_30_m26 : tgt 30 (-26) = 4 := rfl
theorem jn_30_m26 : (0 ≤ ((30 : Nat) : Int) + (-26)) = True := eq_true (by decide)
theorem tg_30_4 : tgt 30 (4) = 34 := rfl
theorem jn_30_4 : (0 ≤ ((30 : Nat) : Int) + (4)) = True := eq_true (by decide)
theorem tg_30_7 : tgt 30 (7) = 37 := rfl
theorem jn_30_7 : (0 ≤ ((30 : Nat) : Int) + (7)) = True := eq_true (by decide)
theorem tg_30_13 : tgt 30 (13) = 43 := rfl
theorem jn_30_13 : (0 ≤ ((30 : Nat) : Int) + (13)) = True := eq_true (by decide)
theorem tg_30_38 : tgt 30 (38) = 68 := rfl
theorem jn_30_38 : (0 ≤ ((30 : Nat) : Int) + (38)) = True := eq_true (by decide)
theorem tg_30_68 : tgt 30 (68) = 98 := rfl
theorem jn_30_68 : (0 ≤ ((30 : Nat) : Int) + (68)) = True := eq_true (by decide)
theorem tg_30_1233 : tgt 30 (1233) = 1263 := rfl
theorem jn_30_1233 : (0 ≤ ((30 : Nat) : Int) + (1233)) = True := eq_true (by decide)
theorem tg_31_m29 : tgt 31 (-29) = 2 := rfl
theorem jn_31_m29 : (0 ≤ ((31 : Nat) : Int) + (-29)) = True := eq_true (by decide)
theorem tg_31_m28 : tgt 31 (-28) = 3 := rfl
theorem jn_31_m28 : (0 ≤ ((31 : Nat) : Int) + (-28)) = True := eq_true (by decide)
theorem tg_31_m27 : tgt 31 (-27) = 4 := rfl
theorem jn_31_m27 : (0 ≤ ((31 : Nat) : Int) + (-27)) = True := eq_true (by decide)
theorem tg_31_m23 : tgt 31 (-23) = 8 := rfl
theorem jn_31_m23 : (0 ≤ ((31 : Nat) : Int) + (-23)) = True := eq_true (by decide)
theorem tg_31_5 : tgt 31 (5) = 36 := rfl
theorem jn_31_5 : (0 ≤ ((31 : Nat) : Int) + (5)) = True := eq_true (by decide)
theorem tg_31_10 : tgt 31 (10) = 41 := rfl
theorem jn_31_10 : (0 ≤ ((31 : Nat) : Int) + (10)) = True := eq_true (by decide)
theorem tg_31_13 : tgt 31 (13) = 44 := rfl
theorem jn_31_13 : (0 ≤ ((31 : Nat) : Int) + (13)) = True := eq_true (by decide)
theorem tg_31_14 : tgt 31 (14) = 45 := rfl
theorem jn_31_14 : (0 ≤ ((31 : Nat) : Int) + (14)) = True := eq_true (by decide)
theorem tg_31_15 : tgt 31 (15) = 46 := rfl
theorem jn_31_15 : (0 ≤ ((31 : Nat) : Int) + (15)) = True := eq_true (by decide)
theorem tg_31_18 : tgt 31 (18) = 49 := rfl
theorem jn_31_18 : (0 ≤ ((31 : Nat) : Int) + (18)) = True := eq_true (by decide)
theorem tg_31_73 : tgt 31 (73) = 104 := rfl
theorem jn_31_73 : (0 ≤ ((31 : Nat) : Int) + (73)) = True := eq_true (by decide)
theorem tg_31_135 : tgt 31 (135) = 166 := rfl
theorem jn_31_135 : (0 ≤ ((31 : Nat) : Int) + (135)) = True := eq_true (by decide)
theorem tg_32_4 : tgt 32 (4) = 36 := rfl
theorem jn_32_4 : (0 ≤ ((32 : Nat) : Int) + (4)) = True := eq_true (by decide)
theorem tg_32_5 : tgt 32 (5) = 37 := rfl
theorem jn_32_5 : (0 ≤ ((32 : Nat) : Int) + (5)) = True := eq_true (by decide)
theorem tg_32_14 : tgt 32 (14) = 46 := rfl
theorem jn_32_14 : (0 ≤ ((32 : Nat) : Int) + (14)) = True := eq_true (by decide)
theorem tg_32_32 : tgt 32 (32) = 64 := rfl
theorem jn_32_32 : (0 ≤ ((32 : Nat) : Int) + (32)) = True := eq_true (by decide)
theorem tg_32_37 : tgt 32 (37) = 69 := rfl
theorem jn_32_37 : (0 ≤ ((32 : Nat) : Int) + (37)) = True := eq_true (by decide)
theorem tg_32_85 : tgt 32 (85) = 117 := rfl
theorem jn_32_85 : (0 ≤ ((32 : Nat) : Int) + (85)) = True := eq_true (by decide)
theorem tg_33_m29 : tgt 33 (-29) = 4 := rfl
theorem jn_33_m29 : (0 ≤ ((33 : Nat) : Int) + (-29)) = True := eq_true (by decide)
theorem tg_33_4 : tgt 33 (4) = 37 := rfl
theorem jn_33_4 : (0 ≤ ((33 : Nat) : Int) + (4)) = True := eq_true (by decide)
theorem tg_33_12 : tgt 33 (12) = 45 := rfl
theorem jn_33_12 : (0 ≤ ((33 : Nat) : Int) + (12)) = True := eq_true (by decide)
theorem tg_33_13 : tgt 33 (13) = 46 := rfl
theorem jn_33_13 : (0 ≤ ((33 : Nat) : Int) + (13)) = True := eq_true (by decide)
theorem tg_33_19 : tgt 33 (19) = 52 := rfl
theorem jn_33_19 : (0 ≤ ((33 : Nat) : Int) + (19)) = True := eq_true (by decide)
theorem tg_34_4 : tgt 34 (4) = 38 := rfl
theorem jn_34_4 : (0 ≤ ((34 : Nat) : Int) + (4)) = True := eq_true (by decide)
theorem tg_34_9 : tgt 34 (9) = 43 := rfl
theorem jn_34_9 : (0 ≤ ((34 : Nat) : Int) + (9)) = True := eq_true (by decide)
theorem tg_34_16 : tgt 34 (16) = 50 := rfl
theorem jn_34_16 : (0 ≤ ((34 : Nat) : Int) + (16)) = True := eq_true (by decide)
theorem tg_34_24 : tgt 34 (24) = 58 := rfl
theorem jn_34_24 : (0 ≤ ((34 : Nat) : Int) + (24)) = True := eq_true (by decide)
theorem tg_34_25 : tgt 34 (25) = 59 := rfl
theorem jn_34_25 : (0 ≤ ((34 : Nat) : Int) + (25)) = True := eq_true (by decide)
theorem tg_34_34 : tgt 34 (34) = 68 := rfl
theorem jn_34_34 : (0 ≤ ((34 : Nat) : Int) + (34)) = True := eq_true (by decide)
theorem tg_34_58 : tgt 34 (58) = 92 := rfl
theorem jn_34_58 : (0 ≤ ((34 : Nat) : Int) + (58)) = True := eq_true (by decide)
theorem tg_35_m33 : tgt 35 (-33) = 2 := rfl
theorem jn_35_m33 : (0 ≤ ((35 : Nat) : Int) + (-33)) = True := eq_true (by decide)
theorem tg_35_m31 : tgt 35 (-31) = 4 := rfl
theorem jn_35_m31 : (0 ≤ ((35 : Nat) : Int) + (-31)) = True := eq_true (by decide)
theorem tg_35_m18 : tgt 35 (-18) = 17 := rfl
theorem jn_35_m18 : (0 ≤ ((35 : Nat) : Int) + (-18)) = True := eq_true (by decide)
theorem tg_35_8 : tgt 35 (8) = 43 := rfl
theorem jn_35_8 : (0 ≤ ((35 : Nat) : Int) + (8)) = True := eq_true (by decide)
theorem tg_35_11 : tgt 35 (11) = 46 := rfl
theorem jn_35_11 : (0 ≤ ((35 : Nat) : Int) + (11)) = True := eq_true (by decide)
theorem tg_35_16 : tgt 35 (16) = 51 := rfl
theorem jn_35_16 : (0 ≤ ((35 : Nat) : Int) + (16)) = True := eq_true (by decide)
theorem tg_35_20 : tgt 35 (20) = 55 := rfl
theorem jn_35_20 : (0 ≤ ((35 : Nat) : Int) + (20)) = True := eq_true (by decide)
theorem tg_35_21 : tgt 35 (21) = 56 := rfl
theorem jn_35_21 : (0 ≤ ((35 : Nat) : Int) + (21)) = True := eq_true (by decide)
theorem tg_35_25 : tgt 35 (25) = 60 := rfl
theorem jn_35_25 : (0 ≤ ((35 : Nat) : Int) + (25)) = True := eq_true (by decide)
theorem tg_35_35 : tgt 35 (35) = 70 := rfl
theorem jn_35_35 : (0 ≤ ((35 : Nat) : Int) + (35)) = True := eq_true (by decide)
theorem tg_35_142 : tgt 35 (142) = 177 := rfl
theorem jn_35_142 : (0 ≤ ((35 : Nat) : Int) + (142)) = True := eq_true (by decide)
theorem tg_36_m33 : tgt 36 (-33) = 3 := rfl
theorem jn_36_m33 : (0 ≤ ((36 : Nat) : Int) + (-33)) = True := eq_true (by decide)
theorem tg_36_m25 : tgt 36 (-25) = 11 := rfl
theorem jn_36_m25 : (0 ≤ ((36 : Nat) : Int) + (-25)) = True := eq_true (by decide)
theorem tg_36_m22 : tgt 36 (-22) = 14 := rfl
theorem jn_36_m22 : (0 ≤ ((36 : Nat) : Int) + (-22)) = True := eq_true (by decide)
theorem tg_36_8 : tgt 36 (8) = 44 := rfl
theorem jn_36_8 : (0 ≤ ((36 : Nat) : Int) + (8)) = True := eq_true (by decide)
theorem tg_36_15 : tgt 36 (15) = 51 := rfl
theorem jn_36_15 : (0 ≤ ((36 : Nat) : Int) + (15)) = True := eq_true (by decide)
theorem tg_36_16 : tgt 36 (16) = 52 := rfl
theorem jn_36_16 : (0 ≤ ((36 : Nat) : Int) + (16)) = True := eq_true (by decide)
theorem tg_36_21 : tgt 36 (21) = 57 := rfl
theorem jn_36_21 : (0 ≤ ((36 : Nat) : Int) + (21)) = True := eq_true (by decide)
theorem tg_36_24 : tgt 36 (24) = 60 := rfl
theorem jn_36_24 : (0 ≤ ((36 : Nat) : Int) + (24)) = True := eq_true (by decide)
theorem tg_36_26 : tgt 36 (26) = 62 := rfl
theorem jn_36_26 : (0 ≤ ((36 : Nat) : Int) + (26)) = True := eq_true (by decide)
theorem tg_37_10 : tgt 37 (10) = 47 := rfl
theorem jn_37_10 : (0 ≤ ((37 : Nat) : Int) + (10)) = True := eq_true (by decide)
theorem tg_37_15 : tgt 37 (15) = 52 := rfl
theorem jn_37_15 : (0 ≤ ((37 : Nat) : Int) + (15)) = True := eq_true (by decide)
theorem tg_38_4 : tgt 38 (4) = 42 := rfl
theorem jn_38_4 : (0 ≤ ((38 : Nat) : Int) + (4)) = True := eq_true (by decide)
theorem tg_38_11 : tgt 38 (11) = 49 := rfl
theorem jn_38_11 : (0 ≤ ((38 : Nat) : Int) + (11)) = True := eq_true (by decide)
theorem tg_39_9 : tgt 39 (9) = 48 := rfl
theorem jn_39_9 : (0 ≤ ((39 : Nat) : Int) + (9)) = True := eq_true (by decide)
theorem tg_39_11 : tgt 39 (11) = 50 := rfl
theorem jn_39_11 : (0 ≤ ((39 : Nat) : Int) + (11)) = True := eq_true (by decide)
theorem tg_39_12 : tgt 39 (12) = 51 := rfl
theorem jn_39_12 : (0 ≤ ((39 : Nat) : Int) + (12)) = True := eq_true (by decide)
theorem tg_39_21 : tgt 39 (21) = 60 := rfl
theorem jn_39_21 : (0 ≤ ((39 : Nat) : Int) + (21)) = True := eq_true (by decide)
theorem tg_39_98 : tgt 39 (98) = 137 := rfl
theorem jn_39_98 : (0 ≤ ((39 : Nat) : Int) + (98)) = True := eq_true (by decide)
theorem tg_40_m38 : tgt 40 (-38) = 2 := rfl
theorem jn_40_m38 : (0 ≤ ((40 : Nat) : Int) + (-38)) = True := eq_true (by decide)
theorem tg_40_m13 : tgt 40 (-13) = 27 := rfl
theorem jn_40_m13 : (0 ≤ ((40 : Nat) : Int) + (-13)) = True := eq_true (by decide)
theorem tg_40_4 : tgt 40 (4) = 44 := rfl
theorem jn_40_4 : (0 ≤ ((40 : Nat) : Int) + (4)) = True := eq_true (by decide)
theorem tg_40_6 : tgt 40 (6) = 46 := rfl
theorem jn_40_6 : (0 ≤ ((40 : Nat) : Int) + (6)) = True := eq_true (by decide)
theorem tg_40_17 : tgt 40 (17) = 57 := rfl
theorem jn_40_17 : (0 ≤ ((40 : Nat) : Int) + (17)) = True := eq_true (by decide)
theorem tg_40_20 : tgt 40 (20) = 60 := rfl
theorem jn_40_20 : (0 ≤ ((40 : Nat) : Int) + (20)) = True := eq_true (by decide)
theorem tg_40_23 : tgt 40 (23) = 63 := rfl
theorem jn_40_23 : (0 ≤ ((40 : Nat) : Int) + (23)) = True := eq_true (by decide)
theorem tg_40_26 : tgt 40 (26) = 66 := rfl
theorem jn_40_26 : (0 ≤ ((40 : Nat) : Int) + (26)) = True := eq_true (by decide)
theorem tg_40_152 : tgt 40 (152) = 192 := rfl
theorem jn_40_152 : (0 ≤ ((40 : Nat) : Int) + (152)) = True := eq_true (by decide)
theorem tg_40_225 : tgt 40 (225) = 265 := rfl
theorem jn_40_225 : (0 ≤ ((40 : Nat) : Int) + (225)) = True := eq_true (by decide)
theorem tg_40_250 : tgt 40 (250) = 290 := rfl
theorem jn_40_250 : (0 ≤ ((40 : Nat) : Int) + (250)) = True := eq_true (by decide)
theorem tg_40_263 : tgt 40 (263) = 303 := rfl
theorem jn_40_263 : (0 ≤ ((40 : Nat) : Int) + (263)) = True := eq_true (by decide)
theorem tg_40_276 : tgt 40 (276) = 316 := rfl
theorem jn_40_276 : (0 ≤ ((40 : Nat) : Int) + (276)) = True := eq_true (by decide)
theorem tg_40_301 : tgt 40 (301) = 341 := rfl
theorem jn_40_301 : (0 ≤ ((40 : Nat) : Int) + (301)) = True := eq_true (by decide)
theorem tg_40_369 : tgt 40 (369) = 409 := rfl
theorem jn_40_369 : (0 ≤ ((40 : Nat) : Int) + (369)) = True := eq_true (by decide)
theorem tg_40_437 : tgt 40 (437) = 477 := rfl
theorem jn_40_437 : (0 ≤ ((40 : Nat) : Int) + (437)) = True := eq_true (by decide)
theorem tg_40_450 : tgt 40 (450) = 490 := rfl
theorem jn_40_450 : (0 ≤ ((40 : Nat) : Int) + (450)) = True := eq_true (by decide)
theorem tg_40_475 : tgt 40 (475) = 515 := rfl
theorem jn_40_475 : (0 ≤ ((40 : Nat) : Int) + (475)) = True := eq_true (by decide)
theorem tg_40_501 : tgt 40 (501) = 541 := rfl
theorem jn_40_501 : (0 ≤ ((40 : Nat) : Int) + (501)) = True := eq_true (by decide)
theorem tg_40_569 : tgt 40 (569) = 609 := rfl
theorem jn_40_569 : (0 ≤ ((40 : Nat) : Int) + (569)) = True := eq_true (by decide)
theorem tg_40_583 : tgt 40 (583) = 623 := rfl
theorem jn_40_583 : (0 ≤ ((40 : Nat) : Int) + (583)) = True := eq_true (by decide)
theorem tg_40_671 : tgt 40 (671) = 711 := rfl
theorem jn_40_671 : (0 ≤ ((40 : Nat) : Int) + (671)) = True := eq_true (by decide)
theorem tg_40_696 : tgt 40 (696) = 736 := rfl
theorem jn_40_696 : (0 ≤ ((40 : Nat) : Int) + (696)) = True := eq_true (by decide)
theorem tg_40_709 : tgt 40 (709) = 749 := rfl
theorem jn_40_709 : (0 ≤ ((40 : Nat) : Int) + (709)) = True := eq_true (by decide)
theorem tg_40_723 : tgt 40 (723) = 763 := rfl
theorem jn_40_723 : (0 ≤ ((40 : Nat) : Int) + (723)) = True := eq_true (by decide)
theorem tg_40_749 : tgt 40 (749) = 789 := rfl
theorem jn_40_749 : (0 ≤ ((40 : Nat) : Int) + (749)) = True := eq_true (by decide)
theorem tg_40_775 : tgt 40 (775) = 815 := rfl
theorem jn_40_775 : (0 ≤ ((40 : Nat) : Int) + (775)) = True := eq_true (by decide)
theorem tg_40_801 : tgt 40 (801) = 841 := rfl
theorem jn_40_801 : (0 ≤ ((40 : Nat) : Int) + (801)) = True := eq_true (by decide)
theorem tg_40_815 : tgt 40 (815) = 855 := rfl
theorem jn_40_815 : (0 ≤ ((40 : Nat) : Int) + (815)) = True := eq_true (by decide)
theorem tg_40_829 : tgt 40 (829) = 869 := rfl
theorem jn_40_829 : (0 ≤ ((40 : Nat) : Int) + (829)) = True := eq_true (by decide)
theorem tg_40_917 : tgt 40 (917) = 957 := rfl
theorem jn_40_917 : (0 ≤ ((40 : Nat) : Int) + (917)) = True := eq_true (by decide)
theorem tg_40_942 : tgt 40 (942) = 982 := rfl
theorem jn_40_942 : (0 ≤ ((40 : Nat) : Int) + (942)) = True := eq_true (by decide)
theorem tg_40_979 : tgt 40 (979) = 1019 := rfl
theorem jn_40_979 : (0 ≤ ((40 : Nat) : Int) + (979)) = True := eq_true (by decide)
theorem tg_40_992 : tgt 40 (992) = 1032 := rfl
theorem jn_40_992 : (0 ≤ ((40 : Nat) : Int) + (992)) = True := eq_true (by decide)
theorem tg_40_1005 : tgt 40 (1005) = 1045 := rfl
theorem jn_40_1005 : (0 ≤ ((40 : Nat) : Int) + (1005)) = True := eq_true (by decide)
theorem tg_40_1030 : tgt 40 (1030) = 1070 := rfl
theorem jn_40_1030 : (0 ≤ ((40 : Nat) : Int) + (1030)) = True := eq_true (by decide)
theorem tg_40_1067 : tgt 40 (1067) = 1107 := rfl
theorem jn_40_1067 : (0 ≤ ((40 : Nat) : Int) + (1067)) = True := eq_true (by decide)
theorem tg_40_1092 : tgt 40 (1092) = 1132 := rfl
theorem jn_40_1092 : (0 ≤ ((40 : Nat) : Int) + (1092)) = True := eq_true (by decide)
theorem tg_40_1117 : tgt 40 (1117) = 1157 := rfl
theorem jn_40_1117 : (0 ≤ ((40 : Nat) : Int) + (1117)) = True := eq_true (by decide)
theorem tg_40_1154 : tgt 40 (1154) = 1194 := rfl
theorem jn_40_1154 : (0 ≤ ((40 : Nat) : Int) + (1154)) = True := eq_true (by decide)
theorem tg_40_1167 : tgt 40 (1167) = 1207 := rfl
theorem jn_40_1167 : (0 ≤ ((40 : Nat) : Int) + (1167)) = True := eq_true (by decide)
theorem tg_40_1192 : tgt 40 (1192) = 1232 := rfl
theorem jn_40_1192 : (0 ≤ ((40 : Nat) : Int) + (1192)) = True := eq_true (by decide)
theorem tg_40_1217 : tgt 40 (1217) = 1257 := rfl
theorem jn_40_1217 : (0 ≤ ((40 : Nat) : Int) + (1217)) = True := eq_true (by decide)
theorem tg_41_m39 : tgt 41 (-39) = 2 := rfl
theorem jn_41_m39 : (0 ≤ ((41 : Nat) : Int) + (-39)) = True := eq_true (by decide)
theorem tg_41_m36 : tgt 41 (-36) = 5 := rfl
theorem jn_41_m36 : (0 ≤ ((41 : Nat) : Int) + (-36)) = True := eq_true (by decide)
theorem tg_41_m34 : tgt 41 (-34) = 7 := rfl
theorem jn_41_m34 : (0 ≤ ((41 : Nat) : Int) + (-34)) = True := eq_true (by decide)
theorem tg_41_5 : tgt 41 (5) = 46 := rfl
theorem jn_41_5 : (0 ≤ ((41 : Nat) : Int) + (5)) = True := eq_true (by decide)
theorem tg_41_7 : tgt 41 (7) = 48 := rfl
theorem jn_41_7 : (0 ≤ ((41 : Nat) : Int) + (7)) = True := eq_true (by decide)
theorem tg_41_9 : tgt 41 (9) = 50 := rfl
theorem jn_41_9 : (0 ≤ ((41 : Nat) : Int) + (9)) = True := eq_true (by decide)
theorem tg_41_23 : tgt 41 (23) = 64 := rfl
theorem jn_41_23 : (0 ≤ ((41 : Nat) : Int) + (23)) = True := eq_true (by decide)
theorem tg_41_25 : tgt 41 (25) = 66 := rfl
theorem jn_41_25 : (0 ≤ ((41 : Nat) : Int) + (25)) = True := eq_true (by decide)
theorem tg_42_m36 : tgt 42 (-36) = 6 := rfl
theorem jn_42_m36 : (0 ≤ ((42 : Nat) : Int) + (-36)) = True := eq_true (by decide)
theorem tg_42_m16 : tgt 42 (-16) = 26 := rfl
theorem jn_42_m16 : (0 ≤ ((42 : Nat) : Int) + (-16)) = True := eq_true (by decide)
theorem tg_42_11 : tgt 42 (11) = 53 := rfl
theorem jn_42_11 : (0 ≤ ((42 : Nat) : Int) + (11)) = True := eq_true (by decide)
theorem tg_42_20 : tgt 42 (20) = 62 := rfl
theorem jn_42_20 : (0 ≤ ((42 : Nat) : Int) + (20)) = True := eq_true (by decide)
theorem tg_42_52 : tgt 42 (52) = 94 := rfl
theorem jn_42_52 : (0 ≤ ((42 : Nat) : Int) + (52)) = True := eq_true (by decide)
theorem tg_42_107 : tgt 42 (107) = 149 := rfl
theorem jn_42_107 : (0 ≤ ((42 : Nat) : Int) + (107)) = True := eq_true (by decide)
theorem tg_43_m13 : tgt 43 (-13) = 30 := rfl
theorem jn_43_m13 : (0 ≤ ((43 : Nat) : Int) + (-13)) = True := eq_true (by decide)
theorem tg_43_7 : tgt 43 (7) = 50 := rfl
theorem jn_43_7 : (0 ≤ ((43 : Nat) : Int) + (7)) = True := eq_true (by decide)
theorem tg_43_11 : tgt 43 (11) = 54 := rfl
theorem jn_43_11 : (0 ≤ ((43 : Nat) : Int) + (11)) = True := eq_true (by decide)
theorem tg_43_12 : tgt 43 (12) = 55 := rfl
theorem jn_43_12 : (0 ≤ ((43 : Nat) : Int) + (12)) = True := eq_true (by decide)
theorem tg_43_19 : tgt 43 (19) = 62 := rfl
theorem jn_43_19 : (0 ≤ ((43 : Nat) : Int) + (19)) = True := eq_true (by decide)
theorem tg_43_21 : tgt 43 (21) = 64 := rfl
theorem jn_43_21 : (0 ≤ ((43 : Nat) : Int) + (21)) = True := eq_true (by decide)
theorem tg_43_43 : tgt 43 (43) = 86 := rfl
theorem jn_43_43 : (0 ≤ ((43 : Nat) : Int) + (43)) = True := eq_true (by decide)
theorem tg_43_53 : tgt 43 (53) = 96 := rfl
theorem jn_43_53 : (0 ≤ ((43 : Nat) : Int) + (53)) = True := eq_true (by decide)
theorem tg_43_55 : tgt 43 (55) = 98 := rfl
theorem jn_43_55 : (0 ≤ ((43 : Nat) : Int) + (55)) = True := eq_true (by decide)
theorem tg_43_74 : tgt 43 (74) = 117 := rfl
theorem jn_43_74 : (0 ≤ ((43 : Nat) : Int) + (74)) = True := eq_true (by decide)
theorem tg_44_m35 : tgt 44 (-35) = 9 := rfl
theorem jn_44_m35 : (0 ≤ ((44 : Nat) : Int) + (-35)) = True := eq_true (by decide)
theorem tg_44_58 : tgt 44 (58) = 102 := rfl
theorem jn_44_58 : (0 ≤ ((44 : Nat) : Int) + (58)) = True := eq_true (by decide)
theorem tg_44_62 : tgt 44 (62) = 106 := rfl
theorem jn_44_62 : (0 ≤ ((44 : Nat) : Int) + (62)) = True := eq_true (by decide)
theorem tg_45_m43 : tgt 45 (-43) = 2 := rfl
theorem jn_45_m43 : (0 ≤ ((45 : Nat) : Int) + (-43)) = True := eq_true (by decide)
theorem tg_45_m36 : tgt 45 (-36) = 9 := rfl
theorem jn_45_m36 : (0 ≤ ((45 : Nat) : Int) + (-36)) = True := eq_true (by decide)
theorem tg_45_7 : tgt 45 (7) = 52 := rfl
theorem jn_45_7 : (0 ≤ ((45 : Nat) : Int) + (7)) = True := eq_true (by decide)
theorem tg_45_11 : tgt 45 (11) = 56 := rfl
theorem jn_45_11 : (0 ≤ ((45 : Nat) : Int) + (11)) = True := eq_true (by decide)
theorem tg_45_151 : tgt 45 (151) = 196 := rfl
theorem jn_45_151 : (0 ≤ ((45 : Nat) : Int) + (151)) = True := eq_true (by decide)
theorem tg_46_m43 : tgt 46 (-43) = 3 := rfl
theorem jn_46_m43 : (0 ≤ ((46 : Nat) : Int) + (-43)) = True := eq_true (by decide)
theorem tg_46_7 : tgt 46 (7) = 53 := rfl
theorem jn_46_7 : (0 ≤ ((46 : Nat) : Int) + (7)) = True := eq_true (by decide)
theorem tg_46_8 : tgt 46 (8) = 54 := rfl
theorem jn_46_8 : (0 ≤ ((46 : Nat) : Int) + (8)) = True := eq_true (by decide)
theorem tg_46_18 : tgt 46 (18) = 64 := rfl
theorem jn_46_18 : (0 ≤ ((46 : Nat) : Int) + (18)) = True := eq_true (by decide)
theorem tg_46_68 : tgt 46 (68) = 114 := rfl
theorem jn_46_68 : (0 ≤ ((46 : Nat) : Int) + (68)) = True := eq_true (by decide)
theorem tg_47_m47 : tgt 47 (-47) = 0 := rfl
theorem jn_47_m47 : (0 ≤ ((47 : Nat) : Int) + (-47)) = True := eq_true (by decide)
theorem tg_47_m22 : tgt 47 (-22) = 25 := rfl
theorem jn_47_m22 : (0 ≤ ((47 : Nat) : Int) + (-22)) = True := eq_true (by decide)
theorem tg_47_4 : tgt 47 (4) = 51 := rfl
theorem jn_47_4 : (0 ≤ ((47 : Nat) : Int) + (4)) = True := eq_true (by decide)
theorem tg_47_12 : tgt 47 (12) = 59 := rfl
theorem jn_47_12 : (0 ≤ ((47 : Nat) : Int) + (12)) = True := eq_true (by decide)
theorem tg_47_17 : tgt 47 (17) = 64 := rfl
theorem jn_47_17 : (0 ≤ ((47 : Nat) : Int) + (17)) = True := eq_true (by decide)
theorem tg_48_m43 : tgt 48 (-43) = 5 := rfl
theorem jn_48_m43 : (0 ≤ ((48 : Nat) : Int) + (-43)) = True := eq_true (by decide)
theorem tg_48_m42 : tgt 48 (-42) = 6 := rfl
theorem jn_48_m42 : (0 ≤ ((48 : Nat) : Int) + (-42)) = True := eq_true (by decide)
theorem tg_48_m23 : tgt 48 (-23) = 25 := rfl
theorem jn_48_m23 : (0 ≤ ((48 : Nat) : Int) + (-23)) = True := eq_true (by decide)
theorem tg_48_m16 : tgt 48 (-16) = 32 := rfl
theorem jn_48_m16 : (0 ≤ ((48 : Nat) : Int) + (-16)) = True := eq_true (by decide)
theorem tg_48_5 : tgt 48 (5) = 53 := rfl
theorem jn_48_5 : (0 ≤ ((48 : Nat) : Int) + (5)) = True := eq_true (by decide)
theorem tg_48_6 : tgt 48 (6) = 54 := rfl
theorem jn_48_6 : (0 ≤ ((48 : Nat) : Int) + (6)) = True := eq_true (by decide)
theorem tg_48_59 : tgt 48 (59) = 107 := rfl
theorem jn_48_59 : (0 ≤ ((48 : Nat) : Int) + (59)) = True := eq_true (by decide)
theorem tg_49_m49 : tgt 49 (-49) = 0 := rfl
theorem jn_49_m49 : (0 ≤ ((49 : Nat) : Int) + (-49)) = True := eq_true (by decide)
theorem tg_49_m47 : tgt 49 (-47) = 2 := rfl
theorem jn_49_m47 : (0 ≤ ((49 : Nat) : Int) + (-47)) = True := eq_true (by decide)
theorem tg_49_m46 : tgt 49 (-46) = 3 := rfl
theorem jn_49_m46 : (0 ≤ ((49 : Nat) : Int) + (-46)) = True := eq_true (by decide)
theorem tg_49_m20 : tgt 49 (-20) = 29 := rfl
theorem jn_49_m20 : (0 ≤ ((49 : Nat) : Int) + (-20)) = True := eq_true (by decide)
theorem tg_49_5 : tgt 49 (5) = 54 := rfl
theorem jn_49_5 : (0 ≤ ((49 : Nat) : Int) + (5)) = True := eq_true (by decide)
theorem tg_49_7 : tgt 49 (7) = 56 := rfl
theorem jn_49_7 : (0 ≤ ((49 : Nat) : Int) + (7)) = True := eq_true (by decide)
theorem tg_49_163 : tgt 49 (163) = 212 := rfl
theorem jn_49_163 : (0 ≤ ((49 : Nat) : Int) + (163)) = True := eq_true (by decide)
theorem tg_50_4 : tgt 50 (4) = 54 := rfl
theorem jn_50_4 : (0 ≤ ((50 : Nat) : Int) + (4)) = True := eq_true (by decide)
theorem tg_50_6 : tgt 50 (6) = 56 := rfl
theorem jn_50_6 : (0 ≤ ((50 : Nat) : Int) + (6)) = True := eq_true (by decide)
theorem tg_50_81 : tgt 50 (81) = 131 := rfl
theorem jn_50_81 : (0 ≤ ((50 : Nat) : Int) + (81)) = True := eq_true (by decide)
theorem tg_50_89 : tgt 50 (89) = 139 := rfl
theorem jn_50_89 : (0 ≤ ((50 : Nat) : Int) + (89)) = True := eq_true (by decide)
theorem tg_51_m26 : tgt 51 (-26) = 25 := rfl
theorem jn_51_m26 : (0 ≤ ((51 : Nat) : Int) + (-26)) = True := eq_true (by decide)
theorem tg_51_6 : tgt 51 (6) = 57 := rfl
theorem jn_51_6 : (0 ≤ ((51 : Nat) : Int) + (6)) = True := eq_true (by decide)
theorem tg_51_12 : tgt 51 (12) = 63 := rfl
theorem jn_51_12 : (0 ≤ ((51 : Nat) : Int) + (12)) = True := eq_true (by decide)
theorem tg_51_13 : tgt 51 (13) = 64 := rfl
theorem jn_51_13 : (0 ≤ ((51 : Nat) : Int) + (13)) = True := eq_true (by decide)
theorem tg_51_17 : tgt 51 (17) = 68 := rfl
theorem jn_51_17 : (0 ≤ ((51 : Nat) : Int) + (17)) = True := eq_true (by decide)
theorem tg_51_20 : tgt 51 (20) = 71 := rfl
theorem jn_51_20 : (0 ≤ ((51 : Nat) : Int) + (20)) = True := eq_true (by decide)
theorem tg_51_28 : tgt 51 (28) = 79 := rfl
theorem jn_51_28 : (0 ≤ ((51 : Nat) : Int) + (28)) = True := eq_true (by decide)
theorem tg_51_218 : tgt 51 (218) = 269 := rfl
theorem jn_51_218 : (0 ≤ ((51 : Nat) : Int) + (218)) = True := eq_true (by decide)
theorem tg_52_m41 : tgt 52 (-41) = 11 := rfl
theorem jn_52_m41 : (0 ≤ ((52 : Nat) : Int) + (-41)) = True := eq_true (by decide)
theorem tg_52_m27 : tgt 52 (-27) = 25 := rfl
theorem jn_52_m27 : (0 ≤ ((52 : Nat) : Int) + (-27)) = True := eq_true (by decide)
theorem tg_52_7 : tgt 52 (7) = 59 := rfl
theorem jn_52_7 : (0 ≤ ((52 : Nat) : Int) + (7)) = True := eq_true (by decide)
theorem tg_52_30 : tgt 52 (30) = 82 := rfl
theorem jn_52_30 : (0 ≤ ((52 : Nat) : Int) + (30)) = True := eq_true (by decide)
theorem tg_53_m20 : tgt 53 (-20) = 33 := rfl
theorem jn_53_m20 : (0 ≤ ((53 : Nat) : Int) + (-20)) = True := eq_true (by decide)
theorem tg_53_4 : tgt 53 (4) = 57 := rfl
theorem jn_53_4 : (0 ≤ ((53 : Nat) : Int) + (4)) = True := eq_true (by decide)
theorem tg_53_7 : tgt 53 (7) = 60 := rfl
theorem jn_53_7 : (0 ≤ ((53 : Nat) : Int) + (7)) = True := eq_true (by decide)
theorem tg_53_28 : tgt 53 (28) = 81 := rfl
theorem jn_53_28 : (0 ≤ ((53 : Nat) : Int) + (28)) = True := eq_true (by decide)
theorem tg_53_59 : tgt 53 (59) = 112 := rfl
theorem jn_53_59 : (0 ≤ ((53 : Nat) : Int) + (59)) = True := eq_true (by decide)
theorem tg_53_89 : tgt 53 (89) = 142 := rfl
theorem jn_53_89 : (0 ≤ ((53 : Nat) : Int) + (89)) = True := eq_true (by decide)
theorem tg_54_m20 : tgt 54 (-20) = 34 := rfl
theorem jn_54_m20 : (0 ≤ ((54 : Nat) : Int) + (-20)) = True := eq_true (by decide)
theorem tg_54_6 : tgt 54 (6) = 60 := rfl
theorem jn_54_6 : (0 ≤ ((54 : Nat) : Int) + (6)) = True := eq_true (by decide)
theorem tg_54_7 : tgt 54 (7) = 61 := rfl
theorem jn_54_7 : (0 ≤ ((54 : Nat) : Int) + (7)) = True := eq_true (by decide)
theorem tg_54_13 : tgt 54 (13) = 67 := rfl
theorem jn_54_13 : (0 ≤ ((54 : Nat) : Int) + (13)) = True := eq_true (by decide)
theorem tg_54_34 : tgt 54 (34) = 88 := rfl
theorem jn_54_34 : (0 ≤ ((54 : Nat) : Int) + (34)) = True := eq_true (by decide)
theorem tg_55_m29 : tgt 55 (-29) = 26 := rfl
theorem jn_55_m29 : (0 ≤ ((55 : Nat) : Int) + (-29)) = True := eq_true (by decide)
theorem tg_55_7 : tgt 55 (7) = 62 := rfl
theorem jn_55_7 : (0 ≤ ((55 : Nat) : Int) + (7)) = True := eq_true (by decide)
theorem tg_55_37 : tgt 55 (37) = 92 := rfl
theorem jn_55_37 : (0 ≤ ((55 : Nat) : Int) + (37)) = True := eq_true (by decide)
theorem tg_55_56 : tgt 55 (56) = 111 := rfl
theorem jn_55_56 : (0 ≤ ((55 : Nat) : Int) + (56)) = True := eq_true (by decide)
theorem tg_55_214 : tgt 55 (214) = 269 := rfl
theorem jn_55_214 : (0 ≤ ((55 : Nat) : Int) + (214)) = True := eq_true (by decide)
theorem tg_56_m14 : tgt 56 (-14) = 42 := rfl
theorem jn_56_m14 : (0 ≤ ((56 : Nat) : Int) + (-14)) = True := eq_true (by decide)
theorem tg_56_4 : tgt 56 (4) = 60 := rfl
theorem jn_56_4 : (0 ≤ ((56 : Nat) : Int) + (4)) = True := eq_true (by decide)
theorem tg_56_28 : tgt 56 (28) = 84 := rfl
theorem jn_56_28 : (0 ≤ ((56 : Nat) : Int) + (28)) = True := eq_true (by decide)
theorem tg_57_m48 : tgt 57 (-48) = 9 := rfl
theorem jn_57_m48 : (0 ≤ ((57 : Nat) : Int) + (-48)) = True := eq_true (by decide)
theorem tg_57_m37 : tgt 57 (-37) = 20 := rfl
theorem jn_57_m37 : (0 ≤ ((57 : Nat) : Int) + (-37)) = True := eq_true (by decide)
theorem tg_57_m23 : tgt 57 (-23) = 34 := rfl
theorem jn_57_m23 : (0 ≤ ((57 : Nat) : Int) + (-23)) = True := eq_true (by decide)
theorem tg_57_4 : tgt 57 (4) = 61 := rfl
theorem jn_57_4 : (0 ≤ ((57 : Nat) : Int) + (4)) = True := eq_true (by decide)
theorem tg_57_5 : tgt 57 (5) = 62 := rfl
theorem jn_57_5 : (0 ≤ ((57 : Nat) : Int) + (5)) = True := eq_true (by decide)
theorem tg_57_22 : tgt 57 (22) = 79 := rfl
theorem jn_57_22 : (0 ≤ ((57 : Nat) : Int) + (22)) = True := eq_true (by decide)
theorem tg_57_39 : tgt 57 (39) = 96 := rfl
theorem jn_57_39 : (0 ≤ ((57 : Nat) : Int) + (39)) = True := eq_true (by decide)
theorem tg_58_4 : tgt 58 (4) = 62 := rfl
theorem jn_58_4 : (0 ≤ ((58 : Nat) : Int) + (4)) = True := eq_true (by decide)
theorem tg_58_5 : tgt 58 (5) = 63 := rfl
theorem jn_58_5 : (0 ≤ ((58 : Nat) : Int) + (5)) = True := eq_true (by decide)
theorem tg_58_9 : tgt 58 (9) = 67 := rfl
theorem jn_58_9 : (0 ≤ ((58 : Nat) : Int) + (9)) = True := eq_true (by decide)
theorem tg_58_39 : tgt 58 (39) = 97 := rfl
theorem jn_58_39 : (0 ≤ ((58 : Nat) : Int) + (39)) = True := eq_true (by decide)
theorem tg_59_m19 : tgt 59 (-19) = 40 := rfl
theorem jn_59_m19 : (0 ≤ ((59 : Nat) : Int) + (-19)) = True := eq_true (by decide)
theorem tg_59_4 : tgt 59 (4) = 63 := rfl
theorem jn_59_4 : (0 ≤ ((59 : Nat) : Int) + (4)) = True := eq_true (by decide)
theorem tg_59_7 : tgt 59 (7) = 66 := rfl
theorem jn_59_7 : (0 ≤ ((59 : Nat) : Int) + (7)) = True := eq_true (by decide)
theorem tg_59_8 : tgt 59 (8) = 67 := rfl
theorem jn_59_8 : (0 ≤ ((59 : Nat) : Int) + (8)) = True := eq_true (by decide)
theorem tg_59_28 : tgt 59 (28) = 87 := rfl
theorem jn_59_28 : (0 ≤ ((59 : Nat) : Int) + (28)) = True := eq_true (by decide)
theorem tg_59_61 : tgt 59 (61) = 120 := rfl
theorem jn_59_61 : (0 ≤ ((59 : Nat) : Int) + (61)) = True := eq_true (by decide)
theorem tg_59_147 : tgt 59 (147) = 206 := rfl
theorem jn_59_147 : (0 ≤ ((59 : Nat) : Int) + (147)) = True := eq_true (by decide)
theorem tg_60_6 : tgt 60 (6) = 66 := rfl
theorem jn_60_6 : (0 ≤ ((60 : Nat) : Int) + (6)) = True := eq_true (by decide)
theorem tg_60_7 : tgt 60 (7) = 67 := rfl
theorem jn_60_7 : (0 ≤ ((60 : Nat) : Int) + (7)) = True := eq_true (by decide)
theorem tg_60_12 : tgt 60 (12) = 72 := rfl
theorem jn_60_12 : (0 ≤ ((60 : Nat) : Int) + (12)) = True := eq_true (by decide)
theorem tg_60_78 : tgt 60 (78) = 138 := rfl
theorem jn_60_78 : (0 ≤ ((60 : Nat) : Int) + (78)) = True := eq_true (by decide)
theorem tg_61_m25 : tgt 61 (-25) = 36 := rfl
theorem jn_61_m25 : (0 ≤ ((61 : Nat) : Int) + (-25)) = True := eq_true (by decide)
theorem tg_61_5 : tgt 61 (5) = 66 := rfl
theorem jn_61_5 : (0 ≤ ((61 : Nat) : Int) + (5)) = True := eq_true (by decide)
theorem tg_61_6 : tgt 61 (6) = 67 := rfl
theorem jn_61_6 : (0 ≤ ((61 : Nat) : Int) + (6)) = True := eq_true (by decide)
theorem tg_61_15 : tgt 61 (15) = 76 := rfl
theorem jn_61_15 : (0 ≤ ((61 : Nat) : Int) + (15)) = True := eq_true (by decide)
theorem tg_63_m48 : tgt 63 (-48) = 15 := rfl
theorem jn_63_m48 : (0 ≤ ((63 : Nat) : Int) + (-48)) = True := eq_true (by decide)
theorem tg_63_m26 : tgt 63 (-26) = 37 := rfl
theorem jn_63_m26 : (0 ≤ ((63 : Nat) : Int) + (-26)) = True := eq_true (by decide)
theorem tg_63_4 : tgt 63 (4) = 67 := rfl
theorem jn_63_4 : (0 ≤ ((63 : Nat) : Int) + (4)) = True := eq_true (by decide)
theorem tg_63_7 : tgt 63 (7) = 70 := rfl
theorem jn_63_7 : (0 ≤ ((63 : Nat) : Int) + (7)) = True := eq_true (by decide)
theorem tg_63_17 : tgt 63 (17) = 80 := rfl
theorem jn_63_17 : (0 ≤ ((63 : Nat) : Int) + (17)) = True := eq_true (by decide)
theorem tg_63_19 : tgt 63 (19) = 82 := rfl
theorem jn_63_19 : (0 ≤ ((63 : Nat) : Int) + (19)) = True := eq_true (by decide)
theorem tg_63_25 : tgt 63 (25) = 88 := rfl
theorem jn_63_25 : (0 ≤ ((63 : Nat) : Int) + (25)) = True := eq_true (by decide)
theorem tg_63_68 : tgt 63 (68) = 131 := rfl
theorem jn_63_68 : (0 ≤ ((63 : Nat) : Int) + (68)) = True := eq_true (by decide)
theorem tg_64_7 : tgt 64 (7) = 71 := rfl
theorem jn_64_7 : (0 ≤ ((64 : Nat) : Int) + (7)) = True := eq_true (by decide)
theorem tg_64_25 : tgt 64 (25) = 89 := rfl
theorem jn_64_25 : (0 ≤ ((64 : Nat) : Int) + (25)) = True := eq_true (by decide)
theorem tg_64_38 : tgt 64 (38) = 102 := rfl
theorem jn_64_38 : (0 ≤ ((64 : Nat) : Int) + (38)) = True := eq_true (by decide)
theorem tg_64_65 : tgt 64 (65) = 129 := rfl
theorem jn_64_65 : (0 ≤ ((64 : Nat) : Int) + (65)) = True := eq_true (by decide)
theorem tg_65_m40 : tgt 65 (-40) = 25 := rfl
theorem jn_65_m40 : (0 ≤ ((65 : Nat) : Int) + (-40)) = True := eq_true (by decide)
theorem tg_65_17 : tgt 65 (17) = 82 := rfl
theorem jn_65_17 : (0 ≤ ((65 : Nat) : Int) + (17)) = True := eq_true (by decide)
theorem tg_65_32 : tgt 65 (32) = 97 := rfl
theorem jn_65_32 : (0 ≤ ((65 : Nat) : Int) + (32)) = True := eq_true (by decide)
theorem tg_66_m54 : tgt 66 (-54) = 12 := rfl
theorem jn_66_m54 : (0 ≤ ((66 : Nat) : Int) + (-54)) = True := eq_true (by decide)
theorem tg_66_m39 : tgt 66 (-39) = 27 := rfl
theorem jn_66_m39 : (0 ≤ ((66 : Nat) : Int) + (-39)) = True := eq_true (by decide)
theorem tg_66_10 : tgt 66 (10) = 76 := rfl
theorem jn_66_10 : (0 ≤ ((66 : Nat) : Int) + (10)) = True := eq_true (by decide)
theorem tg_66_25 : tgt 66 (25) = 91 := rfl
theorem jn_66_25 : (0 ≤ ((66 : Nat) : Int) + (25)) = True := eq_true (by decide)
theorem tg_67_m39 : tgt 67 (-39) = 28 := rfl
theorem jn_67_m39 : (0 ≤ ((67 : Nat) : Int) + (-39)) = True := eq_true (by decide)
theorem tg_67_5 : tgt 67 (5) = 72 := rfl
theorem jn_67_5 : (0 ≤ ((67 : Nat) : Int) + (5)) = True := eq_true (by decide)
theorem tg_67_10 : tgt 67 (10) = 77 := rfl
theorem jn_67_10 : (0 ≤ ((67 : Nat) : Int) + (10)) = True := eq_true (by decide)
theorem tg_67_12 : tgt 67 (12) = 79 := rfl
theorem jn_67_12 : (0 ≤ ((67 : Nat) : Int) + (12)) = True := eq_true (by decide)
theorem tg_67_14 : tgt 67 (14) = 81 := rfl
theorem jn_67_14 : (0 ≤ ((67 : Nat) : Int) + (14)) = True := eq_true (by decide)
theorem tg_67_25 : tgt 67 (25) = 92 := rfl
theorem jn_67_25 : (0 ≤ ((67 : Nat) : Int) + (25)) = True := eq_true (by decide)
theorem tg_67_26 : tgt 67 (26) = 93 := rfl
theorem jn_67_26 : (0 ≤ ((67 : Nat) : Int) + (26)) = True := eq_true (by decide)
theorem tg_68_m45 : tgt 68 (-45) = 23 := rfl
theorem jn_68_m45 : (0 ≤ ((68 : Nat) : Int) + (-45)) = True := eq_true (by decide)
theorem tg_68_4 : tgt 68 (4) = 72 := rfl
theorem jn_68_4 : (0 ≤ ((68 : Nat) : Int) + (4)) = True := eq_true (by decide)
theorem tg_68_5 : tgt 68 (5) = 73 := rfl
theorem jn_68_5 : (0 ≤ ((68 : Nat) : Int) + (5)) = True := eq_true (by decide)
theorem tg_68_7 : tgt 68 (7) = 75 := rfl
theorem jn_68_7 : (0 ≤ ((68 : Nat) : Int) + (7)) = True := eq_true (by decide)
theorem tg_68_36 : tgt 68 (36) = 104 := rfl
theorem jn_68_36 : (0 ≤ ((68 : Nat) : Int) + (36)) = True := eq_true (by decide)
theorem tg_69_m65 : tgt 69 (-65) = 4 := rfl
theorem jn_69_m65 : (0 ≤ ((69 : Nat) : Int) + (-65)) = True := eq_true (by decide)
theorem tg_69_5 : tgt 69 (5) = 74 := rfl
theorem jn_69_5 : (0 ≤ ((69 : Nat) : Int) + (5)) = True := eq_true (by decide)
theorem tg_69_17 : tgt 69 (17) = 86 := rfl
theorem jn_69_17 : (0 ≤ ((69 : Nat) : Int) + (17)) = True := eq_true (by decide)
theorem tg_69_194 : tgt 69 (194) = 263 := rfl
theorem jn_69_194 : (0 ≤ ((69 : Nat) : Int) + (194)) = True := eq_true (by decide)
theorem tg_70_7 : tgt 70 (7) = 77 := rfl
theorem jn_70_7 : (0 ≤ ((70 : Nat) : Int) + (7)) = True := eq_true (by decide)
theorem tg_70_15 : tgt 70 (15) = 85 := rfl
theorem jn_70_15 : (0 ≤ ((70 : Nat) : Int) + (15)) = True := eq_true (by decide)
theorem tg_70_62 : tgt 70 (62) = 132 := rfl
theorem jn_70_62 : (0 ≤ ((70 : Nat) : Int) + (62)) = True := eq_true (by decide)
theorem tg_71_m52 : tgt 71 (-52) = 19 := rfl
theorem jn_71_m52 : (0 ≤ ((71 : Nat) : Int) + (-52)) = True := eq_true (by decide)
theorem tg_71_18 : tgt 71 (18) = 89 := rfl
theorem jn_71_18 : (0 ≤ ((71 : Nat) : Int) + (18)) = True := eq_true (by decide)
theorem tg_71_21 : tgt 71 (21) = 92 := rfl
theorem jn_71_21 : (0 ≤ ((71 : Nat) : Int) + (21)) = True := eq_true (by decide)
theorem tg_72_4 : tgt 72 (4) = 76 := rfl
theorem jn_72_4 : (0 ≤ ((72 : Nat) : Int) + (4)) = True := eq_true (by decide)
theorem tg_72_8 : tgt 72 (8) = 80 := rfl
theorem jn_72_8 : (0 ≤ ((72 : Nat) : Int) + (8)) = True := eq_true (by decide)
theorem tg_72_16 : tgt 72 (16) = 88 := rfl
theorem jn_72_16 : (0 ≤ ((72 : Nat) : Int) + (16)) = True := eq_true (by decide)
theorem tg_72_57 : tgt 72 (57) = 129 := rfl
theorem jn_72_57 : (0 ≤ ((72 : Nat) : Int) + (57)) = True := eq_true (by decide)
theorem tg_73_m55 : tgt 73 (-55) = 18 := rfl
theorem jn_73_m55 : (0 ≤ ((73 : Nat) : Int) + (-55)) = True := eq_true (by decide)
theorem tg_73_11 : tgt 73 (11) = 84 := rfl
theorem jn_73_11 : (0 ≤ ((73 : Nat) : Int) + (11)) = True := eq_true (by decide)
theorem tg_73_22 : tgt 73 (22) = 95 := rfl
theorem jn_73_22 : (0 ≤ ((73 : Nat) : Int) + (22)) = True := eq_true (by decide)
theorem tg_73_33 : tgt 73 (33) = 106 := rfl
theorem jn_73_33 : (0 ≤ ((73 : Nat) : Int) + (33)) = True := eq_true (by decide)
theorem tg_74_m67 : tgt 74 (-67) = 7 := rfl
theorem jn_74_m67 : (0 ≤ ((74 : Nat) : Int) + (-67)) = True := eq_true (by decide)
theorem tg_74_7 : tgt 74 (7) = 81 := rfl
theorem jn_74_7 : (0 ≤ ((74 : Nat) : Int) + (7)) = True := eq_true (by decide)
theorem tg_74_9 : tgt 74 (9) = 83 := rfl
theorem jn_74_9 : (0 ≤ ((74 : Nat) : Int) + (9)) = True := eq_true (by decide)
theorem tg_75_6 : tgt 75 (6) = 81 := rfl
theorem jn_75_6 : (0 ≤ ((75 : Nat) : Int) + (6)) = True := eq_true (by decide)
theorem tg_76_m72 : tgt 76 (-72) = 4 := rfl
theorem jn_76_m72 : (0 ≤ ((76 : Nat) : Int) + (-72)) = True := eq_true (by decide)
theorem tg_76_m30 : tgt 76 (-30) = 46 := rfl
theorem jn_76_m30 : (0 ≤ ((76 : Nat) : Int) + (-30)) = True := eq_true (by decide)
theorem tg_76_36 : tgt 76 (36) = 112 := rfl
theorem jn_76_36 : (0 ≤ ((76 : Nat) : Int) + (36)) = True := eq_true (by decide)
theorem tg_77_4 : tgt 77 (4) = 81 := rfl
theorem jn_77_4 : (0 ≤ ((77 : Nat) : Int) + (4)) = True := eq_true (by decide)
theorem tg_77_15 : tgt 77 (15) = 92 := rfl
theorem jn_77_15 : (0 ≤ ((77 : Nat) : Int) + (15)) = True := eq_true (by decide)
theorem tg_77_16 : tgt 77 (16) = 93 := rfl
theorem jn_77_16 : (0 ≤ ((77 : Nat) : Int) + (16)) = True := eq_true (by decide)
theorem tg_78_10 : tgt 78 (10) = 88 := rfl
theorem jn_78_10 : (0 ≤ ((78 : Nat) : Int) + (10)) = True := eq_true (by decide)
theorem tg_78_18 : tgt 78 (18) = 96 := rfl
theorem jn_78_18 : (0 ≤ ((78 : Nat) : Int) + (18)) = True := eq_true (by decide)
theorem tg_79_m18 : tgt 79 (-18) = 61 := rfl
theorem jn_79_m18 : (0 ≤ ((79 : Nat) : Int) + (-18)) = True := eq_true (by decide)
theorem tg_79_5 : tgt 79 (5) = 84 := rfl
theorem jn_79_5 : (0 ≤ ((79 : Nat) : Int) + (5)) = True := eq_true (by decide)
theorem tg_80_10 : tgt 80 (10) = 90 := rfl
theorem jn_80_10 : (0 ≤ ((80 : Nat) : Int) + (10)) = True := eq_true (by decide)
theorem tg_80_17 : tgt 80 (17) = 97 := rfl
theorem jn_80_17 : (0 ≤ ((80 : Nat) : Int) + (17)) = True := eq_true (by decide)
theorem tg_80_84 : tgt 80 (84) = 164 := rfl
theorem jn_80_84 : (0 ≤ ((80 : Nat) : Int) + (84)) = True := eq_true (by decide)
theorem tg_81_7 : tgt 81 (7) = 88 := rfl
theorem jn_81_7 : (0 ≤ ((81 : Nat) : Int) + (7)) = True := eq_true (by decide)
theorem tg_82_5 : tgt 82 (5) = 87 := rfl
theorem jn_82_5 : (0 ≤ ((82 : Nat) : Int) + (5)) = True := eq_true (by decide)
theorem tg_82_7 : tgt 82 (7) = 89 := rfl
theorem jn_82_7 : (0 ≤ ((82 : Nat) : Int) + (7)) = True := eq_true (by decide)
theorem tg_82_24 : tgt 82 (24) = 106 := rfl
theorem jn_82_24 : (0 ≤ ((82 : Nat) : Int) + (24)) = True := eq_true (by decide)
theorem tg_82_50 : tgt 82 (50) = 132 := rfl
theorem jn_82_50 : (0 ≤ ((82 : Nat) : Int) + (50)) = True := eq_true (by decide)
theorem tg_83_7 : tgt 83 (7) = 90 := rfl
theorem jn_83_7 : (0 ≤ ((83 : Nat) : Int) + (7)) = True := eq_true (by decide)
theorem tg_83_18 : tgt 83 (18) = 101 := rfl
theorem jn_83_18 : (0 ≤ ((83 : Nat) : Int) + (18)) = True := eq_true (by decide)
theorem tg_83_40 : tgt 83 (40) = 123 := rfl
theorem jn_83_40 : (0 ≤ ((83 : Nat) : Int) + (40)) = True := eq_true (by decide)
theorem tg_84_m65 : tgt 84 (-65) = 19 := rfl
theorem jn_84_m65 : (0 ≤ ((84 : Nat) : Int) + (-65)) = True := eq_true (by decide)
theorem tg_84_m31 : tgt 84 (-31) = 53 := rfl
theorem jn_84_m31 : (0 ≤ ((84 : Nat) : Int) + (-31)) = True := eq_true (by decide)
theorem tg_84_5 : tgt 84 (5) = 89 := rfl
theorem jn_84_5 : (0 ≤ ((84 : Nat) : Int) + (5)) = True := eq_true (by decide)
theorem tg_84_6 : tgt 84 (6) = 90 := rfl
theorem jn_84_6 : (0 ≤ ((84 : Nat) : Int) + (6)) = True := eq_true (by decide)
theorem tg_85_m83 : tgt 85 (-83) = 2 := rfl
theorem jn_85_m83 : (0 ≤ ((85 : Nat) : Int) + (-83)) = True := eq_true (by decide)
theorem tg_85_4 : tgt 85 (4) = 89 := rfl
theorem jn_85_4 : (0 ≤ ((85 : Nat) : Int) + (4)) = True := eq_true (by decide)
theorem tg_85_5 : tgt 85 (5) = 90 := rfl
theorem jn_85_5 : (0 ≤ ((85 : Nat) : Int) + (5)) = True := eq_true (by decide)
theorem tg_85_7 : tgt 85 (7) = 92 := rfl
theorem jn_85_7 : (0 ≤ ((85 : Nat) : Int) + (7)) = True := eq_true (by decide)
theorem tg_86_4 : tgt 86 (4) = 90 := rfl
theorem jn_86_4 : (0 ≤ ((86 : Nat) : Int) + (4)) = True := eq_true (by decide)
theorem tg_86_5 : tgt 86 (5) = 91 := rfl
theorem jn_86_5 : (0 ≤ ((86 : Nat) : Int) + (5)) = True := eq_true (by decide)
theorem tg_86_78 : tgt 86 (78) = 164 := rfl
theorem jn_86_78 : (0 ≤ ((86 : Nat) : Int) + (78)) = True := eq_true (by decide)
theorem tg_87_m82 : tgt 87 (-82) = 5 := rfl
theorem jn_87_m82 : (0 ≤ ((87 : Nat) : Int) + (-82)) = True := eq_true (by decide)
theorem tg_87_m80 : tgt 87 (-80) = 7 := rfl
theorem jn_87_m80 : (0 ≤ ((87 : Nat) : Int) + (-80)) = True := eq_true (by decide)
theorem tg_87_4 : tgt 87 (4) = 91 := rfl
theorem jn_87_4 : (0 ≤ ((87 : Nat) : Int) + (4)) = True := eq_true (by decide)
theorem tg_87_8 : tgt 87 (8) = 95 := rfl
theorem jn_87_8 : (0 ≤ ((87 : Nat) : Int) + (8)) = True := eq_true (by decide)
theorem tg_87_27 : tgt 87 (27) = 114 := rfl
theorem jn_87_27 : (0 ≤ ((87 : Nat) : Int) + (27)) = True := eq_true (by decide)
theorem tg_88_17 : tgt 88 (17) = 105 := rfl
theorem jn_88_17 : (0 ≤ ((88 : Nat) : Int) + (17)) = True := eq_true (by decide)
theorem tg_89_m64 : tgt 89 (-64) = 25 := rfl
theorem jn_89_m64 : (0 ≤ ((89 : Nat) : Int) + (-64)) = True := eq_true (by decide)
theorem tg_89_4 : tgt 89 (4) = 93 := rfl
theorem jn_89_4 : (0 ≤ ((89 : Nat) : Int) + (4)) = True := eq_true (by decide)
theorem tg_89_7 : tgt 89 (7) = 96 := rfl
theorem jn_89_7 : (0 ≤ ((89 : Nat) : Int) + (7)) = True := eq_true (by decide)
theorem tg_89_17 : tgt 89 (17) = 106 := rfl
theorem jn_89_17 : (0 ≤ ((89 : Nat) : Int) + (17)) = True := eq_true (by decide)
theorem tg_89_41 : tgt 89 (41) = 130 := rfl
theorem jn_89_41 : (0 ≤ ((89 : Nat) : Int) + (41)) = True := eq_true (by decide)
theorem tg_89_53 : tgt 89 (53) = 142 := rfl
theorem jn_89_53 : (0 ≤ ((89 : Nat) : Int) + (53)) = True := eq_true (by decide)
theorem tg_90_10 : tgt 90 (10) = 100 := rfl
theorem jn_90_10 : (0 ≤ ((90 : Nat) : Int) + (10)) = True := eq_true (by decide)
theorem tg_91_m54 : tgt 91 (-54) = 37 := rfl
theorem jn_91_m54 : (0 ≤ ((91 : Nat) : Int) + (-54)) = True := eq_true (by decide)
theorem tg_91_44 : tgt 91 (44) = 135 := rfl
theorem jn_91_44 : (0 ≤ ((91 : Nat) : Int) + (44)) = True := eq_true (by decide)
theorem tg_92_m68 : tgt 92 (-68) = 24 := rfl
theorem jn_92_m68 : (0 ≤ ((92 : Nat) : Int) + (-68)) = True := eq_true (by decide)
theorem tg_92_36 : tgt 92 (36) = 128 := rfl
theorem jn_92_36 : (0 ≤ ((92 : Nat) : Int) + (36)) = True := eq_true (by decide)
theorem tg_93_m58 : tgt 93 (-58) = 35 := rfl
theorem jn_93_m58 : (0 ≤ ((93 : Nat) : Int) + (-58)) = True := eq_true (by decide)
theorem tg_94_m41 : tgt 94 (-41) = 53 := rfl
theorem jn_94_m41 : (0 ≤ ((94 : Nat) : Int) + (-41)) = True := eq_true (by decide)
theorem tg_94_10 : tgt 94 (10) = 104 := rfl
theorem jn_94_10 : (0 ≤ ((94 : Nat) : Int) + (10)) = True := eq_true (by decide)
theorem tg_94_30 : tgt 94 (30) = 124 := rfl
theorem jn_94_30 : (0 ≤ ((94 : Nat) : Int) + (30)) = True := eq_true (by decide)
theorem tg_95_m70 : tgt 95 (-70) = 25 := rfl
theorem jn_95_m70 : (0 ≤ ((95 : Nat) : Int) + (-70)) = True := eq_true (by decide)
theorem tg_97_10 : tgt 97 (10) = 107 := rfl
theorem jn_97_10 : (0 ≤ ((97 : Nat) : Int) + (10)) = True := eq_true (by decide)
theorem tg_97_26 : tgt 97 (26) = 123 := rfl
theorem jn_97_26 : (0 ≤ ((97 : Nat) : Int) + (26)) = True := eq_true (by decide)
theorem tg_98_m20 : tgt 98 (-20) = 78 := rfl
theorem jn_98_m20 : (0 ≤ ((98 : Nat) : Int) + (-20)) = True := eq_true (by decide)
theorem tg_98_24 : tgt 98 (24) = 122 := rfl
theorem jn_98_24 : (0 ≤ ((98 : Nat) : Int) + (24)) = True := eq_true (by decide)
theorem tg_98_25 : tgt 98 (25) = 123 := rfl
theorem jn_98_25 : (0 ≤ ((98 : Nat) : Int) + (25)) = True := eq_true (by decide)
theorem tg_98_41 : tgt 98 (41) = 139 := rfl
theorem jn_98_41 : (0 ≤ ((98 : Nat) : Int) + (41)) = True := eq_true (by decide)
theorem tg_99_m61 : tgt 99 (-61) = 38 := rfl
theorem jn_99_m61 : (0 ≤ ((99 : Nat) : Int) + (-61)) = True := eq_true (by decide)
theorem tg_99_m41 : tgt 99 (-41) = 58 := rfl
theorem jn_99_m41 : (0 ≤ ((99 : Nat) : Int) + (-41)) = True := eq_true (by decide)
theorem tg_99_6 : tgt 99 (6) = 105 := rfl
theorem jn_99_6 : (0 ≤ ((99 : Nat) : Int) + (6)) = True := eq_true (by decide)
theorem tg_100_m78 : tgt 100 (-78) = 22 := rfl
theorem jn_100_m78 : (0 ≤ ((100 : Nat) : Int) + (-78)) = True := eq_true (by decide)
theorem tg_100_36 : tgt 100 (36) = 136 := rfl
theorem jn_100_36 : (0 ≤ ((100 : Nat) : Int) + (36)) = True := eq_true (by decide)
theorem tg_100_58 : tgt 100 (58) = 158 := rfl
theorem jn_100_58 : (0 ≤ ((100 : Nat) : Int) + (58)) = True := eq_true (by decide)
theorem tg_101_m74 : tgt 101 (-74) = 27 := rfl
theorem jn_101_m74 : (0 ≤ ((101 : Nat) : Int) + (-74)) = True := eq_true (by decide)
theorem tg_101_m36 : tgt 101 (-36) = 65 := rfl
theorem jn_101_m36 : (0 ≤ ((101 : Nat) : Int) + (-36)) = True := eq_true (by decide)
theorem tg_101_9 : tgt 101 (9) = 110 := rfl
theorem jn_101_9 : (0 ≤ ((101 : Nat) : Int) + (9)) = True := eq_true (by decide)
theorem tg_101_12 : tgt 101 (12) = 113 := rfl
theorem jn_101_12 : (0 ≤ ((101 : Nat) : Int) + (12)) = True := eq_true (by decide)
theorem tg_101_24 : tgt 101 (24) = 125 := rfl
theorem jn_101_24 : (0 ≤ ((101 : Nat) : Int) + (24)) = True := eq_true (by decide)
theorem tg_101_73 : tgt 101 (73) = 174 := rfl
theorem jn_101_73 : (0 ≤ ((101 : Nat) : Int) + (73)) = True := eq_true (by decide)
theorem tg_102_11 : tgt 102 (11) = 113 := rfl
theorem jn_102_11 : (0 ≤ ((102 : Nat) : Int) + (11)) = True := eq_true (by decide)
theorem tg_102_29 : tgt 102 (29) = 131 := rfl
theorem jn_102_29 : (0 ≤ ((102 : Nat) : Int) + (29)) = True := eq_true (by decide)
theorem tg_103_m64 : tgt 103 (-64) = 39 := rfl
theorem jn_103_m64 : (0 ≤ ((103 : Nat) : Int) + (-64)) = True := eq_true (by decide)
theorem tg_103_m34 : tgt 103 (-34) = 69 := rfl
theorem jn_103_m34 : (0 ≤ ((103 : Nat) : Int) + (-34)) = True := eq_true (by decide)
theorem tg_104_m62 : tgt 104 (-62) = 42 := rfl
theorem jn_104_m62 : (0 ≤ ((104 : Nat) : Int) + (-62)) = True := eq_true (by decide)
theorem tg_104_10 : tgt 104 (10) = 114 := rfl
theorem jn_104_10 : (0 ≤ ((104 : Nat) : Int) + (10)) = True := eq_true (by decide)
theorem tg_104_20 : tgt 104 (20) = 124 := rfl
theorem jn_104_20 : (0 ≤ ((104 : Nat) : Int) + (20)) = True := eq_true (by decide)
theorem tg_104_29 : tgt 104 (29) = 133 := rfl
theorem jn_104_29 : (0 ≤ ((104 : Nat) : Int) + (29)) = True := eq_true (by decide)
theorem tg_104_53 : tgt 104 (53) = 157 := rfl
theorem jn_104_53 : (0 ≤ ((104 : Nat) : Int) + (53)) = True := eq_true (by decide)
theorem tg_104_86 : tgt 104 (86) = 190 := rfl
theorem jn_104_86 : (0 ≤ ((104 : Nat) : Int) + (86)) = True := eq_true (by decide)
theorem tg_105_20 : tgt 105 (20) = 125 := rfl
theorem jn_105_20 : (0 ≤ ((105 : Nat) : Int) + (20)) = True := eq_true (by decide)
theorem tg_107_m94 : tgt 107 (-94) = 13 := rfl
theorem jn_107_m94 : (0 ≤ ((107 : Nat) : Int) + (-94)) = True := eq_true (by decide)
theorem tg_107_6 : tgt 107 (6) = 113 := rfl
theorem jn_107_6 : (0 ≤ ((107 : Nat) : Int) + (6)) = True := eq_true (by decide)
theorem tg_107_9 : tgt 107 (9) = 116 := rfl
theorem jn_107_9 : (0 ≤ ((107 : Nat) : Int) + (9)) = True := eq_true (by decide)
theorem tg_107_15 : tgt 107 (15) = 122 := rfl
theorem jn_107_15 : (0 ≤ ((107 : Nat) : Int) + (15)) = True := eq_true (by decide)
theorem tg_108_m56 : tgt 108 (-56) = 52 := rfl
theorem jn_108_m56 : (0 ≤ ((108 : Nat) : Int) + (-56)) = True := eq_true (by decide)
theorem tg_109_m62 : tgt 109 (-62) = 47 := rfl
theorem jn_109_m62 : (0 ≤ ((109 : Nat) : Int) + (-62)) = True := eq_true (by decide)
theorem tg_109_m39 : tgt 109 (-39) = 70 := rfl
theorem jn_109_m39 : (0 ≤ ((109 : Nat) : Int) + (-39)) = True := eq_true (by decide)
theorem tg_109_26 : tgt 109 (26) = 135 := rfl
theorem jn_109_26 : (0 ≤ ((109 : Nat) : Int) + (26)) = True := eq_true (by decide)
theorem tg_110_m65 : tgt 110 (-65) = 45 := rfl
theorem jn_110_m65 : (0 ≤ ((110 : Nat) : Int) + (-65)) = True := eq_true (by decide)
theorem tg_110_9 : tgt 110 (9) = 119 := rfl
theorem jn_110_9 : (0 ≤ ((110 : Nat) : Int) + (9)) = True := eq_true (by decide)
theorem tg_111_m70 : tgt 111 (-70) = 41 := rfl
theorem jn_111_m70 : (0 ≤ ((111 : Nat) : Int) + (-70)) = True := eq_true (by decide)
theorem tg_113_61 : tgt 113 (61) = 174 := rfl
theorem jn_113_61 : (0 ≤ ((113 : Nat) : Int) + (61)) = True := eq_true (by decide)
theorem tg_114_m74 : tgt 114 (-74) = 40 := rfl
theorem jn_114_m74 : (0 ≤ ((114 : Nat) : Int) + (-74)) = True := eq_true (by decide)
theorem tg_114_5 : tgt 114 (5) = 119 := rfl
theorem jn_114_5 : (0 ≤ ((114 : Nat) : Int) + (5)) = True := eq_true (by decide)
theorem tg_114_8 : tgt 114 (8) = 122 := rfl
theorem jn_114_8 : (0 ≤ ((114 : Nat) : Int) + (8)) = True := eq_true (by decide)
theorem tg_114_22 : tgt 114 (22) = 136 := rfl
theorem jn_114_22 : (0 ≤ ((114 : Nat) : Int) + (22)) = True := eq_true (by decide)
theorem tg_115_7 : tgt 115 (7) = 122 := rfl
theorem jn_115_7 : (0 ≤ ((115 : Nat) : Int) + (7)) = True := eq_true (by decide)
theorem tg_116_m108 : tgt 116 (-108) = 8 := rfl
theorem jn_116_m108 : (0 ≤ ((116 : Nat) : Int) + (-108)) = True := eq_true (by decide)
theorem tg_116_6 : tgt 116 (6) = 122 := rfl
theorem jn_116_6 : (0 ≤ ((116 : Nat) : Int) + (6)) = True := eq_true (by decide)
theorem tg_116_20 : tgt 116 (20) = 136 := rfl
theorem jn_116_20 : (0 ≤ ((116 : Nat) : Int) + (20)) = True := eq_true (by decide)
theorem tg_116_68 : tgt 116 (68) = 184 := rfl
theorem jn_116_68 : (0 ≤ ((116 : Nat) : Int) + (68)) = True := eq_true (by decide)
theorem tg_117_m62 : tgt 117 (-62) = 55 := rfl
theorem jn_117_m62 : (0 ≤ ((117 : Nat) : Int) + (-62)) = True := eq_true (by decide)
theorem tg_117_7 : tgt 117 (7) = 124 := rfl
theorem jn_117_7 : (0 ≤ ((117 : Nat) : Int) + (7)) = True := eq_true (by decide)
theorem tg_118_15 : tgt 118 (15) = 133 := rfl
theorem jn_118_15 : (0 ≤ ((118 : Nat) : Int) + (15)) = True := eq_true (by decide)
theorem tg_119_m26 : tgt 119 (-26) = 93 := rfl
theorem jn_119_m26 : (0 ≤ ((119 : Nat) : Int) + (-26)) = True := eq_true (by decide)
theorem tg_119_4 : tgt 119 (4) = 123 := rfl
theorem jn_119_4 : (0 ≤ ((119 : Nat) : Int) + (4)) = True := eq_true (by decide)
theorem tg_119_6 : tgt 119 (6) = 125 := rfl
theorem jn_119_6 : (0 ≤ ((119 : Nat) : Int) + (6)) = True := eq_true (by decide)
theorem tg_119_32 : tgt 119 (32) = 151 := rfl
theorem jn_119_32 : (0 ≤ ((119 : Nat) : Int) + (32)) = True := eq_true (by decide)
theorem tg_119_39 : tgt 119 (39) = 158 := rfl
theorem jn_119_39 : (0 ≤ ((119 : Nat) : Int) + (39)) = True := eq_true (by decide)
theorem tg_120_m117 : tgt 120 (-117) = 3 := rfl
theorem jn_120_m117 : (0 ≤ ((120 : Nat) : Int) + (-117)) = True := eq_true (by decide)
theorem tg_120_m26 : tgt 120 (-26) = 94 := rfl
theorem jn_120_m26 : (0 ≤ ((120 : Nat) : Int) + (-26)) = True := eq_true (by decide)
theorem tg_121_4 : tgt 121 (4) = 125 := rfl
theorem jn_121_4 : (0 ≤ ((121 : Nat) : Int) + (4)) = True := eq_true (by decide)
theorem tg_122_m26 : tgt 122 (-26) = 96 := rfl
theorem jn_122_m26 : (0 ≤ ((122 : Nat) : Int) + (-26)) = True := eq_true (by decide)
theorem tg_122_m22 : tgt 122 (-22) = 100 := rfl
theorem jn_122_m22 : (0 ≤ ((122 : Nat) : Int) + (-22)) = True := eq_true (by decide)
theorem tg_122_18 : tgt 122 (18) = 140 := rfl
theorem jn_122_18 : (0 ≤ ((122 : Nat) : Int) + (18)) = True := eq_true (by decide)
theorem tg_122_37 : tgt 122 (37) = 159 := rfl
theorem jn_122_37 : (0 ≤ ((122 : Nat) : Int) + (37)) = True := eq_true (by decide)
theorem tg_123_m118 : tgt 123 (-118) = 5 := rfl
theorem jn_123_m118 : (0 ≤ ((123 : Nat) : Int) + (-118)) = True := eq_true (by decide)
theorem tg_125_m38 : tgt 125 (-38) = 87 := rfl
theorem jn_125_m38 : (0 ≤ ((125 : Nat) : Int) + (-38)) = True := eq_true (by decide)
theorem tg_125_9 : tgt 125 (9) = 134 := rfl
theorem jn_125_9 : (0 ≤ ((125 : Nat) : Int) + (9)) = True := eq_true (by decide)
theorem tg_126_m65 : tgt 126 (-65) = 61 := rfl
theorem jn_126_m65 : (0 ≤ ((126 : Nat) : Int) + (-65)) = True := eq_true (by decide)
theorem tg_127_m41 : tgt 127 (-41) = 86 := rfl
theorem jn_127_m41 : (0 ≤ ((127 : Nat) : Int) + (-41)) = True := eq_true (by decide)
theorem tg_127_6 : tgt 127 (6) = 133 := rfl
theorem jn_127_6 : (0 ≤ ((127 : Nat) : Int) + (6)) = True := eq_true (by decide)
theorem tg_127_7 : tgt 127 (7) = 134 := rfl
theorem jn_127_7 : (0 ≤ ((127 : Nat) : Int) + (7)) = True := eq_true (by decide)
theorem tg_127_22 : tgt 127 (22) = 149 := rfl
theorem jn_127_22 : (0 ≤ ((127 : Nat) : Int) + (22)) = True := eq_true (by decide)
theorem tg_128_m105 : tgt 128 (-105) = 23 := rfl
theorem jn_128_m105 : (0 ≤ ((128 : Nat) : Int) + (-105)) = True := eq_true (by decide)
theorem tg_128_m84 : tgt 128 (-84) = 44 := rfl
theorem jn_128_m84 : (0 ≤ ((128 : Nat) : Int) + (-84)) = True := eq_true (by decide)
theorem tg_128_50 : tgt 128 (50) = 178 := rfl
theorem jn_128_50 : (0 ≤ ((128 : Nat) : Int) + (50)) = True := eq_true (by decide)
theorem tg_129_16 : tgt 129 (16) = 145 := rfl
theorem jn_129_16 : (0 ≤ ((129 : Nat) : Int) + (16)) = True := eq_true (by decide)
theorem tg_131_5 : tgt 131 (5) = 136 := rfl
theorem jn_131_5 : (0 ≤ ((131 : Nat) : Int) + (5)) = True := eq_true (by decide)
theorem tg_131_15 : tgt 131 (15) = 146 := rfl
theorem jn_131_15 : (0 ≤ ((131 : Nat) : Int) + (15)) = True := eq_true (by decide)
theorem tg_132_m119 : tgt 132 (-119) = 13 := rfl
theorem jn_132_m119 : (0 ≤ ((132 : Nat) : Int) + (-119)) = True := eq_true (by decide)
theorem tg_132_11 : tgt 132 (11) = 143 := rfl
theorem jn_132_11 : (0 ≤ ((132 : Nat) : Int) + (11)) = True := eq_true (by decide)
theorem tg_133_16 : tgt 133 (16) = 149 := rfl
theorem jn_133_16 : (0 ≤ ((133 : Nat) : Int) + (16)) = True := eq_true (by decide)
theorem tg_134_m97 : tgt 134 (-97) = 37 := rfl
theorem jn_134_m97 : (0 ≤ ((134 : Nat) : Int) + (-97)) = True := eq_true (by decide)
theorem tg_134_10 : tgt 134 (10) = 144 := rfl
theorem jn_134_10 : (0 ≤ ((134 : Nat) : Int) + (10)) = True := eq_true (by decide)
theorem tg_135_m84 : tgt 135 (-84) = 51 := rfl
theorem jn_135_m84 : (0 ≤ ((135 : Nat) : Int) + (-84)) = True := eq_true (by decide)
theorem tg_136_m89 : tgt 136 (-89) = 47 := rfl
theorem jn_136_m89 : (0 ≤ ((136 : Nat) : Int) + (-89)) = True := eq_true (by decide)
theorem tg_136_m43 : tgt 136 (-43) = 93 := rfl
theorem jn_136_m43 : (0 ≤ ((136 : Nat) : Int) + (-43)) = True := eq_true (by decide)
theorem tg_137_m20 : tgt 137 (-20) = 117 := rfl
theorem jn_137_m20 : (0 ≤ ((137 : Nat) : Int) + (-20)) = True := eq_true (by decide)
theorem tg_137_7 : tgt 137 (7) = 144 := rfl
theorem jn_137_7 : (0 ≤ ((137 : Nat) : Int) + (7)) = True := eq_true (by decide)
theorem tg_138_36 : tgt 138 (36) = 174 := rfl
theorem jn_138_36 : (0 ≤ ((138 : Nat) : Int) + (36)) = True := eq_true (by decide)
theorem tg_139_m92 : tgt 139 (-92) = 47 := rfl
theorem jn_139_m92 : (0 ≤ ((139 : Nat) : Int) + (-92)) = True := eq_true (by decide)
theorem tg_140_5 : tgt 140 (5) = 145 := rfl
theorem jn_140_5 : (0 ≤ ((140 : Nat) : Int) + (5)) = True := eq_true (by decide)
theorem tg_141_4 : tgt 141 (4) = 145 := rfl
theorem jn_141_4 : (0 ≤ ((141 : Nat) : Int) + (4)) = True := eq_true (by decide)
theorem tg_141_17 : tgt 141 (17) = 158 := rfl
theorem jn_141_17 : (0 ≤ ((141 : Nat) : Int) + (17)) = True := eq_true (by decide)
theorem tg_141_59 : tgt 141 (59) = 200 := rfl
theorem jn_141_59 : (0 ≤ ((141 : Nat) : Int) + (59)) = True := eq_true (by decide)
theorem tg_142_7 : tgt 142 (7) = 149 := rfl
theorem jn_142_7 : (0 ≤ ((142 : Nat) : Int) + (7)) = True := eq_true (by decide)
theorem tg_143_29 : tgt 143 (29) = 172 := rfl
theorem jn_143_29 : (0 ≤ ((143 : Nat) : Int) + (29)) = True := eq_true (by decide)
theorem tg_144_7 : tgt 144 (7) = 151 := rfl
theorem jn_144_7 : (0 ≤ ((144 : Nat) : Int) + (7)) = True := eq_true (by decide)
theorem tg_146_m108 : tgt 146 (-108) = 38 := rfl
theorem jn_146_m108 : (0 ≤ ((146 : Nat) : Int) + (-108)) = True := eq_true (by decide)
theorem tg_146_m21 : tgt 146 (-21) = 125 := rfl
theorem jn_146_m21 : (0 ≤ ((146 : Nat) : Int) + (-21)) = True := eq_true (by decide)
theorem tg_147_7 : tgt 147 (7) = 154 := rfl
theorem jn_147_7 : (0 ≤ ((147 : Nat) : Int) + (7)) = True := eq_true (by decide)
theorem tg_148_m35 : tgt 148 (-35) = 113 := rfl
theorem jn_148_m35 : (0 ≤ ((148 : Nat) : Int) + (-35)) = True := eq_true (by decide)
theorem tg_151_4 : tgt 151 (4) = 155 := rfl
theorem jn_151_4 : (0 ≤ ((151 : Nat) : Int) + (4)) = True := eq_true (by decide)
theorem tg_154_m54 : tgt 154 (-54) = 100 := rfl
theorem jn_154_m54 : (0 ≤ ((154 : Nat) : Int) + (-54)) = True := eq_true (by decide)
theorem tg_154_46 : tgt 154 (46) = 200 := rfl
theorem jn_154_46 : (0 ≤ ((154 : Nat) : Int) + (46)) = True := eq_true (by decide)
theorem tg_160_12 : tgt 160 (12) = 172 := rfl
theorem jn_160_12 : (0 ≤ ((160 : Nat) : Int) + (12)) = True := eq_true (by decide)
theorem tg_161_m89 : tgt 161 (-89) = 72 := rfl
theorem jn_161_m89 : (0 ≤ ((161 : Nat) : Int) + (-89)) = True := eq_true (by decide)
theorem tg_163_m137 : tgt 163 (-137) = 26 := rfl
theorem jn_163_m137 : (0 ≤ ((163 : Nat) : Int) + (-137)) = True := eq_true (by decide)
theorem tg_172_28 : tgt 172 (28) = 200 := rfl
theorem jn_172_28 : (0 ≤ ((172 : Nat) : Int) + (28)) = True := eq_true (by decide)
theorem tg_174_m147 : tgt 174 (-147) = 27 := rfl
theorem jn_174_m147 : (0 ≤ ((174 : Nat) : Int) + (-147)) = True := eq_true (by decide)
theorem tg_175_m54 : tgt 175 (-54) = 121 := rfl
theorem jn_175_m54 : (0 ≤ ((175 : Nat) : Int) + (-54)) = True := eq_true (by decide)
theorem tg_175_57 : tgt 175 (57) = 232 := rfl
theorem jn_175_57 : (0 ≤ ((175 : Nat) : Int) + (57)) = True := eq_true (by decide)
theorem tg_181_m72 : tgt 181 (-72) = 109 := rfl
theorem jn_181_m72 : (0 ≤ ((181 : Nat) : Int) + (-72)) = True := eq_true (by decide)
theorem tg_181_76 : tgt 181 (76) = 257 := rfl
theorem jn_181_76 : (0 ≤ ((181 : Nat) : Int) + (76)) = True := eq_true (by decide)
theorem tg_187_m90 : tgt 187 (-90) = 97 := rfl
theorem jn_187_m90 : (0 ≤ ((187 : Nat) : Int) + (-90)) = True := eq_true (by decide)
theorem tg_189_30 : tgt 189 (30) = 219 := rfl
theorem jn_189_30 : (0 ≤ ((189 : Nat) : Int) + (30)) = True := eq_true (by decide)
theorem tg_193_m154 : tgt 193 (-154) = 39 := rfl
theorem jn_193_m154 : (0 ≤ ((193 : Nat) : Int) + (-154)) = True := eq_true (by decide)
theorem tg_193_64 : tgt 193 (64) = 257 := rfl
theorem jn_193_64 : (0 ≤ ((193 : Nat) : Int) + (64)) = True := eq_true (by decide)
theorem tg_203_m149 : tgt 203 (-149) = 54 := rfl
theorem jn_203_m149 : (0 ≤ ((203 : Nat) : Int) + (-149)) = True := eq_true (by decide)
theorem tg_209_m163 : tgt 209 (-163) = 46 := rfl
theorem jn_209_m163 : (0 ≤ ((209 : Nat) : Int) + (-163)) = True := eq_true (by decide)
theorem tg_218_39 : tgt 218 (39) = 257 := rfl
theorem jn_218_39 : (0 ≤ ((218 : Nat) : Int) + (39)) = True := eq_true (by decide)
theorem tg_229_m65 : tgt 229 (-65) = 164 := rfl
theorem jn_229_m65 : (0 ≤ ((229 : Nat) : Int) + (-65)) = True := eq_true (by decide)
theorem tg_244_7 : tgt 244 (7) = 251 := rfl
theorem jn_244_7 : (0 ≤ ((244 : Nat) : Int) + (7)) = True := eq_true (by decide)
theorem tg_248_4 : tgt 248 (4) = 252 := rfl
theorem jn_248_4 : (0 ≤ ((248 : Nat) : Int) + (4)) = True := eq_true (by decide)
theorem tg_260_m197 : tgt 260 (-197) = 63 := rfl
theorem jn_260_m197 : (0 ≤ ((260 : Nat) : Int) + (-197)) = True := eq_true (by decide)
theorem tg_260_997 : tgt 260 (997) = 1257 := rfl
theorem jn_260_997 : (0 ≤ ((260 : Nat) : Int) + (997)) = True := eq_true (by decide)
theorem tg_266_m218 : tgt 266 (-218) = 48 := rfl
theorem jn_266_m218 : (0 ≤ ((266 : Nat) : Int) + (-218)) = True := eq_true (by decide)
theorem tg_285_972 : tgt 285 (972) = 1257 := rfl
theorem jn_285_972 : (0 ≤ ((285 : Nat) : Int) + (972)) = True := eq_true (by decide)
theorem tg_298_959 : tgt 298 (959) = 1257 := rfl
theorem jn_298_959 : (0 ≤ ((298 : Nat) : Int) + (959)) = True := eq_true (by decide)
theorem tg_311_946 : tgt 311 (946) = 1257 := rfl
theorem jn_311_946 : (0 ≤ ((311 : Nat) : Int) + (946)) = True := eq_true (by decide)
theorem tg_336_921 : tgt 336 (921) = 1257 := rfl
theorem jn_336_921 : (0 ≤ ((336 : Nat) : Int) + (921)) = True := eq_true (by decide)
theorem tg_384_5 : tgt 384 (5) = 389 := rfl
theorem jn_384_5 : (0 ≤ ((384 : Nat) : Int) + (5)) = True := eq_true (by decide)
theorem tg_391_15 : tgt 391 (15) = 406 := rfl
theorem jn_391_15 : (0 ≤ ((391 : Nat) : Int) + (15)) = True := eq_true (by decide)
theorem tg_401_5 : tgt 401 (5) = 406 := rfl
theorem jn_401_5 : (0 ≤ ((401 : Nat) : Int) + (5)) = True := eq_true (by decide)
theorem tg_406_851 : tgt 406 (851) = 1257 := rfl
theorem jn_406_851 : (0 ≤ ((406 : Nat) : Int) + (851)) = True := eq_true (by decide)
theorem tg_452_5 : tgt 452 (5) = 457 := rfl
theorem jn_452_5 : (0 ≤ ((452 : Nat) : Int) + (5)) = True := eq_true (by decide)
theorem tg_459_15 : tgt 459 (15) = 474 := rfl
theorem jn_459_15 : (0 ≤ ((459 : Nat) : Int) + (15)) = True := eq_true (by decide)
theorem tg_469_5 : tgt 469 (5) = 474 := rfl
theorem jn_469_5 : (0 ≤ ((469 : Nat) : Int) + (5)) = True := eq_true (by decide)
theorem tg_474_783 : tgt 474 (783) = 1257 := rfl
theorem jn_474_783 : (0 ≤ ((474 : Nat) : Int) + (783)) = True := eq_true (by decide)
theorem tg_485_772 : tgt 485 (772) = 1257 := rfl
theorem jn_485_772 : (0 ≤ ((485 : Nat) : Int) + (772)) = True := eq_true (by decide)
theorem tg_510_747 : tgt 510 (747) = 1257 := rfl
theorem jn_510_747 : (0 ≤ ((510 : Nat) : Int) + (747)) = True := eq_true (by decide)
theorem tg_536_721 : tgt 536 (721) = 1257 := rfl
theorem jn_536_721 : (0 ≤ ((536 : Nat) : Int) + (721)) = True := eq_true (by decide)
theorem tg_584_5 : tgt 584 (5) = 589 := rfl
theorem jn_584_5 : (0 ≤ ((584 : Nat) : Int) + (5)) = True := eq_true (by decide)
theorem tg_591_15 : tgt 591 (15) = 606 := rfl
theorem jn_591_15 : (0 ≤ ((591 : Nat) : Int) + (15)) = True := eq_true (by decide)
theorem tg_601_5 : tgt 601 (5) = 606 := rfl
theorem jn_601_5 : (0 ≤ ((601 : Nat) : Int) + (5)) = True := eq_true (by decide)
theorem tg_606_651 : tgt 606 (651) = 1257 := rfl
theorem jn_606_651 : (0 ≤ ((606 : Nat) : Int) + (651)) = True := eq_true (by decide)
theorem tg_618_639 : tgt 618 (639) = 1257 := rfl
theorem jn_618_639 : (0 ≤ ((618 : Nat) : Int) + (639)) = True := eq_true (by decide)
theorem tg_686_5 : tgt 686 (5) = 691 := rfl
theorem jn_686_5 : (0 ≤ ((686 : Nat) : Int) + (5)) = True := eq_true (by decide)
theorem tg_693_15 : tgt 693 (15) = 708 := rfl
theorem jn_693_15 : (0 ≤ ((693 : Nat) : Int) + (15)) = True := eq_true (by decide)
theorem tg_703_5 : tgt 703 (5) = 708 := rfl
theorem jn_703_5 : (0 ≤ ((703 : Nat) : Int) + (5)) = True := eq_true (by decide)
theorem tg_708_549 : tgt 708 (549) = 1257 := rfl
theorem jn_708_549 : (0 ≤ ((708 : Nat) : Int) + (549)) = True := eq_true (by decide)
theorem tg_731_526 : tgt 731 (526) = 1257 := rfl
theorem jn_731_526 : (0 ≤ ((731 : Nat) : Int) + (526)) = True := eq_true (by decide)
theorem tg_744_513 : tgt 744 (513) = 1257 := rfl
theorem jn_744_513 : (0 ≤ ((744 : Nat) : Int) + (513)) = True := eq_true (by decide)
theorem tg_758_499 : tgt 758 (499) = 1257 := rfl
theorem jn_758_499 : (0 ≤ ((758 : Nat) : Int) + (499)) = True := eq_true (by decide)
theorem tg_784_473 : tgt 784 (473) = 1257 := rfl
theorem jn_784_473 : (0 ≤ ((784 : Nat) : Int) + (473)) = True := eq_true (by decide)
theorem tg_810_447 : tgt 810 (447) = 1257 := rfl
theorem jn_810_447 : (0 ≤ ((810 : Nat) : Int) + (447)) = True := eq_true (by decide)
theorem tg_836_421 : tgt 836 (421) = 1257 := rfl
theorem jn_836_421 : (0 ≤ ((836 : Nat) : Int) + (421)) = True := eq_true (by decide)
theorem tg_850_407 : tgt 850 (407) = 1257 := rfl
theorem jn_850_407 : (0 ≤ ((850 : Nat) : Int) + (407)) = True := eq_true (by decide)
theorem tg_864_393 : tgt 864 (393) = 1257 := rfl
theorem jn_864_393 : (0 ≤ ((864 : Nat) : Int) + (393)) = True := eq_true (by decide)
theorem tg_932_5 : tgt 932 (5) = 937 := rfl
theorem jn_932_5 : (0 ≤ ((932 : Nat) : Int) + (5)) = True := eq_true (by decide)
theorem tg_939_15 : tgt 939 (15) = 954 := rfl
theorem jn_939_15 : (0 ≤ ((939 : Nat) : Int) + (15)) = True := eq_true (by decide)
theorem tg_949_5 : tgt 949 (5) = 954 := rfl
theorem jn_949_5 : (0 ≤ ((949 : Nat) : Int) + (5)) = True := eq_true (by decide)
theorem tg_954_303 : tgt 954 (303) = 1257 := rfl
theorem jn_954_303 : (0 ≤ ((954 : Nat) : Int) + (303)) = True := eq_true (by decide)
theorem tg_977_280 : tgt 977 (280) = 1257 := rfl
theorem jn_977_280 : (0 ≤ ((977 : Nat) : Int) + (280)) = True := eq_true (by decide)
theorem tg_1014_243 : tgt 1014 (243) = 1257 := rfl
theorem jn_1014_243 : (0 ≤ ((1014 : Nat) : Int) + (243)) = True := eq_true (by decide)
theorem tg_1027_230 : tgt 1027 (230) = 1257 := rfl
theorem jn_1027_230 : (0 ≤ ((1027 : Nat) : Int) + (230)) = True := eq_true (by decide)
theorem tg_1040_217 : tgt 1040 (217) = 1257 := rfl
theorem jn_1040_217 : (0 ≤ ((1040 : Nat) : Int) + (217)) = True := eq_true (by decide)
theorem tg_1065_192 : tgt 1065 (192) = 1257 := rfl
theorem jn_1065_192 : (0 ≤ ((1065 : Nat) : Int) + (192)) = True := eq_true (by decide)
theorem tg_1102_155 : tgt 1102 (155) = 1257 := rfl
theorem jn_1102_155 : (0 ≤ ((1102 : Nat) : Int) + (155)) = True := eq_true (by decide)
theorem tg_1127_130 : tgt 1127 (130) = 1257 := rfl
theorem jn_1127_130 : (0 ≤ ((1127 : Nat) : Int) + (130)) = True := eq_true (by decide)
theorem tg_1152_105 : tgt 1152 (105) = 1257 := rfl
theorem jn_1152_105 : (0 ≤ ((1152 : Nat) : Int) + (105)) = True := eq_true (by decide)
theorem tg_1189_68 : tgt 1189 (68) = 1257 := rfl
theorem jn_1189_68 : (0 ≤ ((1189 : Nat) : Int) + (68)) = True := eq_true (by decide)
theorem tg_1202_55 : tgt 1202 (55) = 1257 := rfl
theorem jn_1202_55 : (0 ≤ ((1202 : Nat) : Int) + (55)) = True := eq_true (by decide)
theorem tg_1227_30 : tgt 1227 (30) = 1257 := rfl
theorem jn_1227_30 : (0 ≤ ((1227 : Nat) : Int) + (30)) = True := eq_true (by decide)
theorem tg_1252_5 : tgt 1252 (5) = 1257 := rfl
theorem jn_1252_5 : (0 ≤ ((1252 : Nat) : Int) + (5)) = True := eq_true (by decide)
theorem tg_1260_m1237 : tgt 1260 (-1237) = 23 := rfl
theorem jn_1260_m1237 : (0 ≤ ((1260 : Nat) : Int) + (-1237)) = True := eq_true (by decide)
theorem va_up_at {α : Type} (f : Nat → α) (k : Nat) (v : α) (j : Nat) : va_up f k v j = if j = k then v else f j := rfl
theorem upd_at (f : Nat → Int32) (k : Nat) (v : Int32) (j : Nat) : upd f k v j = if j = k then v else f j := rfl
theorem vpL_at (f : Nat → Int64) (k : Nat) (v : Int64) (j : Nat) : vp_updL f k v j = if j = k then v else f j := rfl
theorem f4_0 : (((0 : Fin 4)) : Nat) = 0 := rfl
theorem f4_1 : (((1 : Fin 4)) : Nat) = 1 := rfl
theorem f4_2 : (((2 : Fin 4)) : Nat) = 2 := rfl
theorem f4_3 : (((3 : Fin 4)) : Nat) = 3 := rfl
theorem f2_0 : (((0 : Fin 2)) : Nat) = 0 := rfl
theorem f2_1 : (((1 : Fin 2)) : Nat) = 1 := rfl
theorem mlN_4_25 : ml 4 25 = none := rfl
theorem mlN_10_252 : ml 10 252 = none := rfl
theorem mlN_3_29 : ml 3 29 = none := rfl
