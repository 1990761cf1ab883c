section SO
variable {M : MI} {d : Nat} {K : KT} {Q : QT} {pc : Nat} {ls : LV} {st : List Value} {h : Hp}

theorem so_b2 (hK : ∀ pc ls st h, K pc ls st h → At M (d + 1) pc ls st h Q) {f : Int32 → Int32 → Int32} (row : ∀ {p : Program} {l : Launch} {e : Env} {s : State} {m : MethodId} {args : Array Value} {below : List Frame} {meth : Method} {c : Code} {H : Heap} {locs : List Loc} {Z : State → Prop} {sl : Array Slot} {rest : List Value} {x y : Int32}, p.tables.exec = Jvm.exec → c.code = mCode M → W p l e (rmd (d + 1)) s m args below meth c H locs 0 0 Z (F0 m (pc + 1) sl (.int (f x y) :: rest)) → W p l e (rmd (d + 1)) s m args below meth c H locs 0 0 Z (F0 m pc sl (.int y :: .int x :: rest))) (hE : ab_b2 f K pc ls st h) : At M (d + 1) pc ls st h Q := by
  intro p l e s m args below meth c G A H locs sl hC hKW hW hS hA hL
  unfold ab_b2 at hE
  split at hE
  · exact row hC.1 hC.2.1 (hK _ _ _ _ hE p l e s m args below meth c G A H locs sl hC hKW hW hS hA hL)
  · exact hE.elim
theorem so_q2 (hK : ∀ pc ls st h, K pc ls st h → At M (d + 1) pc ls st h Q) {f : Int32 → Int32 → Int32} (row : ∀ {p : Program} {l : Launch} {e : Env} {s : State} {m : MethodId} {args : Array Value} {below : List Frame} {meth : Method} {c : Code} {H : Heap} {locs : List Loc} {Z : State → Prop} {sl : Array Slot} {rest : List Value} {x y : Int32}, p.tables.exec = Jvm.exec → c.code = mCode M → ¬ y = 0 → W p l e (rmd (d + 1)) s m args below meth c H locs 0 0 Z (F0 m (pc + 1) sl (.int (f x y) :: rest)) → W p l e (rmd (d + 1)) s m args below meth c H locs 0 0 Z (F0 m pc sl (.int y :: .int x :: rest))) (hE : ab_q2 f K pc ls st h) : At M (d + 1) pc ls st h Q := by
  intro p l e s m args below meth c G A H locs sl hC hKW hW hS hA hL
  unfold ab_q2 at hE
  split at hE
  · exact row hC.1 hC.2.1 hE.1 (hK _ _ _ _ hE.2 p l e s m args below meth c G A H locs sl hC hKW hW hS hA hL)
  · exact hE.elim
theorem so_l2 (hK : ∀ pc ls st h, K pc ls st h → At M (d + 1) pc ls st h Q) {f : Int64 → Int64 → Int64} (row : ∀ {p : Program} {l : Launch} {e : Env} {s : State} {m : MethodId} {args : Array Value} {below : List Frame} {meth : Method} {c : Code} {H : Heap} {locs : List Loc} {Z : State → Prop} {sl : Array Slot} {rest : List Value} {x y : Int64}, p.tables.exec = Jvm.exec → c.code = mCode M → W p l e (rmd (d + 1)) s m args below meth c H locs 0 0 Z (F0 m (pc + 1) sl (.long (f x y) :: rest)) → W p l e (rmd (d + 1)) s m args below meth c H locs 0 0 Z (F0 m pc sl (.long y :: .long x :: rest))) (hE : ab_l2 f K pc ls st h) : At M (d + 1) pc ls st h Q := by
  intro p l e s m args below meth c G A H locs sl hC hKW hW hS hA hL
  unfold ab_l2 at hE
  split at hE
  · exact row hC.1 hC.2.1 (hK _ _ _ _ hE p l e s m args below meth c G A H locs sl hC hKW hW hS hA hL)
  · exact hE.elim
theorem so_p2 (hK : ∀ pc ls st h, K pc ls st h → At M (d + 1) pc ls st h Q) {f : Int64 → Int64 → Int64} (row : ∀ {p : Program} {l : Launch} {e : Env} {s : State} {m : MethodId} {args : Array Value} {below : List Frame} {meth : Method} {c : Code} {H : Heap} {locs : List Loc} {Z : State → Prop} {sl : Array Slot} {rest : List Value} {x y : Int64}, p.tables.exec = Jvm.exec → c.code = mCode M → ¬ y = 0 → W p l e (rmd (d + 1)) s m args below meth c H locs 0 0 Z (F0 m (pc + 1) sl (.long (f x y) :: rest)) → W p l e (rmd (d + 1)) s m args below meth c H locs 0 0 Z (F0 m pc sl (.long y :: .long x :: rest))) (hE : ab_p2 f K pc ls st h) : At M (d + 1) pc ls st h Q := by
  intro p l e s m args below meth c G A H locs sl hC hKW hW hS hA hL
  unfold ab_p2 at hE
  split at hE
  · exact row hC.1 hC.2.1 hE.1 (hK _ _ _ _ hE.2 p l e s m args below meth c G A H locs sl hC hKW hW hS hA hL)
  · exact hE.elim
theorem so_neg (hK : ∀ pc ls st h, K pc ls st h → At M (d + 1) pc ls st h Q) (hd : decode (mCode M) pc = .ok (.ineg, 1)) (hE : ab_neg K pc ls st h) : At M (d + 1) pc ls st h Q := by
  intro p l e s m args below meth c G A H locs sl hC hKW hW hS hA hL
  unfold ab_neg at hE
  split at hE
  · exact lv_ineg hC.1 hC.2.1 hd (hK _ _ _ _ hE p l e s m args below meth c G A H locs sl hC hKW hW hS hA hL)
  · exact hE.elim
theorem so_i2l (hK : ∀ pc ls st h, K pc ls st h → At M (d + 1) pc ls st h Q) (hd : decode (mCode M) pc = .ok (.i2l, 1)) (hE : ab_i2l K pc ls st h) : At M (d + 1) pc ls st h Q := by
  intro p l e s m args below meth c G A H locs sl hC hKW hW hS hA hL
  unfold ab_i2l at hE
  split at hE
  · exact lv_i2l hC.1 hC.2.1 hd rfl (hK _ _ _ _ hE p l e s m args below meth c G A H locs sl hC hKW hW hS hA hL)
  · exact hE.elim
theorem so_lcmp (hK : ∀ pc ls st h, K pc ls st h → At M (d + 1) pc ls st h Q) (hd : decode (mCode M) pc = .ok (.lcmp, 1)) (hE : ab_lcmp K pc ls st h) : At M (d + 1) pc ls st h Q := by
  intro p l e s m args below meth c G A H locs sl hC hKW hW hS hA hL
  unfold ab_lcmp at hE
  split at hE
  · exact W.lcmp hC.1 hC.2.1 hd (hK _ _ _ _ hE p l e s m args below meth c G A H locs sl hC hKW hW hS hA hL)
  · exact hE.elim
theorem so_lshl (hK : ∀ pc ls st h, K pc ls st h → At M (d + 1) pc ls st h Q) (hd : decode (mCode M) pc = .ok (.lshl, 1)) (hE : ab_lshl K pc ls st h) : At M (d + 1) pc ls st h Q := by
  intro p l e s m args below meth c G A H locs sl hC hKW hW hS hA hL
  unfold ab_lshl at hE
  split at hE
  · exact lv_lshl hC.1 hC.2.1 hd rfl (hK _ _ _ _ hE p l e s m args below meth c G A H locs sl hC hKW hW hS hA hL)
  · exact hE.elim
theorem so_dup (hK : ∀ pc ls st h, K pc ls st h → At M (d + 1) pc ls st h Q) (hd : decode (mCode M) pc = .ok (.dup, 1)) (hE : ab_dup K pc ls st h) : At M (d + 1) pc ls st h Q := by
  intro p l e s m args below meth c G A H locs sl hC hKW hW hS hA hL
  unfold ab_dup at hE
  split at hE
  · exact lv_dup hC.1 hC.2.1 hd (by rw [cat2_cV, if_neg (by rw [hE.1]; simp)]) (hK _ _ _ _ hE.2 p l e s m args below meth c G A H locs sl hC hKW hW hS hA hL)
  · exact hE.elim
theorem so_pop (hK : ∀ pc ls st h, K pc ls st h → At M (d + 1) pc ls st h Q) (hd : decode (mCode M) pc = .ok (.pop, 1)) (hE : ab_pop K pc ls st h) : At M (d + 1) pc ls st h Q := by
  intro p l e s m args below meth c G A H locs sl hC hKW hW hS hA hL
  unfold ab_pop at hE
  split at hE
  · exact lv_pop hC.1 hC.2.1 hd (by rw [cat2_cV, if_neg (by rw [hE.1]; simp)]) (hK _ _ _ _ hE.2 p l e s m args below meth c G A H locs sl hC hKW hW hS hA hL)
  · exact hE.elim
theorem so_dup2 (hK : ∀ pc ls st h, K pc ls st h → At M (d + 1) pc ls st h Q) (hd : decode (mCode M) pc = .ok (.dup2, 1)) (hE : ab_dup2 K pc ls st h) : At M (d + 1) pc ls st h Q := by
  intro p l e s m args below meth c G A H locs sl hC hKW hW hS hA hL
  unfold ab_dup2 at hE
  split at hE
  · exact lv_dup2_11 hC.1 hC.2.1 hd (by rw [cat2_cV, if_neg (by rw [hE.1]; simp)]) (by rw [cat2_cV, if_neg (by rw [hE.2.1]; simp)]) (hK _ _ _ _ hE.2.2 p l e s m args below meth c G A H locs sl hC hKW hW hS hA hL)
  · exact hE.elim
theorem so_pop2 (hK : ∀ pc ls st h, K pc ls st h → At M (d + 1) pc ls st h Q) (hd : decode (mCode M) pc = .ok (.pop2, 1)) (hE : ab_pop2 K pc ls st h) : At M (d + 1) pc ls st h Q := by
  intro p l e s m args below meth c G A H locs sl hC hKW hW hS hA hL
  unfold ab_pop2 at hE
  split at hE
  · exact lv_pop2_2 hC.1 hC.2.1 hd rfl (hK _ _ _ _ hE p l e s m args below meth c G A H locs sl hC hKW hW hS hA hL)
  · exact hE.elim
theorem so_iload_n (hK : ∀ pc ls st h, K pc ls st h → At M (d + 1) pc ls st h Q) {k : Fin 4} (hd : decode (mCode M) pc = .ok (.iload_n k, 1)) (hE : ab_ld isI k 1 K pc ls st h) : At M (d + 1) pc ls st h Q := by
  intro p l e s m args below meth c G A H locs sl hC hKW hW hS hA hL
  unfold ab_ld at hE
  split at hE
  · next v hv =>
    obtain ⟨h1, h2⟩ := hE
    cases v <;> simp only [isI, Bool.false_eq_true] at h1
    exact lv_iload_n hC.1 hC.2.1 hd rfl (hL.2.2 _ _ hv) (hK _ _ _ _ h2 p l e s m args below meth c G A H locs sl hC hKW hW hS hA hL)
  · exact hE.elim
theorem so_lload_n (hK : ∀ pc ls st h, K pc ls st h → At M (d + 1) pc ls st h Q) {k : Fin 4} (hd : decode (mCode M) pc = .ok (.lload_n k, 1)) (hE : ab_ld isL k 1 K pc ls st h) : At M (d + 1) pc ls st h Q := by
  intro p l e s m args below meth c G A H locs sl hC hKW hW hS hA hL
  unfold ab_ld at hE
  split at hE
  · next v hv =>
    obtain ⟨h1, h2⟩ := hE
    cases v <;> simp only [isL, Bool.false_eq_true] at h1
    exact lv_lload_n hC.1 hC.2.1 hd rfl (hL.2.2 _ _ hv) (hK _ _ _ _ h2 p l e s m args below meth c G A H locs sl hC hKW hW hS hA hL)
  · exact hE.elim
theorem so_aload_n (hK : ∀ pc ls st h, K pc ls st h → At M (d + 1) pc ls st h Q) {k : Fin 4} (hd : decode (mCode M) pc = .ok (.aload_n k, 1)) (hE : ab_ld isR k 1 K pc ls st h) : At M (d + 1) pc ls st h Q := by
  intro p l e s m args below meth c G A H locs sl hC hKW hW hS hA hL
  unfold ab_ld at hE
  split at hE
  · next v hv =>
    obtain ⟨h1, h2⟩ := hE
    cases v <;> simp only [isR, Bool.false_eq_true] at h1
    exact lv_aload_n hC.1 hC.2.1 hd rfl (hL.2.2 _ _ hv) (hK _ _ _ _ h2 p l e s m args below meth c G A H locs sl hC hKW hW hS hA hL)
  · exact hE.elim
theorem so_iload (hK : ∀ pc ls st h, K pc ls st h → At M (d + 1) pc ls st h Q) {k : Nat} (hd : decode (mCode M) pc = .ok (.iload k, 2)) (hE : ab_ld isI k 2 K pc ls st h) : At M (d + 1) pc ls st h Q := by
  intro p l e s m args below meth c G A H locs sl hC hKW hW hS hA hL
  unfold ab_ld at hE
  split at hE
  · next v hv =>
    obtain ⟨h1, h2⟩ := hE
    cases v <;> simp only [isI, Bool.false_eq_true] at h1
    exact lv_iload hC.1 hC.2.1 hd (hL.2.2 _ _ hv) (hK _ _ _ _ h2 p l e s m args below meth c G A H locs sl hC hKW hW hS hA hL)
  · exact hE.elim
theorem so_lload (hK : ∀ pc ls st h, K pc ls st h → At M (d + 1) pc ls st h Q) {k : Nat} (hd : decode (mCode M) pc = .ok (.lload k, 2)) (hE : ab_ld isL k 2 K pc ls st h) : At M (d + 1) pc ls st h Q := by
  intro p l e s m args below meth c G A H locs sl hC hKW hW hS hA hL
  unfold ab_ld at hE
  split at hE
  · next v hv =>
    obtain ⟨h1, h2⟩ := hE
    cases v <;> simp only [isL, Bool.false_eq_true] at h1
    exact lv_lload hC.1 hC.2.1 hd (hL.2.2 _ _ hv) (hK _ _ _ _ h2 p l e s m args below meth c G A H locs sl hC hKW hW hS hA hL)
  · exact hE.elim
theorem so_aload (hK : ∀ pc ls st h, K pc ls st h → At M (d + 1) pc ls st h Q) {k : Nat} (hd : decode (mCode M) pc = .ok (.aload k, 2)) (hE : ab_ld isR k 2 K pc ls st h) : At M (d + 1) pc ls st h Q := by
  intro p l e s m args below meth c G A H locs sl hC hKW hW hS hA hL
  unfold ab_ld at hE
  split at hE
  · next v hv =>
    obtain ⟨h1, h2⟩ := hE
    cases v <;> simp only [isR, Bool.false_eq_true] at h1
    exact lv_aload hC.1 hC.2.1 hd (hL.2.2 _ _ hv) (hK _ _ _ _ h2 p l e s m args below meth c G A H locs sl hC hKW hW hS hA hL)
  · exact hE.elim
theorem so_istore_n (hK : ∀ pc ls st h, K pc ls st h → At M (d + 1) pc ls st h Q) {k : Fin 4} (hd : decode (mCode M) pc = .ok (.istore_n k, 1)) (hE : ab_sti (mMax M) k 1 K pc ls st h) : At M (d + 1) pc ls st h Q := by
  intro p l e s m args below meth c G A H locs sl hC hKW hW hS hA hL
  unfold ab_sti at hE
  split at hE
  · exact lv_istore_n hC.1 hC.2.1 hd rfl hL.has hE.1 rfl (fun sl' hl' => hK _ _ _ _ hE.2 p l e s m args below meth c G A H locs sl' hC hKW hW hS hA (LH.st1 hl'))
  · exact hE.elim
theorem so_istore (hK : ∀ pc ls st h, K pc ls st h → At M (d + 1) pc ls st h Q) {k : Nat} (hd : decode (mCode M) pc = .ok (.istore k, 2)) (hE : ab_sti (mMax M) k 2 K pc ls st h) : At M (d + 1) pc ls st h Q := by
  intro p l e s m args below meth c G A H locs sl hC hKW hW hS hA hL
  unfold ab_sti at hE
  split at hE
  · exact lv_istore hC.1 hC.2.1 hd hL.has hE.1 rfl (fun sl' hl' => hK _ _ _ _ hE.2 p l e s m args below meth c G A H locs sl' hC hKW hW hS hA (LH.st1 hl'))
  · exact hE.elim
theorem so_lstore_n (hK : ∀ pc ls st h, K pc ls st h → At M (d + 1) pc ls st h Q) {k : Fin 4} (hd : decode (mCode M) pc = .ok (.lstore_n k, 1)) (hE : ab_stl (mMax M) k 1 K pc ls st h) : At M (d + 1) pc ls st h Q := by
  intro p l e s m args below meth c G A H locs sl hC hKW hW hS hA hL
  unfold ab_stl at hE
  split at hE
  · exact lv_lstore_n hC.1 hC.2.1 hd rfl hL.has hE.1 rfl (fun sl' hl' => hK _ _ _ _ hE.2 p l e s m args below meth c G A H locs sl' hC hKW hW hS hA (LH.st2 hl'))
  · exact hE.elim
theorem so_lstore (hK : ∀ pc ls st h, K pc ls st h → At M (d + 1) pc ls st h Q) {k : Nat} (hd : decode (mCode M) pc = .ok (.lstore k, 2)) (hE : ab_stl (mMax M) k 2 K pc ls st h) : At M (d + 1) pc ls st h Q := by
  intro p l e s m args below meth c G A H locs sl hC hKW hW hS hA hL
  unfold ab_stl at hE
  split at hE
  · exact lv_lstore hC.1 hC.2.1 hd hL.has hE.1 rfl (fun sl' hl' => hK _ _ _ _ hE.2 p l e s m args below meth c G A H locs sl' hC hKW hW hS hA (LH.st2 hl'))
  · exact hE.elim
theorem so_inc (hK : ∀ pc ls st h, K pc ls st h → At M (d + 1) pc ls st h Q) {k : Nat} {n : Int} (hd : decode (mCode M) pc = .ok (.iinc k n, 3)) (hE : ab_inc (mMax M) k n K pc ls st h) : At M (d + 1) pc ls st h Q := by
  intro p l e s m args below meth c G A H locs sl hC hKW hW hS hA hL
  unfold ab_inc at hE
  split at hE
  · next x hv =>
    have hm := lvp_of G.2.1 ls 0 k (.int x) hv
    rw [Nat.zero_add] at hm
    obtain ⟨j, hj⟩ := List.getElem?_of_mem hm
    exact lv_iinc hC.1 hC.2.1 hd hL.has hj rfl hE.1 rfl (fun sl' hl' => hK _ _ _ _ hE.2 p l e s m args below meth c G A H locs sl' hC hKW hW hS hA (LH.st1 (v := .int (x + Int32.ofInt n)) hl'))
  · exact hE.elim
theorem tgt_eq {pc : Nat} {off : Int} (h : 0 ≤ (pc : Int) + off) : (pc : Int) + off = (tgt pc off : Int) := (Int.toNat_of_nonneg h).symm
theorem so_goto (hK : ∀ pc ls st h, K pc ls st h → At M (d + 1) pc ls st h Q) {off : Int} (hd : decode (mCode M) pc = .ok (.goto off, 3)) (hE : ab_goto off K pc ls st h) : At M (d + 1) pc ls st h Q := by
  intro p l e s m args below meth c G A H locs sl hC hKW hW hS hA hL
  exact lv_goto hC.1 hC.2.1 hd (tgt_eq hE.1) (hK _ _ _ _ hE.2 p l e s m args below meth c G A H locs sl hC hKW hW hS hA hL)
theorem so_icmp (hK : ∀ pc ls st h, K pc ls st h → At M (d + 1) pc ls st h Q) {cd : ClassFile.Cond} {off : Int} (hd : decode (mCode M) pc = .ok (.if_icmp cd off, 3)) (hE : ab_icmp cd off K pc ls st h) : At M (d + 1) pc ls st h Q := by
  intro p l e s m args below meth c G A H locs sl hC hKW hW hS hA hL
  unfold ab_icmp at hE
  split at hE
  · obtain ⟨h0, h1, h2⟩ := hE
    cases cd
    · exact lv_icmp_eq hC.1 hC.2.1 hd (tgt_eq h0) (fun q => hK _ _ _ _ (h1 q) p l e s m args below meth c G A H locs sl hC hKW hW hS hA hL) (fun q => hK _ _ _ _ (h2 q) p l e s m args below meth c G A H locs sl hC hKW hW hS hA hL)
    · exact lv_icmp_ne hC.1 hC.2.1 hd (tgt_eq h0) (fun q => hK _ _ _ _ (h1 q) p l e s m args below meth c G A H locs sl hC hKW hW hS hA hL) (fun q => hK _ _ _ _ (h2 (fun z => z q)) p l e s m args below meth c G A H locs sl hC hKW hW hS hA hL)
    · exact lv_icmp_lt hC.1 hC.2.1 hd (tgt_eq h0) (fun q => hK _ _ _ _ (h1 q) p l e s m args below meth c G A H locs sl hC hKW hW hS hA hL) (fun q => hK _ _ _ _ (h2 q) p l e s m args below meth c G A H locs sl hC hKW hW hS hA hL)
    · exact lv_icmp_ge hC.1 hC.2.1 hd (tgt_eq h0) (fun q => hK _ _ _ _ (h1 q) p l e s m args below meth c G A H locs sl hC hKW hW hS hA hL) (fun q => hK _ _ _ _ (h2 q) p l e s m args below meth c G A H locs sl hC hKW hW hS hA hL)
    · exact lv_icmp_gt hC.1 hC.2.1 hd (tgt_eq h0) (fun q => hK _ _ _ _ (h1 q) p l e s m args below meth c G A H locs sl hC hKW hW hS hA hL) (fun q => hK _ _ _ _ (h2 q) p l e s m args below meth c G A H locs sl hC hKW hW hS hA hL)
    · exact lv_icmp_le hC.1 hC.2.1 hd (tgt_eq h0) (fun q => hK _ _ _ _ (h1 q) p l e s m args below meth c G A H locs sl hC hKW hW hS hA hL) (fun q => hK _ _ _ _ (h2 q) p l e s m args below meth c G A H locs sl hC hKW hW hS hA hL)
  · exact hE.elim
theorem so_if (hK : ∀ pc ls st h, K pc ls st h → At M (d + 1) pc ls st h Q) {cd : ClassFile.Cond} {off : Int} (hd : decode (mCode M) pc = .ok (.ifCond cd off, 3)) (hE : ab_if cd off K pc ls st h) : At M (d + 1) pc ls st h Q := by
  intro p l e s m args below meth c G A H locs sl hC hKW hW hS hA hL
  unfold ab_if at hE
  split at hE
  · obtain ⟨h0, h1, h2⟩ := hE
    cases cd
    · exact lv_if_eq hC.1 hC.2.1 hd (tgt_eq h0) (fun q => hK _ _ _ _ (h1 q) p l e s m args below meth c G A H locs sl hC hKW hW hS hA hL) (fun q => hK _ _ _ _ (h2 q) p l e s m args below meth c G A H locs sl hC hKW hW hS hA hL)
    · exact lv_if_ne hC.1 hC.2.1 hd (tgt_eq h0) (fun q => hK _ _ _ _ (h1 q) p l e s m args below meth c G A H locs sl hC hKW hW hS hA hL) (fun q => hK _ _ _ _ (h2 (fun z => z q)) p l e s m args below meth c G A H locs sl hC hKW hW hS hA hL)
    · exact lv_if_lt hC.1 hC.2.1 hd (tgt_eq h0) (fun q => hK _ _ _ _ (h1 q) p l e s m args below meth c G A H locs sl hC hKW hW hS hA hL) (fun q => hK _ _ _ _ (h2 q) p l e s m args below meth c G A H locs sl hC hKW hW hS hA hL)
    · exact lv_if_ge hC.1 hC.2.1 hd (tgt_eq h0) (fun q => hK _ _ _ _ (h1 q) p l e s m args below meth c G A H locs sl hC hKW hW hS hA hL) (fun q => hK _ _ _ _ (h2 q) p l e s m args below meth c G A H locs sl hC hKW hW hS hA hL)
    · exact lv_if_gt hC.1 hC.2.1 hd (tgt_eq h0) (fun q => hK _ _ _ _ (h1 q) p l e s m args below meth c G A H locs sl hC hKW hW hS hA hL) (fun q => hK _ _ _ _ (h2 q) p l e s m args below meth c G A H locs sl hC hKW hW hS hA hL)
    · exact lv_if_le hC.1 hC.2.1 hd (tgt_eq h0) (fun q => hK _ _ _ _ (h1 q) p l e s m args below meth c G A H locs sl hC hKW hW hS hA hL) (fun q => hK _ _ _ _ (h2 q) p l e s m args below meth c G A H locs sl hC hKW hW hS hA hL)
  · exact hE.elim
theorem sw_at {x : Int} {r : List Value} : ∀ (os : List Int) (lo : Int) (j : Nat) (o : Int), ab_sw x K pc ls r h lo os → os[j]? = some o → x = lo + j → 0 ≤ (pc : Int) + o ∧ K (tgt pc o) ls r h
  | [], _, _, _, _, h, _ => by simp at h
  | a :: os, lo, 0, o, hs, h, hx => by
    simp only [List.getElem?_cons_zero, Option.some.injEq] at h
    subst h
    exact hs.1 (by omega)
  | a :: os, lo, j + 1, o, hs, h, hx => sw_at os (lo + 1) j o hs.2 (by simpa using h) (by omega)
theorem so_table (hK : ∀ pc ls st h, K pc ls st h → At M (d + 1) pc ls st h Q) {dflt lo hi : Int} {offs : Array Int} {len : Nat} (hd : decode (mCode M) pc = .ok (.tableswitch dflt lo hi offs, len)) (hE : ab_table dflt lo hi offs K pc ls st h) : At M (d + 1) pc ls st h Q := by
  intro p l e s m args below meth c G A H locs sl hC hKW hW hS hA hL
  unfold ab_table at hE
  split at hE
  · next x r =>
    obtain ⟨h0, h1, h2⟩ := hE
    by_cases ho : x.toInt < lo ∨ hi < x.toInt
    · obtain ⟨h3, h4⟩ := h1 ho
      exact lv_tableOut hC.1 hC.2.1 hd ho (tgt_eq h3) (hK _ _ _ _ h4 p l e s m args below meth c G A H locs sl hC hKW hW hS hA hL)
    · have hj : (x.toInt - lo).toNat < offs.toList.length := by omega
      have hj2 : offs.toList[(x.toInt - lo).toNat]? = some offs.toList[(x.toInt - lo).toNat] := List.getElem?_eq_getElem hj
      obtain ⟨h3, h4⟩ := sw_at _ _ _ _ h2 hj2 (by omega)
      exact lv_tableIn hC.1 hC.2.1 hd (by omega) (by omega) (by rw [← Array.getElem?_toList]; exact hj2) (tgt_eq h3) (hK _ _ _ _ h4 p l e s m args below meth c G A H locs sl hC hKW hW hS hA hL)
  · exact hE.elim
theorem so_get (hK : ∀ pc ls st h, K pc ls st h → At M (d + 1) pc ls st h Q) {k : Nat} (hd : decode (mCode M) pc = .ok (.getfield k, 3)) (hE : ab_get M k K pc ls st h) : At M (d + 1) pc ls st h Q := by
  intro p l e s m args below meth c G A H locs sl hC hKW hW hS hA hL
  unfold ab_get at hE
  split at hE
  · next ci kf x t hf =>
    split at hE
    · next a r =>
      split at hE
      · next cj fs hh =>
        obtain ⟨rfl, hE⟩ := hE
        split at hE
        · next v hv =>
          obtain ⟨C, T, N, c1, c2, c3, -⟩ := fl_spec hf
          have ha : a < G.1 := hW.lt hh (fun q => by cases q; simp [cls] at c1)
          have hcell : (cW G h)[a]? = some (G.2.1 a, .inr (cj, fs.map (cV G.2.1))) := by rw [cW_get ha, hh]; rfl
          have hv2 : (fs.map (cV G.2.1))[kf]? = some (cV G.2.1 v) := by rw [List.getElem?_map, hv]; rfl
          rcases c3 with ⟨-, c3⟩ | ⟨-, c3⟩
          · exact va_get (D := G.2.2.2.1) hC.1 hC.2.1 hC.2.2.2.2.2.1 (cls_in c1) hC.2.2.2.2.1 hKW.1 hW.1 a hcell c1 kf c2 (hC.2.2.2.2.2.1 _ c3) (fun _ q => q) hv2 hd (hK _ _ _ _ hE p l e s m args below meth c G A H locs sl hC hKW hW hS hA hL)
          · exact va_getN (D := G.2.2.2.1) hC.1 hC.2.1 hC.2.2.2.2.2.1 (cls_in c1) hC.2.2.2.2.1 hKW.1 hW.1 a hcell c1 kf c2 (va_Nw.use rfl (hKW.2.2.2 _ c3)) (fun _ q => q) hv2 hd (hK _ _ _ _ hE p l e s m args below meth c G A H locs sl hC hKW hW hS hA hL)
        · exact hE.elim
      · exact hE.elim
    · exact hE.elim
  · exact hE.elim
theorem cE_set {ad : Nat → Nat} {kc : Nat → ClassId} {ci k : Nat} {fs : List Value} {v : Value} : (Sum.inr (ci, (fs.map (cV ad)).set k (cV ad v)) : va_E) = cE ad kc (.inr (ci, fs.set k v)) := by
  simp only [cE, List.map_set]
theorem so_put (hK : ∀ pc ls st h, K pc ls st h → At M (d + 1) pc ls st h Q) {k : Nat} (hd : decode (mCode M) pc = .ok (.putfield k, 3)) (hE : ab_put M k K pc ls st h) : At M (d + 1) pc ls st h Q := by
  intro p l e s m args below meth c G A H locs sl hC hKW hW hS hA hL
  unfold ab_put at hE
  split at hE
  · next ci kf x t hf =>
    split at hE
    · next v a r =>
      split at hE
      · next cj fs hh =>
        obtain ⟨rfl, hl, ht, hE⟩ := hE
        obtain ⟨C, T, N, c1, c2, c3, c4, c5⟩ := fl_spec hf
        have ha : a < G.1 := hW.lt hh (fun q => by cases q; simp [cls] at c1)
        have hcell : (cW G h)[a]? = some (G.2.1 a, .inr (cj, fs.map (cV G.2.1))) := by rw [cW_get ha, hh]; rfl
        obtain ⟨ty0, hty, hnm⟩ := cls_ty _ (List.mem_of_getElem? c1)
        have hval : ∃ ty, parseFieldDescriptor (T kf).2.2.1 = some ty ∧ narrow ty (cV G.2.1 v) = cV G.2.1 v ∧ fits ty (cV G.2.1 v) = true ∧ (T kf).2.2.2 = false := by
          rcases ht with ⟨t0, t1⟩ | ⟨t0, t1⟩
          · obtain ⟨q1, q2⟩ := c4 t0
            cases v <;> simp only [isI, Bool.false_eq_true] at t1
            exact ⟨_, q1, rfl, rfl, q2⟩
          · obtain ⟨q1, q2⟩ := c5 t0
            cases v <;> simp only [isL, Bool.false_eq_true] at t1
            exact ⟨_, q1, rfl, rfl, q2⟩
        obtain ⟨ty, w1, w2, w3, w4⟩ := hval
        have hl2 : kf < (fs.map (cV G.2.1)).length := by rw [List.length_map]; exact hl
        rcases c3 with ⟨-, c3⟩ | ⟨-, c3⟩
        · refine va_put (D := G.2.2.2.1) hC.1 hC.2.1 hC.2.2.2.2.2.1 (cls_in c1) ty0 hty hnm hC.2.2.2.2.1 hKW.1 hW.1 hW.2.1 hS a hcell c1 kf c2 (hC.2.2.2.2.2.1 _ c3) (fun _ q => q) w4 w1 w2 w3 hl2 hd (fun H1 locs1 hP hD hS => ?_)
          rw [cE_set (kc := G.2.2.1)] at hP hD
          exact hK _ _ _ _ hE p l e s m args below meth c G A H1 locs1 sl hC hKW (hW.up ha hP hD) hS hA hL
        · refine va_putN (D := G.2.2.2.1) hC.1 hC.2.1 hC.2.2.2.2.2.1 (cls_in c1) ty0 hty hnm hC.2.2.2.2.1 hKW.1 hW.1 hW.2.1 hS a hcell c1 kf c2 (va_Nw.use rfl (hKW.2.2.2 _ c3)) (fun _ q => q) w4 w1 w2 w3 hl2 hd (fun H1 locs1 hP hD hS => ?_)
          rw [cE_set (kc := G.2.2.1)] at hP hD
          exact hK _ _ _ _ hE p l e s m args below meth c G A H1 locs1 sl hC hKW (hW.up ha hP hD) hS hA hL
      · exact hE.elim
    · exact hE.elim
  · exact hE.elim
theorem so_iald (hK : ∀ pc ls st h, K pc ls st h → At M (d + 1) pc ls st h Q) (hd : decode (mCode M) pc = .ok (.iaload, 1)) (hE : ab_iald 0 K pc ls st h) : At M (d + 1) pc ls st h Q := by
  intro p l e s m args below meth c G A H locs sl hC hKW hW hS hA hL
  unfold ab_iald at hE
  split at hE
  · next i a r =>
    split at hE
    · next t' n f hh =>
      obtain ⟨rfl, hin, hE⟩ := hE
      have ha : a < G.1 := hW.lt hh (fun q => by cases q)
      have hcell : (cW G h)[a]? = some (G.2.1 a, .inl (G.2.2.1 0, n, .inl f)) := by rw [cW_get ha, hh]; rfl
      exact va_iald (D := G.2.2.2.1) hC.1 hC.2.1 hKW.1 hW.1 a 0 hcell rfl hin hd (hK _ _ _ _ hE p l e s m args below meth c G A H locs sl hC hKW hW hS hA hL)
    · exact hE.elim
  · exact hE.elim
theorem so_zald (hK : ∀ pc ls st h, K pc ls st h → At M (d + 1) pc ls st h Q) (hd : decode (mCode M) pc = .ok (.baload, 1)) (hE : ab_iald 2 K pc ls st h) : At M (d + 1) pc ls st h Q := by
  intro p l e s m args below meth c G A H locs sl hC hKW hW hS hA hL
  unfold ab_iald at hE
  split at hE
  · next i a r =>
    split at hE
    · next t' n f hh =>
      obtain ⟨rfl, hin, hE⟩ := hE
      have ha : a < G.1 := hW.lt hh (fun q => by cases q)
      have hcell : (cW G h)[a]? = some (G.2.1 a, .inl (G.2.2.1 2, n, .inl f)) := by rw [cW_get ha, hh]; rfl
      exact va_zald (D := G.2.2.2.1) hC.1 hC.2.1 hKW.1 hW.1 a 2 hcell rfl hin hd (hK _ _ _ _ hE p l e s m args below meth c G A H locs sl hC hKW hW hS hA hL)
    · exact hE.elim
  · exact hE.elim
theorem so_iast (hK : ∀ pc ls st h, K pc ls st h → At M (d + 1) pc ls st h Q) (hd : decode (mCode M) pc = .ok (.iastore, 1)) (hE : ab_iast 0 K pc ls st h) : At M (d + 1) pc ls st h Q := by
  intro p l e s m args below meth c G A H locs sl hC hKW hW hS hA hL
  unfold ab_iast at hE
  split at hE
  · next x i a r =>
    split at hE
    · next t' n f hh =>
      obtain ⟨rfl, hin, hE⟩ := hE
      have ha : a < G.1 := hW.lt hh (fun q => by cases q)
      have hcell : (cW G h)[a]? = some (G.2.1 a, .inl (G.2.2.1 0, n, .inl f)) := by rw [cW_get ha, hh]; rfl
      exact va_iast (D := G.2.2.2.1) hC.1 hC.2.1 hKW.1 hW.1 hW.2.1 hS a 0 hcell rfl hin hd (fun H1 locs1 hP hD hS => hK _ _ _ _ hE p l e s m args below meth c G A H1 locs1 sl hC hKW (hW.up ha hP hD) hS hA hL)
    · exact hE.elim
  · exact hE.elim
theorem so_zast (hK : ∀ pc ls st h, K pc ls st h → At M (d + 1) pc ls st h Q) (hd : decode (mCode M) pc = .ok (.bastore, 1)) (hE : ab_iast 2 K pc ls st h) : At M (d + 1) pc ls st h Q := by
  intro p l e s m args below meth c G A H locs sl hC hKW hW hS hA hL
  unfold ab_iast at hE
  split at hE
  · next x i a r =>
    split at hE
    · next t' n f hh =>
      obtain ⟨rfl, hin, hE⟩ := hE
      have ha : a < G.1 := hW.lt hh (fun q => by cases q)
      have hcell : (cW G h)[a]? = some (G.2.1 a, .inl (G.2.2.1 2, n, .inl f)) := by rw [cW_get ha, hh]; rfl
      exact va_zast (D := G.2.2.2.1) hC.1 hC.2.1 hKW.1 hW.1 hW.2.1 hS a 2 hcell rfl hin hd (fun H1 locs1 hP hD hS => hK _ _ _ _ hE p l e s m args below meth c G A H1 locs1 sl hC hKW (hW.up ha hP hD) hS hA hL)
    · exact hE.elim
  · exact hE.elim
theorem so_lald (hK : ∀ pc ls st h, K pc ls st h → At M (d + 1) pc ls st h Q) (hd : decode (mCode M) pc = .ok (.laload, 1)) (hE : ab_lald K pc ls st h) : At M (d + 1) pc ls st h Q := by
  intro p l e s m args below meth c G A H locs sl hC hKW hW hS hA hL
  unfold ab_lald at hE
  split at hE
  · next i a r =>
    split at hE
    · next t' n f hh =>
      obtain ⟨rfl, hin, hE⟩ := hE
      have ha : a < G.1 := hW.lt hh (fun q => by cases q)
      have hcell : (cW G h)[a]? = some (G.2.1 a, .inl (G.2.2.1 1, n, .inr (.inl f))) := by rw [cW_get ha, hh]; rfl
      exact va_lald (D := G.2.2.2.1) hC.1 hC.2.1 hKW.1 hW.1 a 1 hcell rfl hin hd (hK _ _ _ _ hE p l e s m args below meth c G A H locs sl hC hKW hW hS hA hL)
    · exact hE.elim
  · exact hE.elim
theorem so_last (hK : ∀ pc ls st h, K pc ls st h → At M (d + 1) pc ls st h Q) (hd : decode (mCode M) pc = .ok (.lastore, 1)) (hE : ab_last K pc ls st h) : At M (d + 1) pc ls st h Q := by
  intro p l e s m args below meth c G A H locs sl hC hKW hW hS hA hL
  unfold ab_last at hE
  split at hE
  · next x i a r =>
    split at hE
    · next t' n f hh =>
      obtain ⟨rfl, hin, hE⟩ := hE
      have ha : a < G.1 := hW.lt hh (fun q => by cases q)
      have hcell : (cW G h)[a]? = some (G.2.1 a, .inl (G.2.2.1 1, n, .inr (.inl f))) := by rw [cW_get ha, hh]; rfl
      exact va_last (D := G.2.2.2.1) hC.1 hC.2.1 hKW.1 hW.1 hW.2.1 hS a 1 hcell rfl hin hd (fun H1 locs1 hP hD hS => hK _ _ _ _ hE p l e s m args below meth c G A H1 locs1 sl hC hKW (hW.up ha hP hD) hS hA hL)
    · exact hE.elim
  · exact hE.elim
theorem so_aald (hK : ∀ pc ls st h, K pc ls st h → At M (d + 1) pc ls st h Q) (hd : decode (mCode M) pc = .ok (.aaload, 1)) (hE : ab_aald K pc ls st h) : At M (d + 1) pc ls st h Q := by
  intro p l e s m args below meth c G A H locs sl hC hKW hW hS hA hL
  unfold ab_aald at hE
  split at hE
  · next i a r =>
    split at hE
    · next t' n f hh =>
      obtain ⟨ht, hin, hE⟩ := hE
      split at hE
      · next b hb =>
        have ha : a < G.1 := hW.lt hh (fun q => by cases q)
        have hcell : va_at G.2.2.2.1 cls (G.2.1 a, .inl (G.2.2.1 t', n, .inr (.inr (.inr (.inr (fun j => (f j).map G.2.1)))))) H := hW.1 a _ (by rw [cW_get ha, hh]; rfl)
        have hlt : i.toNatClampNeg < n := Nat.not_le.mp fun q => hin (Or.inr q)
        have hty : ∃ ty : FieldType, ty.isReference = true ∧ ArrOfT s (G.2.2.1 t') ty := by
          rcases ht with rfl | rfl | rfl
          · exact ⟨_, rfl, (hKW.1.2 3 _ rfl).1⟩
          · exact ⟨_, rfl, (hKW.1.2 4 _ rfl).1⟩
          · exact ⟨_, rfl, (hKW.1.2 5 _ rfl).1⟩
        obtain ⟨ty, hr1, hr2⟩ := hty
        exact W.aald (v := .ref (G.2.1 b)) (ty := ty) hC.1 hC.2.1 hcell (hr2 n (fun j => va_rf ((f j).map G.2.1))) hr1 (fun q => by cases q) (by show ¬ (i < 0 ∨ (arrV _ _ _).slots.size ≤ _); rw [arrV_size]; exact hin) (by show (arrV _ _ _).slots[_]? = _; rw [arrV_read _ _ hlt]; show some (va_rf ((f i.toNatClampNeg).map G.2.1)) = _; rw [hb]; rfl) rfl rfl hd (hK _ _ _ _ hE p l e s m args below meth c G A H locs sl hC hKW hW hS hA hL)
      · exact hE.elim
    · exact hE.elim
  · exact hE.elim
theorem so_ki1 (hK : ∀ pc ls st h, K pc ls st h → At M (d + 1) pc ls st h Q) {k : Nat} (hd : decode (mCode M) pc = .ok (.ldc k, 2)) (hE : ab_ki M k 2 K pc ls st h) : At M (d + 1) pc ls st h Q := by
  intro p l e s m args below meth c G A H locs sl hC hKW hW hS hA hL
  unfold ab_ki at hE
  split at hE
  · next v hv => exact lv_ldc hC.1 hC.2.1 hC.2.2.2.2.1 (hC.2.2.2.2.2.1 _ (ki_spec hv)) hd (hK _ _ _ _ hE p l e s m args below meth c G A H locs sl hC hKW hW hS hA hL)
  · exact hE.elim
theorem so_ki2 (hK : ∀ pc ls st h, K pc ls st h → At M (d + 1) pc ls st h Q) {k : Nat} (hd : decode (mCode M) pc = .ok (.ldc_w k, 3)) (hE : ab_ki M k 3 K pc ls st h) : At M (d + 1) pc ls st h Q := by
  intro p l e s m args below meth c G A H locs sl hC hKW hW hS hA hL
  unfold ab_ki at hE
  split at hE
  · next v hv => exact lv_ldcw hC.1 hC.2.1 hC.2.2.2.2.1 (hC.2.2.2.2.2.1 _ (ki_spec hv)) hd (hK _ _ _ _ hE p l e s m args below meth c G A H locs sl hC hKW hW hS hA hL)
  · exact hE.elim
theorem so_kl (hK : ∀ pc ls st h, K pc ls st h → At M (d + 1) pc ls st h Q) {k : Nat} (hd : decode (mCode M) pc = .ok (.ldc2_w k, 3)) (hE : ab_kl M k K pc ls st h) : At M (d + 1) pc ls st h Q := by
  intro p l e s m args below meth c G A H locs sl hC hKW hW hS hA hL
  unfold ab_kl at hE
  split at hE
  · next v hv => exact lv_ldc2 hC.1 hC.2.1 hC.2.2.2.2.1 (hC.2.2.2.2.2.1 _ (kl_spec hv)) hd (hK _ _ _ _ hE p l e s m args below meth c G A H locs sl hC hKW hW hS hA hL)
  · exact hE.elim
theorem so_iret (hK : ∀ pc ls st h, K pc ls st h → At M (d + 1) pc ls st h Q) (hd : decode (mCode M) pc = .ok (.ireturn, 1)) (hE : ab_iret M st h Q) : At M (d + 1) pc ls st h Q := by
  intro p l e s m args below meth c G A H locs sl hC hKW hW hS hA hL
  have hlk := hC.2.2.2.2.2.2
  unfold ab_iret at hE
  split at hE
  · next x =>
    obtain ⟨h1, h2⟩ := hE
    have hr := hC.2.2.1
    unfold ab_nr at h1
    split at h1
    · next e1 =>
      rw [e1] at hr ⊢
      exact W.iret hC.1 hC.2.1 hr (fun t ht hw => ⟨⟨x, h, rfl, h2, by show HW _ _ _ _; rw [ht]; exact hW⟩, hS.F ht⟩) hS.2.2 hd
    · next e1 =>
      rw [e1] at hr ⊢
      exact W.zret hC.1 hC.2.1 hr (by rcases h1 with rfl | rfl <;> rfl) (fun t ht hw => ⟨⟨x, h, rfl, h2, by show HW _ _ _ _; rw [ht]; exact hW⟩, hS.F ht⟩) hS.2.2 hd
    · exact h1.elim
  · exact hE.elim
theorem so_lret (hK : ∀ pc ls st h, K pc ls st h → At M (d + 1) pc ls st h Q) (hd : decode (mCode M) pc = .ok (.lreturn, 1)) (hE : ab_lret M st h Q) : At M (d + 1) pc ls st h Q := by
  intro p l e s m args below meth c G A H locs sl hC hKW hW hS hA hL
  have hlk := hC.2.2.2.2.2.2
  unfold ab_lret at hE
  split at hE
  · next x =>
    obtain ⟨h1, h2⟩ := hE
    have hr := hC.2.2.1
    rw [h1] at hr ⊢
    exact W.lret hC.1 hC.2.1 hr (fun t ht hw => ⟨⟨x, h, rfl, h2, by show HW _ _ _ _; rw [ht]; exact hW⟩, hS.F ht⟩) hS.2.2 hd
  · exact hE.elim
theorem so_vret (hK : ∀ pc ls st h, K pc ls st h → At M (d + 1) pc ls st h Q) (hd : decode (mCode M) pc = .ok (.return_, 1)) (hE : ab_vret M st h Q) : At M (d + 1) pc ls st h Q := by
  intro p l e s m args below meth c G A H locs sl hC hKW hW hS hA hL
  have hlk := hC.2.2.2.2.2.2
  unfold ab_vret at hE
  split at hE
  · obtain ⟨h1, h2⟩ := hE
    have hr := hC.2.2.1
    rw [h1] at hr ⊢
    exact W.vret hC.1 hC.2.1 hr (fun t ht hw => ⟨⟨h, rfl, h2, by show HW _ _ _ _; rw [ht]; exact hW⟩, hS.F ht⟩) hS.2.2 hd
  · exact hE.elim
end SO
