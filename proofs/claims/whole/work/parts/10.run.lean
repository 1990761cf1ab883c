theorem ex_sound {M : MI} {d : Nat} {K : KT} {Q : QT} {pc : Nat} {ls : LV} {st : List Value} {h : Hp} (hK : ∀ pc ls st h, K pc ls st h → At M (d + 1) pc ls st h Q) {i : Instr} {len : Nat} (hd : decode (mCode M) pc = .ok (i, len)) (hE : exI M d K pc ls st h Q i len) : At M (d + 1) pc ls st h Q := by
  unfold exI at hE
  split at hE
  · obtain ⟨rfl, hE⟩ := hE; intro p l e s m args below meth c G A H locs sl hC hKW hW hS hA hL; exact lv_iconst hC.1 hC.2.1 hd rfl (hK _ _ _ _ hE p l e s m args below meth c G A H locs sl hC hKW hW hS hA hL)
  · obtain ⟨rfl, h1, h2, hE⟩ := hE; intro p l e s m args below meth c G A H locs sl hC hKW hW hS hA hL; exact lv_bipush hC.1 hC.2.1 hd (i8_32 h1 h2) (hK _ _ _ _ hE p l e s m args below meth c G A H locs sl hC hKW hW hS hA hL)
  · obtain ⟨rfl, h1, h2, hE⟩ := hE; intro p l e s m args below meth c G A H locs sl hC hKW hW hS hA hL; exact lv_sipush hC.1 hC.2.1 hd (i16_32 h1 h2) (hK _ _ _ _ hE p l e s m args below meth c G A H locs sl hC hKW hW hS hA hL)
  · next n => obtain ⟨rfl, hE⟩ := hE; intro p l e s m args below meth c G A H locs sl hC hKW hW hS hA hL; exact lv_lconst hC.1 hC.2.1 hd (by rcases n with ⟨_ | _ | n, hn⟩ <;> first | rfl | omega) (hK _ _ _ _ hE p l e s m args below meth c G A H locs sl hC hKW hW hS hA hL)
  · obtain ⟨rfl, hE⟩ := hE; exact so_ki1 hK hd hE
  · obtain ⟨rfl, hE⟩ := hE; exact so_ki2 hK hd hE
  · obtain ⟨rfl, hE⟩ := hE; exact so_kl hK hd hE
  · obtain ⟨rfl, hE⟩ := hE; exact so_iload_n hK hd hE
  · obtain ⟨rfl, hE⟩ := hE; exact so_iload hK hd hE
  · obtain ⟨rfl, hE⟩ := hE; exact so_lload_n hK hd hE
  · obtain ⟨rfl, hE⟩ := hE; exact so_lload hK hd hE
  · obtain ⟨rfl, hE⟩ := hE; exact so_aload_n hK hd hE
  · obtain ⟨rfl, hE⟩ := hE; exact so_aload hK hd hE
  · obtain ⟨rfl, hE⟩ := hE; exact so_istore_n hK hd hE
  · obtain ⟨rfl, hE⟩ := hE; exact so_istore hK hd hE
  · obtain ⟨rfl, hE⟩ := hE; exact so_lstore_n hK hd hE
  · obtain ⟨rfl, hE⟩ := hE; exact so_lstore hK hd hE
  · obtain ⟨rfl, hE⟩ := hE; exact so_inc hK hd hE
  · obtain ⟨rfl, hE⟩ := hE; exact so_b2 hK (fun hx hb k => lv_iadd hx hb hd k) hE
  · obtain ⟨rfl, hE⟩ := hE; exact so_b2 hK (fun hx hb k => lv_isub hx hb hd k) hE
  · obtain ⟨rfl, hE⟩ := hE; exact so_b2 hK (fun hx hb k => lv_imul hx hb hd k) hE
  · obtain ⟨rfl, hE⟩ := hE; exact so_q2 hK (fun hx hb hn k => lv_idiv hx hb hd hn k) hE
  · obtain ⟨rfl, hE⟩ := hE; exact so_q2 hK (fun hx hb hn k => lv_irem hx hb hd hn k) hE
  · obtain ⟨rfl, hE⟩ := hE; exact so_b2 hK (fun hx hb k => lv_iand hx hb hd k) hE
  · obtain ⟨rfl, hE⟩ := hE; exact so_b2 hK (fun hx hb k => lv_ior hx hb hd k) hE
  · obtain ⟨rfl, hE⟩ := hE; exact so_b2 hK (fun hx hb k => lv_ixor hx hb hd k) hE
  · obtain ⟨rfl, hE⟩ := hE; exact so_b2 hK (fun hx hb k => lv_ishl hx hb hd k) hE
  · obtain ⟨rfl, hE⟩ := hE; exact so_b2 hK (fun hx hb k => lv_ishr hx hb hd k) hE
  · obtain ⟨rfl, hE⟩ := hE; exact so_b2 hK (fun hx hb k => lv_iushr hx hb hd rfl k) hE
  · obtain ⟨rfl, hE⟩ := hE; exact so_neg hK hd hE
  · obtain ⟨rfl, hE⟩ := hE; exact so_l2 hK (fun hx hb k => lv_ladd hx hb hd k) hE
  · obtain ⟨rfl, hE⟩ := hE; exact so_l2 hK (fun hx hb k => lv_lsub hx hb hd k) hE
  · obtain ⟨rfl, hE⟩ := hE; exact so_l2 hK (fun hx hb k => lv_lmul hx hb hd k) hE
  · obtain ⟨rfl, hE⟩ := hE; exact so_p2 hK (fun hx hb hn k => lv_ldiv hx hb hd hn k) hE
  · obtain ⟨rfl, hE⟩ := hE; exact so_p2 hK (fun hx hb hn k => lv_lrem hx hb hd hn k) hE
  · obtain ⟨rfl, hE⟩ := hE; exact so_l2 hK (fun hx hb k => lv_land hx hb hd k) hE
  · obtain ⟨rfl, hE⟩ := hE; exact so_l2 hK (fun hx hb k => lv_lor hx hb hd k) hE
  · obtain ⟨rfl, hE⟩ := hE; exact so_lshl hK hd hE
  · obtain ⟨rfl, hE⟩ := hE; exact so_lcmp hK hd hE
  · obtain ⟨rfl, hE⟩ := hE; exact so_i2l hK hd hE
  · obtain ⟨rfl, hE⟩ := hE; exact so_dup hK hd hE
  · obtain ⟨rfl, hE⟩ := hE; exact so_dup2 hK hd hE
  · obtain ⟨rfl, hE⟩ := hE; exact so_pop hK hd hE
  · obtain ⟨rfl, hE⟩ := hE; exact so_pop2 hK hd hE
  · obtain ⟨rfl, hE⟩ := hE; exact so_goto hK hd hE
  · obtain ⟨rfl, hE⟩ := hE; exact so_icmp hK hd hE
  · obtain ⟨rfl, hE⟩ := hE; exact so_if hK hd hE
  · exact so_table hK hd hE
  · obtain ⟨rfl, hE⟩ := hE; exact so_get hK hd hE
  · obtain ⟨rfl, hE⟩ := hE; exact so_put hK hd hE
  · obtain ⟨rfl, hE⟩ := hE; exact so_iald hK hd hE
  · obtain ⟨rfl, hE⟩ := hE; exact so_iast hK hd hE
  · obtain ⟨rfl, hE⟩ := hE; exact so_zald hK hd hE
  · obtain ⟨rfl, hE⟩ := hE; exact so_zast hK hd hE
  · obtain ⟨rfl, hE⟩ := hE; exact so_lald hK hd hE
  · obtain ⟨rfl, hE⟩ := hE; exact so_last hK hd hE
  · obtain ⟨rfl, hE⟩ := hE; exact so_aald hK hd hE
  · obtain ⟨rfl, hE⟩ := hE; exact so_inv hK hd hE
  · obtain ⟨rfl, hE⟩ := hE; exact so_ins hK hd hE
  · obtain ⟨rfl, hE⟩ := hE; exact so_iret hK hd hE
  · obtain ⟨rfl, hE⟩ := hE; exact so_lret hK hd hE
  · obtain ⟨rfl, hE⟩ := hE; exact so_vret hK hd hE
  · exact hE.elim
/-- THE CONDITION OF A RUN OF INSTRUCTIONS SUFFICES -/
theorem blk_sound {M : MI} {d : Nat} {Q : QT} (cuts : List Nat) : ∀ (n : Nat) {pc : Nat} {ls : LV} {st : List Value} {h : Hp}, blk M d cuts Q n pc ls st h → At M (d + 1) pc ls st h Q
  | 0, pc, ls, st, h, hE => False.elim hE
  | n + 1, pc, ls, st, h, hE => by
    simp only [blk] at hE
    split at hE
    · next i len hd =>
      refine ex_sound (fun pc' ls' st' h' hk => ?_) hd hE
      by_cases hc : cuts.contains pc' = true
      · rw [if_pos hc] at hk
        exact hk
      · rw [if_neg hc] at hk
        exact blk_sound cuts n hk
    · exact hE.elim
def entL : List Value → LV
  | [] => []
  | v :: vs => if cat2 v = true then some v :: none :: entL vs else some v :: entL vs
theorem ent_at (ad : Nat → Nat) : ∀ (vs : List Value) (i j : Nat) (v : Value), (entL vs)[j]? = some (some v) → (i + j, cV ad v) ∈ lv_args i (vs.map (cV ad))
  | [], i, j, v, h => by simp [entL] at h
  | w :: vs, i, j, v, h => by
    simp only [entL] at h
    simp only [List.map_cons, lv_args, cat2_cV]
    by_cases hw : cat2 w = true
    · rw [if_pos hw] at h
      simp only [hw, if_true]
      match j, h with
      | 0, h => simp at h; subst h; simp
      | 1, h => simp at h
      | j + 2, h =>
        have := ent_at ad vs (i + 2) j v (by simpa using h)
        exact List.mem_cons_of_mem _ (by rwa [show i + (j + 2) = i + 2 + j by omega])
    · rw [if_neg hw] at h
      rw [if_neg hw, if_neg (by decide)]
      match j, h with
      | 0, h => simp at h; subst h; simp
      | j + 1, h =>
        have := ent_at ad vs (i + 1) j v (by simpa using h)
        exact List.mem_cons_of_mem _ (by rwa [show i + (j + 1) = i + 1 + j by omega])
theorem ent_len (ad : Nat → Nat) : ∀ vs : List Value, (lg_sl (vs.map (cV ad))).length = (entL vs).length
  | [] => rfl
  | w :: vs => by
    have := ent_len ad vs
    simp only [lg_sl, List.map_cons, List.flatMap_cons, List.length_append, entL, cat2_cV] at this ⊢
    by_cases hw : cat2 w = true
    · simp [hw, this]; omega
    · simp [hw, this]; omega
/-- A CONTRACT OUT OF A WALK FROM THE ENTRY -/
theorem call_of_at {M : MI} {d : Nat} {as : List Value} {h : Hp} {Q : QT} {ls : LV} (hy : plainName (mName M).cls = true) (ho : (mName M).cls = cn (mOwn M)) (hlen : (entL as).length ≤ mMax M) (hls : ls = entL as ++ List.replicate (mMax M - (entL as).length) none) (hat : At M d 0 ls [] h Q) : Call d M as h Q := by
  intro l G sz
  refine Met.ofW (cc := mCode M) (maxL := mMax M) (ret := mRet M) hy rfl ?_
  intro p e s m args below meth c s₁ B hml hv
  obtain ⟨rfl, hsz, hW, hKW⟩ := hv
  have hts := atoms_spec (ws := wy M) B.pre
  have hown : s.vm.findClass (cn (mOwn M)) = some m.cls := by
    have := findClass_of_methodNamed B.named
    rw [ho] at this
    exact this
  subst hsz
  have hlen2 : (lg_sl (as.map (cV G.2.1))).length ≤ mMax M := by rw [ent_len]; exact hlen
  have hl := lv_entry (as.map (cV G.2.1)) (n := mMax M) hlen2
  rw [lg_entry_eq]
  refine hat p l e s m _ below meth c G (AW G s.heap.size) s.heap [] _ ⟨B.exec, B.bytes, B.returns, hml, hown, fun w hw => hts w (List.mem_cons_of_mem _ hw), B.notSynchronized⟩ hKW hW va_S.rf (fun q hq => Or.inr hq) ⟨hl.1, hl.2.1, fun i v hi => ?_⟩
  have hi2 : (entL as)[i]? = some (some v) := by
    rw [hls] at hi
    by_cases hlt : i < (entL as).length
    · rwa [List.getElem?_append_left hlt] at hi
    · rw [List.getElem?_append_right (by omega)] at hi
      have := List.eq_of_mem_replicate (List.mem_of_getElem? hi)
      cases this
  have := hl.2.2 _ (ent_at G.2.1 as 0 i v hi2)
  simpa using this
