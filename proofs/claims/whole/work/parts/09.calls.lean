theorem popN_spec : ∀ (n : Nat) (acc st as r : List Value), popN n acc st = some (as, r) → ∃ as', as = as' ++ acc ∧ st = as'.reverse ++ r ∧ as'.length = n
  | 0, acc, st, as, r, h => by
    simp only [popN, Option.some.injEq, Prod.mk.injEq] at h
    exact ⟨[], by simp [h.1], by simp [h.2], rfl⟩
  | n + 1, acc, [], as, r, h => by simp [popN] at h
  | n + 1, acc, v :: st, as, r, h => by
    obtain ⟨as', h1, h2, h3⟩ := popN_spec n (v :: acc) st as r (by simpa [popN] using h)
    exact ⟨as' ++ [v], by simp [h1], by simp [h2], by simp [h3]⟩
theorem popN_at {n : Nat} {st as r : List Value} (h : popN n [] st = some (as, r)) : st = as.reverse ++ r ∧ as.length = n := by
  obtain ⟨as', h1, h2, h3⟩ := popN_spec n [] st as r h
  simp only [List.append_nil] at h1
  subst h1
  exact ⟨h2, h3⟩
theorem wk_in : inT (.methodLink (cn 4) 25 arraycopyName) = true ∧ inT (.native arraycopyName) = true ∧ inT (.static arraycopyName) = true ∧ inT (.initialized "java/lang/System") = true
    ∧ inT (.methodLink (cn 10) 252 Lib.Math.max.name) = true ∧ inT (.static Lib.Math.max.name) = true ∧ inT (.initialized "java/lang/Math") = true ∧ inT (.code Lib.Math.max.name Lib.Math.max.code 2 (some .int)) = true
    ∧ inT (.methodLink (cn 3) 29 Lib.Math.min.name) = true ∧ inT (.static Lib.Math.min.name) = true ∧ inT (.code Lib.Math.min.name Lib.Math.min.code 2 (some .int)) = true := by decide +kernel
section SC
variable {M : MI} {d : Nat} {K : KT} {Q : QT} {pc : Nat} {ls : LV} {st : List Value} {h : Hp}
theorem so_after {p : Program} {l : Launch} {e : Env} {s : State} {m : MethodId} {args : Array Value} {below : List Frame} {meth : Method} {c : Code} {G : GW} {A : Nat → Prop} {H : Heap} {locs : List Loc} {sl : Array Slot} {r st0 : List Value} {a : Array Value} {ret : Option FieldType}
    (hK : ∀ pc ls st h, K pc ls st h → At M (d + 1) pc ls st h Q) (hC : Cx M p s m args meth c) (hKW : KW G A s) (hW : HW G A h H) (hS : va_S A s.heap H locs) (hA : ∀ q, s.heap.size ≤ q → A q) (hL : LH G.2.1 sl (mMax M) ls)
    (run : va_Run p l e (rmd (d + 1)) s m args below meth c H locs 0 0 0 0 (F0 m pc sl st0) (r.map (cV G.2.1)) (QC ret G (AW G H.size) (fun v h' => K (pc + 3) ls (pushO v r) h') a) (AW G H.size)) :
    W p l e (rmd (d + 1)) s m args below meth c H locs 0 0 (MQ below (QC (mRet M) G A Q) args s 0 0 A) (F0 m pc sl st0) := by
  have hsub := aw_sub hW hS hA
  have key : ∀ (u : Hp) (t : State) (H1 : Heap) (locs1 : List Loc) (v : Option Value), t.heap = H1 → K (pc + 3) ls (pushO v r) u → BW G (AW G H.size) u t → va_S A s.heap H1 locs1 →
      W p l e (rmd (d + 1)) s m args below meth c H1 locs1 0 0 (MQ below (QC (mRet M) G A Q) args s 0 0 A) (F0 m (pc + 3) sl ((pushO v r).map (cV G.2.1))) := by
    intro u t H1 locs1 v ht hk hB hS1
    have hB' : HW G A u H1 := by
      have : HW G (AW G H.size) u t.heap := hB
      rw [ht] at this
      exact this.wide hsub
    exact hK _ _ _ _ hk p l e s m args below meth c G A H1 locs1 sl hC hKW hB' hS1 hA hL
  cases ret with
  | none => exact va_callv (a := a) run hS (fun q _ hq => hsub q hq) hsub (fun u t H1 locs1 ht hvm hk hB _ _ hS1 => key u t H1 locs1 none ht hk hB hS1)
  | some ty =>
    cases ty with
    | long => exact va_calll (a := a) run hS (fun q _ hq => hsub q hq) hsub (fun x u t H1 locs1 ht hvm hk hB _ _ hS1 => key u t H1 locs1 (some (.long x)) ht hk hB hS1)
    | _ => exact va_calli (a := a) run hS (fun q _ hq => hsub q hq) hsub (fun x u t H1 locs1 ht hvm hk hB _ _ hS1 => key u t H1 locs1 (some (.int x)) ht hk hB hS1)
theorem pc_blind {as : List Value} {G : GW} {sz : Nat} {h : Hp} : FrameBlind (va_Pc (as.map (cV G.2.1)) (fun U => U.heap.size = sz ∧ HW G (AW G sz) h U.heap ∧ KW G (AW G sz) U)) := by
  intro a U g mk q
  obtain ⟨q0, q1, qW, qK, qZ, qT, qN⟩ := q
  exact ⟨q0, q1, qW, va_K.moved (u := U) (U := U.calling g mk a) (Vm.Alike.refl U.vm) qK, va_Z.moved (u := U) (U := U.calling g mk a) (Vm.Alike.refl U.vm) qZ, va_T.moved (u := U) (U := U.calling g mk a) (Vm.Alike.refl U.vm) qT, nw_same (s := U) (U := U.calling g mk a) rfl qN⟩
theorem mw_gi {M : MI} (hm : mP M) : ∀ w ∈ wy M, w ∈ tw := by
  intro w hw
  rcases List.mem_cons.mp hw with rfl | hw
  · exact hm.1
  · exact hw
theorem rmd_room {n d : Nat} (h : n ≤ 40) : (rmd d).frames + 1 ≤ (rmd (d + 1)).frames ∧ 8 + (n + 11) + (rmd d).locals ≤ (rmd (d + 1)).locals := by
  simp only [rmd]
  omega
theorem so_inv (hK : ∀ pc ls st h, K pc ls st h → At M (d + 1) pc ls st h Q) {k : Nat} (hd : decode (mCode M) pc = .ok (.invokevirtual k, 3)) (hE : ab_inv M d k K pc ls st h) : At M (d + 1) pc ls st h Q := by
  intro p l e s m args below meth c G A H locs sl hC hKW hW hS hA hL
  unfold ab_inv at hE
  split at hE
  · next kd M' hm =>
    split at hE
    · next as b r hp =>
      obtain ⟨hk, hc, hcat, hcall⟩ := hE
      obtain ⟨hst, hlen⟩ := popN_at hp
      obtain ⟨hmP, hl⟩ := ml_spec hm
      obtain ⟨m1, m2, m3, m5, m6, m7, m8⟩ := id hmP
      have hh : ∃ fs, h b = .inr (mOwn M', fs) := by
        unfold isC at hc
        split at hc
        · next ci fs e1 => exact ⟨fs, by rw [e1, beq_iff_eq.mp hc]⟩
        · cases hc
      obtain ⟨fs, hh⟩ := hh
      have hl4 : (cls[mOwn M']?).map (fun r => r.1) = some (mName M').cls := by
        rcases hk with rfl | rfl
        · exact hl.2.2.2
        · exact hl.2.2.2
      obtain ⟨q, hq1, hq2⟩ := Option.map_eq_some_iff.mp hl4
      have hb : b < G.1 := hW.lt hh (fun z => by simp only [Sum.inr.injEq, Prod.mk.injEq] at z; rw [z.1] at hq1; simp [cls] at hq1)
      have hcell : (cW G h)[b]? = some (G.2.1 b, .inr (mOwn M', fs.map (cV G.2.1))) := by rw [cW_get hb, hh]; rfl
      have hrecv := va_recv hKW.1 hW.1 hq1 hcell
      rw [hq2] at hrecv
      have hstack : (st.map (cV G.2.1)) = (as.map (cV G.2.1)).reverse ++ .ref (G.2.1 b) :: r.map (cV G.2.1) := by rw [hst]; simp [cV]
      have hpre : PreV s H (mName M').cls (G.2.1 b) (va_Pc ((Value.ref b :: as).map (cV G.2.1)) (fun U => U.heap.size = H.size ∧ HW G (AW G H.size) h U.heap ∧ KW G (AW G H.size) U)) (as.map (cV G.2.1)) :=
        ⟨pc_blind, hrecv, fun U hU hw => ⟨rfl, by rw [hU], by rw [hU]; exact hW.self _, hKW.to hW hS hA hw hU⟩⟩
      have hroom := rmd_room (n := mMax M') (d := d) m8
      rcases hk with rfl | rfl
      · obtain ⟨l1, l2, l3, -⟩ := hl
        have run := va_runV (n := mArgs M') (cells := 0) (slots := 0) (locs := locs) (e := e) (below := below) (meth := meth) (g := F0 m pc sl (st.map (cV G.2.1))) (rest := r.map (cV G.2.1)) ⟨hC.1, hC.2.1, hC.2.2.2.1, hC.2.2.2.2.1, hC.2.2.2.2.2.1⟩ (hcall l G H.size)
          (cwV (own := cn (mOwn M)) (index := k) (C := (mName M').cls) (mArgs M') hC.2.2.2.2.2.1 (tw_gi (fun w hw => by
            rcases List.mem_append.mp hw with hw | hw
            · simp only [List.mem_cons, List.not_mem_nil, or_false] at hw
              rcases hw with rfl | rfl | rfl | rfl
              · exact l1
              · exact l2
              · exact l3
              · exact m2
            · exact mw_gi hmP w hw)) rfl rfl rfl ⟨rfl, m5, m6, m7⟩ hroom) hpre rfl (by rw [List.length_map]; exact hlen) hL.1 hstack (lv_room (by rw [catS_cV]; exact hcat)) hd ⟨Nat.le_refl _, Nat.le_refl _⟩
        exact so_after hK hC hKW hW hS hA hL run
      · obtain ⟨l1, l2, l3, -⟩ := hl
        have run := va_runVN (host := "RoundWalks") (n := mArgs M') (cells := 0) (slots := 0) (locs := locs) (e := e) (below := below) (meth := meth) (g := F0 m pc sl (st.map (cV G.2.1))) (rest := r.map (cV G.2.1)) ⟨hC.1, hC.2.1, hC.2.2.2.1, hC.2.2.2.2.1, hC.2.2.2.2.2.1⟩ (hcall l G H.size)
          ⟨va_cnB (own := cn (mOwn M)) (index := k) (mArgs M') hC.2.2.2.2.2.1 (tw_gi (mw_gi hmP)) rfl rfl rfl (hKW.2.2.2 _ l1) (hC.2.2.2.2.2.1 _ m2) ⟨m5, m6, m7⟩ hroom, hC.2.2.2.2.2.1 _ l2, hC.2.2.2.2.2.1 _ l3⟩ hpre rfl (by rw [List.length_map]; exact hlen) hL.1 hstack (lv_room (by rw [catS_cV]; exact hcat)) hd ⟨Nat.le_refl _, Nat.le_refl _⟩
        exact so_after hK hC hKW hW hS hA hL run
    · exact hE.elim
  · exact hE.elim
theorem so_copy (hK : ∀ pc ls st h, K pc ls st h → At M (d + 1) pc ls st h Q) (ho : mOwn M = 4) (hd : decode (mCode M) pc = .ok (.invokestatic 25, 3)) (hE : ab_copy K pc ls st h) : At M (d + 1) pc ls st h Q := by
  intro p l e s m args below meth c G A H locs sl hC hKW hW hS hA hL
  obtain ⟨w1, w2, w3, w4, -⟩ := wk_in
  unfold ab_copy at hE
  split at hE
  · next n dp b sp a r =>
    split at hE
    · next t0 n0 f hh0 =>
      split at hE
      · next t1 n1 g hh1 =>
        obtain ⟨hcat, rfl, rfl, h1, h2, h3, h4, h5, hE⟩ := hE
        have ha : a < G.1 := hW.lt hh0 (fun q => by cases q)
        have hb : b < G.1 := hW.lt hh1 (fun q => by cases q)
        have hcell0 : (cW G h)[a]? = some (G.2.1 a, .inl (G.2.2.1 0, n0, .inl f)) := by rw [cW_get ha, hh0]; rfl
        have hcell1 : (cW G h)[b]? = some (G.2.1 b, .inl (G.2.2.1 0, n1, .inl g)) := by rw [cW_get hb, hh1]; rfl
        have hnf : nativeFrameWords "java/lang/System" "arraycopy" 5 + 11 ≤ 50 := by decide +kernel
        refine va_copyi (D := G.2.2.2.1) (own := cn 4) (ty := .int) hC.1 hC.2.1 (hC.2.2.2.1.trans hL.1.symm) (by rw [← ho]; exact hC.2.2.2.2.1) (hC.2.2.2.2.2.1 _ (inT_mem w1)) (hC.2.2.2.2.2.1 _ (inT_mem w2)) (hC.2.2.2.2.2.1 _ (inT_mem w3)) (hC.2.2.2.2.2.1 _ (inT_mem w4)) hKW.1 hW.1 hW.2.1 hS a b 0 0 hcell0 hcell1 rfl rfl rfl h1 h2 h3 h4 h5 (fun _ _ => rfl) (by simp only [rmd]; omega) (by rw [catS_cV]; simp only [rmd]; omega) hd (fun H1 locs1 hP hD hS => ?_)
        exact hK _ _ _ _ hE p l e s m args below meth c G A H1 locs1 sl hC hKW (hW.up hb hP hD) hS hA hL
      · exact hE.elim
    · exact hE.elim
  · exact hE.elim
theorem so_max (hK : ∀ pc ls st h, K pc ls st h → At M (d + 1) pc ls st h Q) (ho : mOwn M = 10) (hd : decode (mCode M) pc = .ok (.invokestatic 252, 3)) (hE : ab_mx (fun x y => if x < y then y else x) K pc ls st h) : At M (d + 1) pc ls st h Q := by
  intro p l e s m args below meth c G A H locs sl hC hKW hW hS hA hL
  obtain ⟨-, -, -, -, w1, w2, w3, w4, -⟩ := wk_in
  unfold ab_mx at hE
  split at hE
  · next y x r =>
    exact va_mmax (own := cn 10) hC.1 hC.2.1 (hC.2.2.2.1.trans hL.1.symm) (by rw [← ho]; exact hC.2.2.2.2.1) (hC.2.2.2.2.2.1 _ (inT_mem w1)) (hC.2.2.2.2.2.1 _ (inT_mem w2)) (hC.2.2.2.2.2.1 _ (inT_mem w3)) (hC.2.2.2.2.2.1 _ (inT_mem w4)) (by simp only [rmd]; omega) (by rw [catS_cV]; simp only [rmd]; omega) (Nat.le_refl _) (Nat.le_refl _) hd (hK _ _ _ _ hE.2 p l e s m args below meth c G A H locs sl hC hKW hW hS hA hL)
  · exact hE.elim
theorem so_min (hK : ∀ pc ls st h, K pc ls st h → At M (d + 1) pc ls st h Q) (ho : mOwn M = 3) (hd : decode (mCode M) pc = .ok (.invokestatic 29, 3)) (hE : ab_mx (fun x y => if y < x then y else x) K pc ls st h) : At M (d + 1) pc ls st h Q := by
  intro p l e s m args below meth c G A H locs sl hC hKW hW hS hA hL
  obtain ⟨-, -, -, -, -, -, w3, -, w1, w2, w4⟩ := wk_in
  unfold ab_mx at hE
  split at hE
  · next y x r =>
    exact va_mmin (own := cn 3) hC.1 hC.2.1 (hC.2.2.2.1.trans hL.1.symm) (by rw [← ho]; exact hC.2.2.2.2.1) (hC.2.2.2.2.2.1 _ (inT_mem w1)) (hC.2.2.2.2.2.1 _ (inT_mem w2)) (hC.2.2.2.2.2.1 _ (inT_mem w3)) (hC.2.2.2.2.2.1 _ (inT_mem w4)) (by simp only [rmd]; omega) (by rw [catS_cV]; simp only [rmd]; omega) (Nat.le_refl _) (Nat.le_refl _) hd (hK _ _ _ _ hE.2 p l e s m args below meth c G A H locs sl hC hKW hW hS hA hL)
  · exact hE.elim
theorem so_ins (hK : ∀ pc ls st h, K pc ls st h → At M (d + 1) pc ls st h Q) {k : Nat} (hd : decode (mCode M) pc = .ok (.invokestatic k, 3)) (hE : ab_ins M d k K pc ls st h) : At M (d + 1) pc ls st h Q := by
  unfold ab_ins at hE
  split at hE
  · next kd M' hm =>
    split at hE
    · next as r hp =>
      intro p l e s m args below meth c G A H locs sl hC hKW hW hS hA hL
      obtain ⟨hk, hcat, hcall⟩ := hE
      obtain ⟨hst, hlen⟩ := popN_at hp
      obtain ⟨hmP, hl⟩ := ml_spec hm
      obtain ⟨m1, m2, m3, m5, m6, m7, m8⟩ := id hmP
      have hstack : (st.map (cV G.2.1)) = (as.map (cV G.2.1)).reverse ++ r.map (cV G.2.1) := by rw [hst]; simp
      have hpre : PreS s H (va_Pc (as.map (cV G.2.1)) (fun U => U.heap.size = H.size ∧ HW G (AW G H.size) h U.heap ∧ KW G (AW G H.size) U)) (as.map (cV G.2.1)) :=
        ⟨pc_blind, fun U hU hw => ⟨rfl, by rw [hU], by rw [hU]; exact hW.self _, hKW.to hW hS hA hw hU⟩⟩
      have hroom := rmd_room (n := mMax M') (d := d) m8
      rcases hk with rfl | rfl
      · obtain ⟨l1, l2⟩ := hl
        have run := va_runS (n := mArgs M') (cells := 0) (slots := 0) (locs := locs) (e := e) (below := below) (meth := meth) (g := F0 m pc sl (st.map (cV G.2.1))) (rest := r.map (cV G.2.1)) ⟨hC.1, hC.2.1, hC.2.2.2.1, hC.2.2.2.2.1, hC.2.2.2.2.2.1⟩ (hcall l G H.size)
          (va_cwS (own := cn (mOwn M)) (index := k) (mArgs M') hC.2.2.2.2.2.1 (tw_gi (fun w hw => by
            rcases List.mem_append.mp hw with hw | hw
            · simp only [List.mem_cons, List.not_mem_nil, or_false] at hw
              rcases hw with rfl | rfl | rfl
              · exact l1
              · exact l2
              · exact m2
            · exact mw_gi hmP w hw)) rfl rfl rfl ⟨m5, m6, m7⟩ hroom) hpre rfl (by rw [List.length_map]; exact hlen) hL.1 hstack (lv_room (by rw [catS_cV]; exact hcat)) hd ⟨Nat.le_refl _, Nat.le_refl _⟩
        exact so_after hK hC hKW hW hS hA hL run
      · obtain ⟨l1, l2⟩ := hl
        have run := va_runSN (host := "RoundWalks") (n := mArgs M') (cells := 0) (slots := 0) (locs := locs) (e := e) (below := below) (meth := meth) (g := F0 m pc sl (st.map (cV G.2.1))) (rest := r.map (cV G.2.1)) ⟨hC.1, hC.2.1, hC.2.2.2.1, hC.2.2.2.2.1, hC.2.2.2.2.2.1⟩ (hcall l G H.size)
          ⟨va_cnB (own := cn (mOwn M)) (index := k) (mArgs M') hC.2.2.2.2.2.1 (tw_gi (mw_gi hmP)) rfl rfl rfl (hKW.2.2.2 _ l1) (hC.2.2.2.2.2.1 _ m2) ⟨m5, m6, m7⟩ hroom, hC.2.2.2.2.2.1 _ l2, trivial⟩ hpre rfl (by rw [List.length_map]; exact hlen) hL.1 hstack (lv_room (by rw [catS_cV]; exact hcat)) hd ⟨Nat.le_refl _, Nat.le_refl _⟩
        exact so_after hK hC hKW hW hS hA hL run
    · exact hE.elim
  · split at hE
    · next q => obtain ⟨q1, rfl⟩ := q; exact so_copy hK q1 hd hE
    · split at hE
      · next q => obtain ⟨q1, rfl⟩ := q; exact so_max hK q1 hd hE
      · split at hE
        · next q => obtain ⟨q1, rfl⟩ := q; exact so_min hK q1 hd hE
        · exact hE.elim
end SC
