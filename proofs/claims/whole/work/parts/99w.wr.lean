/-! THE LAW'S OWN METHODS: they call what throws, and catch it -/
def wyH (M : MI) (hh : List (Nat × Nat × Nat × Nat)) : List Cond := .codeWith (mName M) (mCode M) (mMax M) (mRet M) hh :: tw
def CallH (d : Nat) (M : MI) (hh : List (Nat × Nat × Nat × Nat)) (as : List Value) (h : Hp) (Q : QT) : Prop :=
  ∀ (l : Launch), l.stackTraces = false → ∀ (G : GW) (sz : Nat), Met l (mName M) (wyH M hh) (rmT d)
    (va_Pc (as.map (cV G.2.1)) (fun U => U.heap.size = sz ∧ HW G (AW G sz) h U.heap ∧ KW G (AW G sz) U ∧ KX (AW G sz) U))
    (QC (mRet M) G (AW G sz) Q) 1 6 (AW G sz)
theorem mt_ofWH {l : Launch} {y : MethodName} {ws ws' : List Cond} {rm : Room} {Pc : Array Value → State → Prop} {Qc : Array Value → State → Outcome → State → Prop} {mc ms : Nat} {free : Addr → Prop} {cc : ByteArray} {maxL : Nat} {ret : Option FieldType} {hh : List (Nat × Nat × Nat × Nat)}
    (hy : plainName y.cls = true) (hw : ws = Cond.codeWith y cc maxL ret hh :: ws')
    (body : ∀ p e s m args below meth c s₁, BodyLoose p l y (headSpec ws rm) cc maxL ret e s m args below meth c s₁ → c.maxLocals = maxL → Pc args s →
      W p l e (headSpec ws rm).room s m args below meth c s.heap [] 0 0 (MQ below Qc args s mc ms free) (entryFrame m args maxL)) : Met l y ws rm Pc Qc mc ms free := by
  refine MetFree.of_bodyS (code := cc) (maxLocals := maxL) (ret := ret) hy ?_ ?_
  · intro args s m h hn
    obtain ⟨m9, meth, c, hn9, h1, h2, h3, h4, -, h5, h6, -⟩ := Cond.codeWith_spec (atoms_spec (ws := ws) h _ (by rw [hw]; exact List.mem_cons_self))
    cases hn.symm.trans hn9
    exact ⟨meth, c, h1, h2, h3, h4, h5, h6⟩
  · intro p e s m args below meth c s₁ B hml hP _
    have hh0 : s₁.heap = s.heap := by rw [B.state]; rfl
    obtain ⟨t, a1, o, b1, b2, b3⟩ := body p e s m args below meth c s₁ B hml hP s₁ hh0 (Stand.of_body B)
    exact ⟨t, o, a1, b1, b2, ⟨b3.1, b3.2⟩⟩
def bW (hh : List (Nat × Nat × Nat × Nat)) (k : Nat) : BT := fun _ l _ R s _ _ _ _ c _ A cells slots => l.stackTraces = false ∧ KX A s ∧ cells = k ∧ slots = 6 * k ∧ 1 ≤ R.cells ∧ 6 ≤ R.slots ∧ c.exceptionTable.toList = tableOf hh
def zW (M : MI) (Q : QT) : ZT := fun _ s args below G A => MQ below (QC (mRet M) G A Q) args s 1 6 A
theorem bW_sc {hh : List (Nat × Nat × Nat × Nat)} {k : Nat} {p : Program} {l : Launch} {e : Env} {R : Room} {s : State} {m : MethodId} {args : Array Value} {below : List Frame} {meth : Method} {c : Code} {G : GW} {A : Nat → Prop} {cells slots : Nat} (_ : bW hh k p l e R s m args below meth c G A cells slots) (h : ((4000, fun _ => 0) : SCT).1 < 4000) : ScO (4000, fun _ => 0) G A s := absurd h (by decide)
theorem callH_of_at {M : MI} {hh : List (Nat × Nat × Nat × Nat)} {d : Nat} {as : List Value} {h : Hp} {Q : QT} {ls : LV} (hy : plainName (mName M).cls = true) (ho : (mName M).cls = cn (mOwn M)) (hlen : (entL as).length ≤ mMax M) (hls : ls = entL as ++ List.replicate (mMax M - (entL as).length) none) (hat : AtX (bW hh 0) (zW M Q) M d 0 ls [] h) : CallH d M hh as h Q := by
  intro l htr G sz
  refine mt_ofWH (cc := mCode M) (maxL := mMax M) (ret := mRet M) (hh := hh) hy rfl ?_
  intro p e s m args below meth c s₁ B hml hv
  obtain ⟨rfl, hsz, hW, hKW, hKX⟩ := hv
  have hts := atoms_spec (ws := wyH M hh) B.pre
  have htab := vx_table (x := mName M) B (hts _ List.mem_cons_self)
  have hown : s.vm.findClass (cn (mOwn M)) = some m.cls := by
    have := findClass_of_methodNamed B.named
    rw [ho] at this
    exact this
  subst hsz
  have hl := ent_lh (G := G) hlen hls
  rw [lg_entry_eq]
  exact hat p l e s m _ below meth c G (AW G s.heap.size) s.heap [] _ ⟨B.exec, B.bytes, B.returns, hml, hown, fun w hw => hts w (List.mem_cons_of_mem _ hw), B.notSynchronized⟩ hKW hW va_S.rf (fun q hq => Or.inr hq) hl (rmT d) 0 0 ⟨Nat.le_refl _, Nat.le_refl _, Nat.zero_le _, Nat.zero_le _⟩ ⟨htr, hKX, rfl, rfl, Nat.le_refl _, Nat.le_refl _, htab⟩
theorem sW_iret {M : MI} {hh : List (Nat × Nat × Nat × Nat)} {d pc k : Nat} {ls : LV} {h : Hp} {Q : QT} {x : Int32} (hk : k ≤ 1) (hd : decode (mCode M) pc = .ok (.ireturn, 1)) (hr : mRet M = some .int) (hQ : Q (some (.int x)) h) : AtX (bW hh k) (zW M Q) M (d + 1) pc ls [.int x] h := by
  intro p l e s m args below meth c G A H locs sl hC hKW hW hS hA hL R cells slots hRR hBB
  obtain ⟨-, -, rfl, rfl, r1, r2, -⟩ := hBB
  have hlk := hC.2.2.2.2.2.2
  have hr2 := hC.2.2.1
  unfold zW
  rw [hr] at hr2 ⊢
  exact W.widen (k := 1) (n := 6) (by omega) (by omega) (W.iret hC.1 hC.2.1 hr2 (fun t ht hw => ⟨⟨x, h, rfl, hQ, by show HW _ _ _ _; rw [ht]; exact hW⟩, hS.F ht⟩) hS.2.2 hd)
theorem sW_call {M M' : MI} {hh : List (Nat × Nat × Nat × Nat)} {d pc k b : Nat} {ls : LV} {as st r fs : List Value} {h : Hp} {Q : QT} {x : ExceptionTableEntry}
    (hd : decode (mCode M) pc = .ok (.invokevirtual k, 3)) (hm : ml (mOwn M) k = some (0, M')) (hst : st = as.reverse ++ .ref b :: r) (hlen : as.length = mArgs M') (hb : h b = .inr (mOwn M', fs)) (hcat : catS r ≤ 8) (hret : mRet M' = some .int)
    (hhs : tableOf hh = [x]) (hcov : covers x pc = true) (hx0 : x.catchType ≠ 0) (hlink : Cond.classLink (cn (mOwn M)) x.catchType NSE ∈ tw) (hast : decode (mCode M) x.handlerPc = .ok (.astore 4, 2)) (h4 : 4 < mMax M)
    (hcall : CallT d M' (.ref b :: as) h (fun v h' => AtX (bW hh 1) (zW M Q) M (d + 1) (pc + 3) ls (pushO v r) h') (fun h' => AtX (bW hh 1) (zW M Q) M (d + 1) (x.handlerPc + 2) [] [] h')) : AtX (bW hh 0) (zW M Q) M (d + 1) pc ls st h := by
  intro p l e s m args below meth c G A H locs sl hC hKW hW hS hA hL R cells slots hRR hBB
  obtain ⟨htr, hKX, rfl, rfl, r1, r2, htab⟩ := hBB
  obtain ⟨hmP, hl⟩ := ml_spec hm
  obtain ⟨m1, m2, m3, m5, m6, m7, m8⟩ := id hmP
  obtain ⟨l1, l2, l3, hl4⟩ := hl
  obtain ⟨q, hq1, hq2⟩ := Option.map_eq_some_iff.mp hl4
  have hbl : b < G.1 := hW.lt hb (fun z => by simp only [Sum.inr.injEq, Prod.mk.injEq] at z; rw [z.1] at hq1; simp [cls] at hq1)
  have hcell : (cW G h)[b]? = some (G.2.1 b, .inr (mOwn M', fs.map (cV G.2.1))) := by rw [cW_get hbl, hb]; rfl
  have hrecv := va_recv hKW.1 hW.1 hq1 hcell
  rw [hq2] at hrecv
  have hstack : (st.map (cV G.2.1)) = (as.map (cV G.2.1)).reverse ++ .ref (G.2.1 b) :: r.map (cV G.2.1) := by rw [hst]; simp [cV]
  have hpre : PreV s H (mName M').cls (G.2.1 b) (va_Pc ((Value.ref b :: as).map (cV G.2.1)) (fun U => U.heap.size = H.size ∧ HW G (AW G H.size) h U.heap ∧ KW G (AW G H.size) U ∧ KX (AW G H.size) U)) (as.map (cV G.2.1)) :=
    ⟨pcT_blind, hrecv, fun U hU hw => ⟨rfl, by rw [hU], by rw [hU]; exact hW.self _, hKW.to hW hS hA hw hU, hKX.to hW hS hA hw hU⟩⟩
  have hroom := rmx_room (n := mMax M') (d := d) m8 hRR
  have hsub := aw_sub hW hS hA
  have run := vx_runV (n := mArgs M') (cells := 0) (slots := 6 * 0) (locs := locs) (e := e) (below := below) (meth := meth) (g := F0 m pc sl (st.map (cV G.2.1))) (rest := r.map (cV G.2.1)) ⟨hC.1, hC.2.1, hC.2.2.2.1, hC.2.2.2.2.1, hC.2.2.2.2.2.1⟩ (hcall l htr G H.size)
    (cwV (own := cn (mOwn M)) (index := k) (C := (mName M').cls) (mArgs M') hC.2.2.2.2.2.1 (tw_gi (fun w hw => by
      rcases List.mem_append.mp hw with hw | hw
      · simp only [List.mem_cons, List.not_mem_nil, or_false] at hw
        rcases hw with rfl | rfl | rfl | rfl
        · exact l1
        · exact l2
        · exact l3
        · exact m2
      · exact mw_gi hmP w hw)) rfl rfl rfl ⟨rfl, m5, m6, m7⟩ hroom) hpre rfl (by rw [List.length_map]; exact hlen) hL.1 hstack (lv_room (by rw [catS_cV]; exact hcat)) hd ⟨by show 0 + 1 ≤ R.cells; omega, by show 6 * 0 + 6 ≤ R.slots; omega⟩
  rw [hret] at run
  have hRR1 : RM R (d + 1) 1 6 := ⟨hRR.1, hRR.2.1, r1, r2⟩
  refine vx_calli (a := ((Value.ref (G.2.1 b)) :: as.map (cV G.2.1)).toArray) run hS (fun q _ hq => hsub q hq) hsub (fun q _ hq => hsub q hq) ?_ ?_
  · intro E ce q9 u t H1 locs1 ht hvm hX hB _ _ hS1 hce hcv hcl
    obtain ⟨rfl, hB⟩ := hB
    have hB' : HW G A u H1 := by
      have : HW G (AW G H.size) u t.heap := hB
      rw [ht] at this
      exact this.wide hsub
    refine vx_catch (own := cn (mOwn M)) (name := NSE) hC.2.2.2.2.1 [] x [] (by rw [htab, hhs]; rfl) (fun z hz => nomatch hz) hcov hx0 (hC.2.2.2.2.2.1 _ hlink) (va_tabs (A := #[]) (u := s) (U := s) rfl rfl hKX.2.2.2.1) hce hcv hcl ?_
    exact lv_astore hC.1 hC.2.1 hast hL.has h4 rfl (fun sl' hl' => hX p l e s m args below meth c G A H1 locs1 sl' hC hKW hB' hS1 hA ⟨hl'.1, hl'.2.1, fun i v hi => by simp at hi⟩ R 1 6 hRR1 ⟨htr, hKX, rfl, rfl, r1, r2, htab⟩)
  · intro y u t H1 locs1 ht hvm hk hB _ _ hS1
    have hB' : HW G A u H1 := by
      have : HW G (AW G H.size) u t.heap := hB
      rw [ht] at this
      exact this.wide hsub
    exact hk p l e s m args below meth c G A H1 locs1 sl hC hKW hB' hS1 hA hL R 1 6 hRR1 ⟨htr, hKX, rfl, rfl, r1, r2, htab⟩
theorem link13 : Cond.classLink (cn 14) 13 NSE ∈ tw := inT_mem (by decide +kernel)
