/-! THINGS THAT ARE MADE: fields, calls, ends -/
theorem va_AOA.moved {t : FieldType} {u U : State} (hvm : u.vm.Alike U.vm) (h : va_AOA t u) : va_AOA t U := by
  obtain ⟨a, h⟩ := h
  refine ⟨a, ?_⟩
  have e := Cond.arrayOver_setVmC (args := a) (s := u) hvm (.array t)
  rw [← e] at h
  exact h
/-- arrays of refs can be made -/
def KO (s : State) : Prop := va_AO RX4 s ∧ va_AOA .int s ∧ va_AOA .long s
theorem KO.moved {u U : State} (hvm : u.vm.Alike U.vm) (h : KO u) : KO U := ⟨h.1.moved hvm, h.2.1.moved hvm, h.2.2.moved hvm⟩
def rmN (d mc ms : Nat) : Room := { frames := d, cells := mc, slots := ms, locals := 64 * d }
def xC : XT := fun _ _ s _ meth _ => KO s ∧ meth.name = "<init>"
/-- a constructor -/
def CallN (d mc ms : Nat) (M : MI) (as : List Value) (n0 : Nat) (h : Hp) (n1 : Nat) (Q : Hp → Prop) : Prop :=
  ∀ (l : Launch) (G : GW) (sz : Nat), G.1 = n0 → Met l (mName M) (wy M) (rmN d mc ms)
    (va_Pc (as.map (cV G.2.1)) (fun U => U.heap.size = sz ∧ HW G (AW G sz) h U.heap ∧ KW G (AW G sz) U ∧ KO U))
    (va_Qv (fun u : GW × Hp => ExtG G u.1 ∧ u.1.1 = n1 ∧ Q u.2) (fun u t => HW u.1 (AW G sz) u.2 t.heap) (AW G sz)) mc ms (AW G sz)
def zC (G0 : GW) (n1 : Nat) (Q : Hp → Prop) (mc ms : Nat) : ZT0 := fun _ s args below A => MQ below (va_Qv (fun u : GW × Hp => ExtG G0 u.1 ∧ u.1.1 = n1 ∧ Q u.2) (fun u t => HW u.1 A u.2 t.heap) A) args s mc ms A
theorem pcN_blind {as : List Value} {G : GW} {sz : Nat} {h : Hp} : FrameBlind (va_Pc (as.map (cV G.2.1)) (fun U => U.heap.size = sz ∧ HW G (AW G sz) h U.heap ∧ KW G (AW G sz) U ∧ KO U)) := by
  intro a U g mk q
  obtain ⟨q0, q1, qW, ⟨qK, qZ, qT, qN⟩, x1⟩ := q
  exact ⟨q0, q1, qW, ⟨va_K.moved (u := U) (U := U.calling g mk a) (Vm.Alike.refl U.vm) qK, va_Z.moved (u := U) (U := U.calling g mk a) (Vm.Alike.refl U.vm) qZ, va_T.moved (u := U) (U := U.calling g mk a) (Vm.Alike.refl U.vm) qT, nw_same (s := U) (U := U.calling g mk a) rfl qN⟩, KO.moved (u := U) (U := U.calling g mk a) (Vm.Alike.refl U.vm) x1⟩
theorem callN_of_at {d mc ms n0 n1 : Nat} {M : MI} {as : List Value} {h : Hp} {Q : Hp → Prop} {ls : LV} (hy : plainName (mName M).cls = true) (ho : (mName M).cls = cn (mOwn M)) (hnm : (mName M).name = "<init>") (hlen : (entL as).length ≤ mMax M) (hls : ls = entL as ++ List.replicate (mMax M - (entL as).length) none) (hat : ∀ G0 : GW, G0.1 = n0 → AtX (bN xC G0 n0 0 0 mc ms) (zg (zC G0 n1 Q mc ms)) M d 0 ls [] h) : CallN d mc ms M as n0 h n1 Q := by
  intro l G sz hn
  refine Met.ofW (cc := mCode M) (maxL := mMax M) (ret := mRet M) hy rfl ?_
  intro p e s m args below meth c s₁ B hml hv
  obtain ⟨rfl, hsz, hW, hKW, hKO⟩ := hv
  have hts := atoms_spec (ws := wy M) B.pre
  have hin : meth.name = "<init>" := ((name_of_methodNamed B.named B.method).1).trans hnm
  have hown : s.vm.findClass (cn (mOwn M)) = some m.cls := by
    have := findClass_of_methodNamed B.named
    rw [ho] at this
    exact this
  subst hsz
  have hl := ent_lh (G := G) hlen hls
  rw [lg_entry_eq]
  exact hat G hn p l e s m _ below meth c G (AW G s.heap.size) s.heap [] _ ⟨B.exec, B.bytes, B.returns, hml, hown, fun w hw => hts w (List.mem_cons_of_mem _ hw), B.notSynchronized⟩ hKW hW va_S.rf (fun q hq => Or.inr hq) hl (rmN d mc ms) 0 0 ⟨Nat.le_refl _, Nat.le_refl _, Nat.zero_le _, Nat.zero_le _⟩ ⟨ExtG.rf, hn, rfl, rfl, Nat.le_refl _, Nat.le_refl _, hKO, hin⟩
section SN2
variable {X : XT} {G0 : GW} {n kc ks mc ms : Nat} {Z : ZT0} {M : MI} {d pc : Nat} {ls : LV} {st : List Value} {h : Hp}
theorem sN_ret {n1 : Nat} {Q : Hp → Prop} (hd : decode (mCode M) pc = .ok (.return_, 1)) (hr : mRet M = none) (hcc : kc ≤ mc) (hss : ks ≤ ms) (hn : n = n1) (hQ : Q h) : AtX (bN X G0 n kc ks mc ms) (zg (zC G0 n1 Q mc ms)) M (d + 1) pc ls [] h := by
  intro p l e s m args below meth c G A H locs sl hC hKW hW hS hA hL R cells slots hRR hBB
  obtain ⟨hx, hnn, rfl, rfl, r1, r2, hX⟩ := hBB
  have hlk := hC.2.2.2.2.2.2
  have hr2 := hC.2.2.1
  rw [hr] at hr2
  exact W.widen (k := mc) (n := ms) hcc hss (W.vret hC.1 hC.2.1 hr2 (fun t ht hw => ⟨⟨(G, h), rfl, ⟨hx, hnn.trans hn, hQ⟩, by show HW _ _ _ _; rw [ht]; exact hW⟩, hS.F ht⟩) hS.2.2 hd)
theorem sN_putr {k ci kf t N a v : Nat} {C : String} {T : u_T} {ty : FieldType} {fs r : List Value} (hd : decode (mCode M) pc = .ok (.putfield k, 3)) (hf : fl (mOwn M) k = some (ci, kf, 0, t)) (hc : cls[ci]? = some (C, T, N)) (hfin : (T kf).2.2.2 = true) (hdecl : (T kf).1 = cn (mOwn M)) (hty : parseFieldDescriptor (T kf).2.2.1 = some ty) (hnar : ∀ q : Nat, narrow ty (.ref q) = .ref q ∧ fits ty (.ref q) = true) (hh : h a = .inr (ci, fs)) (hl : kf < fs.length) (hin : ∀ l R s args meth A, X l R s args meth A → meth.name = "<init>")
    (next : AtX (bN X G0 n kc ks mc ms) (zg Z) M (d + 1) (pc + 3) ls r (va_up h a (.inr (ci, fs.set kf (.ref v))))) : AtX (bN X G0 n kc ks mc ms) (zg Z) M (d + 1) pc ls (.ref v :: .ref a :: r) h := by
  intro p l e s m args below meth c G A H locs sl hC hKW hW hS hA hL R cells slots hRR hBB
  have hmn := hin _ _ _ _ _ _ hBB.2.2.2.2.2.2
  obtain ⟨C', T', N', c1, c2, c3, -⟩ := fl_spec hf
  obtain ⟨rfl, rfl, rfl⟩ : C' = C ∧ T' = T ∧ N' = N := by
    have := Option.some.inj (c1.symm.trans hc)
    simp only [Prod.mk.injEq] at this
    exact this
  have ha : a < G.1 := hW.lt hh (fun q => by cases q; simp [cls] at c1)
  have hcell : (cW G h)[a]? = some (G.2.1 a, .inr (ci, fs.map (cV G.2.1))) := by rw [cW_get ha, hh]; rfl
  obtain ⟨ty0, hty0, hnm⟩ := cls_ty _ (List.mem_of_getElem? c1)
  have hl2 : kf < (fs.map (cV G.2.1)).length := by rw [List.length_map]; exact hl
  rcases c3 with ⟨-, c3⟩ | ⟨q, -⟩
  · refine va_putF (D := G.2.2.2.1) hC.1 hC.2.1 hC.2.2.2.2.2.1 (cls_in c1) ty0 hty0 hnm hC.2.2.2.2.1 hKW.1 hW.1 hW.2.1 hS a hcell c1 kf c2 (hC.2.2.2.2.2.1 _ c3) (fun _ q => q) hfin hmn hdecl hty (hnar _).1 (hnar _).2 hl2 hd (fun H1 locs1 hP hD hS => ?_)
    rw [cE_set (kc := G.2.2.1)] at hP hD
    exact next p l e s m args below meth c G A H1 locs1 sl hC hKW (hW.up ha hP hD) hS hA hL R cells slots hRR hBB
  · exact absurd rfl q
theorem sN_obj {k : Nat} {a : Nat} {r : List Value} (hd : decode (mCode M) pc = .ok (.invokespecial k, 3)) (w1 : Cond.methodLink (cn (mOwn M)) k Lib.objectInit ∈ tw) (w2 : Cond.instanceMethod Lib.objectInit ∈ tw) (w3 : Cond.code Lib.objectInit ⟨#[0xb1]⟩ 1 none ∈ tw) (hcat : catS r ≤ 8)
    (next : AtX (bN X G0 n kc ks mc ms) (zg Z) M (d + 1) (pc + 3) ls r h) : AtX (bN X G0 n kc ks mc ms) (zg Z) M (d + 1) pc ls (.ref a :: r) h := by
  intro p l e s m args below meth c G A H locs sl hC hKW hW hS hA hL R cells slots hRR hBB
  refine W.objInit hC.1 hC.2.1 hC.2.2.2.2.1 (hC.2.2.2.2.2.1 _ w1) (hC.2.2.2.2.2.1 _ w2) (hC.2.2.2.2.2.1 _ w3) (g := F0 m pc sl ((Value.ref a :: r).map (cV G.2.1))) rfl (by show sl.size = _; rw [hL.1]; exact hC.2.2.2.1.symm) rfl hd (by have := hRR.1; omega) ?_ ?_
  · have := hRR.2.1
    show 2 * 0 + ((r.map (cV G.2.1)).map fun v => v.category).sum + 12 ≤ R.locals
    rw [catS_cV]
    omega
  · exact next p l e s m args below meth c G A H locs sl hC hKW hW hS hA hL R cells slots hRR hBB
theorem sN_aast {a v m' : Nat} {i : Nat} {f : Nat → Option Nat} {vs r : List Value} (hd : decode (mCode M) pc = .ok (.aastore, 1)) (ha : h a = ra 5 m' f) (hv : h v = .inr (4, vs)) (hi : i < m') (hm : m' < 1000)
    (next : AtX (bN X G0 n kc ks mc ms) (zg Z) M (d + 1) (pc + 1) ls r (va_up h a (ra 5 m' (va_up f i (some v))))) : AtX (bN X G0 n kc ks mc ms) (zg Z) M (d + 1) pc ls (.ref v :: .int (Int32.ofInt (i : Int)) :: .ref a :: r) h := by
  intro p l e s m args below meth c G A H locs sl hC hKW hW hS hA hL R cells slots hRR hBB
  have ha' : a < G.1 := hW.lt ha (fun q => by cases q)
  have hv' : v < G.1 := hW.lt hv (fun q => by simp at q)
  have hcell : (cW G h)[a]? = some (G.2.1 a, .inl (G.2.2.1 5, m', .inr (.inr (.inr (.inr (fun j => (f j).map G.2.1)))))) := by rw [cW_get ha', ha]; rfl
  have hcell2 : (cW G h)[v]? = some (G.2.1 v, .inr (4, vs.map (cV G.2.1))) := by rw [cW_get hv', hv]; rfl
  have hin : vp_in (Int32.ofInt (i : Int)) m' := by rw [oI_in (by omega) (by omega)]; omega
  refine va_astq (D := G.2.2.2.1) (cl := cls) (r := (RX4, TX4, 4)) hC.1 hC.2.1 hKW.1 hW.1 hW.2.1 hS a 5 v 4 hcell rfl hcell2 rfl hin hd (fun H1 locs1 hP hD hS1 => ?_)
  have he : (Sum.inl (G.2.2.1 5, m', .inr (.inr (.inr (.inr (va_up (fun j => (f j).map G.2.1) (Int32.ofInt (i : Int)).toNatClampNeg (some (G.2.1 v))))))) : va_E) = cE G.2.1 G.2.2.1 (ra 5 m' (va_up f i (some v))) := by
    have e9 : va_up (fun j => (f j).map G.2.1) (Int32.ofInt (i : Int)).toNatClampNeg (some (G.2.1 v)) = fun j => (va_up f i (some v) j).map G.2.1 := funext (fun j => by
      rw [ncl (by omega)]
      simp only [va_up]
      split <;> rfl)
    rw [e9]
    rfl
  rw [he] at hP hD
  exact next p l e s m args below meth c G A H1 locs1 sl hC hKW (hW.up ha' hP hD) hS1 hA hL R cells slots hRR hBB
theorem sN_ast {i w x : Nat} {r : List Value} {ins : Instr} (hins : (ins = .astore i ∧ w = 2) ∨ ∃ k : Fin 4, (k : Nat) = i ∧ ins = .astore_n k ∧ w = 1) (hd : decode (mCode M) pc = .ok (ins, w)) (hi : i < mMax M) (next : AtX (bN X G0 n kc ks mc ms) (zg Z) M (d + 1) (pc + w) (ab_st1 ls i (.ref x)) r h) : AtX (bN X G0 n kc ks mc ms) (zg Z) M (d + 1) pc ls (.ref x :: r) h := by
  intro p l e s m args below meth c G A H locs sl hC hKW hW hS hA hL R cells slots hRR hBB
  rcases hins with ⟨rfl, rfl⟩ | ⟨k, rfl, rfl, rfl⟩
  · exact lv_astore hC.1 hC.2.1 hd hL.has hi rfl (fun sl' hl' => next p l e s m args below meth c G A H locs sl' hC hKW hW hS hA (LH.st1 (v := .ref x) hl') R cells slots hRR hBB)
  · exact lv_astore_n hC.1 hC.2.1 hd rfl hL.has hi rfl (fun sl' hl' => next p l e s m args below meth c G A H locs sl' hC hKW hW hS hA (LH.st1 (v := .ref x) hl') R cells slots hRR hBB)
/-- a constructor is called -/
theorem sN_init {M' : MI} {k a n1 mc' ms' : Nat} {r : List Value} (hd : decode (mCode M) pc = .ok (.invokespecial k, 3)) (hmP : mP M') (hnm : (mName M').name = "<init>") (hr : mRet M' = none) (ha0 : mArgs M' = 0) (hi : Cond.instanceMethod (mName M') ∈ tw) (hlk : Cond.methodLink (cn (mOwn M)) k (mName M') ∈ tw ∨ Cond.methodLinkNest (cn (mOwn M)) k (mName M') "RoundWalks" ∈ nw)
    (hko : ∀ l R s args meth A, X l R s args meth A → KO s) (hls : ClL n ls) (hst : ClS n r) (hcat : catS r ≤ 8) (hcc : kc + mc' ≤ mc) (hss : ks + ms' ≤ ms)
    (hcall : CallN d mc' ms' M' [.ref a] n h n1 (fun h' => AtX (bN X G0 n1 (kc + mc') (ks + ms') mc ms) (zg Z) M (d + 1) (pc + 3) ls r h')) : AtX (bN X G0 n kc ks mc ms) (zg Z) M (d + 1) pc ls (.ref a :: r) h := by
  intro p l e s m args below meth c G A H locs sl hC hKW hW hS hA hL R cells slots hRR hBB
  obtain ⟨hx, hn, rfl, rfl, r1, r2, hX⟩ := hBB
  obtain ⟨m1, m2, m3, m5, m6, m7, m8⟩ := id hmP
  have hstack : ((Value.ref a :: r).map (cV G.2.1)) = ([] : List Value).reverse ++ .ref (G.2.1 a) :: r.map (cV G.2.1) := rfl
  have hpre : PreS s H (va_Pc (([.ref a] : List Value).map (cV G.2.1)) (fun U => U.heap.size = H.size ∧ HW G (AW G H.size) h U.heap ∧ KW G (AW G H.size) U ∧ KO U)) (.ref (G.2.1 a) :: []) :=
    ⟨pcN_blind, fun U hU hw => ⟨rfl, by rw [hU], by rw [hU]; exact hW.self _, hKW.to hW hS hA hw hU, (hko _ _ _ _ _ _ hX).moved hw.alike⟩⟩
  have hroom : (rmN d mc' ms').frames + 1 ≤ R.frames ∧ 8 + (mMax M' + 11) + (rmN d mc' ms').locals ≤ R.locals := ⟨by have := hRR.1; show d + 1 ≤ R.frames; omega, by have := hRR.2.1; show 8 + (mMax M' + 11) + 64 * d ≤ R.locals; omega⟩
  have hsub := aw_sub hW hS hA
  have fin : ∀ (run : va_Run p l e R s m args below meth c H locs cells slots mc' ms' (F0 m pc sl ((Value.ref a :: r).map (cV G.2.1))) (r.map (cV G.2.1)) (va_Qv (fun u : GW × Hp => ExtG G u.1 ∧ u.1.1 = n1 ∧ (fun h' => AtX (bN X G0 n1 (cells + mc') (slots + ms') mc ms) (zg Z) M (d + 1) (pc + 3) ls r h') u.2) (fun u t => HW u.1 (AW G H.size) u.2 t.heap) (AW G H.size) (Value.ref (G.2.1 a) :: []).toArray) (AW G H.size)), W p l e R s m args below meth c H locs cells slots (zg Z l s args below G A) (F0 m pc sl ((Value.ref a :: r).map (cV G.2.1))) := by
    intro run
    refine va_callv (a := (Value.ref (G.2.1 a) :: []).toArray) run hS (fun q _ hq => hsub q hq) hsub (fun u t H1 locs1 ht hvm hk hB _ _ hS1 => ?_)
    obtain ⟨k1, k2, k3⟩ := hk
    have hB' : HW u.1 A u.2 H1 := by
      have : HW u.1 (AW G H.size) u.2 t.heap := hB
      rw [ht] at this
      exact this.wide hsub
    subst hn
    have := k3 p l e s m args below meth c u.1 A H1 locs1 sl hC (hKW.ext k1) hB' hS1 hA (hL.ext k1.2.1 hls) R (cells + mc') (slots + ms') ⟨hRR.1, hRR.2.1, by omega, by omega⟩ ⟨hx.tr k1, k2, rfl, rfl, r1, r2, hX⟩
    rw [st_ext k1.2.1 hst] at this
    exact this
  have hpar : (parseMethodDescriptor (mName M').desc).map (fun d => d.parameters.length) = some 0 := by rw [← ha0]; exact m7
  rcases hlk with hlk | hlk
  · have cw := cwI (R := R) (own := cn (mOwn M)) (index := k) (rm := rmN d mc' ms') (mc := mc') (ms := ms') 0 hC.2.2.2.2.2.1 (tw_gi (mw_gi hmP)) (show wy M' = Cond.code (mName M') (mCode M') (mMax M') none :: tw by unfold wy; rw [hr]) rfl rfl (hC.2.2.2.2.2.1 _ m2) (hC.2.2.2.2.2.1 _ hlk) (hC.2.2.2.2.2.1 _ hi) hnm ⟨m5, m6, hpar⟩ hroom
    exact fin (va_runI (n := 0) (cells := cells) (slots := slots) (locs := locs) (e := e) (below := below) (meth := meth) (g := F0 m pc sl ((Value.ref a :: r).map (cV G.2.1))) (rest := r.map (cV G.2.1)) (As := []) (b := G.2.1 a) ⟨hC.1, hC.2.1, hC.2.2.2.1, hC.2.2.2.2.1, hC.2.2.2.2.2.1⟩ (hcall l G H.size hn) cw hpre rfl rfl hL.1 hstack (lv_room (by rw [catS_cV]; exact hcat)) hd ⟨by omega, by omega⟩)
  · have cw := va_cnB (R := R) (own := cn (mOwn M)) (index := k) (host := "RoundWalks") (ret := none) (rm := rmN d mc' ms') (mc := mc') (ms := ms') 0 hC.2.2.2.2.2.1 (tw_gi (mw_gi hmP)) (show wy M' = Cond.code (mName M') (mCode M') (mMax M') none :: tw by unfold wy; rw [hr]) rfl rfl (hKW.2.2.2 _ hlk) (hC.2.2.2.2.2.1 _ m2) ⟨m5, m6, hpar⟩ hroom
    exact fin (va_runIN (n := 0) (cells := cells) (slots := slots) (locs := locs) (e := e) (below := below) (meth := meth) (g := F0 m pc sl ((Value.ref a :: r).map (cV G.2.1))) (rest := r.map (cV G.2.1)) (As := []) (b := G.2.1 a) ⟨hC.1, hC.2.1, hC.2.2.2.1, hC.2.2.2.2.1, hC.2.2.2.2.2.1⟩ (hcall l G H.size hn) ⟨cw, hnm, hC.2.2.2.2.2.1 _ hi⟩ hpre rfl rfl hL.1 hstack (lv_room (by rw [catS_cV]; exact hcat)) hd ⟨by omega, by omega⟩)
end SN2
