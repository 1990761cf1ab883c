/-! METHODS THAT THROW, AND THE LAW'S OWN METHODS THAT CATCH -/
def NSE : String := "java/util/NoSuchElementException"
def rmT (d : Nat) : Room := { frames := d, cells := 1, slots := 6, locals := 64 * d }
def xstr : List (Nat × String) := [(139, "no such arc, or no such end of it"), (154, "no such point, or no such degree"), (184, "no such tree"), (193, "no walk of that rank"), (229, "no word of that rank")]
def xdc : List MethodName := [⟨"java/lang/RuntimeException", "<init>", "(Ljava/lang/String;)V"⟩, ⟨"java/lang/Exception", "<init>", "(Ljava/lang/String;)V"⟩, ⟨"java/lang/Throwable", "<init>", "(Ljava/lang/String;)V"⟩]
/-- what throwing rests on -/
def KX (A : Nat → Prop) (s : State) : Prop := vx_Zq Bundle.tN "UNASSIGNED_STACK" Bundle.steD A s s.heap ∧ vx_Zq Bundle.tN "SUPPRESSED_SENTINEL" Bundle.listD A s s.heap ∧ (∀ q ∈ xstr, ∃ sa, vk_R RX10 q.1 q.2 sa s) ∧ va_Nw (.castable NSE NSE) s ∧ ∀ x ∈ xdc, va_Nw (.declares x) s
theorem KX.to {G : GW} {A : Nat → Prop} {s U : State} {H : Heap} {locs : List Loc} {h : Hp} (hK : KX A s) (hW : HW G A h H) (hS : va_S A s.heap H locs) (hA : ∀ q, s.heap.size ≤ q → A q) (hw : s.WarmedH U.vm) (hU : U.heap = H) : KX (AW G H.size) U := by
  obtain ⟨h1, h2, h3, h6, h7⟩ := hK
  have hvm := hw.alike
  refine ⟨?_, ?_, fun q hq => ?_, va_Nw.warmC hw h6, fun x hx => va_Nw.warmD hw (h7 x hx)⟩
  · rw [hU]
    exact vx_Zq.moved hvm ((h1.kept (H1 := H) (fun a h4 h5 => hS.2.1 a h4 h5)).narrow (aw_sub hW hS hA))
  · rw [hU]
    exact vx_Zq.moved hvm ((h2.kept (H1 := H) (fun a h4 h5 => hS.2.1 a h4 h5)).narrow (aw_sub hW hS hA))
  · obtain ⟨sa, k⟩ := h3 q hq
    exact ⟨sa, vk_R.warm hw k⟩
theorem HW.grow {G : GW} {A : Nat → Prop} {h : Hp} {H H1 : Heap} (hW : HW G A h H) (hk : ∀ q : Nat, q < H.size → H1[q]? = H[q]?) : HW G A h H1 := ⟨hW.1.kept (fun k q hq => hk _ (vx_lt hW.1 hq)), hW.2.1, hW.2.2⟩
/-- a method that may throw -/
def CallT (d : Nat) (M : MI) (as : List Value) (h : Hp) (Q : QT) (X : Hp → Prop) : Prop :=
  ∀ (l : Launch), l.stackTraces = false → ∀ (G : GW) (sz : Nat), vx_Met l (mName M) (wy M) (rmT d)
    (va_Pc (as.map (cV G.2.1)) (fun U => U.heap.size = sz ∧ HW G (AW G sz) h U.heap ∧ KW G (AW G sz) U ∧ KX (AW G sz) U))
    (QC (mRet M) G (AW G sz) Q) (vx_X X (fun E u t => E = NSE ∧ BW G (AW G sz) u t) (AW G sz)) 1 6 (AW G sz)
theorem pcT_blind {as : List Value} {G : GW} {sz : Nat} {h : Hp} : FrameBlind (va_Pc (as.map (cV G.2.1)) (fun U => U.heap.size = sz ∧ HW G (AW G sz) h U.heap ∧ KW G (AW G sz) U ∧ KX (AW G sz) U)) := by
  intro a U g mk q
  obtain ⟨q0, q1, qW, ⟨qK, qZ, qT, qN⟩, x1, x2, x3, x4, x5⟩ := q
  exact ⟨q0, q1, qW, ⟨va_K.moved (u := U) (U := U.calling g mk a) (Vm.Alike.refl U.vm) qK, va_Z.moved (u := U) (U := U.calling g mk a) (Vm.Alike.refl U.vm) qZ, va_T.moved (u := U) (U := U.calling g mk a) (Vm.Alike.refl U.vm) qT, nw_same (s := U) (U := U.calling g mk a) rfl qN⟩, vx_Zq.moved (u := U) (U := U.calling g mk a) (Vm.Alike.refl U.vm) x1, vx_Zq.moved (u := U) (U := U.calling g mk a) (Vm.Alike.refl U.vm) x2, fun q hq => by
    obtain ⟨sa, k⟩ := x3 q hq
    exact ⟨sa, vk_R.same (u := U) (U := U.calling g mk a) rfl k⟩, va_tabs (A := #[]) (u := U) (U := U.calling g mk a) rfl rfl x4, fun x hx => va_tabs (A := #[]) (u := U) (U := U.calling g mk a) rfl rfl (x5 x hx)⟩
def bT : BT := fun _ l _ R s _ _ _ _ c _ A cells slots => l.stackTraces = false ∧ KX A s ∧ cells = 0 ∧ slots = 0 ∧ 1 ≤ R.cells ∧ 6 ≤ R.slots ∧ ∀ x ∈ c.exceptionTable.toList, False
def zT (M : MI) (Q : QT) (X : Hp → Prop) : ZT := fun _ s args below G A => vx_MQ below (QC (mRet M) G A Q) (vx_X X (fun E u t => E = NSE ∧ BW G A u t) A) args s 1 6 A
theorem bT_sc {p : Program} {l : Launch} {e : Env} {R : Room} {s : State} {m : MethodId} {args : Array Value} {below : List Frame} {meth : Method} {c : Code} {G : GW} {A : Nat → Prop} {cells slots : Nat} (_ : bT p l e R s m args below meth c G A cells slots) (h : ((4000, fun _ => 0) : SCT).1 < 4000) : ScO (4000, fun _ => 0) G A s := absurd h (by decide)
theorem ent_lh {G : GW} {as : List Value} {ls : LV} {n : Nat} (hlen : (entL as).length ≤ n) (hls : ls = entL as ++ List.replicate (n - (entL as).length) none) : LH G.2.1 ((lg_sl (as.map (cV G.2.1)) ++ List.replicate (n - (lg_sl (as.map (cV G.2.1))).length) Slot.unset).toArray) n ls := by
  have hlen2 : (lg_sl (as.map (cV G.2.1))).length ≤ n := by rw [ent_len]; exact hlen
  have hl := lv_entry (as.map (cV G.2.1)) (n := n) hlen2
  refine ⟨hl.1, hl.2.1, fun i v hi => ?_⟩
  have hi2 : (entL as)[i]? = some (some v) := by
    rw [hls] at hi
    by_cases hlt : i < (entL as).length
    · rwa [List.getElem?_append_left hlt] at hi
    · rw [List.getElem?_append_right (by omega)] at hi
      have := List.eq_of_mem_replicate (List.mem_of_getElem? hi)
      cases this
  have := hl.2.2 _ (ent_at G.2.1 as 0 i v hi2)
  simpa using this
theorem callT_of_at {M : MI} {d : Nat} {as : List Value} {h : Hp} {Q : QT} {X : Hp → Prop} {ls : LV} (hy : plainName (mName M).cls = true) (ho : (mName M).cls = cn (mOwn M)) (hlen : (entL as).length ≤ mMax M) (hls : ls = entL as ++ List.replicate (mMax M - (entL as).length) none) (hat : AtX bT (zT M Q X) M d 0 ls [] h) : CallT d M as h Q X := by
  intro l htr G sz
  refine vx_ofW (cc := mCode M) (maxL := mMax M) (ret := mRet M) hy rfl ?_
  intro p e s m args below meth c s₁ B hml htab hv
  obtain ⟨rfl, hsz, hW, hKW, hKX⟩ := hv
  have hts := atoms_spec (ws := wy M) B.pre
  have hown : s.vm.findClass (cn (mOwn M)) = some m.cls := by
    have := findClass_of_methodNamed B.named
    rw [ho] at this
    exact this
  subst hsz
  have hl := ent_lh (G := G) hlen hls
  rw [lg_entry_eq]
  exact hat p l e s m _ below meth c G (AW G s.heap.size) s.heap [] _ ⟨B.exec, B.bytes, B.returns, hml, hown, fun w hw => hts w (List.mem_cons_of_mem _ hw), B.notSynchronized⟩ hKW hW va_S.rf (fun q hq => Or.inr hq) hl (rmT d) 0 0 ⟨Nat.le_refl _, Nat.le_refl _, Nat.zero_le _, Nat.zero_le _⟩ ⟨htr, hKX, rfl, rfl, Nat.le_refl _, Nat.le_refl _, htab⟩
theorem sT_iret {M : MI} {d pc : Nat} {ls : LV} {h : Hp} {Q : QT} {X : Hp → Prop} {x : Int32} (hd : decode (mCode M) pc = .ok (.ireturn, 1)) (hr : mRet M = some .int) (hQ : Q (some (.int x)) h) : AtX bT (zT M Q X) M (d + 1) pc ls [.int x] h := by
  intro p l e s m args below meth c G A H locs sl hC hKW hW hS hA hL R cells slots hRR hBB
  obtain ⟨-, -, rfl, rfl, r1, r2, -⟩ := hBB
  have hlk := hC.2.2.2.2.2.2
  have hr2 := hC.2.2.1
  unfold zT
  rw [hr] at hr2 ⊢
  exact vx_ret (W.widen (k := 1) (n := 6) (by omega) (by omega) (W.iret hC.1 hC.2.1 hr2 (fun t ht hw => ⟨⟨x, h, rfl, hQ, by show HW _ _ _ _; rw [ht]; exact hW⟩, hS.F ht⟩) hS.2.2 hd))
theorem x_all : (Cond.classLink RX10 137 NSE :: Cond.initialized NSE :: nx_at RX10 141 NSE "java/lang/RuntimeException" 13 prog_22_method_4_code ["java/lang/Exception"]).all (fun w => (inT w || decide (w = .castable NSE NSE) || decide (w ∈ xdc.map Cond.declares)) && vx_ot w) = true := by decide +kernel
theorem x_in : ∀ w ∈ Cond.classLink RX10 137 NSE :: Cond.initialized NSE :: nx_at RX10 141 NSE "java/lang/RuntimeException" 13 prog_22_method_4_code ["java/lang/Exception"], ((w ∈ tw ∨ w = .castable NSE NSE) ∨ w ∈ xdc.map Cond.declares) ∧ vx_ot w = true := fun w hw => by
  have h1 := List.all_eq_true.mp x_all w hw
  simp only [Bool.and_eq_true, Bool.or_eq_true, decide_eq_true_eq] at h1
  exact ⟨h1.1.imp (fun z => z.imp inT_mem id) id, h1.2⟩
theorem sT_throw {M : MI} {d pc is : Nat} {tx : String} {ls : LV} {h : Hp} {Q : QT} {X : Hp → Prop} (ho : mOwn M = 10) (hq : (is, tx) ∈ xstr) (hd5 : 5 ≤ d)
    (d0 : decode (mCode M) pc = .ok (.new 137, 3)) (d3 : decode (mCode M) (pc + 3) = .ok (.dup, 1)) (d4 : decode (mCode M) (pc + 4) = .ok (.ldc is, 2)) (d6 : decode (mCode M) (pc + 6) = .ok (.invokespecial 141, 3)) (d9 : decode (mCode M) (pc + 9) = .ok (.athrow, 1)) (hX : X h) : AtX bT (zT M Q X) M (d + 1) pc ls [] h := by
  intro p l e s m args below meth c G A H locs sl hC hKW hW hS hA hL R cells slots hRR hBB
  obtain ⟨htr, ⟨k1, k2, k3, k4, k5⟩, rfl, rfl, r1, r2, htab⟩ := hBB
  obtain ⟨sa, hstr⟩ := k3 _ hq
  have hown : s.vm.findClass RX10 = some m.cls := by
    have := hC.2.2.2.2.1
    rw [ho] at this
    exact this
  have hw : ∀ w ∈ Cond.classLink RX10 137 NSE :: Cond.initialized NSE :: nx_at RX10 141 NSE "java/lang/RuntimeException" 13 prog_22_method_4_code ["java/lang/Exception"], w.before args s = true := fun w q => by
    rcases (x_in w q).1 with (c | c) | c
    · exact hC.2.2.2.2.2.1 w c
    · rw [c]; exact va_tabs (A := #[]) (u := s) (U := s) rfl rfl k4
    · obtain ⟨x, hx, rfl⟩ := List.mem_map.mp c
      exact va_tabs (A := #[]) (u := s) (U := s) rfl rfl (k5 x hx)
  unfold zT
  refine nx_throw (own := RX10) (cls := NSE) (Y1 := "java/lang/RuntimeException") (text := tx) (names := ["java/lang/Exception"]) (ix := 13) (rx := prog_22_method_4_code) (ik := 137) (is := is) (ic := 141) (sa := sa) (A := A) hC.1 hC.2.1 htr (by decide +kernel) (by decide +kernel) (by decide +kernel) (by decide +kernel) (by decide +kernel) hown (by decide +kernel) (by decide +kernel) (hw _ List.mem_cons_self) (hw _ (List.mem_cons_of_mem _ List.mem_cons_self)) hstr (fun w q => hw w (List.mem_cons_of_mem _ (List.mem_cons_of_mem _ q))) (fun w q => (x_in w q).2) k1 k2 hS (by rw [hL.1]; exact hC.2.2.2.1.symm) d0 d3 d4 d6 d9 (fun x hx => (htab x hx).elim) ?_ ?_ (by omega) (by omega) hC.2.2.2.2.2.2 ?_ hS.2.2 (by omega) (by omega)
  · have := hRR.1
    show 1 + 4 < R.frames
    omega
  · have := hRR.2.1
    show 0 + (13 * (1 + 2) + 43) ≤ R.locals
    omega
  · intro t hvm hsz hkeep
    refine ⟨h, hX, ⟨rfl, ?_⟩, ?_⟩
    · show HW G A h t.heap
      exact hW.grow hkeep
    · exact ⟨Nat.le_trans hS.1 hsz, fun q h1 h2 => (hkeep q (Nat.lt_of_lt_of_le h1 hS.1)).trans (hS.2.1 q h1 h2)⟩
