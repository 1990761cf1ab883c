/-! THE CLAIM OUT OF ONE WALK OF THE LAW'S BODY. Your part is whole_start (and what it stands on); all else here is the same for every law, but numbers. -/
def R_law : String := "RoundWalksLaw"
def lw_P (b : Addr) (xs : List Int32) (args : Array Value) (s : State) : Prop := args = #[.ref b] ∧ s.IntsAt b xs ∧ xs.length ≤ 3072 ∧ (Jvm.Cond.and given_1 narrow_1).before args s = true
def lw_Q (_ : Array Value) (s : State) (o : Outcome) (t : State) : Prop := o = .returned (some (.int 1)) ∧ Framed s o t [] 601024 7293034
def lw_Z (below : List Frame) (a : Array Value) (s : State) : State → Prop := fun t => ∃ o, t.status = .running ∧ Ended t below o ∧ lw_Q a s o t
/-- the law's own end, with 1 on the stack, nothing written that was there before, its room as the claim has it -/
theorem lw_ret {p : Program} {l : Launch} {e : Env} {s : State} {m : MethodId} {below : List Frame} {meth : Method} {c : Code} {b : Nat} (hx : p.tables.exec = Jvm.exec) (hb : c.code = code) (hr : meth.sig.returnType = ret) (hlocks : meth.locks = false) {pc : Nat} {H : Heap} {ls : Array Slot} (hdg : decode code pc = .ok (.ireturn, 1)) : W p l e room_1 s m #[Value.ref b] below meth c H [] 601024 7293034 (lw_Z below #[Value.ref b] s) (F0 m pc ls [.int 1]) := by
  intro T hT X
  obtain ⟨fs, hret, hrun, hended, hW, hframe⟩ := X.leave (v := some (.int 1)) (hlocks := hlocks) (fun h => by rw [hr] at h; cases h)
  have hmeth' : T.vm.method? m = some meth := X.method'
  refine ⟨T.setFrames fs, ?_, .returned (some (.int 1)), hrun, hended, rfl, ⟨_, rfl⟩, hW, hframe⟩
  jvm_step X.here [X.here.top, hx, hb, hdg, hmeth', hr, ret, narrow_b1]
  (try refine ⟨rfl, ?_⟩); (try refine ⟨rfl, ?_⟩)
  first | (intro acts; rw [hret _ acts rfl rfl rfl]) | rw [hret _ _ rfl rfl rfl]
  exact Steps.refl _
/-- what holds at the law's entry: the machine, the code, the tables' words (any of lw_tbl by 'hts w (by decide +kernel)'), the script of L ints xs at the cell b, what the Statement gives of the start (any of its parts by flat_of_before) -/
def lw_At (p : Program) (s : State) (m : MethodId) (meth : Method) (c : Code) (b L : Nat) (xs : Nat → Int32) : Prop :=
  p.tables.exec = Jvm.exec ∧ c.code = code ∧ meth.sig.returnType = ret ∧ c.maxLocals = 7 ∧ s.vm.findClass R_law = some m.cls ∧ (∀ w ∈ lw_tbl, w.before #[Value.ref b] s = true) ∧ va_X b L xs s s.heap ∧ b < s.heap.size ∧ meth.locks = false ∧ (Jvm.Cond.and given_1 narrow_1).before #[Value.ref b] s = true
/-! THE LAW AS A WALK OF THE MACHINE -/
def zL : ZT := fun _ s args below _ _ => lw_Z below args s
def bL (S : SCT) (N : Nat) : BT := fun _ l _ R s _ args _ _ _ G A cells slots => l.stackTraces = false ∧ KX A s ∧ ScO S G A s ∧ R = room_1 ∧ args = #[Value.ref (G.2.1 150)] ∧ cells + N ≤ 601024 ∧ slots + 6 * N ≤ 7293034 ∧ ∀ q, A q → s.heap.size ≤ q
theorem bL_sc {S : SCT} {N : Nat} {p : Program} {l : Launch} {e : Env} {R : Room} {s : State} {m : MethodId} {args : Array Value} {below : List Frame} {meth : Method} {c : Code} {G : GW} {A : Nat → Prop} {cells slots : Nat} (h : bL S N p l e R s m args below meth c G A cells slots) (_ : S.1 < 4000) : ScO S G A s := h.2.2.1
theorem AtX.weak {B B' : BT} {Z : ZT} {M : MI} {d pc : Nat} {ls ls' : LV} {st : List Value} {h : Hp} (hB : ∀ p l e R s m args below meth c G A cells slots, B p l e R s m args below meth c G A cells slots → B' p l e R s m args below meth c G A cells slots) (hl : ∀ (i : Nat) (v : Value), ls'[i]? = some (some v) → ls[i]? = some (some v)) (hat : AtX B' Z M d pc ls' st h) : AtX B Z M d pc ls st h := by
  intro p l e s m args below meth c G A H locs sl hC hKW hW hS hA hL R cells slots hRR hBB
  exact hat p l e s m args below meth c G A H locs sl hC hKW hW hS hA ⟨hL.1, hL.2.1, fun i v hi => hL.2.2 i v (hl i v hi)⟩ R cells slots hRR (hB _ _ _ _ _ _ _ _ _ _ _ _ _ _ hBB)
theorem bL_down {S : SCT} {N : Nat} : ∀ p l e R s m args below meth c G A cells slots, bL S (N + 1) p l e R s m args below meth c G A cells slots → bL S N p l e R s m args below meth c G A cells slots := by
  intro p l e R s m args below meth c G A cells slots h
  obtain ⟨a, b, c', d', e', f', g', i'⟩ := h
  exact ⟨a, b, c', d', e', by omega, by omega, i'⟩
theorem sL_true {S : SCT} {N d pc : Nat} {ls : LV} {h : Hp} (hd : decode cL_law pc = .ok (.ireturn, 1)) : AtX (bL S N) zL ML_law (d + 1) pc ls [.int (Int32.ofInt 1)] h := by
  intro p l e s m args below meth c G A H locs sl hC hKW hW hS hA hL R cells slots hRR hBB
  obtain ⟨-, -, -, rfl, rfl, c1, c2, hq⟩ := hBB
  exact va_forget (fun q hl => hq _ (hS.2.2 q hl)) (W.widen (k := 601024) (n := 7293034) (by omega) (by omega) (lw_ret hC.1 hC.2.1 hC.2.2.1 hC.2.2.2.2.2.2 hd))
theorem sL_call {S : SCT} {M : MI} {hh : List (Nat × Nat × Nat × Nat)} {N d pc k : Nat} {ls : LV} {as st r : List Value} {h : Hp}
    (hd : decode (mCode ML_law) pc = .ok (.invokestatic k, 3)) (hw : ∀ w ∈ ([Cond.methodLink RL k (mName M), Cond.static (mName M), Cond.initialized (mName M).cls, Cond.codeWith (mName M) (mCode M) (mMax M) (mRet M) hh] : List Cond), w ∈ tw) (hne : (mName M).cls ≠ "java/lang/invoke/MethodHandle" ∧ (mName M).cls ≠ "java/lang/invoke/VarHandle") (hpar : (parseMethodDescriptor (mName M).desc).map (fun d => d.parameters.length) = some (mArgs M)) (hmx : mMax M ≤ 40)
    (hst : st = as.reverse ++ r) (hlen : as.length = mArgs M) (hcat : catS r ≤ 8) (hret : mRet M = some .int)
    (hcall : CallH d M hh as h (fun v h' => AtX (bL S N) zL ML_law (d + 1) (pc + 3) ls (pushO v r) h')) : AtX (bL S (N + 1)) zL ML_law (d + 1) pc ls st h := by
  intro p l e s m args below meth c G A H locs sl hC hKW hW hS hA hL R cells slots hRR hBB
  obtain ⟨htr, hKX, hSc, hR, ha, c1, c2, hq⟩ := hBB
  have hstack : (st.map (cV G.2.1)) = (as.map (cV G.2.1)).reverse ++ r.map (cV G.2.1) := by rw [hst]; simp
  have hpre : PreS s H (va_Pc (as.map (cV G.2.1)) (fun U => U.heap.size = H.size ∧ HW G (AW G H.size) h U.heap ∧ KW G (AW G H.size) U ∧ KX (AW G H.size) U)) (as.map (cV G.2.1)) :=
    ⟨pcT_blind, fun U hU hw => ⟨rfl, by rw [hU], by rw [hU]; exact hW.self _, hKW.to hW hS hA hw hU, hKX.to hW hS hA hw hU⟩⟩
  have r1 : R.cells = 601024 := by rw [hR]; rfl
  have r2 : R.slots = 7293034 := by rw [hR]; rfl
  have hsub := aw_sub hW hS hA
  have run := vx_runSW (n := mArgs M) (cells := cells) (slots := slots) (locs := locs) (e := e) (below := below) (meth := meth) (g := F0 m pc sl (st.map (cV G.2.1))) (rest := r.map (cV G.2.1)) ⟨hC.1, hC.2.1, hC.2.2.2.1, hC.2.2.2.2.1, hC.2.2.2.2.2.1⟩ (hcall l htr G H.size)
    (vx_cwSW (own := cn (mOwn ML_law)) (index := k) (mArgs M) hC.2.2.2.2.2.1 (tw_gi (fun w hw' => by
      rcases List.mem_append.mp hw' with hw' | hw'
      · simp only [List.mem_cons, List.not_mem_nil, or_false] at hw'
        rcases hw' with rfl | rfl | rfl
        · exact hw (Cond.methodLink RL k (mName M)) (by simp)
        · exact hw _ (by simp)
        · exact hw _ (by simp)
      · rcases List.mem_cons.mp hw' with rfl | hw'
        · exact hw _ (by simp)
        · exact hw')) rfl rfl rfl ⟨hne.1, hne.2, hpar⟩ ⟨by have := hRR.1; show d + 1 ≤ R.frames; omega, by have := hRR.2.1; show 8 + (mMax M + 11) + 64 * d ≤ R.locals; omega⟩) hpre rfl (by rw [List.length_map]; exact hlen) hL.1 hstack (lv_room (by rw [catS_cV]; exact hcat)) hd ⟨by omega, by omega⟩
  rw [hret] at run
  have hRR1 : RM R (d + 1) (cells + 1) (slots + 6) := ⟨hRR.1, hRR.2.1, by omega, by omega⟩
  refine va_calli (a := (as.map (cV G.2.1)).toArray) run hS (fun q _ hq => hsub q hq) hsub (fun x u t H1 locs1 ht hvm hk hB _ _ hS1 => ?_)
  have hB' : HW G A u H1 := by
    have : HW G (AW G H.size) u t.heap := hB
    rw [ht] at this
    exact this.wide hsub
  exact hk p l e s m args below meth c G A H1 locs1 sl hC hKW hB' hS1 hA hL R (cells + 1) (slots + 6) hRR1 ⟨htr, hKX, hSc, hR, ha, by omega, by omega, hq⟩
theorem INV.o0 {h : Hp} (hI : INV h) : ∃ f, h 0 = rwo f := by
  obtain ⟨f, n, B, N, hs, I, sl, S, ls, tw, wl, WS, v, w, O, hC, m0, hN, o⟩ := hI
  exact ⟨f, hC.1⟩
theorem INV.o127 {h : Hp} (hI : INV h) : ∃ v w, h 127 = mo v w := by
  obtain ⟨f, n, B, N, hs, I, sl, S, ls, tw, wl, WS, v, w, O, hC, m0, hN, o⟩ := hI
  exact ⟨v, w, m0⟩
