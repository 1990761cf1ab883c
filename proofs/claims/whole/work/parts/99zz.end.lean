theorem ex_ref {args : Array Value} {s : State} {t : Term} {C : String} (h : (Cond.exactly t C).before args s = true) : ∃ a, t.eval args s none [] s = some (.ref a) := by
  cases hv : t.eval args s none [] s with
  | none => simp [Cond.before, Cond.holds, Cond.value, hv] at h
  | some w =>
    cases w with
    | ref a => exact ⟨a, rfl⟩
    | null =>
      simp only [Cond.before, Cond.holds, Cond.value, hv] at h
      cases hf : s.vm.findClass C <;> simp [hf] at h
    | _ => simp [Cond.before, Cond.holds, Cond.value, hv] at h
theorem tw_tbl {w : Cond} (h : w ∈ tw) : w ∈ lw_tbl := (List.mem_filter.mp h).1
theorem whole_start {p : Program} {e : Env} {s : State} {m : MethodId} {below : List Frame} {meth : Method} {c : Code} (l : Launch) (hflags : l.flags = flags0) {b L : Nat} {xs : Nat → Int32} (hL : L ≤ 3072) (C0 : lw_At p s m meth c b L xs) : W p l e room_1 s m #[Value.ref b] below meth c s.heap [] 0 0 (lw_Z below #[Value.ref b] s) (entryFrame m ([Value.ref b] : List Value).toArray 7) := by
  obtain ⟨hx, hb, hr, hml, hown, hts, hX, hbl, hlocks, hgv⟩ := id C0
  have hA : ∀ a : Nat, a < s.heap.size → ¬ (fun q : Nat => s.heap.size ≤ q) a := fun a h => Nat.not_le.mpr h
  have hnr := flat_of_before _ hgv
  have hcl : ∀ (k : Nat) (q : vw_C), cls[k]? = some q → ∃ (c : ClassId) (i : Nat → Nat), u_Kn s q.1 q.2.1 q.2.2 c i := by
    intro k q hq
    match k, hq with
    | 0, hq => cases hq; obtain ⟨c0, i0, k0⟩ := u_known (C := RX0) (T := TX0) (N := 4) (n := 4) hts (fun w hw => tw_tbl (cls_in (ci := 0) rfl w hw)) (hts (.instantiable RX0 4) (by decide +kernel)); exact ⟨c0, i0, k0⟩
    | 1, hq => cases hq; obtain ⟨c0, i0, k0⟩ := u_known (C := RX1) (T := TX1) (N := 1) (n := 1) hts (fun w hw => tw_tbl (cls_in (ci := 1) rfl w hw)) (hts (.instantiable RX1 1) (by decide +kernel)); exact ⟨c0, i0, k0⟩
    | 2, hq => cases hq; obtain ⟨c0, i0, k0⟩ := u_known (C := RX2) (T := TX2) (N := 6) (n := 6) hts (fun w hw => tw_tbl (cls_in (ci := 2) rfl w hw)) (hts (.instantiable RX2 6) (by decide +kernel)); exact ⟨c0, i0, k0⟩
    | 3, hq => cases hq; obtain ⟨c0, i0, k0⟩ := u_known (C := RX3) (T := TX3) (N := 3) (n := 3) hts (fun w hw => tw_tbl (cls_in (ci := 3) rfl w hw)) (hts (.instantiable RX3 3) (by decide +kernel)); exact ⟨c0, i0, k0⟩
    | 4, hq => cases hq; obtain ⟨c0, i0, k0⟩ := u_known (C := RX4) (T := TX4) (N := 4) (n := 4) hts (fun w hw => tw_tbl (cls_in (ci := 4) rfl w hw)) (hts (.instantiable RX4 4) (by decide +kernel)); exact ⟨c0, i0, k0⟩
    | 5, hq => cases hq; obtain ⟨c0, i0, k0⟩ := u_known (C := RX5) (T := TX5) (N := 7) (n := 7) hts (fun w hw => tw_tbl (cls_in (ci := 5) rfl w hw)) (hts (.instantiable RX5 7) (by decide +kernel)); exact ⟨c0, i0, k0⟩
    | 6, hq => cases hq; obtain ⟨c0, i0, k0⟩ := u_known (C := RX6) (T := TX6) (N := 9) (n := 9) hts (fun w hw => tw_tbl (cls_in (ci := 6) rfl w hw)) (hts (.instantiable RX6 9) (by decide +kernel)); exact ⟨c0, i0, k0⟩
    | 7, hq => cases hq; obtain ⟨c0, i0, k0⟩ := u_known (C := RX7) (T := TX7) (N := 2) (n := 2) hts (fun w hw => tw_tbl (cls_in (ci := 7) rfl w hw)) (hts (.instantiable RX7 2) (by decide +kernel)); exact ⟨c0, i0, k0⟩
    | 8, hq => cases hq; obtain ⟨c0, i0, k0⟩ := u_known (C := RX8) (T := TX8) (N := 1) (n := 1) hts (fun w hw => tw_tbl (cls_in (ci := 8) rfl w hw)) (hts (.instantiable RX8 1) (by decide +kernel)); exact ⟨c0, i0, k0⟩
    | 9, hq => cases hq; obtain ⟨c0, i0, k0⟩ := u_known (C := RX9) (T := TX9) (N := 7) (n := 7) hts (fun w hw => tw_tbl (cls_in (ci := 9) rfl w hw)) (hts (.instantiable RX9 7) (by decide +kernel)); exact ⟨c0, i0, k0⟩
    | 10, hq => cases hq; obtain ⟨c0, i0, k0⟩ := u_known (C := RX10) (T := TX10) (N := 12) (n := 12) hts (fun w hw => tw_tbl (cls_in (ci := 10) rfl w hw)) (hts (.instantiable RX10 12) (by decide +kernel)); exact ⟨c0, i0, k0⟩
    | 11, hq => cases hq; obtain ⟨c0, i0, k0⟩ := u_known (C := RX11) (T := TX11) (N := 38) (n := 38) hts (fun w hw => tw_tbl (cls_in (ci := 11) rfl w hw)) (hts (.instantiable RX11 38) (by decide +kernel)); exact ⟨c0, i0, k0⟩
    | k + 12, hq => simp [cls] at hq
  have hcl2 : ∀ k : Nat, ∃ (c : ClassId) (i : Nat → Nat), ∀ q : vw_C, cls[k]? = some q → u_Kn s q.1 q.2.1 q.2.2 c i := fun k => by
    cases hq : cls[k]? with
    | none => exact ⟨0, fun _ => 0, fun q h => by cases h⟩
    | some q0 =>
      obtain ⟨c, i, h1⟩ := hcl k q0 hq
      exact ⟨c, i, fun q h => by cases h; exact h1⟩
  obtain ⟨D, hD⟩ : ∃ D : va_G, ∀ (k : Nat) (q : vw_C), cls[k]? = some q → u_Kn s q.1 q.2.1 q.2.2 (D.1 k) (D.2 k) := ⟨(fun k => (hcl2 k).choose, fun k => (hcl2 k).choose_spec.choose), fun k q hq => (hcl2 k).choose_spec.choose_spec q hq⟩
  have arrP : ∀ ty : FieldType, (∀ C, ty ≠ .object C) → (Cond.arrayClass ty).before #[Value.ref b] s = true → ∃ cA, ArrOfT s cA ty ∧ va_RA s cA ty := fun ty hno h => by
    obtain ⟨cA, kA, comp, f1, f2, f3⟩ := Cond.arrayClass_spec h
    refine ⟨cA, fun N z => ⟨(fun k h => by cases h), kA, f2, comp, f3⟩, ?_⟩
    cases ty with
    | object C => exact absurd rfl (hno C)
    | _ => exact f1
  have arrA : ∀ ty : FieldType, (Cond.arrayOver (.array ty)).before #[Value.ref b] s = true → ∃ cA, ArrOfT s cA (.array ty) ∧ va_RA s cA (.array ty) := fun ty h => by
    obtain ⟨comp, cA, kA, f0, -, f2, f3, f1⟩ := arrayOverA_spec h
    exact ⟨cA, fun N z => ⟨(fun k h => by cases h), kA, f2, comp, f3⟩, f1⟩
  have ho5 : (Cond.arrayOver (.object RX4)).before #[Value.ref b] s = true := hts _ (by decide +kernel)
  have ho3 : (Cond.arrayOver (.array .int)).before #[Value.ref b] s = true := hts _ (by decide +kernel)
  have ho4 : (Cond.arrayOver (.array .long)).before #[Value.ref b] s = true := hts _ (by decide +kernel)
  obtain ⟨k0, a0⟩ := arrP .int (fun C h => by cases h) (hts _ (by decide +kernel))
  obtain ⟨k1, a1⟩ := arrP .long (fun C h => by cases h) (hts _ (by decide +kernel))
  obtain ⟨k2, a2⟩ := arrP .boolean (fun C h => by cases h) (hts _ (by decide +kernel))
  obtain ⟨k3, a3⟩ := arrA .int ho3
  obtain ⟨k4, a4⟩ := arrA .long ho4
  obtain ⟨k5, a5⟩ : ∃ cA, ArrOfT s cA (.object "RoundWalks$Net") ∧ va_RA s cA (.object "RoundWalks$Net") := by
    obtain ⟨comp, cA, kA, f0, -, f2, f3, f1⟩ := Cond.arrayOver_spec ho5
    exact ⟨cA, fun N z => ⟨(fun k h => by cases h), kA, f2, comp, f3⟩, kA, comp, f2, f3, f0, f1⟩
  obtain ⟨kc, hkc⟩ : ∃ kc : Nat → ClassId, kc 0 = k0 ∧ kc 1 = k1 ∧ kc 2 = k2 ∧ kc 3 = k3 ∧ kc 4 = k4 ∧ kc 5 = k5 := ⟨fun i => [k0, k1, k2, k3, k4, k5].getD i 0, rfl, rfl, rfl, rfl, rfl, rfl⟩
  obtain ⟨e0, e1, e2, e3, e4, e5⟩ := hkc
  have hK : va_K D cls (tysL kc) s := by
    refine ⟨hD, fun k q hq => ?_⟩
    match k, hq with
    | 0, hq => cases hq; rw [e0]; exact a0
    | 1, hq => cases hq; rw [e1]; exact a1
    | 2, hq => cases hq; rw [e2]; exact a2
    | 3, hq => cases hq; rw [e3]; exact a3
    | 4, hq => cases hq; rw [e4]; exact a4
    | 5, hq => cases hq; rw [e5]; exact a5
    | k + 6, hq => simp [tysL] at hq
  obtain ⟨fa, hf1, hf2⟩ := va_Tof (args := #[Value.ref b]) (s := s) (tm := .static "RoundWalks" "FACTORIALS" "[J") (ty := .long) (N := 17) (f := fun n => .long (facT n)) (A := fun q => s.heap.size ≤ q) (by decide) (hnr _ (by decide +kernel)) (va_eqt (hnr (Cond.eq (.length (.static "RoundWalks" "FACTORIALS" "[J")) (.int 17)) (by decide +kernel))) (fun j hj => match j, hj with
    | 0, _ => va_eqtl (hnr (Cond.eq (.elem (.static "RoundWalks" "FACTORIALS" "[J") (.int 0)) (.long 1)) (by decide +kernel))
    | 1, _ => va_eqtl (hnr (Cond.eq (.elem (.static "RoundWalks" "FACTORIALS" "[J") (.int 1)) (.long 1)) (by decide +kernel))
    | 2, _ => va_eqtl (hnr (Cond.eq (.elem (.static "RoundWalks" "FACTORIALS" "[J") (.int 2)) (.long 2)) (by decide +kernel))
    | 3, _ => va_eqtl (hnr (Cond.eq (.elem (.static "RoundWalks" "FACTORIALS" "[J") (.int 3)) (.long 6)) (by decide +kernel))
    | 4, _ => va_eqtl (hnr (Cond.eq (.elem (.static "RoundWalks" "FACTORIALS" "[J") (.int 4)) (.long 24)) (by decide +kernel))
    | 5, _ => va_eqtl (hnr (Cond.eq (.elem (.static "RoundWalks" "FACTORIALS" "[J") (.int 5)) (.long 120)) (by decide +kernel))
    | 6, _ => va_eqtl (hnr (Cond.eq (.elem (.static "RoundWalks" "FACTORIALS" "[J") (.int 6)) (.long 720)) (by decide +kernel))
    | 7, _ => va_eqtl (hnr (Cond.eq (.elem (.static "RoundWalks" "FACTORIALS" "[J") (.int 7)) (.long 5040)) (by decide +kernel))
    | 8, _ => va_eqtl (hnr (Cond.eq (.elem (.static "RoundWalks" "FACTORIALS" "[J") (.int 8)) (.long 40320)) (by decide +kernel))
    | 9, _ => va_eqtl (hnr (Cond.eq (.elem (.static "RoundWalks" "FACTORIALS" "[J") (.int 9)) (.long 362880)) (by decide +kernel))
    | 10, _ => va_eqtl (hnr (Cond.eq (.elem (.static "RoundWalks" "FACTORIALS" "[J") (.int 10)) (.long 3628800)) (by decide +kernel))
    | 11, _ => va_eqtl (hnr (Cond.eq (.elem (.static "RoundWalks" "FACTORIALS" "[J") (.int 11)) (.long 39916800)) (by decide +kernel))
    | 12, _ => va_eqtl (hnr (Cond.eq (.elem (.static "RoundWalks" "FACTORIALS" "[J") (.int 12)) (.long 479001600)) (by decide +kernel))
    | 13, _ => va_eqtl (hnr (Cond.eq (.elem (.static "RoundWalks" "FACTORIALS" "[J") (.int 13)) (.long 6227020800)) (by decide +kernel))
    | 14, _ => va_eqtl (hnr (Cond.eq (.elem (.static "RoundWalks" "FACTORIALS" "[J") (.int 14)) (.long 87178291200)) (by decide +kernel))
    | 15, _ => va_eqtl (hnr (Cond.eq (.elem (.static "RoundWalks" "FACTORIALS" "[J") (.int 15)) (.long 1307674368000)) (by decide +kernel))
    | 16, _ => va_eqtl (hnr (Cond.eq (.elem (.static "RoundWalks" "FACTORIALS" "[J") (.int 16)) (.long 20922789888000)) (by decide +kernel))
    | q + 17, hj => absurd hj (by omega)) hA
  have hZ : va_Z "RoundWalks" "FACTORIALS" "[J" (.ref fa) (fun q => s.heap.size ≤ q) s s.heap := va_Zof (hts (.laysStatic "RoundWalks" "FACTORIALS" "[J") (by decide +kernel)) (hts (.initialized "RoundWalks") (by decide +kernel)) hf1 hA
  have hN : ∀ w ∈ nw, va_Nw w s := fun w hw => by
    have h1 := hts w (List.mem_filter.mp hw).1
    have h2 := (List.mem_filter.mp hw).2
    cases w <;> simp only [isN, Bool.false_eq_true] at h2
    · exact va_any rfl h1
    · exact va_any rfl h1
  have hstr : ∀ q ∈ xstr, ∃ sa, vk_R RX10 q.1 q.2 sa s := fun q hq => by
    have h1 : (Cond.stringRef RX10 q.1 q.2).before #[Value.ref b] s = true := hts _ (by
      have : (xstr.all (fun q => decide (Cond.stringRef RX10 q.1 q.2 ∈ lw_tbl))) = true := by decide +kernel
      exact of_decide_eq_true (List.all_eq_true.mp this q hq))
    have h2 : (Cond.exactly (.string RX10 q.1) "java/lang/String").before #[Value.ref b] s = true := hnr _ (by
      have : (xstr.all (fun q => decide (Cond.exactly (.string RX10 q.1) "java/lang/String" ∈ flatC (Jvm.Cond.and given_1 narrow_1)))) = true := by decide +kernel
      exact of_decide_eq_true (List.all_eq_true.mp this q hq))
    obtain ⟨sa, h3⟩ := ex_ref h2
    exact ⟨sa, vk_R.of h1 h3⟩
  have hKX : KX (fun q => s.heap.size ≤ q) s := ⟨vx_Zqof (hts (.laysStatic Bundle.tN "UNASSIGNED_STACK" Bundle.steD) (by decide +kernel)) (hts (.initialized Bundle.tN) (by decide +kernel)) (hnr (.isRef (.static Bundle.tN "UNASSIGNED_STACK" Bundle.steD)) (by decide +kernel)) hA, vx_Zqof (hts (.laysStatic Bundle.tN "SUPPRESSED_SENTINEL" Bundle.listD) (by decide +kernel)) (hts (.initialized Bundle.tN) (by decide +kernel)) (hnr (.isRef (.static Bundle.tN "SUPPRESSED_SENTINEL" Bundle.listD)) (by decide +kernel)) hA, hstr, va_any rfl (hts (.castable NSE NSE) (by decide +kernel)), fun x hx => va_any rfl (hts (.declares x) (by
      have : (xdc.all (fun x => decide (Cond.declares x ∈ lw_tbl))) = true := by decide +kernel
      exact of_decide_eq_true (List.all_eq_true.mp this x hx)))⟩
  have hKO : KO s := ⟨va_AO.of ho5, va_AOA.of ho3, va_AOA.of ho4⟩
  have htr : l.stackTraces = false := by
    unfold Launch.stackTraces
    rw [hflags]
    decide +kernel
  obtain ⟨G0, hG⟩ : ∃ G0 : GW, G0 = (0, fun _ => b, kc, D, fa) := ⟨_, rfl⟩
  have hKW : KW G0 (fun q => s.heap.size ≤ q) s := by
    rw [hG]
    exact ⟨hK, hZ, hf2, hN⟩
  have hW : HW G0 (fun q => s.heap.size ≤ q) hA0 s.heap := by
    rw [hG]
    exact ⟨fun k q h => by simp [cW] at h, ⟨fun i j p q h => by simp [cW] at h, fun k q h => by simp [cW] at h⟩, fun k _ => rfl⟩
  have hl := ent_lh (G := G0) (as := [.ref 150]) (n := 7) (ls := [some (.ref 150), none, none, none, none, none, none]) (by decide) rfl
  have hG150 : G0.2.1 150 = b := by rw [hG]
  rw [show ([Value.ref 150].map (cV G0.2.1)) = [Value.ref b] by rw [hG]; rfl] at hl
  rw [lg_entry_eq]
  exact law_start (S := (L, xs)) (b := b) (d := 1000) (G0 := G0) hL hG150 p l e s m #[Value.ref b] below meth c G0 (fun q => s.heap.size ≤ q) s.heap [] _ ⟨hx, hb, hr, hml, hown, fun w hw => hts w (tw_tbl hw), hlocks⟩ hKW hW va_S.rf (fun _ h => h) hl room_1 0 0 ⟨by decide, by decide, by decide, by decide⟩ ⟨ExtG.rf, by rw [hG], rfl, rfl, Nat.le_refl _, Nat.le_refl _, htr, hKX, hKO, rfl, rfl, fun _ h => h, hX, hbl⟩
set_option maxHeartbeats 4000000 in
theorem lw_walk (l : Launch) (hflags : l.flags = flags0) (b : Addr) (xs : List Int32) : MetFree l x (headSpec (Jvm.Cond.code x code maxLocals ret :: tables_1) room_1) (lw_P b xs) (fun _ _ _ _ _ => True) lw_Q := by
  refine MetFree.of_bodyS (code := code) (maxLocals := maxLocals) (ret := ret) (by decide) ?_ ?_
  · intro args s m h hn
    obtain ⟨meth, c, h1, h2, h3, h4, h5, h6, -, -⟩ := Cond.code_spec hn (atoms_spec (ws := Jvm.Cond.code x code maxLocals ret :: tables_1) h _ List.mem_cons_self)
    exact ⟨meth, c, h1, h2, h3, h4, h5, h6⟩
  · intro p e s m args below meth c s₁ B hml0 hP _
    obtain ⟨rfl, hx, hbd, hgv⟩ := hP
    obtain ⟨scr, harrAt, hlist, hof, hsmall⟩ := hx
    obtain ⟨hcb, hkn, -, -⟩ := State.arrayAt?_spec harrAt
    have hown : s.vm.findClass R_law = some m.cls := findClass_of_methodNamed B.named
    have hts0 : ∀ c ∈ (Jvm.Cond.code x code maxLocals ret :: tables_1), c.before #[Value.ref b] s = true := atoms_spec (ws := Jvm.Cond.code x code maxLocals ret :: tables_1) B.pre
    have hts : ∀ w ∈ lw_tbl, w.before #[Value.ref b] s = true := k2_hts_sels lw_privs (fun w hw => hts0 w (List.mem_cons_of_mem _ hw)) lw_privs_ok
    have hml : c.maxLocals = 7 := B.maxLocals_eq (hts0 _ List.mem_cons_self)
    have X₀ : Stand p l e room_1 s m #[Value.ref b] below meth c s₁ [] 0 0 := Stand.of_body B
    have hh0 : s₁.heap = s.heap := by rw [B.state]; rfl
    have hsz : scr.slots.size = xs.length := by rw [← Array.length_toList, hlist, List.length_map]
    have hval : ∀ j : Nat, j < xs.length → scr.slots[j]? = some (.int (xs.getD j 0)) := fun j hj => by
      rw [← Array.getElem?_toList, hlist]
      simp [hj]
    have hbl : b < s.heap.size := (Array.getElem?_eq_some_iff.mp hcb).1
    have hX : va_X b xs.length (fun j => xs.getD j 0) s s.heap := ⟨scr, hcb, hof, hkn, hsz, hval⟩
    have K : W p l e room_1 s m #[Value.ref b] below meth c s₁.heap [] 0 0 (lw_Z below #[Value.ref b] s) (entryFrame m ([Value.ref b] : List Value).toArray 7) := by
      rw [hh0]
      exact whole_start l hflags hbd ⟨B.exec, B.bytes, B.returns, hml, hown, hts, hX, hbl, B.notSynchronized, hgv⟩
    obtain ⟨t, a1, o, b1, b2, b3⟩ := K s₁ rfl X₀
    exact ⟨t, o, a1, b1, b2, b3⟩
theorem lw_pre_spec {args : Array Value} {s : State} (h : (Jvm.Cond.and given_1 narrow_1).before args s = true) (hr : rest_1_c.before args s = true) : ∃ (b : Addr) (xs : List Int32), lw_P b xs args s := by
  have hs := flat_of_before _ h
  have hq := flat_of_before _ hr
  have hc : (Cond.count 1).before args s = true := hs _ (by decide +kernel)
  have harr : (Cond.arrayOf (.arg 0) .int).before args s = true := hs _ (by decide +kernel)
  have hle : (Cond.le (.length (.arg 0)) (.int 3072)).before args s = true := hs _ (by decide +kernel)
  have hlen : (Cond.isInt (.length (.arg 0))).before args s = true := hq _ (by decide +kernel)
  have hall : (Cond.all (.arg 0) (.isInt (.elem (.arg 0) (.index 0)))).before args s = true := hq _ (by decide +kernel)
  obtain ⟨b, xs, hb, hx⟩ := State.ints_of_pre rfl harr hlen hall
  have hsm : xs.length < 2 ^ 31 := hx.choose_spec.2.2.2
  have hev : (Term.length (.arg 0)).eval args s none [] s = some (.int xs.length.toInt32) := hx.length_eval hb
  have hv := Cond.le_ints hev (show (Term.int 3072).eval args s none [] s = some (.int 3072) from rfl)
  have hd : xs.length.toInt32 ≤ 3072 := by
    simpa [Cond.before, Cond.holds, hv] using hle
  have hN : xs.length ≤ 3072 := (Int32.ofNat_le_ofNat hsm (by decide)).mp (show Int32.ofNat xs.length ≤ Int32.ofNat 3072 from hd)
  exact ⟨b, xs, Cond.one_arg hc (show args[0]? = some (.ref b) from hb), hx, hN, h⟩
theorem lw_comes (l : Launch) (hflags : l.flags = flags0) : Comes l x (Jvm.Cond.code x code maxLocals ret :: tables_1) room_1 (fun tb e args s => Calls_1 tb e args s ∧ rest_1 tb e args s ∧ Pre_1 tb e args s)
    (fun _ _ args s o t => lw_Q args s o t) := by
  intro p e ha hc hk s m args below hf hfit hheap happ hpre
  obtain ⟨b, xs, hP⟩ := lw_pre_spec hpre.2.2 hpre.2.1
  obtain ⟨k, o, h1, h2, h3, hQ⟩ := lw_walk l hflags b xs p e ha hc hk s m args below hf ((Spec.applies_iff_loose hf).mp happ).1 hP trivial
  exact ⟨k, o, h1, h2, h3, hQ⟩
theorem lw_frame {s t : State} {o : Outcome} {args : Array Value} (h : Framed s o t [] 601024 7293034) :
    Framed s o t (fieldLocs frame_1_writes args s ++ arrayLocs frame_1_arrays args s ++ staticLocs frame_1_statics s) 601024 7293034 := h
theorem lw_limb (L : Cond) (hL : ∀ (args : Array Value) (s t : State), L.after args s (.returned (some (.int 1))) t = true) :
    ArmFor flags0 classFile x code maxLocals ret World_1 tables_1 room_1 Calls_1 rest_1 Pre_1
      (fun tb e a s o t => postC L tb e a s o t ∧ Framed s o t (fieldLocs frame_1_writes a s ++ arrayLocs frame_1_arrays a s ++ staticLocs frame_1_statics s) 601024 7293034) := by
  intro l hflags _ _ p e ha hc hk s m args below hf hfit hheap happ hpre
  obtain ⟨k, o, h1, h2, h3, rfl, hF⟩ := lw_comes l hflags p e ha hc hk s m args below hf hfit hheap happ hpre
  exact ⟨k, _, h1, h2, h3, hL args s _, lw_frame hF⟩
theorem i_vc : Claimed_1_1 ∧ Claimed_1_2 := ⟨lw_limb limb_1_1 (fun args s t => by simp [limb_1_1, Cond.after, Cond.holds, Cond.value]), lw_limb limb_1_2 (fun args s t => Cond.after_iff.mpr (by
  first | (rw [show limb_1_2 = Cond.eq .result (.int 1) from rfl, Cond.eq_ints (x := 1) (y := 1) rfl rfl]; simp; done) | (simp [limb_1_2, Cond.value, Term.eval]; done)))⟩
