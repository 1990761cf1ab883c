/-! THINGS THAT ARE MADE: places that come, refs that stay below them -/
def clV (n : Nat) : Value → Prop
  | .ref a => a < n ∨ 150 ≤ a
  | _ => True
def clE (n : Nat) : va_E → Prop
  | .inl (_, _, .inr (.inr (.inr (.inr r)))) => ∀ i a, r i = some a → a < n
  | .inl _ => True
  | .inr (_, fs) => ∀ v ∈ fs, clV n v
def Cl (n : Nat) (h : Hp) : Prop := ∀ i, i < n → clE n (h i)
def ClL (n : Nat) (ls : LV) : Prop := ∀ (i : Nat) (v : Value), ls[i]? = some (some v) → clV n v
def ClS (n : Nat) (st : List Value) : Prop := ∀ v ∈ st, clV n v
theorem cV_ext {ad ad' : Nat → Nat} {n : Nat} (h : ∀ i, i < n ∨ 150 ≤ i → ad' i = ad i) {v : Value} (hv : clV n v) : cV ad' v = cV ad v := by
  cases v with
  | ref a => simp only [cV]; rw [h a hv]
  | _ => rfl
theorem cE_ext {ad ad' : Nat → Nat} {kc : Nat → ClassId} {n : Nat} (h : ∀ i, i < n ∨ 150 ≤ i → ad' i = ad i) {e : va_E} (he : clE n e) : cE ad' kc e = cE ad kc e := by
  match e, he with
  | .inl (t, m, .inl f), _ => rfl
  | .inl (t, m, .inr (.inl f)), _ => rfl
  | .inl (t, m, .inr (.inr (.inl f))), _ => rfl
  | .inl (t, m, .inr (.inr (.inr (.inl f)))), _ => rfl
  | .inl (t, m, .inr (.inr (.inr (.inr r)))), he =>
    have e9 : (fun i => (r i).map ad') = (fun i => (r i).map ad) := funext (fun i => by
      cases hr : r i with
      | none => rfl
      | some a => simp only [Option.map_some]; rw [h a (Or.inl (he i a hr))])
    simp only [cE, cC]
    rw [e9]
  | .inr (ci, fs), he =>
    simp only [cE]
    congr 2
    exact List.map_congr_left (fun v hv => cV_ext h (he v hv))
theorem clV_mono {n m : Nat} (h : n ≤ m) {v : Value} (hv : clV n v) : clV m v := by
  cases v with
  | ref a => exact hv.imp (fun q => Nat.lt_of_lt_of_le q h) id
  | _ => trivial
theorem clE_mono {n m : Nat} (h : n ≤ m) {e : va_E} (he : clE n e) : clE m e := by
  match e, he with
  | .inl (t, k, .inl f), _ => trivial
  | .inl (t, k, .inr (.inl f)), _ => trivial
  | .inl (t, k, .inr (.inr (.inl f))), _ => trivial
  | .inl (t, k, .inr (.inr (.inr (.inl f)))), _ => trivial
  | .inl (t, k, .inr (.inr (.inr (.inr r)))), he => exact fun i a q => Nat.lt_of_lt_of_le (he i a q) h
  | .inr (ci, fs), he => exact fun v hv => clV_mono h (he v hv)
theorem Cl.set {n k : Nat} {h : Hp} {e : va_E} (hc : Cl n h) (he : clE n e) : Cl n (va_up h k e) := by
  intro i hi
  rw [va_up_at]
  split
  · exact he
  · exact hc i hi
theorem Cl.push {n : Nat} {h : Hp} {e : va_E} (hc : Cl n h) (he : clE (n + 1) e) : Cl (n + 1) (va_up h n e) := by
  intro i hi
  rw [va_up_at]
  split
  · exact he
  · exact clE_mono (Nat.le_succ n) (hc i (by omega))
def ExtG (G0 G : GW) : Prop := G0.1 ≤ G.1 ∧ (∀ i, i < G0.1 ∨ 150 ≤ i → G.2.1 i = G0.2.1 i) ∧ G.2.2 = G0.2.2
theorem ExtG.rf {G : GW} : ExtG G G := ⟨Nat.le_refl _, fun _ _ => rfl, rfl⟩
theorem ExtG.tr {G0 G1 G2 : GW} (a : ExtG G0 G1) (b : ExtG G1 G2) : ExtG G0 G2 := ⟨Nat.le_trans a.1 b.1, fun i hi => (b.2.1 i (hi.imp (fun q => Nat.lt_of_lt_of_le q a.1) id)).trans (a.2.1 i hi), b.2.2.trans a.2.2⟩
def pushG (G : GW) (q : Nat) : GW := (G.1 + 1, fun i => if i = G.1 then q else G.2.1 i, G.2.2)
theorem pushG.ext (G : GW) (q : Nat) (hn : G.1 < 150) : ExtG G (pushG G q) := ⟨Nat.le_succ _, fun i hi => if_neg (by omega), rfl⟩
theorem KW.ext {G G' : GW} {A : Nat → Prop} {s : State} (hx : ExtG G G') (hK : KW G A s) : KW G' A s := by
  unfold KW at hK ⊢
  rw [hx.2.2]
  exact hK
theorem LH.ext {ad ad' : Nat → Nat} {n m : Nat} {sl : Array Slot} {ls : LV} (h : ∀ i, i < n ∨ 150 ≤ i → ad' i = ad i) (hl : LH ad sl m ls) (hc : ClL n ls) : LH ad' sl m ls := ⟨hl.1, hl.2.1, fun i v hi => by rw [cV_ext h (hc i v hi)]; exact hl.2.2 i v hi⟩
theorem st_ext {ad ad' : Nat → Nat} {n : Nat} {st : List Value} (h : ∀ i, i < n ∨ 150 ≤ i → ad' i = ad i) (hc : ClS n st) : st.map (cV ad') = st.map (cV ad) := List.map_congr_left (fun v hv => cV_ext h (hc v hv))
theorem cW_push {G : GW} {q : Nat} {h : Hp} {e : va_E} (hn : G.1 < 150) (hc : Cl G.1 h) : cW (pushG G q) (va_up h G.1 e) = cW G h ++ [(q, cE (pushG G q).2.1 G.2.2.1 e)] := by
  have hx := (pushG.ext G q hn).2.1
  unfold cW
  show (List.range (G.1 + 1)).map _ = _
  rw [List.range_succ, List.map_append]
  congr 1
  · refine List.map_congr_left (fun i hi => ?_)
    have hi := List.mem_range.mp hi
    rw [hx i (Or.inl hi), va_up_at, if_neg (by omega)]
    exact congrArg _ (cE_ext hx (hc i hi))
  · show [((pushG G q).2.1 G.1, cE (pushG G q).2.1 G.2.2.1 (va_up h G.1 e G.1))] = _
    rw [va_up_at, if_pos rfl]
    congr 2
    exact if_pos rfl
theorem HW.push {G : GW} {A : Nat → Prop} {h : Hp} {H H1 : Heap} {q : Nat} {e : va_E} (hW : HW G A h H) (hn : G.1 < 150) (hc : Cl G.1 h) (hP : va_P G.2.2.2.1 cls (cW G h ++ [(q, cE (pushG G q).2.1 G.2.2.1 e)]) H1) (hD : va_D A (cW G h ++ [(q, cE (pushG G q).2.1 G.2.2.1 e)])) : HW (pushG G q) A (va_up h G.1 e) H1 := by
  rw [← cW_push hn hc] at hP hD
  refine ⟨hP, hD, fun k hk => ?_⟩
  have hk : G.1 + 1 ≤ k := hk
  rw [va_up_at, if_neg (by omega)]
  exact hW.2.2 k (by omega)
theorem ra_find {U : State} {c : ClassId} {ty : FieldType} (h : va_RA U c ty) : U.vm.findClass ("[" ++ ty.toString) = some c := by
  cases ty with
  | object C =>
    obtain ⟨_, _, _, _, _, h⟩ := h
    exact h
  | _ => exact h
/-! the machine while things are made -/
abbrev XT : Type := Launch → Room → State → Array Value → Method → (Nat → Prop) → Prop
abbrev ZT0 : Type := Launch → State → Array Value → List Frame → (Nat → Prop) → State → Prop
def zg (Z : ZT0) : ZT := fun l s args below _ A => Z l s args below A
def bN (X : XT) (G0 : GW) (n kc ks mc ms : Nat) : BT := fun _ l _ R s _ args _ meth _ G A cells slots => ExtG G0 G ∧ G.1 = n ∧ cells = kc ∧ slots = ks ∧ mc ≤ R.cells ∧ ms ≤ R.slots ∧ X l R s args meth A
theorem bN_sc {X : XT} {G0 : GW} {n kc ks mc ms : Nat} {p : Program} {l : Launch} {e : Env} {R : Room} {s : State} {m : MethodId} {args : Array Value} {below : List Frame} {meth : Method} {c : Code} {G : GW} {A : Nat → Prop} {cells slots : Nat} (_ : bN X G0 n kc ks mc ms p l e R s m args below meth c G A cells slots) (h : ((4000, fun _ => 0) : SCT).1 < 4000) : ScO (4000, fun _ => 0) G A s := absurd h (by decide)
theorem nng {m' : Nat} (h : m' < 100000) : ¬ Int32.ofInt (m' : Int) < 0 := by
  rw [show (0 : Int32) = Int32.ofInt 0 from rfl, oI_lt (by omega) (by omega) (by omega) (by omega)]
  omega
theorem ncl {m' : Nat} (h : m' < 100000) : (Int32.ofInt (m' : Int)).toNatClampNeg = m' := by
  rw [oI_nat (by omega) (by omega), Int.toNat_natCast]
section SN
variable {X : XT} {G0 : GW} {n kc ks mc ms : Nat} {Z : ZT0} {M : MI} {d pc : Nat} {ls : LV} {st : List Value} {h : Hp}
theorem sN_new {k ci N : Nat} {C : String} {T : u_T} {fs : List Value} (hd : decode (mCode M) pc = .ok (.new k, 3)) (hc : cls[ci]? = some (C, T, N)) (w1 : Cond.classLink (cn (mOwn M)) k C ∈ tw) (w2 : Cond.instantiable C N ∈ tw) (w3 : Cond.initialized C ∈ tw) (ty : Nat → FieldType) (hty : ∀ k, k < N → parseFieldDescriptor (T k).2.2.1 = some (ty k)) (hfs : ∀ j, j < N → defaultValue (ty j) = vp_V fs j) (hfl : ∀ ad, fs.map (cV ad) = fs)
    (hn150 : n < 150) (hCl : Cl n h) (hls : ClL n ls) (hst : ClS n st) (hcc : kc + 1 ≤ mc) (hss : ks + N ≤ ms) (next : AtX (bN X G0 (n + 1) (kc + 1) (ks + N) mc ms) (zg Z) M (d + 1) (pc + 3) ls (.ref n :: st) (va_up h n (.inr (ci, fs)))) : AtX (bN X G0 n kc ks mc ms) (zg Z) M (d + 1) pc ls st h := by
  intro p l e s m args below meth c G A H locs sl hC hKW hW hS hA hL R cells slots hRR hBB
  obtain ⟨hx, hn, rfl, rfl, r1, r2, hX⟩ := hBB
  subst hn
  refine va_new (D := G.2.2.2.1) (A := A) (cl := cls) (ws := cW G h) hC.1 hC.2.1 hC.2.2.2.2.2.1 (cls_in hc) ty hty hC.2.2.2.2.1 (hC.2.2.2.2.2.1 _ w1) (hC.2.2.2.2.2.1 _ w2) (hC.2.2.2.2.2.1 _ w3) hKW.1 hW.1 hW.2.1 hS hA hc hfs (by omega) (by omega) hd (fun q H1 hP hD hS1 => ?_)
  have he : (Sum.inr (ci, fs) : va_E) = cE (pushG G q).2.1 G.2.2.1 (.inr (ci, fs)) := by simp only [cE, hfl]
  rw [he] at hP hD
  have hW1 := hW.push hn150 hCl hP hD
  have hx1 := pushG.ext G q hn150
  have := next p l e s m args below meth c (pushG G q) A H1 locs sl hC (hKW.ext hx1) hW1 hS1 hA (hL.ext hx1.2.1 hls) R (cells + 1) (slots + N) ⟨hRR.1, hRR.2.1, by omega, by omega⟩ ⟨hx.tr hx1, rfl, rfl, rfl, r1, r2, hX⟩
  rw [List.map_cons, st_ext hx1.2.1 hst, show cV (pushG G q).2.1 (.ref G.1) = .ref q from congrArg Value.ref (if_pos rfl)] at this
  exact this
theorem sN_newa {atype : ArrayType} {t m' : Nat} {ty : FieldType} {x : (Nat → Int32) ⊕ (Nat → Int64) ⊕ (Nat → UInt32) ⊕ (Nat → UInt64) ⊕ (Nat → Option Nat)} (hd : decode (mCode M) pc = .ok (.newarray atype, 2)) (hw : Cond.arrayClass (newarray.typeOf atype) ∈ tw) (hty : newarray.typeOf atype = ty) (htl : ∀ kc : Nat → ClassId, (tysL kc)[t]? = some (kc t, ty)) (hx0 : ∀ cA : ClassId, vp_cell cA (m', x) = arrV cA m' (fun _ => defaultValue ty)) (hxc : ∀ ad, cC ad x = x) (hm : m' < 100000)
    (hn150 : n < 150) (hCl : Cl n h) (hls : ClL n ls) (hst : ClS n st) (hcc : kc + 1 ≤ mc) (hss : ks + m' ≤ ms) (next : AtX (bN X G0 (n + 1) (kc + 1) (ks + m') mc ms) (zg Z) M (d + 1) (pc + 2) ls (.ref n :: st) (va_up h n (.inl (t, m', x)))) : AtX (bN X G0 n kc ks mc ms) (zg Z) M (d + 1) pc ls (.int (Int32.ofInt (m' : Int)) :: st) h := by
  intro p l e s m args below meth c G A H locs sl hC hKW hW hS hA hL R cells slots hRR hBB
  obtain ⟨hx, hn, rfl, rfl, r1, r2, hX⟩ := hBB
  subst hn
  have hb : m' * componentBytes ty ≤ 536870912 := by
    have : componentBytes ty ≤ 8 := by rw [← hty]; cases atype <;> decide
    have := Nat.mul_le_mul_left m' this
    omega
  refine va_newa (D := G.2.2.2.1) (A := A) (cl := cls) (ws := cW G h) (N' := m') (a0 := (m', x)) hC.1 hC.2.1 (hC.2.2.2.2.2.1 _ hw) hty hKW.1 hW.1 hW.2.1 hS hA hx0 (nng hm) (ncl hm) hb (by omega) (by omega) hd (fun q cA H1 hK' hP hD hS1 => ?_)
  have hA2 : cA = G.2.2.1 t := by
    have q1 := ra_find (hKW.1.2 t _ (htl _)).2
    have q2 := ra_find (hK'.2 6 (cA, ty) rfl).2
    exact Option.some.inj (q2.symm.trans q1)
  have he : (Sum.inl (cA, m', x) : va_E) = cE (pushG G q).2.1 G.2.2.1 (.inl (t, m', x)) := by simp only [cE, hxc, hA2]
  rw [he] at hP hD
  have hW1 := hW.push hn150 hCl hP hD
  have hx1 := pushG.ext G q hn150
  have := next p l e s m args below meth c (pushG G q) A H1 locs sl hC (hKW.ext hx1) hW1 hS1 hA (hL.ext hx1.2.1 hls) R (cells + 1) (slots + m') ⟨hRR.1, hRR.2.1, by omega, by omega⟩ ⟨hx.tr hx1, rfl, rfl, rfl, r1, r2, hX⟩
  rw [List.map_cons, st_ext hx1.2.1 hst, show cV (pushG G q).2.1 (.ref G.1) = .ref q from congrArg Value.ref (if_pos rfl)] at this
  exact this
theorem sN_anew {k m' : Nat} (hd : decode (mCode M) pc = .ok (.anewarray k, 3)) (w1 : Cond.classLink (cn (mOwn M)) k RX4 ∈ tw) (hao : ∀ l R s args meth A, X l R s args meth A → va_AO RX4 s) (hm : m' < 100000)
    (hn150 : n < 150) (hCl : Cl n h) (hls : ClL n ls) (hst : ClS n st) (hcc : kc + 1 ≤ mc) (hss : ks + m' ≤ ms) (next : AtX (bN X G0 (n + 1) (kc + 1) (ks + m') mc ms) (zg Z) M (d + 1) (pc + 3) ls (.ref n :: st) (va_up h n (ra 5 m' (fun _ => none)))) : AtX (bN X G0 n kc ks mc ms) (zg Z) M (d + 1) pc ls (.int (Int32.ofInt (m' : Int)) :: st) h := by
  intro p l e s m args below meth c G A H locs sl hC hKW hW hS hA hL R cells slots hRR hBB
  obtain ⟨hx, hn, rfl, rfl, r1, r2, hX⟩ := hBB
  subst hn
  refine va_newq (D := G.2.2.2.1) (A := A) (cl := cls) (ws := cW G h) (N' := m') (C := RX4) hC.1 hC.2.1 hC.2.2.2.2.1 (hC.2.2.2.2.2.1 _ w1) (hao _ _ _ _ _ _ hX) hKW.1 hW.1 hW.2.1 hS hA (nng hm) (ncl hm) (by omega) (by omega) (by omega) hd (fun q cA H1 hK' hP hD hS1 => ?_)
  have hA2 : cA = G.2.2.1 5 := by
    have q1 := ra_find (hKW.1.2 5 (G.2.2.1 5, .object "RoundWalks$Net") rfl).2
    have q2 := ra_find (hK'.2 6 (cA, .object RX4) rfl).2
    exact Option.some.inj (q2.symm.trans q1)
  have he : (Sum.inl (cA, m', .inr (.inr (.inr (.inr (fun _ => none))))) : va_E) = cE (pushG G q).2.1 G.2.2.1 (ra 5 m' (fun _ => none)) := by simp only [cE, ra, cC, hA2, Option.map_none]
  rw [he] at hP hD
  have hW1 := hW.push hn150 hCl hP hD
  have hx1 := pushG.ext G q hn150
  have := next p l e s m args below meth c (pushG G q) A H1 locs sl hC (hKW.ext hx1) hW1 hS1 hA (hL.ext hx1.2.1 hls) R (cells + 1) (slots + m') ⟨hRR.1, hRR.2.1, by omega, by omega⟩ ⟨hx.tr hx1, rfl, rfl, rfl, r1, r2, hX⟩
  rw [List.map_cons, st_ext hx1.2.1 hst, show cV (pushG G q).2.1 (.ref G.1) = .ref q from congrArg Value.ref (if_pos rfl)] at this
  exact this
end SN
