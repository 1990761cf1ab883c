/-! new T[8][8] -/
def mnF (p : Nat) : Nat → Option Nat := fun i => if i < 8 then some (p + 1 + i) else none
def mnaH (h : Hp) (p t : Nat) (x : (Nat → Int32) ⊕ (Nat → Int64) ⊕ (Nat → UInt32) ⊕ (Nat → UInt64) ⊕ (Nat → Option Nat)) : Hp := fun j => if j = p then ra (t + 3) 8 (mnF p) else if p < j ∧ j < p + 9 then .inl (t, 8, x) else h j
theorem mnaH_lo {h : Hp} {p t j : Nat} {x : (Nat → Int32) ⊕ (Nat → Int64) ⊕ (Nat → UInt32) ⊕ (Nat → UInt64) ⊕ (Nat → Option Nat)} (hj : j < p) : mnaH h p t x j = h j := by
  unfold mnaH
  rw [if_neg (by omega), if_neg (by omega)]
theorem mnaH_cl {h : Hp} {n t : Nat} {x : (Nat → Int32) ⊕ (Nat → Int64) ⊕ (Nat → UInt32) ⊕ (Nat → UInt64) ⊕ (Nat → Option Nat)} (hc : Cl n h) (hx : ∀ q, clE q (.inl (t, 8, x))) : Cl (n + 9) (mnaH h n t x) := by
  intro i hi
  unfold mnaH
  split
  · intro j a q
    unfold mnF at q
    split at q
    · cases q; omega
    · cases q
  · split
    · exact hx _
    · exact clE_mono (by omega) (hc i (by omega))
def pushM (G : GW) (q : Nat) (r : Nat → Nat) : GW := (G.1 + 9, fun i => if i = G.1 then q else if G.1 < i ∧ i < G.1 + 9 then r (i - G.1 - 1) else G.2.1 i, G.2.2)
theorem pushM.ext (G : GW) (q : Nat) (r : Nat → Nat) (hn : G.1 + 9 ≤ 150) : ExtG G (pushM G q r) := ⟨Nat.le_add_right _ _, fun i hi => by show ite _ _ _ = _; rw [if_neg (by omega), if_neg (by omega)], rfl⟩
theorem pushM_at (G : GW) (q : Nat) (r : Nat → Nat) : (pushM G q r).2.1 G.1 = q := if_pos rfl
theorem pushM_r (G : GW) (q : Nat) (r : Nat → Nat) {i : Nat} (hi : i < 8) : (pushM G q r).2.1 (G.1 + 1 + i) = r i := by
  show ite _ _ _ = _
  rw [if_neg (by omega), if_pos (by omega), show G.1 + 1 + i - G.1 - 1 = i by omega]
theorem cW_pushM {G : GW} {q t : Nat} {r : Nat → Nat} {h : Hp} {x : (Nat → Int32) ⊕ (Nat → Int64) ⊕ (Nat → UInt32) ⊕ (Nat → UInt64) ⊕ (Nat → Option Nat)} (hn : G.1 + 9 ≤ 150) (hc : Cl G.1 h) (hxc : ∀ ad, cC ad x = x) : cW (pushM G q r) (mnaH h G.1 t x) = (cW G h ++ [(q, .inl (G.2.2.1 (t + 3), 8, .inr (.inr (.inr (.inr (fun i => if i < 8 then some (r i) else none))))))]) ++ (List.range 8).map (fun i => (r i, .inl (G.2.2.1 t, 8, x))) := by
  have hx := (pushM.ext G q r hn).2.1
  have e1 : List.range (G.1 + 9) = (List.range G.1 ++ [G.1]) ++ (List.range 8).map (fun i => G.1 + 1 + i) := by
    rw [← List.range_succ, show G.1 + 9 = (G.1 + 1) + 8 by omega, List.range_add]
  unfold cW
  show (List.range (G.1 + 9)).map _ = _
  rw [e1, List.map_append, List.map_append, List.map_map]
  congr 1
  · congr 1
    · refine List.map_congr_left (fun i hi => ?_)
      have hi := List.mem_range.mp hi
      rw [hx i (Or.inl hi), mnaH_lo hi]
      exact congrArg _ (cE_ext hx (hc i hi))
    · show [((pushM G q r).2.1 G.1, cE (pushM G q r).2.1 G.2.2.1 (mnaH h G.1 t x G.1))] = _
      have e2 : mnaH h G.1 t x G.1 = ra (t + 3) 8 (mnF G.1) := if_pos rfl
      rw [pushM_at, e2]
      have e3 : (fun i => (mnF G.1 i).map (pushM G q r).2.1) = fun i => if i < 8 then some (r i) else none := funext (fun i => by
        unfold mnF
        split
        · next c => rw [Option.map_some, pushM_r G q r c]
        · rfl)
      simp only [ra, cE, cC]
      rw [e3]
  · refine List.map_congr_left (fun i hi => ?_)
    have hi := List.mem_range.mp hi
    show ((pushM G q r).2.1 (G.1 + 1 + i), cE (pushM G q r).2.1 G.2.2.1 (mnaH h G.1 t x (G.1 + 1 + i))) = _
    have e2 : mnaH h G.1 t x (G.1 + 1 + i) = .inl (t, 8, x) := by
      unfold mnaH
      rw [if_neg (by omega), if_pos (by omega)]
    rw [pushM_r G q r hi, e2]
    simp only [cE, hxc]
theorem sN_mna {X : XT} {G0 : GW} {n kc ks mc ms : Nat} {Z : ZT0} {M : MI} {d pc : Nat} {ls : LV} {st : List Value} {h : Hp} {k t : Nat} {ty : FieldType} {x : (Nat → Int32) ⊕ (Nat → Int64) ⊕ (Nat → UInt32) ⊕ (Nat → UInt64) ⊕ (Nat → Option Nat)} (hd : decode (mCode M) pc = .ok (.multianewarray k 2, 4)) (w1 : Cond.classLink (cn (mOwn M)) k ("[" ++ (FieldType.array ty).toString) ∈ tw) (w2 : Cond.arrayClass ty ∈ tw) (hao : ∀ l R s args meth A, X l R s args meth A → va_AOA ty s) (htl : ∀ kc : Nat → ClassId, (tysL kc)[t]? = some (kc t, ty)) (htl3 : ∀ kc : Nat → ClassId, (tysL kc)[t + 3]? = some (kc (t + 3), .array ty)) (hxc : ∀ ad, cC ad x = x) (hdf : fits ty (defaultValue ty) = true) (hdd : (defaultValue ty).isDefault = true) (hcb : componentBytes ty ≤ 8) (hz : ∀ c : ClassId, arrV c 8 (fun _ => defaultValue ty) = vp_cell c (8, x))
    (hn150 : n + 9 ≤ 150) (hCl : Cl n h) (hls : ClL n ls) (hst : ClS n st) (hcc : kc + 9 ≤ mc) (hss : ks + 72 ≤ ms) (next : AtX (bN X G0 (n + 9) (kc + 9) (ks + 72) mc ms) (zg Z) M (d + 1) (pc + 4) ls (.ref n :: st) (mnaH h n t x)) : AtX (bN X G0 n kc ks mc ms) (zg Z) M (d + 1) pc ls (.int (Int32.ofInt 8) :: .int (Int32.ofInt 8) :: st) h := by
  intro p l e s m args below meth c G A H locs sl hC hKW hW hS hA hL R cells slots hRR hBB
  obtain ⟨hx, hn, rfl, rfl, r1, r2, hX⟩ := hBB
  subst hn
  have q1 := ra_find (hKW.1.2 t _ (htl _)).2
  have n8 : (Int32.ofInt 8).toNatClampNeg = 8 := by decide
  have hb2 : 8 * componentBytes ty ≤ 536870912 := by omega
  refine va_mna (D := G.2.2.2.1) (A := A) (cl := cls) (X := cW G h) (L := []) (f := fun _ => .inr (99, [])) (N' := 8) (K' := 8) (z := (8, x)) (cy := G.2.2.1 t) (ty := ty) hC.1 hC.2.1 hC.2.2.2.2.1 (hC.2.2.2.2.2.1 _ w1) (hao _ _ _ _ _ _ hX) (hC.2.2.2.2.2.1 _ w2) q1 hKW.1 (by rw [show va_pl [] (fun _ => (.inr (99, []) : va_E)) = [] from rfl, List.append_nil]; exact hW.1) (by rw [show va_pl [] (fun _ => (.inr (99, []) : va_E)) = [] from rfl, List.append_nil]; exact hW.2.1) hS hA (by decide) (by decide) n8 n8 (by decide) hb2 (by decide) hdf (by omega) (by omega) hz hd (fun q r cA H1 _ _ hK' hP hD hS1 => ?_)
  have hA2 : cA = G.2.2.1 (t + 3) := by
    have q1 := ra_find (hKW.1.2 (t + 3) _ (htl3 _)).2
    have q2 := ra_find (hK'.2 6 (cA, .array ty) rfl).2
    exact Option.some.inj (q2.symm.trans q1)
  have hl : va_pl ([] ++ (List.range 8).map r) (vr_up (fun _ => (.inr (99, []) : va_E)) ((List.range 8).map r) (.inl (G.2.2.1 t, 8, x))) = (List.range 8).map (fun i => (r i, .inl (G.2.2.1 t, 8, x))) := by
    rw [List.nil_append]
    unfold va_pl
    rw [List.map_map]
    refine List.map_congr_left (fun i hi => ?_)
    show (r i, vr_up _ _ _ (r i)) = _
    rw [vr_up_in (List.mem_map_of_mem hi)]
  rw [hl, hA2, ← cW_pushM hn150 hCl hxc] at hP hD
  have hx1 := pushM.ext G q r hn150
  have hW1 : HW (pushM G q r) A (mnaH h G.1 t x) H1 := ⟨hP, hD, fun k hk => by
    have hk : G.1 + 9 ≤ k := hk
    unfold mnaH
    rw [if_neg (by omega), if_neg (by omega)]
    exact hW.2.2 k (by omega)⟩
  have := next p l e s m args below meth c (pushM G q r) A H1 locs sl hC (hKW.ext hx1) hW1 hS1 hA (hL.ext hx1.2.1 hls) R (cells + 9) (slots + 72) ⟨hRR.1, hRR.2.1, by omega, by omega⟩ ⟨hx.tr hx1, rfl, rfl, rfl, r1, r2, hX⟩
  rw [List.map_cons, st_ext hx1.2.1 hst, show cV (pushM G q r).2.1 (.ref G.1) = .ref q from congrArg Value.ref (pushM_at G q r)] at this
  exact this
theorem ra_clU {n i v : Nat} {f : Nat → Option Nat} (hf : ∀ j q, f j = some q → q < n) (hv : v < n) : ∀ j q, va_up f i (some v) j = some q → q < n := by
  intro j q hq
  simp only [va_up] at hq
  split at hq
  · cases hq; exact hv
  · exact hf j q hq
theorem clL {n a : Nat} (h : a < n) : ClL n [some (.ref a)] := fun i v hi => by
  match i, hi with
  | 0, hi => cases hi; exact Or.inl h
  | i + 1, hi => simp at hi
theorem clL2 {n a : Nat} {x : Option Value} (hx : ∀ v, x = some v → clV n v) (h : a < n) : ClL n [some (.ref a), x] := fun i v hi => by
  match i, hi with
  | 0, hi => cases hi; exact Or.inl h
  | 1, hi => exact hx v (Option.some.inj hi)
  | i + 2, hi => simp at hi
