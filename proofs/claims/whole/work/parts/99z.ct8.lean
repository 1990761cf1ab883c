/-! THE FRESH STATE, by the order of making and by the fixed places -/
def sg (p : Nat) : Nat := if p < 41 then p else if p < 47 then p + 80 else if p < 127 then p - 6 else p
def FT : List va_E := [.inr (10, [.ref 1, .ref 3, .ref 8, .ref 11, .ref 40, .ref 47, .ref 48, .ref 70, .ref 95, .ref 120, .ref 126, .int (Int32.ofInt (0))]), .inr (7, [.ref 2, .int (Int32.ofInt (0))]), .inl (0, 540, .inl (fun _ => 0)), .inr (5, [.ref 4, .ref 7, .int (Int32.ofInt (0)), .int (Int32.ofInt (0)), .int (Int32.ofInt (0)), .int (Int32.ofInt (0)), .int (Int32.ofInt (0))]), .inr (4, [.ref 5, .ref 6, .int (Int32.ofInt (0)), .int (Int32.ofInt (0))]), .inl (0, 16, .inl (fun _ => 0)), .inl (0, 16, .inl (fun _ => 0)), .inl (1, 8, .inr (.inl (fun _ => 0))), .inr (4, [.ref 9, .ref 10, .int (Int32.ofInt (0)), .int (Int32.ofInt (0))]), .inl (0, 16, .inl (fun _ => 0)), .inl (0, 16, .inl (fun _ => 0)), .inr (3, [.ref 12, .int (Int32.ofInt (0)), .int (Int32.ofInt (0))]), ra 5 9 slF, .inr (4, [.ref 14, .ref 15, .int (Int32.ofInt (0)), .int (Int32.ofInt (0))]), .inl (0, 16, .inl (fun _ => 0)), .inl (0, 16, .inl (fun _ => 0)), .inr (4, [.ref 17, .ref 18, .int (Int32.ofInt (0)), .int (Int32.ofInt (0))]), .inl (0, 16, .inl (fun _ => 0)), .inl (0, 16, .inl (fun _ => 0)), .inr (4, [.ref 20, .ref 21, .int (Int32.ofInt (0)), .int (Int32.ofInt (0))]), .inl (0, 16, .inl (fun _ => 0)), .inl (0, 16, .inl (fun _ => 0)), .inr (4, [.ref 23, .ref 24, .int (Int32.ofInt (0)), .int (Int32.ofInt (0))]), .inl (0, 16, .inl (fun _ => 0)), .inl (0, 16, .inl (fun _ => 0)), .inr (4, [.ref 26, .ref 27, .int (Int32.ofInt (0)), .int (Int32.ofInt (0))]), .inl (0, 16, .inl (fun _ => 0)), .inl (0, 16, .inl (fun _ => 0)), .inr (4, [.ref 29, .ref 30, .int (Int32.ofInt (0)), .int (Int32.ofInt (0))]), .inl (0, 16, .inl (fun _ => 0)), .inl (0, 16, .inl (fun _ => 0)), .inr (4, [.ref 32, .ref 33, .int (Int32.ofInt (0)), .int (Int32.ofInt (0))]), .inl (0, 16, .inl (fun _ => 0)), .inl (0, 16, .inl (fun _ => 0)), .inr (4, [.ref 35, .ref 36, .int (Int32.ofInt (0)), .int (Int32.ofInt (0))]), .inl (0, 16, .inl (fun _ => 0)), .inl (0, 16, .inl (fun _ => 0)), .inr (4, [.ref 38, .ref 39, .int (Int32.ofInt (0)), .int (Int32.ofInt (0))]), .inl (0, 16, .inl (fun _ => 0)), .inl (0, 16, .inl (fun _ => 0)), ra 5 2 imF, .inr (4, [.ref 42, .ref 43, .int (Int32.ofInt (0)), .int (Int32.ofInt (0))]), .inl (0, 16, .inl (fun _ => 0)), .inl (0, 16, .inl (fun _ => 0)), .inr (4, [.ref 45, .ref 46, .int (Int32.ofInt (0)), .int (Int32.ofInt (0))]), .inl (0, 16, .inl (fun _ => 0)), .inl (0, 16, .inl (fun _ => 0)), .inl (2, 2, .inl (fun _ => 0)), .inr (8, [.ref 49]), .inr (0, [.ref 50, .ref 59, .ref 60, .ref 69]), ra 3 8 (rwF 51), .inl (0, 8, .inl (fun _ => 0)), .inl (0, 8, .inl (fun _ => 0)), .inl (0, 8, .inl (fun _ => 0)), .inl (0, 8, .inl (fun _ => 0)), .inl (0, 8, .inl (fun _ => 0)), .inl (0, 8, .inl (fun _ => 0)), .inl (0, 8, .inl (fun _ => 0)), .inl (0, 8, .inl (fun _ => 0)), .inl (0, 8, .inl (fun _ => 0)), ra 4 8 (rwF 61), .inl (1, 8, .inr (.inl (fun _ => 0))), .inl (1, 8, .inr (.inl (fun _ => 0))), .inl (1, 8, .inr (.inl (fun _ => 0))), .inl (1, 8, .inr (.inl (fun _ => 0))), .inl (1, 8, .inr (.inl (fun _ => 0))), .inl (1, 8, .inr (.inl (fun _ => 0))), .inl (1, 8, .inr (.inl (fun _ => 0))), .inl (1, 8, .inr (.inl (fun _ => 0))), .inl (0, 8, .inl (fun _ => 0)), .inr (9, [.ref 71, .ref 92, .ref 93, .ref 94, .long (Int64.ofInt (0)), .int (Int32.ofInt (0)), .int (Int32.ofInt (-1))]), .inr (0, [.ref 72, .ref 81, .ref 82, .ref 91]), ra 3 8 (rwF 73), .inl (0, 8, .inl (fun _ => 0)), .inl (0, 8, .inl (fun _ => 0)), .inl (0, 8, .inl (fun _ => 0)), .inl (0, 8, .inl (fun _ => 0)), .inl (0, 8, .inl (fun _ => 0)), .inl (0, 8, .inl (fun _ => 0)), .inl (0, 8, .inl (fun _ => 0)), .inl (0, 8, .inl (fun _ => 0)), .inl (0, 8, .inl (fun _ => 0)), ra 4 8 (rwF 83), .inl (1, 8, .inr (.inl (fun _ => 0))), .inl (1, 8, .inr (.inl (fun _ => 0))), .inl (1, 8, .inr (.inl (fun _ => 0))), .inl (1, 8, .inr (.inl (fun _ => 0))), .inl (1, 8, .inr (.inl (fun _ => 0))), .inl (1, 8, .inr (.inl (fun _ => 0))), .inl (1, 8, .inr (.inl (fun _ => 0))), .inl (1, 8, .inr (.inl (fun _ => 0))), .inl (0, 8, .inl (fun _ => 0)), .inl (0, 16, .inl (fun _ => 0)), .inl (0, 8, .inl (fun _ => 0)), .inl (0, 16, .inl (fun _ => 0)), .inr (6, [.ref 96, .ref 117, .ref 118, .ref 119, .int (Int32.ofInt (0)), .int (Int32.ofInt (0)), .int (Int32.ofInt (0)), .long (Int64.ofInt (0)), .long (Int64.ofInt (-1))]), .inr (0, [.ref 97, .ref 106, .ref 107, .ref 116]), ra 3 8 (rwF 98), .inl (0, 8, .inl (fun _ => 0)), .inl (0, 8, .inl (fun _ => 0)), .inl (0, 8, .inl (fun _ => 0)), .inl (0, 8, .inl (fun _ => 0)), .inl (0, 8, .inl (fun _ => 0)), .inl (0, 8, .inl (fun _ => 0)), .inl (0, 8, .inl (fun _ => 0)), .inl (0, 8, .inl (fun _ => 0)), .inl (0, 8, .inl (fun _ => 0)), ra 4 8 (rwF 108), .inl (1, 8, .inr (.inl (fun _ => 0))), .inl (1, 8, .inr (.inl (fun _ => 0))), .inl (1, 8, .inr (.inl (fun _ => 0))), .inl (1, 8, .inr (.inl (fun _ => 0))), .inl (1, 8, .inr (.inl (fun _ => 0))), .inl (1, 8, .inr (.inl (fun _ => 0))), .inl (1, 8, .inr (.inl (fun _ => 0))), .inl (1, 8, .inr (.inl (fun _ => 0))), .inl (0, 8, .inl (fun _ => 0)), .inl (0, 8, .inl (fun _ => 0)), .inl (0, 17, .inl (fun _ => 0)), .inl (0, 17, .inl (fun _ => 0)), .inr (2, [.ref 121, .ref 122, .ref 123, .ref 124, .ref 125, .int (Int32.ofInt (0))]), .inl (0, 16, .inl (fun _ => 0)), .inl (0, 16, .inl (fun _ => 0)), .inl (0, 8, .inl (fun _ => 0)), .inl (0, 8, .inl (fun _ => 0)), .inl (0, 8, .inl (fun _ => 0)), .inr (1, [.int (Int32.ofInt (0))]), .inr (11, [.int 0, .ref 128, .int 0, .int 0, .int 0, .int 0, .int 0, .int 0, .int 0, .long 0, .ref 129, .ref 130, .ref 131, .ref 132, .ref 133, .ref 134, .ref 135, .ref 136, .ref 137, .int 0, .ref 138, .int 0, .ref 139, .ref 140, .int 0, .ref 141, .ref 142, .int 0, .int (Int32.ofInt (-1)), .int 0, .ref 143, .ref 144, .ref 145, .int 0, .int 0, .ref 146, .ref 147, .ref 148]), .inl (0, 540, .inl (fun _ => 0)), .inl (0, 34, .inl (fun _ => 0)), .inl (0, 34, .inl (fun _ => 0)), .inl (0, 68, .inl (fun _ => 0)), .inl (0, 272, .inl (fun _ => 0)), .inl (0, 34, .inl (fun _ => 0)), .inl (0, 34, .inl (fun _ => 0)), .inl (0, 34, .inl (fun _ => 0)), .inl (1, 8, .inr (.inl (fun _ => 0))), .inl (2, 2, .inl (fun _ => 0)), .inl (0, 1024, .inl (fun _ => 0)), .inl (1, 65536, .inr (.inl (fun _ => 0))), .inl (0, 8, .inl (fun _ => 0)), .inl (0, 16, .inl (fun _ => 0)), .inl (0, 16, .inl (fun _ => 0)), .inl (0, 17, .inl (fun _ => 0)), .inl (0, 17, .inl (fun _ => 0)), .inl (0, 9, .inl (fun _ => 0)), .inl (0, 16, .inl (fun _ => 0)), .inl (0, 8, .inl (fun _ => 0)), .inl (0, 8, .inl (fun _ => 0)), .inl (1, 1, .inr (.inl (fun _ => 0)))]
def hF : Hp := fun p => FT.getD p (.inr (99, []))
def hA0 : Hp := fun _ => .inr (99, [])
def hA1 : Hp := hX10 (va_up hA0 0 (.inr (10, [.null, .null, .null, .null, .null, .null, .null, .null, .null, .null, .null, .int 0]))) 0 1
def hA2 : Hp := hX11 (va_up hA1 127 (.inr (11, [.int 0, .null, .int 0, .int 0, .int 0, .int 0, .int 0, .int 0, .int 0, .long 0, .null, .null, .null, .null, .null, .null, .null, .null, .null, .int 0, .null, .int 0, .null, .null, .int 0, .null, .null, .int 0, .int 0, .int 0, .null, .null, .null, .int 0, .int 0, .null, .null, .null]))) 127 128
def hA : Hp := va_up hA2 149 (.inl (1, 1, .inr (.inl (fun _ => 0))))
theorem rext {N : Nat} {f g : Nat → Option Nat} {ad ad' : Nat → Nat} (h : ∀ i, i < N → (f i).map ad' = (g i).map ad) (hf : ∀ i, N ≤ i → f i = none) (hg : ∀ i, N ≤ i → g i = none) : (fun i => (f i).map ad') = fun i => (g i).map ad := funext (fun i => by
  by_cases c : i < N
  · exact h i c
  · rw [hf i (by omega), hg i (by omega)]
    rfl)
theorem cE_ra {ad : Nat → Nat} {kc : Nat → ClassId} {t m : Nat} {f : Nat → Option Nat} : cE ad kc (ra t m f) = .inl (kc t, m, .inr (.inr (.inr (.inr (fun i => (f i).map ad))))) := rfl
theorem rwF_no {p i : Nat} (h : 8 ≤ i) : rwF p i = none := if_neg (by omega)
theorem mnF_no {p i : Nat} (h : 8 ≤ i) : mnF p i = none := if_neg (by omega)
set_option maxRecDepth 100000 in
theorem eF_0 (ad : Nat → Nat) (kc : Nat → ClassId) : cE (fun p => ad (sg p)) kc (hF 0) = cE ad kc (hA 0) := rfl
set_option maxRecDepth 100000 in
theorem eF_1 (ad : Nat → Nat) (kc : Nat → ClassId) : cE (fun p => ad (sg p)) kc (hF 1) = cE ad kc (hA 1) := rfl
set_option maxRecDepth 100000 in
theorem eF_2 (ad : Nat → Nat) (kc : Nat → ClassId) : cE (fun p => ad (sg p)) kc (hF 2) = cE ad kc (hA 2) := rfl
set_option maxRecDepth 100000 in
theorem eF_3 (ad : Nat → Nat) (kc : Nat → ClassId) : cE (fun p => ad (sg p)) kc (hF 3) = cE ad kc (hA 3) := rfl
set_option maxRecDepth 100000 in
theorem eF_4 (ad : Nat → Nat) (kc : Nat → ClassId) : cE (fun p => ad (sg p)) kc (hF 4) = cE ad kc (hA 4) := rfl
set_option maxRecDepth 100000 in
theorem eF_5 (ad : Nat → Nat) (kc : Nat → ClassId) : cE (fun p => ad (sg p)) kc (hF 5) = cE ad kc (hA 5) := rfl
set_option maxRecDepth 100000 in
theorem eF_6 (ad : Nat → Nat) (kc : Nat → ClassId) : cE (fun p => ad (sg p)) kc (hF 6) = cE ad kc (hA 6) := rfl
set_option maxRecDepth 100000 in
theorem eF_7 (ad : Nat → Nat) (kc : Nat → ClassId) : cE (fun p => ad (sg p)) kc (hF 7) = cE ad kc (hA 7) := rfl
set_option maxRecDepth 100000 in
theorem eF_8 (ad : Nat → Nat) (kc : Nat → ClassId) : cE (fun p => ad (sg p)) kc (hF 8) = cE ad kc (hA 8) := rfl
set_option maxRecDepth 100000 in
theorem eF_9 (ad : Nat → Nat) (kc : Nat → ClassId) : cE (fun p => ad (sg p)) kc (hF 9) = cE ad kc (hA 9) := rfl
set_option maxRecDepth 100000 in
theorem eF_10 (ad : Nat → Nat) (kc : Nat → ClassId) : cE (fun p => ad (sg p)) kc (hF 10) = cE ad kc (hA 10) := rfl
set_option maxRecDepth 100000 in
theorem eF_11 (ad : Nat → Nat) (kc : Nat → ClassId) : cE (fun p => ad (sg p)) kc (hF 11) = cE ad kc (hA 11) := rfl
theorem eF_12 (ad : Nat → Nat) (kc : Nat → ClassId) : cE (fun p => ad (sg p)) kc (hF 12) = cE ad kc (hA 12) := by
  show cE (fun p => ad (sg p)) kc (ra 5 9 slF) = cE ad kc (ra 5 9 (va_up (va_up (va_up (va_up (va_up (va_up (va_up (va_up (va_up (fun _ => none) 0 (some (13))) 1 (some (16))) 2 (some (19))) 3 (some (22))) 4 (some (25))) 5 (some (28))) 6 (some (31))) 7 (some (34))) 8 (some (37))))
  rw [cE_ra, cE_ra, rext (N := 9) (f := slF) (g := va_up (va_up (va_up (va_up (va_up (va_up (va_up (va_up (va_up (fun _ => none) 0 (some (13))) 1 (some (16))) 2 (some (19))) 3 (some (22))) 4 (some (25))) 5 (some (28))) 6 (some (31))) 7 (some (34))) 8 (some (37))) (ad := ad) (ad' := fun p => ad (sg p)) (fun i hi => match i, hi with | 0, _ => rfl | 1, _ => rfl | 2, _ => rfl | 3, _ => rfl | 4, _ => rfl | 5, _ => rfl | 6, _ => rfl | 7, _ => rfl | 8, _ => rfl | q + 9, hi => absurd hi (by omega)) (fun i hi => if_neg (by omega)) (fun i hi => by simp only [va_up_at]; (repeat rw [if_neg (by omega)]))]
set_option maxRecDepth 100000 in
theorem eF_13 (ad : Nat → Nat) (kc : Nat → ClassId) : cE (fun p => ad (sg p)) kc (hF 13) = cE ad kc (hA 13) := rfl
set_option maxRecDepth 100000 in
theorem eF_14 (ad : Nat → Nat) (kc : Nat → ClassId) : cE (fun p => ad (sg p)) kc (hF 14) = cE ad kc (hA 14) := rfl
set_option maxRecDepth 100000 in
theorem eF_15 (ad : Nat → Nat) (kc : Nat → ClassId) : cE (fun p => ad (sg p)) kc (hF 15) = cE ad kc (hA 15) := rfl
set_option maxRecDepth 100000 in
theorem eF_16 (ad : Nat → Nat) (kc : Nat → ClassId) : cE (fun p => ad (sg p)) kc (hF 16) = cE ad kc (hA 16) := rfl
set_option maxRecDepth 100000 in
theorem eF_17 (ad : Nat → Nat) (kc : Nat → ClassId) : cE (fun p => ad (sg p)) kc (hF 17) = cE ad kc (hA 17) := rfl
set_option maxRecDepth 100000 in
theorem eF_18 (ad : Nat → Nat) (kc : Nat → ClassId) : cE (fun p => ad (sg p)) kc (hF 18) = cE ad kc (hA 18) := rfl
set_option maxRecDepth 100000 in
theorem eF_19 (ad : Nat → Nat) (kc : Nat → ClassId) : cE (fun p => ad (sg p)) kc (hF 19) = cE ad kc (hA 19) := rfl
set_option maxRecDepth 100000 in
theorem eF_20 (ad : Nat → Nat) (kc : Nat → ClassId) : cE (fun p => ad (sg p)) kc (hF 20) = cE ad kc (hA 20) := rfl
set_option maxRecDepth 100000 in
theorem eF_21 (ad : Nat → Nat) (kc : Nat → ClassId) : cE (fun p => ad (sg p)) kc (hF 21) = cE ad kc (hA 21) := rfl
set_option maxRecDepth 100000 in
theorem eF_22 (ad : Nat → Nat) (kc : Nat → ClassId) : cE (fun p => ad (sg p)) kc (hF 22) = cE ad kc (hA 22) := rfl
set_option maxRecDepth 100000 in
theorem eF_23 (ad : Nat → Nat) (kc : Nat → ClassId) : cE (fun p => ad (sg p)) kc (hF 23) = cE ad kc (hA 23) := rfl
set_option maxRecDepth 100000 in
theorem eF_24 (ad : Nat → Nat) (kc : Nat → ClassId) : cE (fun p => ad (sg p)) kc (hF 24) = cE ad kc (hA 24) := rfl
set_option maxRecDepth 100000 in
theorem eF_25 (ad : Nat → Nat) (kc : Nat → ClassId) : cE (fun p => ad (sg p)) kc (hF 25) = cE ad kc (hA 25) := rfl
set_option maxRecDepth 100000 in
theorem eF_26 (ad : Nat → Nat) (kc : Nat → ClassId) : cE (fun p => ad (sg p)) kc (hF 26) = cE ad kc (hA 26) := rfl
set_option maxRecDepth 100000 in
theorem eF_27 (ad : Nat → Nat) (kc : Nat → ClassId) : cE (fun p => ad (sg p)) kc (hF 27) = cE ad kc (hA 27) := rfl
set_option maxRecDepth 100000 in
theorem eF_28 (ad : Nat → Nat) (kc : Nat → ClassId) : cE (fun p => ad (sg p)) kc (hF 28) = cE ad kc (hA 28) := rfl
set_option maxRecDepth 100000 in
theorem eF_29 (ad : Nat → Nat) (kc : Nat → ClassId) : cE (fun p => ad (sg p)) kc (hF 29) = cE ad kc (hA 29) := rfl
set_option maxRecDepth 100000 in
theorem eF_30 (ad : Nat → Nat) (kc : Nat → ClassId) : cE (fun p => ad (sg p)) kc (hF 30) = cE ad kc (hA 30) := rfl
set_option maxRecDepth 100000 in
theorem eF_31 (ad : Nat → Nat) (kc : Nat → ClassId) : cE (fun p => ad (sg p)) kc (hF 31) = cE ad kc (hA 31) := rfl
set_option maxRecDepth 100000 in
theorem eF_32 (ad : Nat → Nat) (kc : Nat → ClassId) : cE (fun p => ad (sg p)) kc (hF 32) = cE ad kc (hA 32) := rfl
set_option maxRecDepth 100000 in
theorem eF_33 (ad : Nat → Nat) (kc : Nat → ClassId) : cE (fun p => ad (sg p)) kc (hF 33) = cE ad kc (hA 33) := rfl
set_option maxRecDepth 100000 in
theorem eF_34 (ad : Nat → Nat) (kc : Nat → ClassId) : cE (fun p => ad (sg p)) kc (hF 34) = cE ad kc (hA 34) := rfl
set_option maxRecDepth 100000 in
theorem eF_35 (ad : Nat → Nat) (kc : Nat → ClassId) : cE (fun p => ad (sg p)) kc (hF 35) = cE ad kc (hA 35) := rfl
set_option maxRecDepth 100000 in
theorem eF_36 (ad : Nat → Nat) (kc : Nat → ClassId) : cE (fun p => ad (sg p)) kc (hF 36) = cE ad kc (hA 36) := rfl
set_option maxRecDepth 100000 in
theorem eF_37 (ad : Nat → Nat) (kc : Nat → ClassId) : cE (fun p => ad (sg p)) kc (hF 37) = cE ad kc (hA 37) := rfl
set_option maxRecDepth 100000 in
theorem eF_38 (ad : Nat → Nat) (kc : Nat → ClassId) : cE (fun p => ad (sg p)) kc (hF 38) = cE ad kc (hA 38) := rfl
set_option maxRecDepth 100000 in
theorem eF_39 (ad : Nat → Nat) (kc : Nat → ClassId) : cE (fun p => ad (sg p)) kc (hF 39) = cE ad kc (hA 39) := rfl
theorem eF_40 (ad : Nat → Nat) (kc : Nat → ClassId) : cE (fun p => ad (sg p)) kc (hF 40) = cE ad kc (hA 40) := by
  show cE (fun p => ad (sg p)) kc (ra 5 2 imF) = cE ad kc (ra 5 2 (va_up (va_up (fun _ => none) 0 (some (121))) 1 (some (124))))
  rw [cE_ra, cE_ra, rext (N := 2) (f := imF) (g := va_up (va_up (fun _ => none) 0 (some (121))) 1 (some (124))) (ad := ad) (ad' := fun p => ad (sg p)) (fun i hi => match i, hi with | 0, _ => rfl | 1, _ => rfl | q + 2, hi => absurd hi (by omega)) (fun i hi => if_neg (by omega)) (fun i hi => by simp only [va_up_at]; (repeat rw [if_neg (by omega)]))]
set_option maxRecDepth 100000 in
theorem eF_41 (ad : Nat → Nat) (kc : Nat → ClassId) : cE (fun p => ad (sg p)) kc (hF 41) = cE ad kc (hA 121) := rfl
set_option maxRecDepth 100000 in
theorem eF_42 (ad : Nat → Nat) (kc : Nat → ClassId) : cE (fun p => ad (sg p)) kc (hF 42) = cE ad kc (hA 122) := rfl
set_option maxRecDepth 100000 in
theorem eF_43 (ad : Nat → Nat) (kc : Nat → ClassId) : cE (fun p => ad (sg p)) kc (hF 43) = cE ad kc (hA 123) := rfl
set_option maxRecDepth 100000 in
theorem eF_44 (ad : Nat → Nat) (kc : Nat → ClassId) : cE (fun p => ad (sg p)) kc (hF 44) = cE ad kc (hA 124) := rfl
set_option maxRecDepth 100000 in
theorem eF_45 (ad : Nat → Nat) (kc : Nat → ClassId) : cE (fun p => ad (sg p)) kc (hF 45) = cE ad kc (hA 125) := rfl
set_option maxRecDepth 100000 in
theorem eF_46 (ad : Nat → Nat) (kc : Nat → ClassId) : cE (fun p => ad (sg p)) kc (hF 46) = cE ad kc (hA 126) := rfl
set_option maxRecDepth 100000 in
theorem eF_47 (ad : Nat → Nat) (kc : Nat → ClassId) : cE (fun p => ad (sg p)) kc (hF 47) = cE ad kc (hA 41) := rfl
set_option maxRecDepth 100000 in
theorem eF_48 (ad : Nat → Nat) (kc : Nat → ClassId) : cE (fun p => ad (sg p)) kc (hF 48) = cE ad kc (hA 42) := rfl
set_option maxRecDepth 100000 in
theorem eF_49 (ad : Nat → Nat) (kc : Nat → ClassId) : cE (fun p => ad (sg p)) kc (hF 49) = cE ad kc (hA 43) := rfl
theorem eF_50 (ad : Nat → Nat) (kc : Nat → ClassId) : cE (fun p => ad (sg p)) kc (hF 50) = cE ad kc (hA 44) := by
  show cE (fun p => ad (sg p)) kc (ra 3 8 (rwF 51)) = cE ad kc (ra 3 8 (mnF 44))
  rw [cE_ra, cE_ra, rext (N := 8) (f := rwF 51) (g := mnF 44) (ad := ad) (ad' := fun p => ad (sg p)) (fun i hi => match i, hi with | 0, _ => rfl | 1, _ => rfl | 2, _ => rfl | 3, _ => rfl | 4, _ => rfl | 5, _ => rfl | 6, _ => rfl | 7, _ => rfl | q + 8, hi => absurd hi (by omega)) (fun i hi => rwF_no hi) (fun i hi => mnF_no hi)]
set_option maxRecDepth 100000 in
theorem eF_51 (ad : Nat → Nat) (kc : Nat → ClassId) : cE (fun p => ad (sg p)) kc (hF 51) = cE ad kc (hA 45) := rfl
set_option maxRecDepth 100000 in
theorem eF_52 (ad : Nat → Nat) (kc : Nat → ClassId) : cE (fun p => ad (sg p)) kc (hF 52) = cE ad kc (hA 46) := rfl
set_option maxRecDepth 100000 in
theorem eF_53 (ad : Nat → Nat) (kc : Nat → ClassId) : cE (fun p => ad (sg p)) kc (hF 53) = cE ad kc (hA 47) := rfl
set_option maxRecDepth 100000 in
theorem eF_54 (ad : Nat → Nat) (kc : Nat → ClassId) : cE (fun p => ad (sg p)) kc (hF 54) = cE ad kc (hA 48) := rfl
set_option maxRecDepth 100000 in
theorem eF_55 (ad : Nat → Nat) (kc : Nat → ClassId) : cE (fun p => ad (sg p)) kc (hF 55) = cE ad kc (hA 49) := rfl
set_option maxRecDepth 100000 in
theorem eF_56 (ad : Nat → Nat) (kc : Nat → ClassId) : cE (fun p => ad (sg p)) kc (hF 56) = cE ad kc (hA 50) := rfl
set_option maxRecDepth 100000 in
theorem eF_57 (ad : Nat → Nat) (kc : Nat → ClassId) : cE (fun p => ad (sg p)) kc (hF 57) = cE ad kc (hA 51) := rfl
set_option maxRecDepth 100000 in
theorem eF_58 (ad : Nat → Nat) (kc : Nat → ClassId) : cE (fun p => ad (sg p)) kc (hF 58) = cE ad kc (hA 52) := rfl
set_option maxRecDepth 100000 in
theorem eF_59 (ad : Nat → Nat) (kc : Nat → ClassId) : cE (fun p => ad (sg p)) kc (hF 59) = cE ad kc (hA 53) := rfl
theorem eF_60 (ad : Nat → Nat) (kc : Nat → ClassId) : cE (fun p => ad (sg p)) kc (hF 60) = cE ad kc (hA 54) := by
  show cE (fun p => ad (sg p)) kc (ra 4 8 (rwF 61)) = cE ad kc (ra 4 8 (mnF 54))
  rw [cE_ra, cE_ra, rext (N := 8) (f := rwF 61) (g := mnF 54) (ad := ad) (ad' := fun p => ad (sg p)) (fun i hi => match i, hi with | 0, _ => rfl | 1, _ => rfl | 2, _ => rfl | 3, _ => rfl | 4, _ => rfl | 5, _ => rfl | 6, _ => rfl | 7, _ => rfl | q + 8, hi => absurd hi (by omega)) (fun i hi => rwF_no hi) (fun i hi => mnF_no hi)]
set_option maxRecDepth 100000 in
theorem eF_61 (ad : Nat → Nat) (kc : Nat → ClassId) : cE (fun p => ad (sg p)) kc (hF 61) = cE ad kc (hA 55) := rfl
set_option maxRecDepth 100000 in
theorem eF_62 (ad : Nat → Nat) (kc : Nat → ClassId) : cE (fun p => ad (sg p)) kc (hF 62) = cE ad kc (hA 56) := rfl
set_option maxRecDepth 100000 in
theorem eF_63 (ad : Nat → Nat) (kc : Nat → ClassId) : cE (fun p => ad (sg p)) kc (hF 63) = cE ad kc (hA 57) := rfl
set_option maxRecDepth 100000 in
theorem eF_64 (ad : Nat → Nat) (kc : Nat → ClassId) : cE (fun p => ad (sg p)) kc (hF 64) = cE ad kc (hA 58) := rfl
set_option maxRecDepth 100000 in
theorem eF_65 (ad : Nat → Nat) (kc : Nat → ClassId) : cE (fun p => ad (sg p)) kc (hF 65) = cE ad kc (hA 59) := rfl
set_option maxRecDepth 100000 in
theorem eF_66 (ad : Nat → Nat) (kc : Nat → ClassId) : cE (fun p => ad (sg p)) kc (hF 66) = cE ad kc (hA 60) := rfl
set_option maxRecDepth 100000 in
theorem eF_67 (ad : Nat → Nat) (kc : Nat → ClassId) : cE (fun p => ad (sg p)) kc (hF 67) = cE ad kc (hA 61) := rfl
set_option maxRecDepth 100000 in
theorem eF_68 (ad : Nat → Nat) (kc : Nat → ClassId) : cE (fun p => ad (sg p)) kc (hF 68) = cE ad kc (hA 62) := rfl
set_option maxRecDepth 100000 in
theorem eF_69 (ad : Nat → Nat) (kc : Nat → ClassId) : cE (fun p => ad (sg p)) kc (hF 69) = cE ad kc (hA 63) := rfl
set_option maxRecDepth 100000 in
theorem eF_70 (ad : Nat → Nat) (kc : Nat → ClassId) : cE (fun p => ad (sg p)) kc (hF 70) = cE ad kc (hA 64) := rfl
set_option maxRecDepth 100000 in
theorem eF_71 (ad : Nat → Nat) (kc : Nat → ClassId) : cE (fun p => ad (sg p)) kc (hF 71) = cE ad kc (hA 65) := rfl
theorem eF_72 (ad : Nat → Nat) (kc : Nat → ClassId) : cE (fun p => ad (sg p)) kc (hF 72) = cE ad kc (hA 66) := by
  show cE (fun p => ad (sg p)) kc (ra 3 8 (rwF 73)) = cE ad kc (ra 3 8 (mnF 66))
  rw [cE_ra, cE_ra, rext (N := 8) (f := rwF 73) (g := mnF 66) (ad := ad) (ad' := fun p => ad (sg p)) (fun i hi => match i, hi with | 0, _ => rfl | 1, _ => rfl | 2, _ => rfl | 3, _ => rfl | 4, _ => rfl | 5, _ => rfl | 6, _ => rfl | 7, _ => rfl | q + 8, hi => absurd hi (by omega)) (fun i hi => rwF_no hi) (fun i hi => mnF_no hi)]
set_option maxRecDepth 100000 in
theorem eF_73 (ad : Nat → Nat) (kc : Nat → ClassId) : cE (fun p => ad (sg p)) kc (hF 73) = cE ad kc (hA 67) := rfl
set_option maxRecDepth 100000 in
theorem eF_74 (ad : Nat → Nat) (kc : Nat → ClassId) : cE (fun p => ad (sg p)) kc (hF 74) = cE ad kc (hA 68) := rfl
set_option maxRecDepth 100000 in
theorem eF_75 (ad : Nat → Nat) (kc : Nat → ClassId) : cE (fun p => ad (sg p)) kc (hF 75) = cE ad kc (hA 69) := rfl
set_option maxRecDepth 100000 in
theorem eF_76 (ad : Nat → Nat) (kc : Nat → ClassId) : cE (fun p => ad (sg p)) kc (hF 76) = cE ad kc (hA 70) := rfl
set_option maxRecDepth 100000 in
theorem eF_77 (ad : Nat → Nat) (kc : Nat → ClassId) : cE (fun p => ad (sg p)) kc (hF 77) = cE ad kc (hA 71) := rfl
set_option maxRecDepth 100000 in
theorem eF_78 (ad : Nat → Nat) (kc : Nat → ClassId) : cE (fun p => ad (sg p)) kc (hF 78) = cE ad kc (hA 72) := rfl
set_option maxRecDepth 100000 in
theorem eF_79 (ad : Nat → Nat) (kc : Nat → ClassId) : cE (fun p => ad (sg p)) kc (hF 79) = cE ad kc (hA 73) := rfl
set_option maxRecDepth 100000 in
theorem eF_80 (ad : Nat → Nat) (kc : Nat → ClassId) : cE (fun p => ad (sg p)) kc (hF 80) = cE ad kc (hA 74) := rfl
set_option maxRecDepth 100000 in
theorem eF_81 (ad : Nat → Nat) (kc : Nat → ClassId) : cE (fun p => ad (sg p)) kc (hF 81) = cE ad kc (hA 75) := rfl
theorem eF_82 (ad : Nat → Nat) (kc : Nat → ClassId) : cE (fun p => ad (sg p)) kc (hF 82) = cE ad kc (hA 76) := by
  show cE (fun p => ad (sg p)) kc (ra 4 8 (rwF 83)) = cE ad kc (ra 4 8 (mnF 76))
  rw [cE_ra, cE_ra, rext (N := 8) (f := rwF 83) (g := mnF 76) (ad := ad) (ad' := fun p => ad (sg p)) (fun i hi => match i, hi with | 0, _ => rfl | 1, _ => rfl | 2, _ => rfl | 3, _ => rfl | 4, _ => rfl | 5, _ => rfl | 6, _ => rfl | 7, _ => rfl | q + 8, hi => absurd hi (by omega)) (fun i hi => rwF_no hi) (fun i hi => mnF_no hi)]
set_option maxRecDepth 100000 in
theorem eF_83 (ad : Nat → Nat) (kc : Nat → ClassId) : cE (fun p => ad (sg p)) kc (hF 83) = cE ad kc (hA 77) := rfl
set_option maxRecDepth 100000 in
theorem eF_84 (ad : Nat → Nat) (kc : Nat → ClassId) : cE (fun p => ad (sg p)) kc (hF 84) = cE ad kc (hA 78) := rfl
set_option maxRecDepth 100000 in
theorem eF_85 (ad : Nat → Nat) (kc : Nat → ClassId) : cE (fun p => ad (sg p)) kc (hF 85) = cE ad kc (hA 79) := rfl
set_option maxRecDepth 100000 in
theorem eF_86 (ad : Nat → Nat) (kc : Nat → ClassId) : cE (fun p => ad (sg p)) kc (hF 86) = cE ad kc (hA 80) := rfl
set_option maxRecDepth 100000 in
theorem eF_87 (ad : Nat → Nat) (kc : Nat → ClassId) : cE (fun p => ad (sg p)) kc (hF 87) = cE ad kc (hA 81) := rfl
set_option maxRecDepth 100000 in
theorem eF_88 (ad : Nat → Nat) (kc : Nat → ClassId) : cE (fun p => ad (sg p)) kc (hF 88) = cE ad kc (hA 82) := rfl
set_option maxRecDepth 100000 in
theorem eF_89 (ad : Nat → Nat) (kc : Nat → ClassId) : cE (fun p => ad (sg p)) kc (hF 89) = cE ad kc (hA 83) := rfl
set_option maxRecDepth 100000 in
theorem eF_90 (ad : Nat → Nat) (kc : Nat → ClassId) : cE (fun p => ad (sg p)) kc (hF 90) = cE ad kc (hA 84) := rfl
set_option maxRecDepth 100000 in
theorem eF_91 (ad : Nat → Nat) (kc : Nat → ClassId) : cE (fun p => ad (sg p)) kc (hF 91) = cE ad kc (hA 85) := rfl
set_option maxRecDepth 100000 in
theorem eF_92 (ad : Nat → Nat) (kc : Nat → ClassId) : cE (fun p => ad (sg p)) kc (hF 92) = cE ad kc (hA 86) := rfl
set_option maxRecDepth 100000 in
theorem eF_93 (ad : Nat → Nat) (kc : Nat → ClassId) : cE (fun p => ad (sg p)) kc (hF 93) = cE ad kc (hA 87) := rfl
set_option maxRecDepth 100000 in
theorem eF_94 (ad : Nat → Nat) (kc : Nat → ClassId) : cE (fun p => ad (sg p)) kc (hF 94) = cE ad kc (hA 88) := rfl
set_option maxRecDepth 100000 in
theorem eF_95 (ad : Nat → Nat) (kc : Nat → ClassId) : cE (fun p => ad (sg p)) kc (hF 95) = cE ad kc (hA 89) := rfl
set_option maxRecDepth 100000 in
theorem eF_96 (ad : Nat → Nat) (kc : Nat → ClassId) : cE (fun p => ad (sg p)) kc (hF 96) = cE ad kc (hA 90) := rfl
theorem eF_97 (ad : Nat → Nat) (kc : Nat → ClassId) : cE (fun p => ad (sg p)) kc (hF 97) = cE ad kc (hA 91) := by
  show cE (fun p => ad (sg p)) kc (ra 3 8 (rwF 98)) = cE ad kc (ra 3 8 (mnF 91))
  rw [cE_ra, cE_ra, rext (N := 8) (f := rwF 98) (g := mnF 91) (ad := ad) (ad' := fun p => ad (sg p)) (fun i hi => match i, hi with | 0, _ => rfl | 1, _ => rfl | 2, _ => rfl | 3, _ => rfl | 4, _ => rfl | 5, _ => rfl | 6, _ => rfl | 7, _ => rfl | q + 8, hi => absurd hi (by omega)) (fun i hi => rwF_no hi) (fun i hi => mnF_no hi)]
set_option maxRecDepth 100000 in
theorem eF_98 (ad : Nat → Nat) (kc : Nat → ClassId) : cE (fun p => ad (sg p)) kc (hF 98) = cE ad kc (hA 92) := rfl
set_option maxRecDepth 100000 in
theorem eF_99 (ad : Nat → Nat) (kc : Nat → ClassId) : cE (fun p => ad (sg p)) kc (hF 99) = cE ad kc (hA 93) := rfl
set_option maxRecDepth 100000 in
theorem eF_100 (ad : Nat → Nat) (kc : Nat → ClassId) : cE (fun p => ad (sg p)) kc (hF 100) = cE ad kc (hA 94) := rfl
set_option maxRecDepth 100000 in
theorem eF_101 (ad : Nat → Nat) (kc : Nat → ClassId) : cE (fun p => ad (sg p)) kc (hF 101) = cE ad kc (hA 95) := rfl
set_option maxRecDepth 100000 in
theorem eF_102 (ad : Nat → Nat) (kc : Nat → ClassId) : cE (fun p => ad (sg p)) kc (hF 102) = cE ad kc (hA 96) := rfl
set_option maxRecDepth 100000 in
theorem eF_103 (ad : Nat → Nat) (kc : Nat → ClassId) : cE (fun p => ad (sg p)) kc (hF 103) = cE ad kc (hA 97) := rfl
set_option maxRecDepth 100000 in
theorem eF_104 (ad : Nat → Nat) (kc : Nat → ClassId) : cE (fun p => ad (sg p)) kc (hF 104) = cE ad kc (hA 98) := rfl
set_option maxRecDepth 100000 in
theorem eF_105 (ad : Nat → Nat) (kc : Nat → ClassId) : cE (fun p => ad (sg p)) kc (hF 105) = cE ad kc (hA 99) := rfl
set_option maxRecDepth 100000 in
theorem eF_106 (ad : Nat → Nat) (kc : Nat → ClassId) : cE (fun p => ad (sg p)) kc (hF 106) = cE ad kc (hA 100) := rfl
theorem eF_107 (ad : Nat → Nat) (kc : Nat → ClassId) : cE (fun p => ad (sg p)) kc (hF 107) = cE ad kc (hA 101) := by
  show cE (fun p => ad (sg p)) kc (ra 4 8 (rwF 108)) = cE ad kc (ra 4 8 (mnF 101))
  rw [cE_ra, cE_ra, rext (N := 8) (f := rwF 108) (g := mnF 101) (ad := ad) (ad' := fun p => ad (sg p)) (fun i hi => match i, hi with | 0, _ => rfl | 1, _ => rfl | 2, _ => rfl | 3, _ => rfl | 4, _ => rfl | 5, _ => rfl | 6, _ => rfl | 7, _ => rfl | q + 8, hi => absurd hi (by omega)) (fun i hi => rwF_no hi) (fun i hi => mnF_no hi)]
set_option maxRecDepth 100000 in
theorem eF_108 (ad : Nat → Nat) (kc : Nat → ClassId) : cE (fun p => ad (sg p)) kc (hF 108) = cE ad kc (hA 102) := rfl
set_option maxRecDepth 100000 in
theorem eF_109 (ad : Nat → Nat) (kc : Nat → ClassId) : cE (fun p => ad (sg p)) kc (hF 109) = cE ad kc (hA 103) := rfl
set_option maxRecDepth 100000 in
theorem eF_110 (ad : Nat → Nat) (kc : Nat → ClassId) : cE (fun p => ad (sg p)) kc (hF 110) = cE ad kc (hA 104) := rfl
set_option maxRecDepth 100000 in
theorem eF_111 (ad : Nat → Nat) (kc : Nat → ClassId) : cE (fun p => ad (sg p)) kc (hF 111) = cE ad kc (hA 105) := rfl
set_option maxRecDepth 100000 in
theorem eF_112 (ad : Nat → Nat) (kc : Nat → ClassId) : cE (fun p => ad (sg p)) kc (hF 112) = cE ad kc (hA 106) := rfl
set_option maxRecDepth 100000 in
theorem eF_113 (ad : Nat → Nat) (kc : Nat → ClassId) : cE (fun p => ad (sg p)) kc (hF 113) = cE ad kc (hA 107) := rfl
set_option maxRecDepth 100000 in
theorem eF_114 (ad : Nat → Nat) (kc : Nat → ClassId) : cE (fun p => ad (sg p)) kc (hF 114) = cE ad kc (hA 108) := rfl
set_option maxRecDepth 100000 in
theorem eF_115 (ad : Nat → Nat) (kc : Nat → ClassId) : cE (fun p => ad (sg p)) kc (hF 115) = cE ad kc (hA 109) := rfl
set_option maxRecDepth 100000 in
theorem eF_116 (ad : Nat → Nat) (kc : Nat → ClassId) : cE (fun p => ad (sg p)) kc (hF 116) = cE ad kc (hA 110) := rfl
set_option maxRecDepth 100000 in
theorem eF_117 (ad : Nat → Nat) (kc : Nat → ClassId) : cE (fun p => ad (sg p)) kc (hF 117) = cE ad kc (hA 111) := rfl
set_option maxRecDepth 100000 in
theorem eF_118 (ad : Nat → Nat) (kc : Nat → ClassId) : cE (fun p => ad (sg p)) kc (hF 118) = cE ad kc (hA 112) := rfl
set_option maxRecDepth 100000 in
theorem eF_119 (ad : Nat → Nat) (kc : Nat → ClassId) : cE (fun p => ad (sg p)) kc (hF 119) = cE ad kc (hA 113) := rfl
set_option maxRecDepth 100000 in
theorem eF_120 (ad : Nat → Nat) (kc : Nat → ClassId) : cE (fun p => ad (sg p)) kc (hF 120) = cE ad kc (hA 114) := rfl
set_option maxRecDepth 100000 in
theorem eF_121 (ad : Nat → Nat) (kc : Nat → ClassId) : cE (fun p => ad (sg p)) kc (hF 121) = cE ad kc (hA 115) := rfl
set_option maxRecDepth 100000 in
theorem eF_122 (ad : Nat → Nat) (kc : Nat → ClassId) : cE (fun p => ad (sg p)) kc (hF 122) = cE ad kc (hA 116) := rfl
set_option maxRecDepth 100000 in
theorem eF_123 (ad : Nat → Nat) (kc : Nat → ClassId) : cE (fun p => ad (sg p)) kc (hF 123) = cE ad kc (hA 117) := rfl
set_option maxRecDepth 100000 in
theorem eF_124 (ad : Nat → Nat) (kc : Nat → ClassId) : cE (fun p => ad (sg p)) kc (hF 124) = cE ad kc (hA 118) := rfl
set_option maxRecDepth 100000 in
theorem eF_125 (ad : Nat → Nat) (kc : Nat → ClassId) : cE (fun p => ad (sg p)) kc (hF 125) = cE ad kc (hA 119) := rfl
set_option maxRecDepth 100000 in
theorem eF_126 (ad : Nat → Nat) (kc : Nat → ClassId) : cE (fun p => ad (sg p)) kc (hF 126) = cE ad kc (hA 120) := rfl
set_option maxRecDepth 100000 in
theorem eF_127 (ad : Nat → Nat) (kc : Nat → ClassId) : cE (fun p => ad (sg p)) kc (hF 127) = cE ad kc (hA 127) := rfl
set_option maxRecDepth 100000 in
theorem eF_128 (ad : Nat → Nat) (kc : Nat → ClassId) : cE (fun p => ad (sg p)) kc (hF 128) = cE ad kc (hA 128) := rfl
set_option maxRecDepth 100000 in
theorem eF_129 (ad : Nat → Nat) (kc : Nat → ClassId) : cE (fun p => ad (sg p)) kc (hF 129) = cE ad kc (hA 129) := rfl
set_option maxRecDepth 100000 in
theorem eF_130 (ad : Nat → Nat) (kc : Nat → ClassId) : cE (fun p => ad (sg p)) kc (hF 130) = cE ad kc (hA 130) := rfl
set_option maxRecDepth 100000 in
theorem eF_131 (ad : Nat → Nat) (kc : Nat → ClassId) : cE (fun p => ad (sg p)) kc (hF 131) = cE ad kc (hA 131) := rfl
set_option maxRecDepth 100000 in
theorem eF_132 (ad : Nat → Nat) (kc : Nat → ClassId) : cE (fun p => ad (sg p)) kc (hF 132) = cE ad kc (hA 132) := rfl
set_option maxRecDepth 100000 in
theorem eF_133 (ad : Nat → Nat) (kc : Nat → ClassId) : cE (fun p => ad (sg p)) kc (hF 133) = cE ad kc (hA 133) := rfl
set_option maxRecDepth 100000 in
theorem eF_134 (ad : Nat → Nat) (kc : Nat → ClassId) : cE (fun p => ad (sg p)) kc (hF 134) = cE ad kc (hA 134) := rfl
set_option maxRecDepth 100000 in
theorem eF_135 (ad : Nat → Nat) (kc : Nat → ClassId) : cE (fun p => ad (sg p)) kc (hF 135) = cE ad kc (hA 135) := rfl
set_option maxRecDepth 100000 in
theorem eF_136 (ad : Nat → Nat) (kc : Nat → ClassId) : cE (fun p => ad (sg p)) kc (hF 136) = cE ad kc (hA 136) := rfl
set_option maxRecDepth 100000 in
theorem eF_137 (ad : Nat → Nat) (kc : Nat → ClassId) : cE (fun p => ad (sg p)) kc (hF 137) = cE ad kc (hA 137) := rfl
set_option maxRecDepth 100000 in
theorem eF_138 (ad : Nat → Nat) (kc : Nat → ClassId) : cE (fun p => ad (sg p)) kc (hF 138) = cE ad kc (hA 138) := rfl
set_option maxRecDepth 100000 in
theorem eF_139 (ad : Nat → Nat) (kc : Nat → ClassId) : cE (fun p => ad (sg p)) kc (hF 139) = cE ad kc (hA 139) := rfl
set_option maxRecDepth 100000 in
theorem eF_140 (ad : Nat → Nat) (kc : Nat → ClassId) : cE (fun p => ad (sg p)) kc (hF 140) = cE ad kc (hA 140) := rfl
set_option maxRecDepth 100000 in
theorem eF_141 (ad : Nat → Nat) (kc : Nat → ClassId) : cE (fun p => ad (sg p)) kc (hF 141) = cE ad kc (hA 141) := rfl
set_option maxRecDepth 100000 in
theorem eF_142 (ad : Nat → Nat) (kc : Nat → ClassId) : cE (fun p => ad (sg p)) kc (hF 142) = cE ad kc (hA 142) := rfl
set_option maxRecDepth 100000 in
theorem eF_143 (ad : Nat → Nat) (kc : Nat → ClassId) : cE (fun p => ad (sg p)) kc (hF 143) = cE ad kc (hA 143) := rfl
set_option maxRecDepth 100000 in
theorem eF_144 (ad : Nat → Nat) (kc : Nat → ClassId) : cE (fun p => ad (sg p)) kc (hF 144) = cE ad kc (hA 144) := rfl
set_option maxRecDepth 100000 in
theorem eF_145 (ad : Nat → Nat) (kc : Nat → ClassId) : cE (fun p => ad (sg p)) kc (hF 145) = cE ad kc (hA 145) := rfl
set_option maxRecDepth 100000 in
theorem eF_146 (ad : Nat → Nat) (kc : Nat → ClassId) : cE (fun p => ad (sg p)) kc (hF 146) = cE ad kc (hA 146) := rfl
set_option maxRecDepth 100000 in
theorem eF_147 (ad : Nat → Nat) (kc : Nat → ClassId) : cE (fun p => ad (sg p)) kc (hF 147) = cE ad kc (hA 147) := rfl
set_option maxRecDepth 100000 in
theorem eF_148 (ad : Nat → Nat) (kc : Nat → ClassId) : cE (fun p => ad (sg p)) kc (hF 148) = cE ad kc (hA 148) := rfl
set_option maxRecDepth 100000 in
theorem eF_149 (ad : Nat → Nat) (kc : Nat → ClassId) : cE (fun p => ad (sg p)) kc (hF 149) = cE ad kc (hA 149) := rfl
theorem eF_all (ad : Nat → Nat) (kc : Nat → ClassId) (p : Nat) (hp : p < 150) : cE (fun p => ad (sg p)) kc (hF p) = cE ad kc (hA (sg p)) := by
  by_cases c75 : p < 75
  ·
    by_cases c37 : p < 37
    ·
      by_cases c18 : p < 18
      ·
        by_cases c9 : p < 9
        ·
          by_cases c4 : p < 4
          ·
            by_cases c2 : p < 2
            ·
              by_cases c1 : p < 1
              ·
                have e : p = 0 := by omega
                subst e
                exact eF_0 ad kc
              ·
                have e : p = 1 := by omega
                subst e
                exact eF_1 ad kc
            ·
              by_cases c3 : p < 3
              ·
                have e : p = 2 := by omega
                subst e
                exact eF_2 ad kc
              ·
                have e : p = 3 := by omega
                subst e
                exact eF_3 ad kc
          ·
            by_cases c6 : p < 6
            ·
              by_cases c5 : p < 5
              ·
                have e : p = 4 := by omega
                subst e
                exact eF_4 ad kc
              ·
                have e : p = 5 := by omega
                subst e
                exact eF_5 ad kc
            ·
              by_cases c7 : p < 7
              ·
                have e : p = 6 := by omega
                subst e
                exact eF_6 ad kc
              ·
                by_cases c8 : p < 8
                ·
                  have e : p = 7 := by omega
                  subst e
                  exact eF_7 ad kc
                ·
                  have e : p = 8 := by omega
                  subst e
                  exact eF_8 ad kc
        ·
          by_cases c13 : p < 13
          ·
            by_cases c11 : p < 11
            ·
              by_cases c10 : p < 10
              ·
                have e : p = 9 := by omega
                subst e
                exact eF_9 ad kc
              ·
                have e : p = 10 := by omega
                subst e
                exact eF_10 ad kc
            ·
              by_cases c12 : p < 12
              ·
                have e : p = 11 := by omega
                subst e
                exact eF_11 ad kc
              ·
                have e : p = 12 := by omega
                subst e
                exact eF_12 ad kc
          ·
            by_cases c15 : p < 15
            ·
              by_cases c14 : p < 14
              ·
                have e : p = 13 := by omega
                subst e
                exact eF_13 ad kc
              ·
                have e : p = 14 := by omega
                subst e
                exact eF_14 ad kc
            ·
              by_cases c16 : p < 16
              ·
                have e : p = 15 := by omega
                subst e
                exact eF_15 ad kc
              ·
                by_cases c17 : p < 17
                ·
                  have e : p = 16 := by omega
                  subst e
                  exact eF_16 ad kc
                ·
                  have e : p = 17 := by omega
                  subst e
                  exact eF_17 ad kc
      ·
        by_cases c27 : p < 27
        ·
          by_cases c22 : p < 22
          ·
            by_cases c20 : p < 20
            ·
              by_cases c19 : p < 19
              ·
                have e : p = 18 := by omega
                subst e
                exact eF_18 ad kc
              ·
                have e : p = 19 := by omega
                subst e
                exact eF_19 ad kc
            ·
              by_cases c21 : p < 21
              ·
                have e : p = 20 := by omega
                subst e
                exact eF_20 ad kc
              ·
                have e : p = 21 := by omega
                subst e
                exact eF_21 ad kc
          ·
            by_cases c24 : p < 24
            ·
              by_cases c23 : p < 23
              ·
                have e : p = 22 := by omega
                subst e
                exact eF_22 ad kc
              ·
                have e : p = 23 := by omega
                subst e
                exact eF_23 ad kc
            ·
              by_cases c25 : p < 25
              ·
                have e : p = 24 := by omega
                subst e
                exact eF_24 ad kc
              ·
                by_cases c26 : p < 26
                ·
                  have e : p = 25 := by omega
                  subst e
                  exact eF_25 ad kc
                ·
                  have e : p = 26 := by omega
                  subst e
                  exact eF_26 ad kc
        ·
          by_cases c32 : p < 32
          ·
            by_cases c29 : p < 29
            ·
              by_cases c28 : p < 28
              ·
                have e : p = 27 := by omega
                subst e
                exact eF_27 ad kc
              ·
                have e : p = 28 := by omega
                subst e
                exact eF_28 ad kc
            ·
              by_cases c30 : p < 30
              ·
                have e : p = 29 := by omega
                subst e
                exact eF_29 ad kc
              ·
                by_cases c31 : p < 31
                ·
                  have e : p = 30 := by omega
                  subst e
                  exact eF_30 ad kc
                ·
                  have e : p = 31 := by omega
                  subst e
                  exact eF_31 ad kc
          ·
            by_cases c34 : p < 34
            ·
              by_cases c33 : p < 33
              ·
                have e : p = 32 := by omega
                subst e
                exact eF_32 ad kc
              ·
                have e : p = 33 := by omega
                subst e
                exact eF_33 ad kc
            ·
              by_cases c35 : p < 35
              ·
                have e : p = 34 := by omega
                subst e
                exact eF_34 ad kc
              ·
                by_cases c36 : p < 36
                ·
                  have e : p = 35 := by omega
                  subst e
                  exact eF_35 ad kc
                ·
                  have e : p = 36 := by omega
                  subst e
                  exact eF_36 ad kc
    ·
      by_cases c56 : p < 56
      ·
        by_cases c46 : p < 46
        ·
          by_cases c41 : p < 41
          ·
            by_cases c39 : p < 39
            ·
              by_cases c38 : p < 38
              ·
                have e : p = 37 := by omega
                subst e
                exact eF_37 ad kc
              ·
                have e : p = 38 := by omega
                subst e
                exact eF_38 ad kc
            ·
              by_cases c40 : p < 40
              ·
                have e : p = 39 := by omega
                subst e
                exact eF_39 ad kc
              ·
                have e : p = 40 := by omega
                subst e
                exact eF_40 ad kc
          ·
            by_cases c43 : p < 43
            ·
              by_cases c42 : p < 42
              ·
                have e : p = 41 := by omega
                subst e
                exact eF_41 ad kc
              ·
                have e : p = 42 := by omega
                subst e
                exact eF_42 ad kc
            ·
              by_cases c44 : p < 44
              ·
                have e : p = 43 := by omega
                subst e
                exact eF_43 ad kc
              ·
                by_cases c45 : p < 45
                ·
                  have e : p = 44 := by omega
                  subst e
                  exact eF_44 ad kc
                ·
                  have e : p = 45 := by omega
                  subst e
                  exact eF_45 ad kc
        ·
          by_cases c51 : p < 51
          ·
            by_cases c48 : p < 48
            ·
              by_cases c47 : p < 47
              ·
                have e : p = 46 := by omega
                subst e
                exact eF_46 ad kc
              ·
                have e : p = 47 := by omega
                subst e
                exact eF_47 ad kc
            ·
              by_cases c49 : p < 49
              ·
                have e : p = 48 := by omega
                subst e
                exact eF_48 ad kc
              ·
                by_cases c50 : p < 50
                ·
                  have e : p = 49 := by omega
                  subst e
                  exact eF_49 ad kc
                ·
                  have e : p = 50 := by omega
                  subst e
                  exact eF_50 ad kc
          ·
            by_cases c53 : p < 53
            ·
              by_cases c52 : p < 52
              ·
                have e : p = 51 := by omega
                subst e
                exact eF_51 ad kc
              ·
                have e : p = 52 := by omega
                subst e
                exact eF_52 ad kc
            ·
              by_cases c54 : p < 54
              ·
                have e : p = 53 := by omega
                subst e
                exact eF_53 ad kc
              ·
                by_cases c55 : p < 55
                ·
                  have e : p = 54 := by omega
                  subst e
                  exact eF_54 ad kc
                ·
                  have e : p = 55 := by omega
                  subst e
                  exact eF_55 ad kc
      ·
        by_cases c65 : p < 65
        ·
          by_cases c60 : p < 60
          ·
            by_cases c58 : p < 58
            ·
              by_cases c57 : p < 57
              ·
                have e : p = 56 := by omega
                subst e
                exact eF_56 ad kc
              ·
                have e : p = 57 := by omega
                subst e
                exact eF_57 ad kc
            ·
              by_cases c59 : p < 59
              ·
                have e : p = 58 := by omega
                subst e
                exact eF_58 ad kc
              ·
                have e : p = 59 := by omega
                subst e
                exact eF_59 ad kc
          ·
            by_cases c62 : p < 62
            ·
              by_cases c61 : p < 61
              ·
                have e : p = 60 := by omega
                subst e
                exact eF_60 ad kc
              ·
                have e : p = 61 := by omega
                subst e
                exact eF_61 ad kc
            ·
              by_cases c63 : p < 63
              ·
                have e : p = 62 := by omega
                subst e
                exact eF_62 ad kc
              ·
                by_cases c64 : p < 64
                ·
                  have e : p = 63 := by omega
                  subst e
                  exact eF_63 ad kc
                ·
                  have e : p = 64 := by omega
                  subst e
                  exact eF_64 ad kc
        ·
          by_cases c70 : p < 70
          ·
            by_cases c67 : p < 67
            ·
              by_cases c66 : p < 66
              ·
                have e : p = 65 := by omega
                subst e
                exact eF_65 ad kc
              ·
                have e : p = 66 := by omega
                subst e
                exact eF_66 ad kc
            ·
              by_cases c68 : p < 68
              ·
                have e : p = 67 := by omega
                subst e
                exact eF_67 ad kc
              ·
                by_cases c69 : p < 69
                ·
                  have e : p = 68 := by omega
                  subst e
                  exact eF_68 ad kc
                ·
                  have e : p = 69 := by omega
                  subst e
                  exact eF_69 ad kc
          ·
            by_cases c72 : p < 72
            ·
              by_cases c71 : p < 71
              ·
                have e : p = 70 := by omega
                subst e
                exact eF_70 ad kc
              ·
                have e : p = 71 := by omega
                subst e
                exact eF_71 ad kc
            ·
              by_cases c73 : p < 73
              ·
                have e : p = 72 := by omega
                subst e
                exact eF_72 ad kc
              ·
                by_cases c74 : p < 74
                ·
                  have e : p = 73 := by omega
                  subst e
                  exact eF_73 ad kc
                ·
                  have e : p = 74 := by omega
                  subst e
                  exact eF_74 ad kc
  ·
    by_cases c112 : p < 112
    ·
      by_cases c93 : p < 93
      ·
        by_cases c84 : p < 84
        ·
          by_cases c79 : p < 79
          ·
            by_cases c77 : p < 77
            ·
              by_cases c76 : p < 76
              ·
                have e : p = 75 := by omega
                subst e
                exact eF_75 ad kc
              ·
                have e : p = 76 := by omega
                subst e
                exact eF_76 ad kc
            ·
              by_cases c78 : p < 78
              ·
                have e : p = 77 := by omega
                subst e
                exact eF_77 ad kc
              ·
                have e : p = 78 := by omega
                subst e
                exact eF_78 ad kc
          ·
            by_cases c81 : p < 81
            ·
              by_cases c80 : p < 80
              ·
                have e : p = 79 := by omega
                subst e
                exact eF_79 ad kc
              ·
                have e : p = 80 := by omega
                subst e
                exact eF_80 ad kc
            ·
              by_cases c82 : p < 82
              ·
                have e : p = 81 := by omega
                subst e
                exact eF_81 ad kc
              ·
                by_cases c83 : p < 83
                ·
                  have e : p = 82 := by omega
                  subst e
                  exact eF_82 ad kc
                ·
                  have e : p = 83 := by omega
                  subst e
                  exact eF_83 ad kc
        ·
          by_cases c88 : p < 88
          ·
            by_cases c86 : p < 86
            ·
              by_cases c85 : p < 85
              ·
                have e : p = 84 := by omega
                subst e
                exact eF_84 ad kc
              ·
                have e : p = 85 := by omega
                subst e
                exact eF_85 ad kc
            ·
              by_cases c87 : p < 87
              ·
                have e : p = 86 := by omega
                subst e
                exact eF_86 ad kc
              ·
                have e : p = 87 := by omega
                subst e
                exact eF_87 ad kc
          ·
            by_cases c90 : p < 90
            ·
              by_cases c89 : p < 89
              ·
                have e : p = 88 := by omega
                subst e
                exact eF_88 ad kc
              ·
                have e : p = 89 := by omega
                subst e
                exact eF_89 ad kc
            ·
              by_cases c91 : p < 91
              ·
                have e : p = 90 := by omega
                subst e
                exact eF_90 ad kc
              ·
                by_cases c92 : p < 92
                ·
                  have e : p = 91 := by omega
                  subst e
                  exact eF_91 ad kc
                ·
                  have e : p = 92 := by omega
                  subst e
                  exact eF_92 ad kc
      ·
        by_cases c102 : p < 102
        ·
          by_cases c97 : p < 97
          ·
            by_cases c95 : p < 95
            ·
              by_cases c94 : p < 94
              ·
                have e : p = 93 := by omega
                subst e
                exact eF_93 ad kc
              ·
                have e : p = 94 := by omega
                subst e
                exact eF_94 ad kc
            ·
              by_cases c96 : p < 96
              ·
                have e : p = 95 := by omega
                subst e
                exact eF_95 ad kc
              ·
                have e : p = 96 := by omega
                subst e
                exact eF_96 ad kc
          ·
            by_cases c99 : p < 99
            ·
              by_cases c98 : p < 98
              ·
                have e : p = 97 := by omega
                subst e
                exact eF_97 ad kc
              ·
                have e : p = 98 := by omega
                subst e
                exact eF_98 ad kc
            ·
              by_cases c100 : p < 100
              ·
                have e : p = 99 := by omega
                subst e
                exact eF_99 ad kc
              ·
                by_cases c101 : p < 101
                ·
                  have e : p = 100 := by omega
                  subst e
                  exact eF_100 ad kc
                ·
                  have e : p = 101 := by omega
                  subst e
                  exact eF_101 ad kc
        ·
          by_cases c107 : p < 107
          ·
            by_cases c104 : p < 104
            ·
              by_cases c103 : p < 103
              ·
                have e : p = 102 := by omega
                subst e
                exact eF_102 ad kc
              ·
                have e : p = 103 := by omega
                subst e
                exact eF_103 ad kc
            ·
              by_cases c105 : p < 105
              ·
                have e : p = 104 := by omega
                subst e
                exact eF_104 ad kc
              ·
                by_cases c106 : p < 106
                ·
                  have e : p = 105 := by omega
                  subst e
                  exact eF_105 ad kc
                ·
                  have e : p = 106 := by omega
                  subst e
                  exact eF_106 ad kc
          ·
            by_cases c109 : p < 109
            ·
              by_cases c108 : p < 108
              ·
                have e : p = 107 := by omega
                subst e
                exact eF_107 ad kc
              ·
                have e : p = 108 := by omega
                subst e
                exact eF_108 ad kc
            ·
              by_cases c110 : p < 110
              ·
                have e : p = 109 := by omega
                subst e
                exact eF_109 ad kc
              ·
                by_cases c111 : p < 111
                ·
                  have e : p = 110 := by omega
                  subst e
                  exact eF_110 ad kc
                ·
                  have e : p = 111 := by omega
                  subst e
                  exact eF_111 ad kc
    ·
      by_cases c131 : p < 131
      ·
        by_cases c121 : p < 121
        ·
          by_cases c116 : p < 116
          ·
            by_cases c114 : p < 114
            ·
              by_cases c113 : p < 113
              ·
                have e : p = 112 := by omega
                subst e
                exact eF_112 ad kc
              ·
                have e : p = 113 := by omega
                subst e
                exact eF_113 ad kc
            ·
              by_cases c115 : p < 115
              ·
                have e : p = 114 := by omega
                subst e
                exact eF_114 ad kc
              ·
                have e : p = 115 := by omega
                subst e
                exact eF_115 ad kc
          ·
            by_cases c118 : p < 118
            ·
              by_cases c117 : p < 117
              ·
                have e : p = 116 := by omega
                subst e
                exact eF_116 ad kc
              ·
                have e : p = 117 := by omega
                subst e
                exact eF_117 ad kc
            ·
              by_cases c119 : p < 119
              ·
                have e : p = 118 := by omega
                subst e
                exact eF_118 ad kc
              ·
                by_cases c120 : p < 120
                ·
                  have e : p = 119 := by omega
                  subst e
                  exact eF_119 ad kc
                ·
                  have e : p = 120 := by omega
                  subst e
                  exact eF_120 ad kc
        ·
          by_cases c126 : p < 126
          ·
            by_cases c123 : p < 123
            ·
              by_cases c122 : p < 122
              ·
                have e : p = 121 := by omega
                subst e
                exact eF_121 ad kc
              ·
                have e : p = 122 := by omega
                subst e
                exact eF_122 ad kc
            ·
              by_cases c124 : p < 124
              ·
                have e : p = 123 := by omega
                subst e
                exact eF_123 ad kc
              ·
                by_cases c125 : p < 125
                ·
                  have e : p = 124 := by omega
                  subst e
                  exact eF_124 ad kc
                ·
                  have e : p = 125 := by omega
                  subst e
                  exact eF_125 ad kc
          ·
            by_cases c128 : p < 128
            ·
              by_cases c127 : p < 127
              ·
                have e : p = 126 := by omega
                subst e
                exact eF_126 ad kc
              ·
                have e : p = 127 := by omega
                subst e
                exact eF_127 ad kc
            ·
              by_cases c129 : p < 129
              ·
                have e : p = 128 := by omega
                subst e
                exact eF_128 ad kc
              ·
                by_cases c130 : p < 130
                ·
                  have e : p = 129 := by omega
                  subst e
                  exact eF_129 ad kc
                ·
                  have e : p = 130 := by omega
                  subst e
                  exact eF_130 ad kc
      ·
        by_cases c140 : p < 140
        ·
          by_cases c135 : p < 135
          ·
            by_cases c133 : p < 133
            ·
              by_cases c132 : p < 132
              ·
                have e : p = 131 := by omega
                subst e
                exact eF_131 ad kc
              ·
                have e : p = 132 := by omega
                subst e
                exact eF_132 ad kc
            ·
              by_cases c134 : p < 134
              ·
                have e : p = 133 := by omega
                subst e
                exact eF_133 ad kc
              ·
                have e : p = 134 := by omega
                subst e
                exact eF_134 ad kc
          ·
            by_cases c137 : p < 137
            ·
              by_cases c136 : p < 136
              ·
                have e : p = 135 := by omega
                subst e
                exact eF_135 ad kc
              ·
                have e : p = 136 := by omega
                subst e
                exact eF_136 ad kc
            ·
              by_cases c138 : p < 138
              ·
                have e : p = 137 := by omega
                subst e
                exact eF_137 ad kc
              ·
                by_cases c139 : p < 139
                ·
                  have e : p = 138 := by omega
                  subst e
                  exact eF_138 ad kc
                ·
                  have e : p = 139 := by omega
                  subst e
                  exact eF_139 ad kc
        ·
          by_cases c145 : p < 145
          ·
            by_cases c142 : p < 142
            ·
              by_cases c141 : p < 141
              ·
                have e : p = 140 := by omega
                subst e
                exact eF_140 ad kc
              ·
                have e : p = 141 := by omega
                subst e
                exact eF_141 ad kc
            ·
              by_cases c143 : p < 143
              ·
                have e : p = 142 := by omega
                subst e
                exact eF_142 ad kc
              ·
                by_cases c144 : p < 144
                ·
                  have e : p = 143 := by omega
                  subst e
                  exact eF_143 ad kc
                ·
                  have e : p = 144 := by omega
                  subst e
                  exact eF_144 ad kc
          ·
            by_cases c147 : p < 147
            ·
              by_cases c146 : p < 146
              ·
                have e : p = 145 := by omega
                subst e
                exact eF_145 ad kc
              ·
                have e : p = 146 := by omega
                subst e
                exact eF_146 ad kc
            ·
              by_cases c148 : p < 148
              ·
                have e : p = 147 := by omega
                subst e
                exact eF_147 ad kc
              ·
                by_cases c149 : p < 149
                ·
                  have e : p = 148 := by omega
                  subst e
                  exact eF_148 ad kc
                ·
                  have e : p = 149 := by omega
                  subst e
                  exact eF_149 ad kc
theorem sg_lt {p : Nat} (h : p < 150) : sg p < 150 := by
  unfold sg
  split
  · omega
  · split
    · omega
    · split <;> omega
theorem sg_inj {p q : Nat} (h : sg p = sg q) (hp : p < 150) (hq : q < 150) : p = q := by
  unfold sg at h
  repeat' split at h
  all_goals omega
theorem HW.ren {G : GW} {A : Nat → Prop} {H : Heap} (h1 : G.1 = 150) (hW : HW G A hA H) : HW (150, fun p => G.2.1 (sg p), G.2.2) A hF H := by
  have key : ∀ (k : Nat) (x : Nat × va_E), (cW (150, fun p => G.2.1 (sg p), G.2.2) hF)[k]? = some x → k < 150 ∧ (cW G hA)[sg k]? = some x := fun k x hk => by
    have hk1 : k < 150 := by
      have := (List.getElem?_eq_some_iff.mp hk).1
      simpa [cW] using this
    rw [cW_get (G := (150, fun p => G.2.1 (sg p), G.2.2)) hk1] at hk
    refine ⟨hk1, ?_⟩
    rw [cW_get (by rw [h1]; exact sg_lt hk1), ← hk]
    exact congrArg some (congrArg (Prod.mk _) (eF_all G.2.1 G.2.2.1 k hk1).symm)
  refine ⟨fun k x hk => hW.1 (sg k) x (key k x hk).2, ⟨?_, fun k x hk => hW.2.1.2 (sg k) x (key k x hk).2⟩, fun k hk => ?_⟩
  · intro i j x y hx hy e
    exact sg_inj (hW.2.1.1 (sg i) (sg j) x y (key i x hx).2 (key j y hy).2 e) (key i x hx).1 (key j y hy).1
  · show FT.getD k _ = _
    rw [List.getD_eq_getElem?_getD, List.getElem?_eq_none (show FT.length ≤ k from hk)]
    rfl
theorem fNet (k : Nat) (x : hF k = .inr (4, [.ref (k + 1), .ref (k + 2), .int (Int32.ofInt 0), .int (Int32.ofInt 0)])) (y : hF (k + 1) = .inl (0, 16, .inl (fun _ => 0))) (z : hF (k + 2) = .inl (0, 16, .inl (fun _ => 0))) : NetG hF k (0, 0, fun _ => 0, fun _ => 0) := ⟨fun _ => 0, fun _ => 0, x, y, z, by decide, by decide, fun j hj => absurd hj (by simp)⟩
theorem fNetS {k : Nat} (h : NetG hF k (0, 0, fun _ => 0, fun _ => 0)) : NetS hF k := h.shape
theorem fCnt (c : Nat) (h0 : hF c = .inr (0, [.ref (c + 1), .ref (c + 10), .ref (c + 11), .ref (c + 20)])) (h1 : hF (c + 1) = ra 3 8 (rwF (c + 2))) (h2 : hF (c + 11) = ra 4 8 (rwF (c + 12))) (h3 : hF (c + 10) = .inl (0, 8, .inl (fun _ => 0))) (h4 : hF (c + 20) = .inl (0, 8, .inl (fun _ => 0))) (h5 : ∀ p, p < 8 → hF (c + 2 + p) = .inl (0, 8, .inl (fun _ => 0))) (h6 : ∀ p, p < 8 → hF (c + 12 + p) = .inl (1, 8, .inr (.inl (fun _ => 0)))) : CntR hF c (fun _ _ => 0) (fun _ => 0) := ⟨h0, h1, h2, ⟨fun _ => 0, h3, fun _ _ => rfl⟩, ⟨fun _ => 0, h4⟩, fun p hp => ⟨fun _ => 0, h5 p hp, fun _ _ => rfl⟩, fun p hp => ⟨fun _ => 0, h6 p hp⟩⟩
theorem fCnt49 : CntR hF 49 (fun _ _ => 0) (fun _ => 0) := fCnt 49 rfl rfl rfl rfl rfl (fun i hi => match i, hi with | 0, _ => rfl | 1, _ => rfl | 2, _ => rfl | 3, _ => rfl | 4, _ => rfl | 5, _ => rfl | 6, _ => rfl | 7, _ => rfl | q + 8, hi => absurd hi (by omega)) (fun i hi => match i, hi with | 0, _ => rfl | 1, _ => rfl | 2, _ => rfl | 3, _ => rfl | 4, _ => rfl | 5, _ => rfl | 6, _ => rfl | 7, _ => rfl | q + 8, hi => absurd hi (by omega))
theorem fCnt71 : CntR hF 71 (fun _ _ => 0) (fun _ => 0) := fCnt 71 rfl rfl rfl rfl rfl (fun i hi => match i, hi with | 0, _ => rfl | 1, _ => rfl | 2, _ => rfl | 3, _ => rfl | 4, _ => rfl | 5, _ => rfl | 6, _ => rfl | 7, _ => rfl | q + 8, hi => absurd hi (by omega)) (fun i hi => match i, hi with | 0, _ => rfl | 1, _ => rfl | 2, _ => rfl | 3, _ => rfl | 4, _ => rfl | 5, _ => rfl | 6, _ => rfl | 7, _ => rfl | q + 8, hi => absurd hi (by omega))
theorem fCnt96 : CntR hF 96 (fun _ _ => 0) (fun _ => 0) := fCnt 96 rfl rfl rfl rfl rfl (fun i hi => match i, hi with | 0, _ => rfl | 1, _ => rfl | 2, _ => rfl | 3, _ => rfl | 4, _ => rfl | 5, _ => rfl | 6, _ => rfl | 7, _ => rfl | q + 8, hi => absurd hi (by omega)) (fun i hi => match i, hi with | 0, _ => rfl | 1, _ => rfl | 2, _ => rfl | 3, _ => rfl | 4, _ => rfl | 5, _ => rfl | 6, _ => rfl | 7, _ => rfl | q + 8, hi => absurd hi (by omega))
def vF : Nat → Int32 := fun j => if j = 28 then Int32.ofInt (-1) else 0
set_option maxRecDepth 100000 in
theorem inv_fresh : INV hF := by
  refine ⟨0, 0, fun _ => 0, (0, 0, fun _ => 0, fun _ => 0), [], fun _ => none, 0, fun _ => 0, -1, none, 0, fun _ => 0, vF, 0, fun _ => 0, ⟨rfl, ?_, ?_, fNet 8 rfl rfl rfl, ?_, ?_, ?_, ?_, ?_, ?_, ⟨Int32.ofInt 0, rfl⟩⟩, rfl, ⟨rfl, ?_, ?_, ?_, ?_, ⟨⟨_, rfl⟩, _, rfl⟩, ⟨_, rfl⟩, ⟨_, rfl⟩, ⟨_, rfl⟩, ⟨⟨_, rfl⟩, ⟨_, rfl⟩, _, rfl⟩, ⟨rfl, by decide, _, rfl, fun i hi => absurd hi (by omega)⟩, rfl, ⟨rfl, _, rfl⟩, ⟨rfl, by decide, _, rfl, fun i hi => absurd hi (by omega)⟩, ⟨_, rfl⟩, ⟨_, rfl⟩, ⟨_, rfl⟩, ⟨_, rfl⟩, ⟨_, rfl⟩⟩, rfl⟩
  · exact ⟨fun _ => 0, rfl, rfl, by decide, fun j hj => absurd hj (by omega)⟩
  · exact ⟨0, 0, 0, 0, 0, fun _ => 0, rfl, by decide, by decide, (fNet 4 rfl rfl rfl).shape, rfl⟩
  · exact ⟨0, rfl, rfl, by decide, by decide, fun i hi => match i, hi with | 0, _ => (fNet 13 rfl rfl rfl).shape | 1, _ => (fNet 16 rfl rfl rfl).shape | 2, _ => (fNet 19 rfl rfl rfl).shape | 3, _ => (fNet 22 rfl rfl rfl).shape | 4, _ => (fNet 25 rfl rfl rfl).shape | 5, _ => (fNet 28 rfl rfl rfl).shape | 6, _ => (fNet 31 rfl rfl rfl).shape | 7, _ => (fNet 34 rfl rfl rfl).shape | 8, _ => (fNet 37 rfl rfl rfl).shape | q + 9, hi => absurd hi (by omega), fun i N hi => by simp at hi⟩
  · exact ⟨rfl, ⟨fun _ => 0, rfl, fun i hi => rfl⟩, fun i hi => match i, hi with | 0, _ => (fNet 41 rfl rfl rfl).shape | 1, _ => (fNet 44 rfl rfl rfl).shape | q + 2, hi => absurd hi (by omega), fun i N _ hi => by simp at hi⟩
  · exact ⟨rfl, _, _, fCnt49⟩
  · exact ⟨⟨⟨0, rfl⟩, by decide, ⟨_, rfl⟩, ⟨_, rfl⟩, _, rfl, fun i hi => absurd hi (by omega)⟩, _, _, fCnt71⟩
  · exact ⟨⟨_, _, fCnt96⟩, 0, fun _ => 0, fun _ => 0, rfl, by decide, by decide, by decide, by decide, ⟨fun _ => 0, rfl, fun p hp => ⟨rfl, by show (0 : Nat) < 1000; decide⟩⟩, ⟨fun _ => 0, rfl, fun i hi => absurd hi (by omega)⟩, fun _ => 0, rfl, fun i hi => absurd hi (by omega)⟩
  · exact ⟨⟨0, rfl⟩, ⟨_, rfl⟩, ⟨_, rfl⟩, ⟨_, rfl⟩, ⟨_, rfl⟩, _, rfl⟩
  · exact ⟨rfl, by decide, fun _ => 0, rfl, fun j hj => absurd hj (by omega)⟩
  · exact ⟨fun _ => 0, rfl, rfl, rfl, by decide, by decide, fun j hj => absurd hj (by simp)⟩
  · exact ⟨rfl, by decide, fun _ => 0, rfl, fun i N hi => by simp at hi⟩
  · exact ⟨⟨fun _ => 0, rfl, fun i hi => rfl⟩, fun _ => 0, rfl, fun i N _ hi => by simp at hi⟩
