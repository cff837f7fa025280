/-! the layout of the cells: a place is an offset from the base -/
def tcX (o : Nat) : Nat := if o < 7 then o else if o < 127 then 7 + (o - 7) % 5 else if o < 287 then 12 else if o < 292 then o - 274 else if o < 364 then 18 + (o - 292) % 6 else if o < 367 then o - 340 else 99
def ftX (t k : Nat) : Nat := if t = 12 then 12 else if t = 26 then 12 else if t = 7 then (if k = 9 then 12 else if k = 10 then 12 else 7) else 7
abbrev tysX (dA : Nat → ClassId) : List (ClassId × FieldType) := [(dA 0, .int), (dA 1, .char), (dA 2, .boolean), (dA 3, .object "PlainPage$Node"), (dA 4, .object "PlainPage$Letter"), (dA 5, .object "PlainPage$Rule")]
theorem q_in {o t : Nat} (h : tcX o = t) (ht : t < 99) : o < 367 := by
  unfold tcX at h
  repeat' split at h
  all_goals omega
theorem tc_7 {o : Nat} (h : tcX o = 7) : 7 ≤ o ∧ o < 127 ∧ (o - 7) % 5 = 0 := by
  unfold tcX at h
  repeat' split at h
  all_goals omega
theorem tc_8 {o : Nat} (h : tcX o = 8) : 7 ≤ o ∧ o < 127 ∧ (o - 7) % 5 = 1 := by
  unfold tcX at h
  repeat' split at h
  all_goals omega
theorem tc_18 {o : Nat} (h : tcX o = 18) : 292 ≤ o ∧ o < 364 ∧ (o - 292) % 6 = 0 := by
  unfold tcX at h
  repeat' split at h
  all_goals omega
theorem tc_7_1 {o : Nat} (h : tcX o = 7) : tcX (o + 1) = 8 := by
  have h1 := tc_7 h
  unfold tcX
  repeat' split
  all_goals omega
theorem tc_7_2 {o : Nat} (h : tcX o = 7) : tcX (o + 2) = 9 := by
  have h1 := tc_7 h
  unfold tcX
  repeat' split
  all_goals omega
theorem tc_7_3 {o : Nat} (h : tcX o = 7) : tcX (o + 3) = 10 := by
  have h1 := tc_7 h
  unfold tcX
  repeat' split
  all_goals omega
theorem tc_7_4 {o : Nat} (h : tcX o = 7) : tcX (o + 4) = 11 := by
  have h1 := tc_7 h
  unfold tcX
  repeat' split
  all_goals omega
theorem tc_8_1 {o : Nat} (h : tcX o = 8) : tcX (o + 1) = 9 := by
  have h1 := tc_8 h
  unfold tcX
  repeat' split
  all_goals omega
theorem tc_18_1 {o : Nat} (h : tcX o = 18) : tcX (o + 1) = 19 := by
  have h1 := tc_18 h
  unfold tcX
  repeat' split
  all_goals omega
theorem tc_18_2 {o : Nat} (h : tcX o = 18) : tcX (o + 2) = 20 := by
  have h1 := tc_18 h
  unfold tcX
  repeat' split
  all_goals omega
theorem tc_18_3 {o : Nat} (h : tcX o = 18) : tcX (o + 3) = 21 := by
  have h1 := tc_18 h
  unfold tcX
  repeat' split
  all_goals omega
theorem tc_18_4 {o : Nat} (h : tcX o = 18) : tcX (o + 4) = 22 := by
  have h1 := tc_18 h
  unfold tcX
  repeat' split
  all_goals omega
theorem tc_18_5 {o : Nat} (h : tcX o = 18) : tcX (o + 5) = 23 := by
  have h1 := tc_18 h
  unfold tcX
  repeat' split
  all_goals omega
theorem tc_e2 {i : Int32} (h : vp_in i 24) : tcX (7 + 5 * i.toNatClampNeg) = 7 := by
  have h1 : i.toNatClampNeg < 24 := Nat.not_le.mp fun q => h (Or.inr q)
  generalize i.toNatClampNeg = j at h1 ⊢
  unfold tcX
  repeat' split
  all_goals omega
theorem tc_e4 {i : Int32} (h : vp_in i 160) : tcX (127 + i.toNatClampNeg) = 12 := by
  have h1 : i.toNatClampNeg < 160 := Nat.not_le.mp fun q => h (Or.inr q)
  generalize i.toNatClampNeg = j at h1 ⊢
  unfold tcX
  repeat' split
  all_goals omega
theorem tc_e15 {i : Int32} (h : vp_in i 12) : tcX (292 + 6 * i.toNatClampNeg) = 18 := by
  have h1 : i.toNatClampNeg < 12 := Nat.not_le.mp fun q => h (Or.inr q)
  generalize i.toNatClampNeg = j at h1 ⊢
  unfold tcX
  repeat' split
  all_goals omega
def fX11 (b o : Nat) (f : Nat → Int32) (g : Nat → Option Nat) : List Value := [.int (f 0), .int (f 1), .int (f 2), .int (f 3), .int (f 4), .int (f 5), .int (f 6), .int (f 7), .int (f 8), .int (f 9)]
def fX8 (b o : Nat) (f : Nat → Int32) (g : Nat → Option Nat) : List Value := [.ref (b + (o + 1)), .int (f 1)]
def fX12 (b o : Nat) (f : Nat → Int32) (g : Nat → Option Nat) : List Value := [.int (f 0), va_rf ((g 1).map fun q => b + q), .int (f 2), .int (f 3), .int (f 4), .int (f 5)]
def fX7 (b o : Nat) (f : Nat → Int32) (g : Nat → Option Nat) : List Value := [.int (f 0), .int (f 1), .int (f 2), .int (f 3), va_rf ((g 4).map fun q => b + q), va_rf ((g 5).map fun q => b + q), va_rf ((g 6).map fun q => b + q), va_rf ((g 7).map fun q => b + q), va_rf ((g 8).map fun q => b + q), va_rf ((g 9).map fun q => b + q), va_rf ((g 10).map fun q => b + q), .ref (b + (o + 1)), .ref (b + (o + 3)), .ref (b + (o + 4))]
def fX5 (b o : Nat) (f : Nat → Int32) (g : Nat → Option Nat) : List Value := [.ref (b + 6), .int (f 1)]
def fX1 (b o : Nat) (f : Nat → Int32) (g : Nat → Option Nat) : List Value := [.ref (b + 2), .ref (b + 3), .ref (b + 4), .ref (b + 5), .ref (b + 7), .int (f 5), .int (f 6), .int (f 7)]
def fX13 (b o : Nat) (f : Nat → Int32) (g : Nat → Option Nat) : List Value := [.int (f 0), .int (f 1), .int (f 2), .int (f 3)]
def fX18 (b o : Nat) (f : Nat → Int32) (g : Nat → Option Nat) : List Value := [.ref (b + (o + 1)), .ref (b + (o + 2)), .ref (b + (o + 3)), .ref (b + (o + 4)), .ref (b + (o + 5)), .int (f 5), .int (f 6), .int (f 7), .int (f 8)]
def fX14 (b o : Nat) (f : Nat → Int32) (g : Nat → Option Nat) : List Value := [.ref (b + 289), .ref (b + 290), .ref (b + 291), .int (f 3), .int (f 4), .int (f 5), .int (f 6)]
def fX25 (b o : Nat) (f : Nat → Int32) (g : Nat → Option Nat) : List Value := [.ref (b + 366), .int (f 1), .int (f 2), .int (f 3), .int (f 4), .int (f 5), .int (f 6), .int (f 7), .int (f 8), .int (f 9), .int (f 10), .int (f 11), .int (f 12)]
def fX24 (b o : Nat) (f : Nat → Int32) (g : Nat → Option Nat) : List Value := [.ref (b + 365), .int (f 1)]
def fX0 (b o : Nat) (f : Nat → Int32) (g : Nat → Option Nat) : List Value := [.ref (b + 1), .ref (b + 287), .ref (b + 288), .ref (b + 364), .int (f 4), .int (f 5), .int (f 6), .int (f 7)]
def fM (b : Nat) (f : Nat → Int32) : List Value := [.int (f 0), .ref (b + 1), .int (f 2), .ref (b + 2), .int (f 4), .int (f 5), .ref (b + 3), .int (f 7), .ref (b + 4), .ref (b + 5), .ref (b + 6), .ref (b + 7), .ref (b + 8), .int (f 13), .ref (b + 9), .ref (b + 10), .int (f 16), .int (f 17), .ref (b + 11), .ref (b + 12), .int (f 20), .int (f 21), .int (f 22), .ref (b + 13), .ref (b + 14), .ref (b + 15), .ref (b + 16), .ref (b + 17), .ref (b + 18), .ref (b + 19), .ref (b + 20), .ref (b + 21), .int (f 32), .ref (b + 22), .ref (b + 23), .ref (b + 24), .ref (b + 25), .int (f 37), .int (f 38), .int (f 39), .ref (b + 26), .ref (b + 27), .ref (b + 28), .ref (b + 29), .ref (b + 30), .ref (b + 31), .ref (b + 32), .ref (b + 33), .ref (b + 34), .ref (b + 35), .ref (b + 36), .ref (b + 37), .int (f 52), .int (f 53), .int (f 54), .int (f 55), .int (f 56), .int (f 57)]
def enX (dA : Nat → ClassId) (b : Nat) (o : Nat) (f : Nat → Int32) (g : Nat → Option Nat) : va_E := match tcX o with
  | 11 => .inr (0, fX11 b o f g)
  | 8 => .inr (1, fX8 b o f g)
  | 12 => .inr (2, fX12 b o f g)
  | 7 => .inr (3, fX7 b o f g)
  | 5 => .inr (4, fX5 b o f g)
  | 1 => .inr (5, fX1 b o f g)
  | 13 => .inr (6, fX13 b o f g)
  | 18 => .inr (7, fX18 b o f g)
  | 14 => .inr (8, fX14 b o f g)
  | 25 => .inr (9, fX25 b o f g)
  | 24 => .inr (10, fX24 b o f g)
  | 0 => .inr (11, fX0 b o f g)
  | 2 => .inl (dA 3, 24, .inr (.inr (.inr (.inr fun j => (some (7 + 5 * j)).map fun q => b + q))))
  | 3 => .inl (dA 3, 24, .inr (.inr (.inr (.inr fun j => (g j).map fun q => b + q))))
  | 4 => .inl (dA 4, 160, .inr (.inr (.inr (.inr fun j => (some (127 + j)).map fun q => b + q))))
  | 6 => .inl (dA 3, 24, .inr (.inr (.inr (.inr fun j => (g j).map fun q => b + q))))
  | 9 => .inl (dA 3, 4, .inr (.inr (.inr (.inr fun j => (g j).map fun q => b + q))))
  | 10 => .inl (dA 0, 7, .inl f)
  | 15 => .inl (dA 5, 12, .inr (.inr (.inr (.inr fun j => (some (292 + 6 * j)).map fun q => b + q))))
  | 16 => .inl (dA 2, 12, .inl f)
  | 17 => .inl (dA 1, 120, .inl f)
  | 19 => .inl (dA 0, 4, .inl f)
  | 20 => .inl (dA 0, 4, .inl f)
  | 21 => .inl (dA 2, 4, .inl f)
  | 22 => .inl (dA 0, 7, .inl f)
  | 23 => .inl (dA 0, 7, .inl f)
  | 26 => .inl (dA 4, 160, .inr (.inr (.inr (.inr fun j => (g j).map fun q => b + q))))
  | _ => .inr (0, [])
theorem en_0 {dA : Nat → ClassId} {b o : Nat} {f : Nat → Int32} {g : Nat → Option Nat} (h : tcX o = 0) : enX dA b o f g = .inr (11, fX0 b o f g) := by unfold enX; rw [h]; rfl
theorem sp_0_4 {dA : Nat → ClassId} {b o : Nat} {f : Nat → Int32} {g : Nat → Option Nat} {x : Int32} (h : tcX o = 0) : (Sum.inr (11, (fX0 b o f g).set 4 (.int x)) : va_E) = enX dA b o (upd f 4 x) g := by rw [en_0 h]; rfl
theorem sp_0_5 {dA : Nat → ClassId} {b o : Nat} {f : Nat → Int32} {g : Nat → Option Nat} {x : Int32} (h : tcX o = 0) : (Sum.inr (11, (fX0 b o f g).set 5 (.int x)) : va_E) = enX dA b o (upd f 5 x) g := by rw [en_0 h]; rfl
theorem sp_0_6 {dA : Nat → ClassId} {b o : Nat} {f : Nat → Int32} {g : Nat → Option Nat} {x : Int32} (h : tcX o = 0) : (Sum.inr (11, (fX0 b o f g).set 6 (.int x)) : va_E) = enX dA b o (upd f 6 x) g := by rw [en_0 h]; rfl
theorem sp_0_7 {dA : Nat → ClassId} {b o : Nat} {f : Nat → Int32} {g : Nat → Option Nat} {x : Int32} (h : tcX o = 0) : (Sum.inr (11, (fX0 b o f g).set 7 (.int x)) : va_E) = enX dA b o (upd f 7 x) g := by rw [en_0 h]; rfl
theorem en_1 {dA : Nat → ClassId} {b o : Nat} {f : Nat → Int32} {g : Nat → Option Nat} (h : tcX o = 1) : enX dA b o f g = .inr (5, fX1 b o f g) := by unfold enX; rw [h]; rfl
theorem sp_1_5 {dA : Nat → ClassId} {b o : Nat} {f : Nat → Int32} {g : Nat → Option Nat} {x : Int32} (h : tcX o = 1) : (Sum.inr (5, (fX1 b o f g).set 5 (.int x)) : va_E) = enX dA b o (upd f 5 x) g := by rw [en_1 h]; rfl
theorem sp_1_6 {dA : Nat → ClassId} {b o : Nat} {f : Nat → Int32} {g : Nat → Option Nat} {x : Int32} (h : tcX o = 1) : (Sum.inr (5, (fX1 b o f g).set 6 (.int x)) : va_E) = enX dA b o (upd f 6 x) g := by rw [en_1 h]; rfl
theorem sp_1_7 {dA : Nat → ClassId} {b o : Nat} {f : Nat → Int32} {g : Nat → Option Nat} {x : Int32} (h : tcX o = 1) : (Sum.inr (5, (fX1 b o f g).set 7 (.int x)) : va_E) = enX dA b o (upd f 7 x) g := by rw [en_1 h]; rfl
theorem en_5 {dA : Nat → ClassId} {b o : Nat} {f : Nat → Int32} {g : Nat → Option Nat} (h : tcX o = 5) : enX dA b o f g = .inr (4, fX5 b o f g) := by unfold enX; rw [h]; rfl
theorem sp_5_1 {dA : Nat → ClassId} {b o : Nat} {f : Nat → Int32} {g : Nat → Option Nat} {x : Int32} (h : tcX o = 5) : (Sum.inr (4, (fX5 b o f g).set 1 (.int x)) : va_E) = enX dA b o (upd f 1 x) g := by rw [en_5 h]; rfl
theorem en_7 {dA : Nat → ClassId} {b o : Nat} {f : Nat → Int32} {g : Nat → Option Nat} (h : tcX o = 7) : enX dA b o f g = .inr (3, fX7 b o f g) := by unfold enX; rw [h]; rfl
theorem sp_7_0 {dA : Nat → ClassId} {b o : Nat} {f : Nat → Int32} {g : Nat → Option Nat} {x : Int32} (h : tcX o = 7) : (Sum.inr (3, (fX7 b o f g).set 0 (.int x)) : va_E) = enX dA b o (upd f 0 x) g := by rw [en_7 h]; rfl
theorem sp_7_1 {dA : Nat → ClassId} {b o : Nat} {f : Nat → Int32} {g : Nat → Option Nat} {x : Int32} (h : tcX o = 7) : (Sum.inr (3, (fX7 b o f g).set 1 (.int x)) : va_E) = enX dA b o (upd f 1 x) g := by rw [en_7 h]; rfl
theorem sp_7_2 {dA : Nat → ClassId} {b o : Nat} {f : Nat → Int32} {g : Nat → Option Nat} {x : Int32} (h : tcX o = 7) : (Sum.inr (3, (fX7 b o f g).set 2 (.int x)) : va_E) = enX dA b o (upd f 2 x) g := by rw [en_7 h]; rfl
theorem sp_7_3 {dA : Nat → ClassId} {b o : Nat} {f : Nat → Int32} {g : Nat → Option Nat} {x : Int32} (h : tcX o = 7) : (Sum.inr (3, (fX7 b o f g).set 3 (.int x)) : va_E) = enX dA b o (upd f 3 x) g := by rw [en_7 h]; rfl
theorem sp_7_4 {dA : Nat → ClassId} {b o : Nat} {f : Nat → Int32} {g : Nat → Option Nat} {x : Option Nat} (h : tcX o = 7) : (Sum.inr (3, (fX7 b o f g).set 4 (va_rf (x.map fun q => b + q))) : va_E) = enX dA b o f (va_up g 4 x) := by rw [en_7 h]; rfl
theorem sp_7_5 {dA : Nat → ClassId} {b o : Nat} {f : Nat → Int32} {g : Nat → Option Nat} {x : Option Nat} (h : tcX o = 7) : (Sum.inr (3, (fX7 b o f g).set 5 (va_rf (x.map fun q => b + q))) : va_E) = enX dA b o f (va_up g 5 x) := by rw [en_7 h]; rfl
theorem sp_7_6 {dA : Nat → ClassId} {b o : Nat} {f : Nat → Int32} {g : Nat → Option Nat} {x : Option Nat} (h : tcX o = 7) : (Sum.inr (3, (fX7 b o f g).set 6 (va_rf (x.map fun q => b + q))) : va_E) = enX dA b o f (va_up g 6 x) := by rw [en_7 h]; rfl
theorem sp_7_7 {dA : Nat → ClassId} {b o : Nat} {f : Nat → Int32} {g : Nat → Option Nat} {x : Option Nat} (h : tcX o = 7) : (Sum.inr (3, (fX7 b o f g).set 7 (va_rf (x.map fun q => b + q))) : va_E) = enX dA b o f (va_up g 7 x) := by rw [en_7 h]; rfl
theorem sp_7_8 {dA : Nat → ClassId} {b o : Nat} {f : Nat → Int32} {g : Nat → Option Nat} {x : Option Nat} (h : tcX o = 7) : (Sum.inr (3, (fX7 b o f g).set 8 (va_rf (x.map fun q => b + q))) : va_E) = enX dA b o f (va_up g 8 x) := by rw [en_7 h]; rfl
theorem sp_7_9 {dA : Nat → ClassId} {b o : Nat} {f : Nat → Int32} {g : Nat → Option Nat} {x : Option Nat} (h : tcX o = 7) : (Sum.inr (3, (fX7 b o f g).set 9 (va_rf (x.map fun q => b + q))) : va_E) = enX dA b o f (va_up g 9 x) := by rw [en_7 h]; rfl
theorem sp_7_10 {dA : Nat → ClassId} {b o : Nat} {f : Nat → Int32} {g : Nat → Option Nat} {x : Option Nat} (h : tcX o = 7) : (Sum.inr (3, (fX7 b o f g).set 10 (va_rf (x.map fun q => b + q))) : va_E) = enX dA b o f (va_up g 10 x) := by rw [en_7 h]; rfl
theorem en_8 {dA : Nat → ClassId} {b o : Nat} {f : Nat → Int32} {g : Nat → Option Nat} (h : tcX o = 8) : enX dA b o f g = .inr (1, fX8 b o f g) := by unfold enX; rw [h]; rfl
theorem sp_8_1 {dA : Nat → ClassId} {b o : Nat} {f : Nat → Int32} {g : Nat → Option Nat} {x : Int32} (h : tcX o = 8) : (Sum.inr (1, (fX8 b o f g).set 1 (.int x)) : va_E) = enX dA b o (upd f 1 x) g := by rw [en_8 h]; rfl
theorem en_11 {dA : Nat → ClassId} {b o : Nat} {f : Nat → Int32} {g : Nat → Option Nat} (h : tcX o = 11) : enX dA b o f g = .inr (0, fX11 b o f g) := by unfold enX; rw [h]; rfl
theorem sp_11_0 {dA : Nat → ClassId} {b o : Nat} {f : Nat → Int32} {g : Nat → Option Nat} {x : Int32} (h : tcX o = 11) : (Sum.inr (0, (fX11 b o f g).set 0 (.int x)) : va_E) = enX dA b o (upd f 0 x) g := by rw [en_11 h]; rfl
theorem sp_11_1 {dA : Nat → ClassId} {b o : Nat} {f : Nat → Int32} {g : Nat → Option Nat} {x : Int32} (h : tcX o = 11) : (Sum.inr (0, (fX11 b o f g).set 1 (.int x)) : va_E) = enX dA b o (upd f 1 x) g := by rw [en_11 h]; rfl
theorem sp_11_2 {dA : Nat → ClassId} {b o : Nat} {f : Nat → Int32} {g : Nat → Option Nat} {x : Int32} (h : tcX o = 11) : (Sum.inr (0, (fX11 b o f g).set 2 (.int x)) : va_E) = enX dA b o (upd f 2 x) g := by rw [en_11 h]; rfl
theorem sp_11_3 {dA : Nat → ClassId} {b o : Nat} {f : Nat → Int32} {g : Nat → Option Nat} {x : Int32} (h : tcX o = 11) : (Sum.inr (0, (fX11 b o f g).set 3 (.int x)) : va_E) = enX dA b o (upd f 3 x) g := by rw [en_11 h]; rfl
theorem sp_11_4 {dA : Nat → ClassId} {b o : Nat} {f : Nat → Int32} {g : Nat → Option Nat} {x : Int32} (h : tcX o = 11) : (Sum.inr (0, (fX11 b o f g).set 4 (.int x)) : va_E) = enX dA b o (upd f 4 x) g := by rw [en_11 h]; rfl
theorem sp_11_5 {dA : Nat → ClassId} {b o : Nat} {f : Nat → Int32} {g : Nat → Option Nat} {x : Int32} (h : tcX o = 11) : (Sum.inr (0, (fX11 b o f g).set 5 (.int x)) : va_E) = enX dA b o (upd f 5 x) g := by rw [en_11 h]; rfl
theorem sp_11_6 {dA : Nat → ClassId} {b o : Nat} {f : Nat → Int32} {g : Nat → Option Nat} {x : Int32} (h : tcX o = 11) : (Sum.inr (0, (fX11 b o f g).set 6 (.int x)) : va_E) = enX dA b o (upd f 6 x) g := by rw [en_11 h]; rfl
theorem sp_11_7 {dA : Nat → ClassId} {b o : Nat} {f : Nat → Int32} {g : Nat → Option Nat} {x : Int32} (h : tcX o = 11) : (Sum.inr (0, (fX11 b o f g).set 7 (.int x)) : va_E) = enX dA b o (upd f 7 x) g := by rw [en_11 h]; rfl
theorem sp_11_8 {dA : Nat → ClassId} {b o : Nat} {f : Nat → Int32} {g : Nat → Option Nat} {x : Int32} (h : tcX o = 11) : (Sum.inr (0, (fX11 b o f g).set 8 (.int x)) : va_E) = enX dA b o (upd f 8 x) g := by rw [en_11 h]; rfl
theorem sp_11_9 {dA : Nat → ClassId} {b o : Nat} {f : Nat → Int32} {g : Nat → Option Nat} {x : Int32} (h : tcX o = 11) : (Sum.inr (0, (fX11 b o f g).set 9 (.int x)) : va_E) = enX dA b o (upd f 9 x) g := by rw [en_11 h]; rfl
theorem en_12 {dA : Nat → ClassId} {b o : Nat} {f : Nat → Int32} {g : Nat → Option Nat} (h : tcX o = 12) : enX dA b o f g = .inr (2, fX12 b o f g) := by unfold enX; rw [h]; rfl
theorem sp_12_0 {dA : Nat → ClassId} {b o : Nat} {f : Nat → Int32} {g : Nat → Option Nat} {x : Int32} (h : tcX o = 12) : (Sum.inr (2, (fX12 b o f g).set 0 (.int x)) : va_E) = enX dA b o (upd f 0 x) g := by rw [en_12 h]; rfl
theorem sp_12_1 {dA : Nat → ClassId} {b o : Nat} {f : Nat → Int32} {g : Nat → Option Nat} {x : Option Nat} (h : tcX o = 12) : (Sum.inr (2, (fX12 b o f g).set 1 (va_rf (x.map fun q => b + q))) : va_E) = enX dA b o f (va_up g 1 x) := by rw [en_12 h]; rfl
theorem sp_12_2 {dA : Nat → ClassId} {b o : Nat} {f : Nat → Int32} {g : Nat → Option Nat} {x : Int32} (h : tcX o = 12) : (Sum.inr (2, (fX12 b o f g).set 2 (.int x)) : va_E) = enX dA b o (upd f 2 x) g := by rw [en_12 h]; rfl
theorem sp_12_3 {dA : Nat → ClassId} {b o : Nat} {f : Nat → Int32} {g : Nat → Option Nat} {x : Int32} (h : tcX o = 12) : (Sum.inr (2, (fX12 b o f g).set 3 (.int x)) : va_E) = enX dA b o (upd f 3 x) g := by rw [en_12 h]; rfl
theorem sp_12_4 {dA : Nat → ClassId} {b o : Nat} {f : Nat → Int32} {g : Nat → Option Nat} {x : Int32} (h : tcX o = 12) : (Sum.inr (2, (fX12 b o f g).set 4 (.int x)) : va_E) = enX dA b o (upd f 4 x) g := by rw [en_12 h]; rfl
theorem sp_12_5 {dA : Nat → ClassId} {b o : Nat} {f : Nat → Int32} {g : Nat → Option Nat} {x : Int32} (h : tcX o = 12) : (Sum.inr (2, (fX12 b o f g).set 5 (.int x)) : va_E) = enX dA b o (upd f 5 x) g := by rw [en_12 h]; rfl
theorem en_13 {dA : Nat → ClassId} {b o : Nat} {f : Nat → Int32} {g : Nat → Option Nat} (h : tcX o = 13) : enX dA b o f g = .inr (6, fX13 b o f g) := by unfold enX; rw [h]; rfl
theorem sp_13_0 {dA : Nat → ClassId} {b o : Nat} {f : Nat → Int32} {g : Nat → Option Nat} {x : Int32} (h : tcX o = 13) : (Sum.inr (6, (fX13 b o f g).set 0 (.int x)) : va_E) = enX dA b o (upd f 0 x) g := by rw [en_13 h]; rfl
theorem sp_13_1 {dA : Nat → ClassId} {b o : Nat} {f : Nat → Int32} {g : Nat → Option Nat} {x : Int32} (h : tcX o = 13) : (Sum.inr (6, (fX13 b o f g).set 1 (.int x)) : va_E) = enX dA b o (upd f 1 x) g := by rw [en_13 h]; rfl
theorem sp_13_2 {dA : Nat → ClassId} {b o : Nat} {f : Nat → Int32} {g : Nat → Option Nat} {x : Int32} (h : tcX o = 13) : (Sum.inr (6, (fX13 b o f g).set 2 (.int x)) : va_E) = enX dA b o (upd f 2 x) g := by rw [en_13 h]; rfl
theorem sp_13_3 {dA : Nat → ClassId} {b o : Nat} {f : Nat → Int32} {g : Nat → Option Nat} {x : Int32} (h : tcX o = 13) : (Sum.inr (6, (fX13 b o f g).set 3 (.int x)) : va_E) = enX dA b o (upd f 3 x) g := by rw [en_13 h]; rfl
theorem en_14 {dA : Nat → ClassId} {b o : Nat} {f : Nat → Int32} {g : Nat → Option Nat} (h : tcX o = 14) : enX dA b o f g = .inr (8, fX14 b o f g) := by unfold enX; rw [h]; rfl
theorem sp_14_3 {dA : Nat → ClassId} {b o : Nat} {f : Nat → Int32} {g : Nat → Option Nat} {x : Int32} (h : tcX o = 14) : (Sum.inr (8, (fX14 b o f g).set 3 (.int x)) : va_E) = enX dA b o (upd f 3 x) g := by rw [en_14 h]; rfl
theorem sp_14_4 {dA : Nat → ClassId} {b o : Nat} {f : Nat → Int32} {g : Nat → Option Nat} {x : Int32} (h : tcX o = 14) : (Sum.inr (8, (fX14 b o f g).set 4 (.int x)) : va_E) = enX dA b o (upd f 4 x) g := by rw [en_14 h]; rfl
theorem sp_14_5 {dA : Nat → ClassId} {b o : Nat} {f : Nat → Int32} {g : Nat → Option Nat} {x : Int32} (h : tcX o = 14) : (Sum.inr (8, (fX14 b o f g).set 5 (.int x)) : va_E) = enX dA b o (upd f 5 x) g := by rw [en_14 h]; rfl
theorem sp_14_6 {dA : Nat → ClassId} {b o : Nat} {f : Nat → Int32} {g : Nat → Option Nat} {x : Int32} (h : tcX o = 14) : (Sum.inr (8, (fX14 b o f g).set 6 (.int x)) : va_E) = enX dA b o (upd f 6 x) g := by rw [en_14 h]; rfl
theorem en_18 {dA : Nat → ClassId} {b o : Nat} {f : Nat → Int32} {g : Nat → Option Nat} (h : tcX o = 18) : enX dA b o f g = .inr (7, fX18 b o f g) := by unfold enX; rw [h]; rfl
theorem sp_18_5 {dA : Nat → ClassId} {b o : Nat} {f : Nat → Int32} {g : Nat → Option Nat} {x : Int32} (h : tcX o = 18) : (Sum.inr (7, (fX18 b o f g).set 5 (.int x)) : va_E) = enX dA b o (upd f 5 x) g := by rw [en_18 h]; rfl
theorem sp_18_6 {dA : Nat → ClassId} {b o : Nat} {f : Nat → Int32} {g : Nat → Option Nat} {x : Int32} (h : tcX o = 18) : (Sum.inr (7, (fX18 b o f g).set 6 (.int x)) : va_E) = enX dA b o (upd f 6 x) g := by rw [en_18 h]; rfl
theorem sp_18_7 {dA : Nat → ClassId} {b o : Nat} {f : Nat → Int32} {g : Nat → Option Nat} {x : Int32} (h : tcX o = 18) : (Sum.inr (7, (fX18 b o f g).set 7 (.int x)) : va_E) = enX dA b o (upd f 7 x) g := by rw [en_18 h]; rfl
theorem sp_18_8 {dA : Nat → ClassId} {b o : Nat} {f : Nat → Int32} {g : Nat → Option Nat} {x : Int32} (h : tcX o = 18) : (Sum.inr (7, (fX18 b o f g).set 8 (.int x)) : va_E) = enX dA b o (upd f 8 x) g := by rw [en_18 h]; rfl
theorem en_24 {dA : Nat → ClassId} {b o : Nat} {f : Nat → Int32} {g : Nat → Option Nat} (h : tcX o = 24) : enX dA b o f g = .inr (10, fX24 b o f g) := by unfold enX; rw [h]; rfl
theorem sp_24_1 {dA : Nat → ClassId} {b o : Nat} {f : Nat → Int32} {g : Nat → Option Nat} {x : Int32} (h : tcX o = 24) : (Sum.inr (10, (fX24 b o f g).set 1 (.int x)) : va_E) = enX dA b o (upd f 1 x) g := by rw [en_24 h]; rfl
theorem en_25 {dA : Nat → ClassId} {b o : Nat} {f : Nat → Int32} {g : Nat → Option Nat} (h : tcX o = 25) : enX dA b o f g = .inr (9, fX25 b o f g) := by unfold enX; rw [h]; rfl
theorem sp_25_1 {dA : Nat → ClassId} {b o : Nat} {f : Nat → Int32} {g : Nat → Option Nat} {x : Int32} (h : tcX o = 25) : (Sum.inr (9, (fX25 b o f g).set 1 (.int x)) : va_E) = enX dA b o (upd f 1 x) g := by rw [en_25 h]; rfl
theorem sp_25_2 {dA : Nat → ClassId} {b o : Nat} {f : Nat → Int32} {g : Nat → Option Nat} {x : Int32} (h : tcX o = 25) : (Sum.inr (9, (fX25 b o f g).set 2 (.int x)) : va_E) = enX dA b o (upd f 2 x) g := by rw [en_25 h]; rfl
theorem sp_25_3 {dA : Nat → ClassId} {b o : Nat} {f : Nat → Int32} {g : Nat → Option Nat} {x : Int32} (h : tcX o = 25) : (Sum.inr (9, (fX25 b o f g).set 3 (.int x)) : va_E) = enX dA b o (upd f 3 x) g := by rw [en_25 h]; rfl
theorem sp_25_4 {dA : Nat → ClassId} {b o : Nat} {f : Nat → Int32} {g : Nat → Option Nat} {x : Int32} (h : tcX o = 25) : (Sum.inr (9, (fX25 b o f g).set 4 (.int x)) : va_E) = enX dA b o (upd f 4 x) g := by rw [en_25 h]; rfl
theorem sp_25_5 {dA : Nat → ClassId} {b o : Nat} {f : Nat → Int32} {g : Nat → Option Nat} {x : Int32} (h : tcX o = 25) : (Sum.inr (9, (fX25 b o f g).set 5 (.int x)) : va_E) = enX dA b o (upd f 5 x) g := by rw [en_25 h]; rfl
theorem sp_25_6 {dA : Nat → ClassId} {b o : Nat} {f : Nat → Int32} {g : Nat → Option Nat} {x : Int32} (h : tcX o = 25) : (Sum.inr (9, (fX25 b o f g).set 6 (.int x)) : va_E) = enX dA b o (upd f 6 x) g := by rw [en_25 h]; rfl
theorem sp_25_7 {dA : Nat → ClassId} {b o : Nat} {f : Nat → Int32} {g : Nat → Option Nat} {x : Int32} (h : tcX o = 25) : (Sum.inr (9, (fX25 b o f g).set 7 (.int x)) : va_E) = enX dA b o (upd f 7 x) g := by rw [en_25 h]; rfl
theorem sp_25_8 {dA : Nat → ClassId} {b o : Nat} {f : Nat → Int32} {g : Nat → Option Nat} {x : Int32} (h : tcX o = 25) : (Sum.inr (9, (fX25 b o f g).set 8 (.int x)) : va_E) = enX dA b o (upd f 8 x) g := by rw [en_25 h]; rfl
theorem sp_25_9 {dA : Nat → ClassId} {b o : Nat} {f : Nat → Int32} {g : Nat → Option Nat} {x : Int32} (h : tcX o = 25) : (Sum.inr (9, (fX25 b o f g).set 9 (.int x)) : va_E) = enX dA b o (upd f 9 x) g := by rw [en_25 h]; rfl
theorem sp_25_10 {dA : Nat → ClassId} {b o : Nat} {f : Nat → Int32} {g : Nat → Option Nat} {x : Int32} (h : tcX o = 25) : (Sum.inr (9, (fX25 b o f g).set 10 (.int x)) : va_E) = enX dA b o (upd f 10 x) g := by rw [en_25 h]; rfl
theorem sp_25_11 {dA : Nat → ClassId} {b o : Nat} {f : Nat → Int32} {g : Nat → Option Nat} {x : Int32} (h : tcX o = 25) : (Sum.inr (9, (fX25 b o f g).set 11 (.int x)) : va_E) = enX dA b o (upd f 11 x) g := by rw [en_25 h]; rfl
theorem sp_25_12 {dA : Nat → ClassId} {b o : Nat} {f : Nat → Int32} {g : Nat → Option Nat} {x : Int32} (h : tcX o = 25) : (Sum.inr (9, (fX25 b o f g).set 12 (.int x)) : va_E) = enX dA b o (upd f 12 x) g := by rw [en_25 h]; rfl
theorem en_2 {dA : Nat → ClassId} {b o : Nat} (h : tcX o = 2) (f : Nat → Int32) (g : Nat → Option Nat) : enX dA b o f g = .inl (dA 3, 24, .inr (.inr (.inr (.inr fun j => (some (7 + 5 * j)).map fun q => b + q)))) := by unfold enX; rw [h]; rfl
theorem en_3 {dA : Nat → ClassId} {b o : Nat} (h : tcX o = 3) (f : Nat → Int32) (g : Nat → Option Nat) : enX dA b o f g = .inl (dA 3, 24, .inr (.inr (.inr (.inr fun j => (g j).map fun q => b + q)))) := by unfold enX; rw [h]; rfl
theorem en_4 {dA : Nat → ClassId} {b o : Nat} (h : tcX o = 4) (f : Nat → Int32) (g : Nat → Option Nat) : enX dA b o f g = .inl (dA 4, 160, .inr (.inr (.inr (.inr fun j => (some (127 + j)).map fun q => b + q)))) := by unfold enX; rw [h]; rfl
theorem en_6 {dA : Nat → ClassId} {b o : Nat} (h : tcX o = 6) (f : Nat → Int32) (g : Nat → Option Nat) : enX dA b o f g = .inl (dA 3, 24, .inr (.inr (.inr (.inr fun j => (g j).map fun q => b + q)))) := by unfold enX; rw [h]; rfl
theorem en_9 {dA : Nat → ClassId} {b o : Nat} (h : tcX o = 9) (f : Nat → Int32) (g : Nat → Option Nat) : enX dA b o f g = .inl (dA 3, 4, .inr (.inr (.inr (.inr fun j => (g j).map fun q => b + q)))) := by unfold enX; rw [h]; rfl
theorem en_10 {dA : Nat → ClassId} {b o : Nat} (h : tcX o = 10) (f : Nat → Int32) (g : Nat → Option Nat) : enX dA b o f g = .inl (dA 0, 7, .inl f) := by unfold enX; rw [h]; rfl
theorem en_15 {dA : Nat → ClassId} {b o : Nat} (h : tcX o = 15) (f : Nat → Int32) (g : Nat → Option Nat) : enX dA b o f g = .inl (dA 5, 12, .inr (.inr (.inr (.inr fun j => (some (292 + 6 * j)).map fun q => b + q)))) := by unfold enX; rw [h]; rfl
theorem en_16 {dA : Nat → ClassId} {b o : Nat} (h : tcX o = 16) (f : Nat → Int32) (g : Nat → Option Nat) : enX dA b o f g = .inl (dA 2, 12, .inl f) := by unfold enX; rw [h]; rfl
theorem en_17 {dA : Nat → ClassId} {b o : Nat} (h : tcX o = 17) (f : Nat → Int32) (g : Nat → Option Nat) : enX dA b o f g = .inl (dA 1, 120, .inl f) := by unfold enX; rw [h]; rfl
theorem en_19 {dA : Nat → ClassId} {b o : Nat} (h : tcX o = 19) (f : Nat → Int32) (g : Nat → Option Nat) : enX dA b o f g = .inl (dA 0, 4, .inl f) := by unfold enX; rw [h]; rfl
theorem en_20 {dA : Nat → ClassId} {b o : Nat} (h : tcX o = 20) (f : Nat → Int32) (g : Nat → Option Nat) : enX dA b o f g = .inl (dA 0, 4, .inl f) := by unfold enX; rw [h]; rfl
theorem en_21 {dA : Nat → ClassId} {b o : Nat} (h : tcX o = 21) (f : Nat → Int32) (g : Nat → Option Nat) : enX dA b o f g = .inl (dA 2, 4, .inl f) := by unfold enX; rw [h]; rfl
theorem en_22 {dA : Nat → ClassId} {b o : Nat} (h : tcX o = 22) (f : Nat → Int32) (g : Nat → Option Nat) : enX dA b o f g = .inl (dA 0, 7, .inl f) := by unfold enX; rw [h]; rfl
theorem en_23 {dA : Nat → ClassId} {b o : Nat} (h : tcX o = 23) (f : Nat → Int32) (g : Nat → Option Nat) : enX dA b o f g = .inl (dA 0, 7, .inl f) := by unfold enX; rw [h]; rfl
theorem en_26 {dA : Nat → ClassId} {b o : Nat} (h : tcX o = 26) (f : Nat → Int32) (g : Nat → Option Nat) : enX dA b o f g = .inl (dA 4, 160, .inr (.inr (.inr (.inr fun j => (g j).map fun q => b + q)))) := by unfold enX; rw [h]; rfl
def enM (dA : Nat → ClassId) (b : Nat) (o : Nat) (f : Nat → Int32) (g : Nat → Option Nat) : va_E := match o with
  | 0 => .inr (12, fM b f)
  | 1 => .inl (dA 0, 160, .inl f)
  | 2 => .inl (dA 0, 120, .inl f)
  | 3 => .inl (dA 0, 40, .inl f)
  | 4 => .inl (dA 0, 40, .inl f)
  | 5 => .inl (dA 0, 40, .inl f)
  | 6 => .inl (dA 0, 40, .inl f)
  | 7 => .inl (dA 0, 40, .inl f)
  | 8 => .inl (dA 0, 40, .inl f)
  | 9 => .inl (dA 0, 40, .inl f)
  | 10 => .inl (dA 0, 40, .inl f)
  | 11 => .inl (dA 0, 160, .inl f)
  | 12 => .inl (dA 0, 160, .inl f)
  | 13 => .inl (dA 0, 48, .inl f)
  | 14 => .inl (dA 0, 48, .inl f)
  | 15 => .inl (dA 2, 48, .inl f)
  | 16 => .inl (dA 0, 12, .inl f)
  | 17 => .inl (dA 0, 12, .inl f)
  | 18 => .inl (dA 0, 12, .inl f)
  | 19 => .inl (dA 0, 12, .inl f)
  | 20 => .inl (dA 0, 12, .inl f)
  | 21 => .inl (dA 0, 120, .inl f)
  | 22 => .inl (dA 0, 40, .inl f)
  | 23 => .inl (dA 2, 200, .inl f)
  | 24 => .inl (dA 0, 280, .inl f)
  | 25 => .inl (dA 0, 280, .inl f)
  | 26 => .inl (dA 2, 40, .inl f)
  | 27 => .inl (dA 2, 40, .inl f)
  | 28 => .inl (dA 0, 40, .inl f)
  | 29 => .inl (dA 0, 40, .inl f)
  | 30 => .inl (dA 0, 40, .inl f)
  | 31 => .inl (dA 0, 40, .inl f)
  | 32 => .inl (dA 0, 40, .inl f)
  | 33 => .inl (dA 2, 160, .inl f)
  | 34 => .inl (dA 0, 160, .inl f)
  | 35 => .inl (dA 0, 160, .inl f)
  | 36 => .inl (dA 0, 160, .inl f)
  | 37 => .inl (dA 0, 200, .inl f)
  | _ => .inr (12, [])
theorem sm_0 {dA : Nat → ClassId} {b : Nat} {f : Nat → Int32} {g : Nat → Option Nat} {x : Int32} : (Sum.inr (12, (fM b f).set 0 (.int x)) : va_E) = enM dA b 0 (upd f 0 x) g := rfl
theorem sm_2 {dA : Nat → ClassId} {b : Nat} {f : Nat → Int32} {g : Nat → Option Nat} {x : Int32} : (Sum.inr (12, (fM b f).set 2 (.int x)) : va_E) = enM dA b 0 (upd f 2 x) g := rfl
theorem sm_4 {dA : Nat → ClassId} {b : Nat} {f : Nat → Int32} {g : Nat → Option Nat} {x : Int32} : (Sum.inr (12, (fM b f).set 4 (.int x)) : va_E) = enM dA b 0 (upd f 4 x) g := rfl
theorem sm_5 {dA : Nat → ClassId} {b : Nat} {f : Nat → Int32} {g : Nat → Option Nat} {x : Int32} : (Sum.inr (12, (fM b f).set 5 (.int x)) : va_E) = enM dA b 0 (upd f 5 x) g := rfl
theorem sm_7 {dA : Nat → ClassId} {b : Nat} {f : Nat → Int32} {g : Nat → Option Nat} {x : Int32} : (Sum.inr (12, (fM b f).set 7 (.int x)) : va_E) = enM dA b 0 (upd f 7 x) g := rfl
theorem sm_13 {dA : Nat → ClassId} {b : Nat} {f : Nat → Int32} {g : Nat → Option Nat} {x : Int32} : (Sum.inr (12, (fM b f).set 13 (.int x)) : va_E) = enM dA b 0 (upd f 13 x) g := rfl
theorem sm_16 {dA : Nat → ClassId} {b : Nat} {f : Nat → Int32} {g : Nat → Option Nat} {x : Int32} : (Sum.inr (12, (fM b f).set 16 (.int x)) : va_E) = enM dA b 0 (upd f 16 x) g := rfl
theorem sm_17 {dA : Nat → ClassId} {b : Nat} {f : Nat → Int32} {g : Nat → Option Nat} {x : Int32} : (Sum.inr (12, (fM b f).set 17 (.int x)) : va_E) = enM dA b 0 (upd f 17 x) g := rfl
theorem sm_20 {dA : Nat → ClassId} {b : Nat} {f : Nat → Int32} {g : Nat → Option Nat} {x : Int32} : (Sum.inr (12, (fM b f).set 20 (.int x)) : va_E) = enM dA b 0 (upd f 20 x) g := rfl
theorem sm_21 {dA : Nat → ClassId} {b : Nat} {f : Nat → Int32} {g : Nat → Option Nat} {x : Int32} : (Sum.inr (12, (fM b f).set 21 (.int x)) : va_E) = enM dA b 0 (upd f 21 x) g := rfl
theorem sm_22 {dA : Nat → ClassId} {b : Nat} {f : Nat → Int32} {g : Nat → Option Nat} {x : Int32} : (Sum.inr (12, (fM b f).set 22 (.int x)) : va_E) = enM dA b 0 (upd f 22 x) g := rfl
theorem sm_32 {dA : Nat → ClassId} {b : Nat} {f : Nat → Int32} {g : Nat → Option Nat} {x : Int32} : (Sum.inr (12, (fM b f).set 32 (.int x)) : va_E) = enM dA b 0 (upd f 32 x) g := rfl
theorem sm_37 {dA : Nat → ClassId} {b : Nat} {f : Nat → Int32} {g : Nat → Option Nat} {x : Int32} : (Sum.inr (12, (fM b f).set 37 (.int x)) : va_E) = enM dA b 0 (upd f 37 x) g := rfl
theorem sm_38 {dA : Nat → ClassId} {b : Nat} {f : Nat → Int32} {g : Nat → Option Nat} {x : Int32} : (Sum.inr (12, (fM b f).set 38 (.int x)) : va_E) = enM dA b 0 (upd f 38 x) g := rfl
theorem sm_39 {dA : Nat → ClassId} {b : Nat} {f : Nat → Int32} {g : Nat → Option Nat} {x : Int32} : (Sum.inr (12, (fM b f).set 39 (.int x)) : va_E) = enM dA b 0 (upd f 39 x) g := rfl
theorem sm_52 {dA : Nat → ClassId} {b : Nat} {f : Nat → Int32} {g : Nat → Option Nat} {x : Int32} : (Sum.inr (12, (fM b f).set 52 (.int x)) : va_E) = enM dA b 0 (upd f 52 x) g := rfl
theorem sm_53 {dA : Nat → ClassId} {b : Nat} {f : Nat → Int32} {g : Nat → Option Nat} {x : Int32} : (Sum.inr (12, (fM b f).set 53 (.int x)) : va_E) = enM dA b 0 (upd f 53 x) g := rfl
theorem sm_54 {dA : Nat → ClassId} {b : Nat} {f : Nat → Int32} {g : Nat → Option Nat} {x : Int32} : (Sum.inr (12, (fM b f).set 54 (.int x)) : va_E) = enM dA b 0 (upd f 54 x) g := rfl
theorem sm_55 {dA : Nat → ClassId} {b : Nat} {f : Nat → Int32} {g : Nat → Option Nat} {x : Int32} : (Sum.inr (12, (fM b f).set 55 (.int x)) : va_E) = enM dA b 0 (upd f 55 x) g := rfl
theorem sm_56 {dA : Nat → ClassId} {b : Nat} {f : Nat → Int32} {g : Nat → Option Nat} {x : Int32} : (Sum.inr (12, (fM b f).set 56 (.int x)) : va_E) = enM dA b 0 (upd f 56 x) g := rfl
theorem sm_57 {dA : Nat → ClassId} {b : Nat} {f : Nat → Int32} {g : Nat → Option Nat} {x : Int32} : (Sum.inr (12, (fM b f).set 57 (.int x)) : va_E) = enM dA b 0 (upd f 57 x) g := rfl
