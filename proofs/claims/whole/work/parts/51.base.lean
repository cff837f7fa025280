/-! phase B: reading what was written; the combinators when they go on; small numbers -/
theorem g_I2 (M : qM) (o k : Nat) (x : Int32) : (qsI M o k x).2 = M.2 := rfl
theorem g_R1 (M : qM) (o k : Nat) (r : Option Nat) : (qsR M o k r).1 = M.1 := rfl
theorem g_Ie {M : qM} {o k p j : Nat} {x : Int32} (h : p = o ∧ j = k) : (qsI M o k x).1 p j = x := if_pos h
theorem g_In {M : qM} {o k p j : Nat} {x : Int32} (h : ¬ (p = o ∧ j = k)) : (qsI M o k x).1 p j = M.1 p j := if_neg h
theorem g_Re {M : qM} {o k p j : Nat} {x : Option Nat} (h : p = o ∧ j = k) : (qsR M o k x).2 p j = x := if_pos h
theorem g_Rn {M : qM} {o k p j : Nat} {x : Option Nat} (h : ¬ (p = o ∧ j = k)) : (qsR M o k x).2 p j = M.2 p j := if_neg h
theorem g_ix {β : Type} {n N : Nat} {k : Option β} (h : n < N) (hN : N < 2147483648) : q_ix (nI n) N k = k := by
  unfold q_ix
  rw [if_neg (vp_in_nI h hN)]
theorem g_cl {n : Nat} (h : n < 2147483648) : (nI n).toNatClampNeg = n := nI_clamp h
theorem g_lt {a b : Nat} (ha : a < 2147483648) (hb : b < 2147483648) : (nI a < nI b) = (a < b) := by
  rw [Int32.lt_iff_toInt_lt, nI_toInt ha, nI_toInt hb]
  simp
theorem g_le {a b : Nat} (ha : a < 2147483648) (hb : b < 2147483648) : (nI a ≤ nI b) = (a ≤ b) := by
  rw [Int32.le_iff_toInt_le, nI_toInt ha, nI_toInt hb]
  simp
theorem g_eq {a b : Nat} (ha : a < 2147483648) (hb : b < 2147483648) : (nI a = nI b) = (a = b) := by
  refine propext ⟨fun h => ?_, fun h => by rw [h]⟩
  have h1 := nI_toInt ha
  rw [h, nI_toInt hb] at h1
  omega
theorem g_inc (a : Nat) : nI a + 1 = nI (a + 1) := (nI_succ a).symm
theorem g_add (a b : Nat) : nI a + nI b = nI (a + b) := by
  induction b with
  | zero => exact Int32.add_zero _
  | succ b ih => rw [nI_succ, ← Nat.add_assoc, nI_succ, ← ih, Int32.add_assoc]
theorem g_sub {a b : Nat} (h : b ≤ a) : nI a - nI b = nI (a - b) := by
  have e : nI a = nI (a - b) + nI b := by rw [g_add, Nat.sub_add_cancel h]
  rw [e, Int32.add_sub_cancel]
theorem g_mul (a b : Nat) : nI a * nI b = nI (a * b) := by
  induction b with
  | zero => exact Int32.mul_zero
  | succ b ih => rw [nI_succ, Nat.mul_succ, ← g_add, ← ih, Int32.mul_add, Int32.mul_one]
/-- one less than a number, also of none -/
def dI (k : Nat) : Int32 := nI k - 1
theorem d_0 : (dI 0 < 0) = True := by
  have : dI 0 < 0 := by decide
  simp [this]
theorem d_s (k : Nat) : dI (k + 1) = nI k := by
  unfold dI
  rw [nI_succ, Int32.add_sub_cancel]
theorem d_m (k : Nat) : nI k + (-1) = dI k := by
  unfold dI
  rw [Int32.sub_eq_add_neg]
theorem d_k (k : Nat) : nI k - 1 = dI k := rfl
theorem g_n0 {k : Nat} (h : k < 2147483648) : (nI k < 0) = False := by
  simp [nI_pos h]
theorem l_0 : nI 0 = 0 := rfl
theorem l_1 : nI 1 = 1 := rfl
/-- the greatest below a bound that has a property -/
def lastI (P : Nat → Bool) : Nat → Option Nat
  | 0 => none
  | k + 1 => if P k = true then some k else lastI P k
/-- the same, but nothing where one with another property stands above it -/
def rchI (P Q : Nat → Bool) : Nat → Option Nat
  | 0 => none
  | k + 1 => if P k = true then some k else if Q k = true then none else rchI P Q k
theorem lastI_lt {P : Nat → Bool} : ∀ {k j : Nat}, lastI P k = some j → j < k ∧ P j = true
  | 0, _, h => by cases h
  | k + 1, j, h => by
    unfold lastI at h
    split at h
    · cases h
      exact ⟨Nat.lt_succ_self _, by assumption⟩
    · have := lastI_lt h
      exact ⟨by omega, this.2⟩
theorem lastI_no {P : Nat → Bool} : ∀ {k : Nat}, lastI P k = none → ∀ j, j < k → P j = false
  | 0, _, j, hj => by omega
  | k + 1, h, j, hj => by
    unfold lastI at h
    split at h
    · cases h
    · rename_i h1
      rcases Nat.lt_or_eq_of_le (Nat.le_of_lt_succ hj) with h2 | h2
      · exact lastI_no h j h2
      · rw [h2]
        simpa using h1
theorem lastI_max {P : Nat → Bool} : ∀ {k j : Nat}, lastI P k = some j → ∀ i, j < i → i < k → P i = false
  | 0, _, h, _, _, _ => by cases h
  | k + 1, j, h, i, h1, h2 => by
    unfold lastI at h
    split at h
    · cases h
      omega
    · rename_i h3
      rcases Nat.lt_or_eq_of_le (Nat.le_of_lt_succ h2) with h4 | h4
      · exact lastI_max h i h1 h4
      · rw [h4]
        simpa using h3
theorem lastI_congr {P Q : Nat → Bool} : ∀ {k : Nat}, (∀ j, j < k → P j = Q j) → lastI P k = lastI Q k
  | 0, _ => rfl
  | k + 1, h => by
    unfold lastI
    rw [h k (Nat.lt_succ_self k), lastI_congr fun j hj => h j (Nat.lt_succ_of_lt hj)]
theorem rchI_some {P Q : Nat → Bool} : ∀ {k j : Nat}, rchI P Q k = some j ↔ lastI P k = some j ∧ ∀ i, j < i → i < k → Q i = false
  | 0, j => by simp [rchI, lastI]
  | k + 1, j => by
    unfold rchI lastI
    by_cases h : P k = true
    · rw [if_pos h, if_pos h]
      constructor
      · intro e
        cases e
        exact ⟨rfl, fun i h1 h2 => by omega⟩
      · exact fun e => e.1
    · rw [if_neg h, if_neg h]
      by_cases hq : Q k = true
      · rw [if_pos hq]
        constructor
        · intro e
          cases e
        · rintro ⟨e1, e2⟩
          have := e2 k (lastI_lt e1).1 (Nat.lt_succ_self k)
          rw [hq] at this
          cases this
      · rw [if_neg hq, rchI_some]
        constructor
        · rintro ⟨e1, e2⟩
          refine ⟨e1, fun i h1 h2 => ?_⟩
          rcases Nat.lt_or_eq_of_le (Nat.le_of_lt_succ h2) with h3 | h3
          · exact e2 i h1 h3
          · rw [h3]
            simpa using hq
        · rintro ⟨e1, e2⟩
          exact ⟨e1, fun i h1 h2 => e2 i h1 (Nat.lt_succ_of_lt h2)⟩
theorem rchI_lt {P Q : Nat → Bool} {k j : Nat} (h : rchI P Q k = some j) : j < k ∧ P j = true := lastI_lt (rchI_some.mp h).1
/-- names in a list of the document -/
theorem f_ix_no {c : Int32} : ∀ {l : List Int32} {k : Nat}, c ∉ l → f_ixF c l k = -1
  | [], _, _ => rfl
  | x :: l, k, h => by
    unfold f_ixF
    rw [if_neg (fun e => h (by simp [e])), f_ix_no fun e => h (by simp [e])]
theorem f_ix_in {c : Int32} : ∀ {l : List Int32} {k : Nat}, c ∈ l → ∃ j, j < k + l.length ∧ f_ixF c l k = nI j
  | [], _, h => by cases h
  | x :: l, k, h => by
    unfold f_ixF
    by_cases e : x = c
    · rw [if_pos e]
      exact ⟨k, by simp, rfl⟩
    · rw [if_neg e]
      obtain ⟨j, h1, h2⟩ := f_ix_in (k := k + 1) ((List.mem_cons.mp h).resolve_left fun q => e q.symm)
      exact ⟨j, by simp at h1 ⊢; omega, h2⟩
theorem g_ch {m : Nat} (h : m < 65536) : ((nI m).toUInt32 % 65536).toInt32 = nI m := by
  have e : (nI m).toUInt32 % 65536 = (nI m).toUInt32 := by
    rw [← UInt32.toNat_inj, UInt32.toNat_mod]
    show (Int32.ofNat m).toUInt32.toNat % 65536 = (Int32.ofNat m).toUInt32.toNat
    rw [show (Int32.ofNat m).toUInt32 = UInt32.ofNat m from rfl, UInt32.toNat_ofNat']
    omega
  rw [e]
  rfl
def inS (k : Nat) (x : Nat) : Bool := decide (nI x ∈ bytS.getD k [])
def b2 (b : Bool) : Int32 := if b = true then 1 else 0
theorem b2_0 (b : Bool) : (b2 b = 0) = (b = false) := by cases b <;> simp [b2]
/-- the same where a choice hangs on it -/
theorem i_le {α : Type} {a b : Nat} {x y : α} (ha : a < 2147483648) (hb : b < 2147483648) : (if nI a ≤ nI b then x else y) = if a ≤ b then x else y := by simp only [g_le ha hb]
theorem i_lt {α : Type} {a b : Nat} {x y : α} (ha : a < 2147483648) (hb : b < 2147483648) : (if nI a < nI b then x else y) = if a < b then x else y := by simp only [g_lt ha hb]
theorem i_eq {α : Type} {a b : Nat} {x y : α} (ha : a < 2147483648) (hb : b < 2147483648) : (if nI a = nI b then x else y) = if a = b then x else y := by simp only [g_eq ha hb]
theorem i_n0 {α : Type} {k : Nat} {x y : α} (h : k < 2147483648) : (if nI k < 0 then x else y) = y := if_neg (nI_pos h)
theorem i_p0 {α : Type} {k : Nat} {x y : α} (h : k < 2147483648) : (if 0 ≤ nI k then x else y) = x := if_pos (nI_pos' h)
theorem i_b2 {α : Type} {b : Bool} {x y : α} : (if b2 b = 0 then x else y) = if b = false then x else y := by cases b <;> rfl
theorem g_ixo {k x : Nat} (hk : k < 12) : ∃ y, f_indexOf k (nI x) = some y ∧ (y < 0 ↔ inS k x = false) := by
  have hl : (bytS.getD k []).length < 100 := by
    have : ∀ q, q < 12 → (bytS.getD q []).length < 100 := by decide
    exact this k hk
  refine ⟨f_ixF (nI x) (bytS.getD k []) 0, by unfold f_indexOf; rw [if_pos hk], ?_⟩
  unfold inS
  generalize bytS.getD k [] = L at hl
  by_cases h : nI x ∈ L
  · obtain ⟨j, h1, h2⟩ := f_ix_in (k := 0) h
    rw [h2, g_n0 (by omega)]
    simp [h]
  · rw [f_ix_no h]
    have : (-1 : Int32) < 0 := by decide
    simp [h, this]
theorem g_one {k x : Nat} (M : qM) (hk : k < 12) (hx : x < 65536) : f_Pg_isOneOf (nI x) k M = some (b2 (inS k x)) := by
  unfold f_Pg_isOneOf
  rw [g_ch hx]
  obtain ⟨y, e, h⟩ := g_ixo (k := k) (x := x) hk
  rw [e]
  show (if y < 0 then some 0 else some 1) = _
  unfold b2
  by_cases hy : y < 0
  · rw [if_pos hy, h.mp hy]
    rfl
  · rw [if_neg hy]
    cases hb : inS k x with
    | false => exact absurd (h.mpr hb) hy
    | true => rfl
