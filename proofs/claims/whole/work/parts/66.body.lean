/-! a rule's body: declarations, as a function of its characters; the class's side -/
def dig (c : Nat) : Bool := decide (48 ≤ c ∧ c ≤ 57)
theorem g_dig {c : Nat} (M : qM) (h : c < 127) : f_Pg_isDigit (nI c) M = some (b2 (dig c)) := by
  have : ∀ y, y < 127 → f_Pg_isDigit (nI y) qM0 = some (b2 (dig y)) := by decide +kernel
  exact this c h
def prI (x : Nat) : Option Nat := [99, 98, 115, 100, 109, 112, 119].idxOf? x
theorem g_prI {x : Nat} (h : x < 127) : f_indexOf 9 (nI x) = some (eI (prI x)) := by
  have : ∀ y, y < 127 → f_indexOf 9 (nI y) = some (eI (prI y)) := by decide +kernel
  exact this x h
theorem prI_lt {x p : Nat} (h : prI x = some p) (hx : x < 127) : p < 7 := by
  have : ∀ y, y < 127 → ∀ p, prI y = some p → p < 7 := by
    intro y hy p hp
    have hd : ∀ y, y < 127 → (prI y).getD 0 < 7 := by decide +kernel
    have := hd y hy
    rw [hp] at this
    exact this
  exact this x hx p h
def valF (p : Nat) (V : List Nat) : Option Nat := match V with
  | [v] => if p = 3 then (if v = 98 ∨ v = 105 ∨ v = 110 then some v else none) else if dig v = true then (if p = 2 ∧ v = 48 then none else some (v - 48)) else none
  | [v, w] => if 4 ≤ p ∧ dig v = true ∧ dig w = true then some (10 * (v - 48) + (w - 48)) else none
  | _ => none
def declC (imp : Bool) (D : List Nat) : Option (Bool × Nat × Nat) := match D with
  | x :: y :: v :: V => if y = 58 then (prI x).bind fun p => (valF p (v :: V)).map fun u => (imp, p, u) else none
  | _ => none
def declV (D : List Nat) : Option (Bool × Nat × Nat) := if D.getLast? = some 33 then declC true D.dropLast else declC false D
abbrev dT : Type := (Nat → Int32) × (Nat → Int32)
def declF (D : List Nat) (a : dT) : dT := match declV D with
  | none => a
  | some (imp, p, v) => if imp = true then (a.1, up a.2 p (nI v)) else (up a.1 p (nI v), a.2)
def bodyF : List Nat → List Nat → dT → dT
  | cur, [], a => declF cur a
  | cur, c :: L, a => if c = 59 then bodyF [] L (declF cur a) else bodyF (cur ++ [c]) L a
/-- what is held, from a place on -/
theorem hX_a {M : qM} {H : List Nat} (hM : hX M H) {f j c : Nat} {V rest : List Nat} (h : H.drop f = V ++ rest) (hj : V[j]? = some c) : M.1 291 (f + j) = nI c := by
  refine hM (f + j) c ?_
  rw [← List.getElem?_drop, h, List.getElem?_append_left (List.getElem?_eq_some_iff.mp hj).1]
  exact hj
theorem mem_a {H : List Nat} {f j c : Nat} {V rest : List Nat} (h : H.drop f = V ++ rest) (hj : V[j]? = some c) : c ∈ H := by
  have : c ∈ H.drop f := by rw [h]; simp [List.mem_of_getElem? hj]
  exact List.mem_of_mem_drop this
theorem len_a {H : List Nat} {f : Nat} {V rest : List Nat} (h : H.drop f = V ++ rest) (hf : f ≤ H.length) : f + V.length ≤ H.length := by
  have := congrArg List.length h
  rw [List.length_drop, List.length_append] at this
  omega
/-- a length: one or two digits -/
theorem t_len {H : List Nat} (hl : H.length ≤ 120) (hH : ∀ c ∈ H, c < 127) {M : qM} (hM : hX M H) {f p : Nat} {V rest : List Nat} (h : H.drop f = V ++ rest) (hf : f ≤ H.length) (hV : V ≠ []) (hp : 4 ≤ p) : f_Rule_readLength (nI f) (nI (f + V.length)) M = some (eI (valF p V)) := by
  have hfl := len_a h hf
  unfold f_Rule_readLength
  rw [g_sub (by omega), Nat.add_sub_cancel_left, show (2 : Int32) = nI 2 from rfl, i_le (by omega) (by omega)]
  cases V with
  | nil => exact absurd rfl hV
  | cons v V =>
    have v0 := hX_a hM h (j := 0) rfl
    have hv := hH v (mem_a h (j := 0) rfl)
    cases V with
    | nil =>
      have hfl' : f + 1 ≤ H.length := hfl
      rw [if_pos (by simp)]
      show f_Rule_readLength_14 (nI (f + 1)) M (998 + 1 + 1) _ 0 (nI f) = _
      rw [f_Rule_readLength_14, i_le (by omega) (by omega), if_neg (by omega), g_ix (by omega) (by omega), g_cl (by omega)]
      rw [Nat.add_zero] at v0
      rw [v0, g_dig M hv, q_bpE, i_b2]
      have e : valF p [v] = if dig v = true then some (v - 48) else none := by
        show (if p = 3 then _ else if dig v = true then (if p = 2 ∧ v = 48 then none else some (v - 48)) else none) = _
        rw [if_neg (by omega), if_neg (show ¬ (p = 2 ∧ v = 48) by omega)]
      rw [e]
      by_cases q : dig v = true
      · have hq : 48 ≤ v ∧ v ≤ 57 := by simpa [dig] using q
        rw [if_neg (by simp [q]), if_pos q, g_ix (by omega) (by omega), q_ltE, f_Rule_readLength_14, g_inc, i_le (by omega) (by omega), if_pos (Nat.le_refl _)]
        show some (10 * (0 : Int32) + nI v - 48) = some (nI (v - 48))
        rw [show 10 * (0 : Int32) = nI 0 from rfl, g_add, Nat.zero_add, show (48 : Int32) = nI 48 from rfl, g_sub (by omega)]
      · rw [if_pos (by simpa using q), if_neg q]
        rfl
    | cons w V =>
      have v1 := hX_a hM h (j := 1) rfl
      have hw := hH w (mem_a h (j := 1) rfl)
      cases V with
      | nil =>
        have hfl' : f + 2 ≤ H.length := hfl
        rw [if_pos (by simp)]
        have e : valF p [v, w] = if 4 ≤ p ∧ dig v = true ∧ dig w = true then some (10 * (v - 48) + (w - 48)) else none := rfl
        show f_Rule_readLength_14 (nI (f + 2)) M (997 + 1 + 1 + 1) _ 0 (nI f) = _
        rw [f_Rule_readLength_14, i_le (by omega) (by omega), if_neg (by omega), g_ix (by omega) (by omega), g_cl (by omega)]
        rw [Nat.add_zero] at v0
        rw [v0, g_dig M hv, q_bpE, i_b2, e]
        by_cases q : dig v = true
        · have hq : 48 ≤ v ∧ v ≤ 57 := by simpa [dig] using q
          rw [if_neg (by simp [q]), g_ix (by omega) (by omega), q_ltE, f_Rule_readLength_14, g_inc, i_le (by omega) (by omega), if_neg (by omega), g_ix (by omega) (by omega), g_cl (by omega), v1, g_dig M hw, q_bpE, i_b2]
          by_cases q2 : dig w = true
          · have hq2 : 48 ≤ w ∧ w ≤ 57 := by simpa [dig] using q2
            rw [if_neg (by simp [q2]), if_pos ⟨hp, q, q2⟩, g_ix (by omega) (by omega), q_ltE, f_Rule_readLength_14, g_inc, i_le (by omega) (by omega), if_pos (Nat.le_refl _)]
            show some (10 * (10 * (0 : Int32) + nI v - 48) + nI w - 48) = some (nI (10 * (v - 48) + (w - 48)))
            rw [show 10 * (0 : Int32) = nI 0 from rfl, g_add, Nat.zero_add, show (48 : Int32) = nI 48 from rfl, g_sub (by omega), show (10 : Int32) = nI 10 from rfl, g_mul, g_add, g_sub (by omega)]
            congr 2
            omega
          · rw [if_pos (by simpa using q2), if_neg (fun z => q2 z.2.2)]
            rfl
        · rw [if_pos (by simpa using q), if_neg (fun z => q z.2.1)]
          rfl
      | cons u V =>
        rw [if_neg (by simp)]
        rfl
theorem i_eqL {α : Type} {a k : Nat} {x y : α} (ha : a < 2147483648) (hk : k < 2147483648) : (if nI a = nI k then x else y) = if a = k then x else y := i_eq ha hk
/-- a value -/
theorem t_val {H : List Nat} (hl : H.length ≤ 120) (hH : ∀ c ∈ H, c < 127) {M : qM} (hM : hX M H) {f : Nat} {op : Option Nat} {V rest : List Nat} (h : H.drop f = V ++ rest) (hf : f ≤ H.length) (hV : V ≠ []) (hop : ∀ p, op = some p → p < 7) : f_Rule_readValue (eI op) (nI f) (nI (f + V.length)) M = some (eI (op.bind fun p => valF p V)) := by
  have hfl := len_a h hf
  obtain ⟨v, V', rfl⟩ : ∃ v V', V = v :: V' := by
    cases V with
    | nil => exact absurd rfl hV
    | cons v V' => exact ⟨v, V', rfl⟩
  have v0 := hX_a hM h (j := 0) rfl
  rw [Nat.add_zero] at v0
  have hv := hH v (mem_a h (j := 0) rfl)
  have hfl' : f + (V'.length + 1) ≤ H.length := hfl
  unfold f_Rule_readValue
  rw [g_ix (by omega) (by omega), g_cl (by omega), v0, g_sub (by omega), Nat.add_sub_cancel_left, g_dig M hv, g_one M (show 10 < 12 by omega) (show v < 65536 by omega)]
  have e1 : ∀ (x y : Option Int32), (if nI (v :: V').length = 1 then x else y) = if V' = [] then x else y := fun x y => by
    rw [i_eq1 (by simp; omega)]
    cases V' <;> simp
  simp only [q_bpE, e1]
  cases op with
  | none =>
    rw [eI_n]
    rfl
  | some p =>
    have hp := hop p rfl
    have one : ∀ (q : Nat), V' = [] → (q = 0 ∨ q = 1) → (if b2 (dig v) = 0 then (some (-1)) else (some (nI v - 48))) = some (eI (valF q (v :: V'))) := fun q hv' hq => by
      subst hv'
      rw [i_b2]
      have e : valF q [v] = if dig v = true then some (v - 48) else none := by
        show (if q = 3 then _ else if dig v = true then (if q = 2 ∧ v = 48 then none else some (v - 48)) else none) = _
        rw [if_neg (by omega), if_neg (show ¬ (q = 2 ∧ v = 48) by omega)]
      rw [e]
      by_cases z : dig v = true
      · have hz : 48 ≤ v ∧ v ≤ 57 := by simpa [dig] using z
        rw [if_neg (by simp [z]), if_pos z, show (48 : Int32) = nI 48 from rfl, g_sub (by omega)]
        rfl
      · rw [if_pos (by simpa using z), if_neg z]
        rfl
    have more : ∀ (q : Nat), V' ≠ [] → q < 4 → valF q (v :: V') = none := fun q hv' hq => by
      cases V' with
      | nil => exact absurd rfl hv'
      | cons w V'' =>
        cases V'' with
        | nil =>
          show (if 4 ≤ q ∧ _ then _ else none) = none
          rw [if_neg (by omega)]
        | cons u V3 => rfl
    rcases (show p = 0 ∨ p = 1 ∨ p = 2 ∨ p = 3 ∨ p = 4 ∨ p = 5 ∨ p = 6 by omega) with rfl | rfl | rfl | rfl | rfl | rfl | rfl
    · rw [if_pos (show eI (some 0) = (0 : Int32) from rfl)]
      by_cases hv' : V' = []
      · rw [if_pos hv']
        exact one 0 hv' (Or.inl rfl)
      · rw [if_neg hv']
        show _ = some (eI (valF 0 (v :: V')))
        rw [more 0 hv' (by omega)]
        rfl
    · rw [if_neg (show ¬ eI (some 1) = (0 : Int32) by decide), if_pos (show eI (some 1) = (1 : Int32) from rfl)]
      by_cases hv' : V' = []
      · rw [if_pos hv']
        exact one 1 hv' (Or.inr rfl)
      · rw [if_neg hv']
        show _ = some (eI (valF 1 (v :: V')))
        rw [more 1 hv' (by omega)]
        rfl
    · rw [if_neg (show ¬ eI (some 2) = (0 : Int32) by decide), if_neg (show ¬ eI (some 2) = (1 : Int32) by decide), if_pos (show eI (some 2) = (2 : Int32) from rfl)]
      by_cases hv' : V' = []
      · rw [if_pos hv']
        show _ = some (eI (valF 2 (v :: V')))
        subst hv'
        have e : valF 2 [v] = if dig v = true then (if v = 48 then none else some (v - 48)) else none := by
          show (if dig v = true then (if (2 : Nat) = 2 ∧ v = 48 then none else some (v - 48)) else none) = _
          simp
        rw [i_b2, e]
        by_cases z : dig v = true
        · have hz : 48 ≤ v ∧ v ≤ 57 := by simpa [dig] using z
          rw [if_neg (by simp [z]), if_pos z, show (48 : Int32) = nI 48 from rfl, i_eq (by omega) (by omega), g_sub (by omega)]
          by_cases z2 : v = 48
          · rw [if_pos z2, if_pos z2]
            rfl
          · rw [if_neg z2, if_neg z2]
            rfl
        · rw [if_pos (by simpa using z), if_neg z]
          rfl
      · rw [if_neg hv']
        show _ = some (eI (valF 2 (v :: V')))
        rw [more 2 hv' (by omega)]
        rfl
    · rw [if_neg (show ¬ eI (some 3) = (0 : Int32) by decide), if_neg (show ¬ eI (some 3) = (1 : Int32) by decide), if_neg (show ¬ eI (some 3) = (2 : Int32) by decide), if_pos (show eI (some 3) = (3 : Int32) from rfl)]
      by_cases hv' : V' = []
      · rw [if_pos hv']
        show _ = some (eI (valF 3 (v :: V')))
        subst hv'
        have e : valF 3 [v] = if v = 98 ∨ v = 105 ∨ v = 110 then some v else none := rfl
        have hin : ∀ y, y < 127 → (inS 10 y = true ↔ y = 98 ∨ y = 105 ∨ y = 110) := by decide +kernel
        rw [i_b2, e]
        by_cases z : inS 10 v = true
        · rw [if_neg (by simp [z]), if_pos ((hin v hv).mp z)]
          rfl
        · rw [if_pos (by simpa using z), if_neg (fun q => z ((hin v hv).mpr q))]
          rfl
      · rw [if_neg hv']
        show _ = some (eI (valF 3 (v :: V')))
        rw [more 3 hv' (by omega)]
        rfl
    · rw [if_neg (show ¬ eI (some 4) = (0 : Int32) by decide), if_neg (show ¬ eI (some 4) = (1 : Int32) by decide), if_neg (show ¬ eI (some 4) = (2 : Int32) by decide), if_neg (show ¬ eI (some 4) = (3 : Int32) by decide), if_pos (show eI (some 4) = (4 : Int32) from rfl), t_len hl hH hM h hf hV (p := 4) (by omega)]
      rfl
    · rw [if_neg (show ¬ eI (some 5) = (0 : Int32) by decide), if_neg (show ¬ eI (some 5) = (1 : Int32) by decide), if_neg (show ¬ eI (some 5) = (2 : Int32) by decide), if_neg (show ¬ eI (some 5) = (3 : Int32) by decide), if_neg (show ¬ eI (some 5) = (4 : Int32) by decide), if_pos (show eI (some 5) = (5 : Int32) from rfl), t_len hl hH hM h hf hV (p := 5) (by omega)]
      rfl
    · rw [if_neg (show ¬ eI (some 6) = (0 : Int32) by decide), if_neg (show ¬ eI (some 6) = (1 : Int32) by decide), if_neg (show ¬ eI (some 6) = (2 : Int32) by decide), if_neg (show ¬ eI (some 6) = (3 : Int32) by decide), if_neg (show ¬ eI (some 6) = (4 : Int32) by decide), if_neg (show ¬ eI (some 6) = (5 : Int32) by decide), if_pos (show eI (some 6) = (6 : Int32) from rfl), t_len hl hH hM h hf hV (p := 6) (by omega)]
      rfl
/-- a declaration -/
def dc_J (q0 : Nat) (a2 : Int32) (M : qM) (x1 x2 : Int32) : Option qM := if (x2 - a2) < 3 then (some M) else (q_ix (a2 + 1) 120 <| if (M.1 291 (a2 + 1).toNatClampNeg) = 58 then (q_ix a2 120 <| q_bp (f_indexOf 9 (M.1 291 a2.toNatClampNeg)) fun x7 => q_bp (f_Rule_readValue x7 (a2 + 2) x2 M) fun x8 => if x8 = (-1) then (some M) else (if x1 = 0 then (q_ix x7 7 <| q_lt (qsI M (q0 + 4) x7.toNatClampNeg x8) fun M12 => some M12) else (q_ix x7 7 <| q_lt (qsI M (q0 + 5) x7.toNatClampNeg x8) fun M14 => some M14))) else (some M))
theorem dc_eq (q0 : Nat) (a2 a3 : Int32) (M : qM) : f_Rule_readDeclaration q0 a2 a3 M = if a3 ≤ a2 then (if (0 : Int32) = 0 then (dc_J q0 a2 M 0 a3) else (dc_J q0 a2 M 0 (a3 - 1))) else (q_ix (a3 - 1) 120 <| if (M.1 291 (a3 - 1).toNatClampNeg) = 33 then (if (1 : Int32) = 0 then (dc_J q0 a2 M 1 a3) else (dc_J q0 a2 M 1 (a3 - 1))) else (if (0 : Int32) = 0 then (dc_J q0 a2 M 0 a3) else (dc_J q0 a2 M 0 (a3 - 1)))) := rfl
def cDt (M : qM) (q0 : Nat) (a : dT) : Prop := ∀ j, j < 7 → M.1 (q0 + 4) j = a.1 j ∧ M.1 (q0 + 5) j = a.2 j
def dSet (r : Option (Bool × Nat × Nat)) (a : dT) : dT := match r with
  | none => a
  | some (imp, p, v) => if imp = true then (a.1, up a.2 p (nI v)) else (up a.1 p (nI v), a.2)
theorem valF_b {p : Nat} {V : List Nat} {u : Nat} (h : valF p V = some u) (hV : ∀ c ∈ V, c < 127) : u < 2147483648 := by
  unfold valF at h
  split at h
  · rename_i v
    have := hV v (by simp)
    split at h
    · split at h
      · cases h; omega
      · cases h
    · split at h
      · split at h
        · cases h
        · cases h; omega
      · cases h
  · rename_i v w
    have := hV v (by simp)
    have := hV w (by simp)
    split at h
    · cases h; omega
    · cases h
  · cases h
theorem t_dcJ {H : List Nat} (hl : H.length ≤ 120) (hH : ∀ c ∈ H, c < 127) {M : qM} (hM : hX M H) {q0 f : Nat} (hq : 291 < q0) {a : dT} (ha : cDt M q0 a) {D rest : List Nat} (h : H.drop f = D ++ rest) (hf : f ≤ H.length) (imp : Bool) : ∃ M', dc_J q0 (nI f) M (b2 imp) (nI (f + D.length)) = some M' ∧ cDt M' q0 (dSet (declC imp D) a) ∧ (∀ p j, ¬ ((p = q0 + 4 ∨ p = q0 + 5) ∧ j < 7) → M'.1 p j = M.1 p j) ∧ M'.2 = M.2 := by
  have hfl := len_a h hf
  unfold dc_J
  rw [g_sub (by omega), Nat.add_sub_cancel_left, show (3 : Int32) = nI 3 from rfl, i_lt (by omega) (by omega)]
  have keep : declC imp D = none → ∃ M', some M = some M' ∧ cDt M' q0 (dSet (declC imp D) a) ∧ (∀ p j, ¬ ((p = q0 + 4 ∨ p = q0 + 5) ∧ j < 7) → M'.1 p j = M.1 p j) ∧ M'.2 = M.2 := fun e => by
    rw [e]
    exact ⟨M, rfl, ha, fun _ _ _ => rfl, rfl⟩
  by_cases h3 : D.length < 3
  · rw [if_pos h3]
    refine keep ?_
    match D, h3 with
    | [], _ => rfl
    | [_], _ => rfl
    | [_, _], _ => rfl
    | _ :: _ :: _ :: _, h3 => simp at h3; omega
  · obtain ⟨x, y, v, V, rfl⟩ : ∃ x y v V, D = x :: y :: v :: V := by
      match D, h3 with
      | [], h3 => simp at h3
      | [_], h3 => simp at h3
      | [_, _], h3 => simp at h3
      | x :: y :: v :: V, _ => exact ⟨x, y, v, V, rfl⟩
    have hfl' : f + (V.length + 1 + 1 + 1) ≤ H.length := hfl
    have x0 := hX_a hM h (j := 0) rfl
    rw [Nat.add_zero] at x0
    have y0 := hX_a hM h (j := 1) rfl
    have hx := hH x (mem_a h (j := 0) rfl)
    have hy := hH y (mem_a h (j := 1) rfl)
    have hV : ∀ c ∈ v :: V, c < 127 := fun c hc => hH c (by
      have : c ∈ H.drop f := by rw [h]; simp at hc ⊢; rcases hc with q | q <;> simp [q]
      exact List.mem_of_mem_drop this)
    have hd2 : H.drop (f + 2) = (v :: V) ++ rest := by
      rw [← List.drop_drop, h]
      rfl
    rw [if_neg h3, g_inc, g_ix (by omega) (by omega), g_cl (by omega), y0, show (58 : Int32) = nI 58 from rfl, i_eq (by omega) (by omega)]
    have eC : declC imp (x :: y :: v :: V) = if y = 58 then (prI x).bind fun p => (valF p (v :: V)).map fun u => (imp, p, u) else none := rfl
    by_cases h58 : y = 58
    · have eC' : declC imp (x :: y :: v :: V) = (prI x).bind fun p => (valF p (v :: V)).map fun u => (imp, p, u) := by rw [eC, if_pos h58]
      have tv := t_val hl hH hM (op := prI x) hd2 (by omega) (by simp) (fun p hp => prI_lt hp hx)
      rw [show f + 2 + (v :: V).length = f + (x :: y :: v :: V).length by simp; omega] at tv
      rw [if_pos h58, g_ix (by omega) (by omega), g_cl (by omega), x0, g_prI hx, q_bpE, g_2, tv, q_bpE]
      cases hp : prI x with
      | none =>
        refine ⟨M, ?_, ?_, fun _ _ _ => rfl, rfl⟩
        · show (if (-1 : Int32) = -1 then (some M) else _) = some M
          rfl
        · rw [eC', hp]
          exact ha
      | some p =>
        have hp7 := prI_lt hp hx
        cases hv : valF p (v :: V) with
        | none =>
          refine ⟨M, ?_, ?_, fun _ _ _ => rfl, rfl⟩
          · show (if eI (valF p (v :: V)) = -1 then (some M) else _) = some M
            rw [hv]
            rfl
          · rw [eC', hp]
            show cDt M q0 (dSet ((valF p (v :: V)).map _) a)
            rw [hv]
            exact ha
        | some u =>
          have hu := valF_b hv hV
          have e1 : eI ((some p).bind fun p => valF p (v :: V)) = nI u := by
            show eI (valF p (v :: V)) = _
            rw [hv]
            rfl
          rw [e1, if_neg (by rw [g_m1 hu]; exact not_false), eI_s]
          have e2 : declC imp (x :: y :: v :: V) = some (imp, p, u) := by
            rw [eC', hp]
            show (valF p (v :: V)).map _ = _
            rw [hv]
            rfl
          rw [e2]
          cases imp with
          | false =>
            rw [if_pos (show b2 false = 0 from rfl), g_ix (by omega) (by omega), g_cl (by omega), q_ltE]
            refine ⟨_, rfl, fun j hj => ?_, fun p' j hpj => g_In (by omega), rfl⟩
            show _ = up a.1 p (nI u) j ∧ _ = a.2 j
            by_cases q : j = p
            · subst q
              rw [up_e, g_Ie ⟨rfl, rfl⟩, g_In (by omega)]
              exact ⟨rfl, (ha j hj).2⟩
            · rw [up_n q, g_In (by omega), g_In (by omega)]
              exact ha j hj
          | true =>
            rw [if_neg (show ¬ b2 true = 0 by decide), g_ix (by omega) (by omega), g_cl (by omega), q_ltE]
            refine ⟨_, rfl, fun j hj => ?_, fun p' j hpj => g_In (by omega), rfl⟩
            show _ = a.1 j ∧ _ = up a.2 p (nI u) j
            by_cases q : j = p
            · subst q
              rw [up_e, g_Ie ⟨rfl, rfl⟩, g_In (by omega)]
              exact ⟨(ha j hj).1, rfl⟩
            · rw [up_n q, g_In (by omega), g_In (by omega)]
              exact ha j hj
    · rw [if_neg h58]
      exact keep (by rw [eC, if_neg h58])
theorem declF_e (D : List Nat) (a : dT) : declF D a = dSet (declV D) a := rfl
theorem t_dc {H : List Nat} (hl : H.length ≤ 120) (hH : ∀ c ∈ H, c < 127) {M : qM} (hM : hX M H) {q0 f : Nat} (hq : 291 < q0) {a : dT} (ha : cDt M q0 a) {D rest : List Nat} (h : H.drop f = D ++ rest) (hf : f ≤ H.length) : ∃ M', f_Rule_readDeclaration q0 (nI f) (nI (f + D.length)) M = some M' ∧ cDt M' q0 (declF D a) ∧ (∀ p j, ¬ ((p = q0 + 4 ∨ p = q0 + 5) ∧ j < 7) → M'.1 p j = M.1 p j) ∧ M'.2 = M.2 := by
  have hfl := len_a h hf
  rw [dc_eq, declF_e]
  unfold declV
  rcases List.eq_nil_or_concat D with rfl | ⟨D', z, rfl⟩
  · rw [if_pos (show nI (f + ([] : List Nat).length) ≤ nI f from by rw [g_le (by simp; omega) (by omega)]; simp), if_pos rfl, if_neg (by simp)]
    exact t_dcJ hl hH hM hq ha h hf false
  · rw [List.concat_eq_append] at *
    have hlen : (D' ++ [z]).length = D'.length + 1 := by simp
    rw [hlen] at hfl ⊢
    have z0 := hX_a hM h (j := D'.length) (c := z) (by simp)
    have hz := hH z (mem_a h (j := D'.length) (c := z) (by simp))
    have esub : nI (f + (D'.length + 1)) - 1 = nI (f + D'.length) := d_s (f + D'.length)
    rw [i_le (by omega) (by omega), if_neg (by omega), esub, g_ix (by omega) (by omega), g_cl (by omega), z0, show (33 : Int32) = nI 33 from rfl, i_eq (by omega) (by omega)]
    by_cases q : z = 33
    · rw [if_pos q, if_neg (show ¬ (1 : Int32) = 0 by decide), if_pos (by simp [q])]
      have h' : H.drop f = D' ++ (z :: rest) := by rw [h]; simp
      have := t_dcJ hl hH hM hq ha h' hf true
      rw [List.dropLast_concat]
      exact this
    · rw [if_neg q, if_pos rfl, if_neg (by simp [q])]
      have := t_dcJ hl hH hM hq ha h hf false
      rw [hlen] at this
      exact this
theorem t_body21 {H : List Nat} (hl : H.length ≤ 120) (hH : ∀ c ∈ H, c < 127) {q0 : Nat} (hq : 291 < q0) : ∀ (L : List Nat) (M : qM) (f i fu : Nat) (cur : List Nat) (a : dT), hX M H → cDt M q0 a → H.drop f = cur ++ L → i = f + cur.length → f ≤ H.length → L.length + 1 < fu → ∃ M', f_Rule_readBody_21 (nI H.length) q0 fu (fun (M13 : qM) => some M13) (nI f) (nI i) M = some M' ∧ cDt M' q0 (bodyF cur L a) ∧ (∀ p j, ¬ ((p = q0 + 4 ∨ p = q0 + 5) ∧ j < 7) → M'.1 p j = M.1 p j) ∧ M'.2 = M.2 := by
  intro L
  induction L with
  | nil =>
    intro M f i fu cur a hM ha h hi hf hfu
    obtain ⟨fu, rfl⟩ : ∃ g, fu = g + 1 + 1 := ⟨fu - 2, by simp at hfu; omega⟩
    have hfl := len_a h hf
    have hend : i = H.length := by
      have := congrArg List.length h
      rw [List.length_drop, List.append_nil] at this
      omega
    obtain ⟨M1, a1, a2, a3, a4⟩ := t_dc hl hH hM hq ha h hf
    rw [← hi] at a1
    refine ⟨M1, ?_, a2, a3, a4⟩
    rw [f_Rule_readBody_21, i_lt (by omega) (by omega), if_neg (by omega), q_ltE, i_eq (by omega) (by omega), if_pos hend, a1, q_cvE, g_inc, f_Rule_readBody_21, i_lt (by omega) (by omega), if_pos (by omega)]
  | cons c L ih =>
    intro M f i fu cur a hM ha h hi hf hfu
    obtain ⟨fu, rfl⟩ : ∃ g, fu = g + 1 := ⟨fu - 1, by simp at hfu; omega⟩
    have hlen := congrArg List.length h
    rw [List.length_drop, List.length_append, List.length_cons] at hlen
    have h' : H.drop f = (cur ++ [c]) ++ L := by rw [h]; simp
    have c0 := hX_a hM h' (j := cur.length) (c := c) (by simp)
    rw [← hi] at c0
    have hc := hH c (mem_a h' (j := cur.length) (c := c) (by simp))
    rw [f_Rule_readBody_21, i_lt (by omega) (by omega), if_neg (by omega), q_ltE, i_eq (by omega) (by omega), if_neg (by omega), g_ix (by omega) (by omega), g_cl (by omega), c0, show (59 : Int32) = nI 59 from rfl, i_eq (by omega) (by omega), g_inc]
    unfold bodyF
    by_cases q : c = 59
    · rw [if_pos q, if_pos q]
      obtain ⟨M1, a1, a2, a3, a4⟩ := t_dc hl hH hM hq ha h hf
      rw [← hi] at a1
      rw [a1, q_cvE]
      obtain ⟨M', x1, x2, x3, x4⟩ := ih M1 (i + 1) (i + 1) fu [] (declF cur a) (fun j x hj => by rw [a3 _ _ (by omega)]; exact hM j x hj) a2 (by
        rw [show i + 1 = f + (cur ++ [c]).length by simp; omega, ← List.drop_drop, h', List.drop_left]
        rfl) (by simp) (by omega) (by simp at hfu; omega)
      exact ⟨M', x1, x2, fun p j hp => by rw [x3 p j hp, a3 p j hp], by rw [x4, a4]⟩
    · rw [if_neg q, if_neg q]
      exact ih M f (i + 1) fu (cur ++ [c]) a hM ha h' (by simp; omega) hf (by simp at hfu; omega)
theorem t_fill {o : Nat} : ∀ (m k f : Nat) (M : qM), k + m = 7 → m < f → ∃ M', f_fillL (nI 7) 7 o (-1) f (nI k) M = some M' ∧ (∀ j, k ≤ j → j < 7 → M'.1 o j = -1) ∧ (∀ p j, ¬ (p = o ∧ k ≤ j ∧ j < 7) → M'.1 p j = M.1 p j) ∧ M'.2 = M.2 := by
  intro m
  induction m with
  | zero =>
    intro k f M hk hf
    obtain ⟨f, rfl⟩ : ∃ g, f = g + 1 := ⟨f - 1, by omega⟩
    refine ⟨M, ?_, fun j h1 h2 => by omega, fun _ _ _ => rfl, rfl⟩
    rw [f_fillL, i_le (by omega) (by omega), if_pos (by omega)]
  | succ m ih =>
    intro k f M hk hf
    obtain ⟨f, rfl⟩ : ∃ g, f = g + 1 := ⟨f - 1, by omega⟩
    obtain ⟨M', e1, e2, e3, e4⟩ := ih (k + 1) f (qsI M o k (-1)) (by omega) (by omega)
    refine ⟨M', ?_, fun j h1 h2 => ?_, fun p j h => ?_, e4⟩
    · rw [f_fillL, i_le (by omega) (by omega), if_neg (by omega), g_ix (by omega) (by omega), g_cl (by omega), q_ltE, g_inc]
      exact e1
    · by_cases q : k + 1 ≤ j
      · exact e2 j q h2
      · rw [e3 _ _ (by omega), g_Ie ⟨rfl, by omega⟩]
    · rw [e3 p j (by omega), g_In (by omega)]
def dNo : dT := (fun _ => -1, fun _ => -1)
theorem t_body {H : List Nat} (hl : H.length ≤ 120) (hH : ∀ c ∈ H, c < 127) {q0 : Nat} (hq : 291 < q0) {M : qM} (hM : hX M H) : ∃ M', f_Rule_readBody q0 (nI H.length) M = some M' ∧ cDt M' q0 (bodyF [] H dNo) ∧ (∀ p j, ¬ ((p = q0 + 4 ∨ p = q0 + 5) ∧ j < 7) → M'.1 p j = M.1 p j) ∧ M'.2 = M.2 := by
  obtain ⟨M1, a1, a2, a3, a4⟩ := t_fill (o := q0 + 4) 7 0 1000 M (by omega) (by omega)
  obtain ⟨M2, b1, b2', b3, b4⟩ := t_fill (o := q0 + 5) 7 0 1000 M1 (by omega) (by omega)
  have hX2 : hX M2 H := fun j x hj => by rw [b3 _ _ (by omega), a3 _ _ (by omega)]; exact hM j x hj
  obtain ⟨M', x1, x2, x3, x4⟩ := t_body21 hl hH hq H M2 0 0 1000 [] dNo hX2 (fun j hj => ⟨by rw [b3 _ _ (by omega)]; exact a2 j (Nat.zero_le _) hj, b2' j (Nat.zero_le _) hj⟩) rfl rfl (Nat.zero_le _) (by omega)
  refine ⟨M', ?_, x2, fun p j hp => by rw [x3 p j hp, b3 p j (by omega), a3 p j (by omega)], by rw [x4, b4, a4]⟩
  have a1' : f_fill 7 (q0 + 4) (-1) M = some M1 := a1
  have b1' : f_fill 7 (q0 + 5) (-1) M1 = some M2 := b1
  unfold f_Rule_readBody
  rw [a1', q_cvE, b1', q_cvE]
  exact x1
