/-! style on the reference's side: one declaration -/
theorem r_dig {c : Nat} (M : qM) (h : c < 127) : f_Md_digit (nI c) M = some (b2 (dig c)) := by
  have : ∀ y, y < 127 → f_Md_digit (nI y) qM0 = some (b2 (dig y)) := by decide +kernel
  exact this c h
theorem r_prI {x : Nat} (M : qM) (h : x < 127) : f_Md_propertyIndex (nI x) M = some (eI (prI x)) := by
  have : ∀ y, y < 127 → f_Md_propertyIndex (nI y) qM0 = some (eI (prI y)) := by decide +kernel
  exact this x h
def dclJ (a1 a2 x2 w : Int32) : Option Int32 := if a2 = 3 then (some (x2 - 48)) else (if a1 < 4 then (some (-1)) else (q_bp (f_Md_digit w qM0) fun x14 => if x14 = 0 then (some (-1)) else (some (((10 * (x2 - 48)) + w) - 48))))
def dclP (a1 a2 x2 y w : Int32) : Option Int32 := if a1 < 0 then (some (-1)) else (if a2 < 3 then (some (-1)) else (if 4 < a2 then (some (-1)) else (if y = 58 then (if a1 = 3 then (if a2 = 3 then (if x2 = 98 then (some x2) else (if x2 = 105 then (some x2) else (if x2 = 110 then (some x2) else (some (-1))))) else (some (-1))) else (q_bp (f_Md_digit x2 qM0) fun x9 => if x9 = 0 then (some (-1)) else (if a1 = 2 then (if x2 = 48 then (some (-1)) else (dclJ a1 a2 x2 w)) else (dclJ a1 a2 x2 w)))) else (some (-1)))))
theorem xl_1 {β : Type} (k : Option β) : q_ix (1 : Int32) 120 k = k := g_ix (n := 1) (by decide) (by decide)
theorem xl_2 {β : Type} (k : Option β) : q_ix (2 : Int32) 120 k = k := g_ix (n := 2) (by decide) (by decide)
theorem xl_3 {β : Type} (k : Option β) : q_ix (3 : Int32) 120 k = k := g_ix (n := 3) (by decide) (by decide)
theorem cl_1 : (1 : Int32).toNatClampNeg = 1 := g_cl (n := 1) (by decide)
theorem cl_2 : (2 : Int32).toNatClampNeg = 2 := g_cl (n := 2) (by decide)
theorem cl_3 : (3 : Int32).toNatClampNeg = 3 := g_cl (n := 3) (by decide)
theorem dg_cg (M : qM) (a : Int32) : f_Md_digit a M = f_Md_digit a qM0 := by
  unfold f_Md_digit
  exact Eq.refl _
theorem lt_E {α β : Type} (a : α) (k : α → Option β) : q_lt a k = k a := by
  unfold q_lt
  exact Eq.refl _
theorem dcl_eq (a1 a2 : Int32) (M : qM) : f_Md_declared a1 a2 M = dclP a1 a2 (M.1 21 2) (M.1 21 1) (M.1 21 3) := by
  unfold f_Md_declared dclP dclJ
  simp only [xl_1, xl_2, xl_3, lt_E, cl_1, cl_2, cl_3, dg_cg M]
theorem dig_ge {v : Nat} (h : dig v = true) : 48 ≤ v ∧ v ≤ 57 := by
  unfold dig at h
  exact of_decide_eq_true h
theorem dcl3 {p v y : Nat} (hp : p < 7) (hv : v < 127) (hy : y < 127) (w : Int32) : dclP (nI p) (nI 3) (nI v) (nI y) w = some (eI (if y = 58 then valF p [v] else none)) := by
  unfold dclP dclJ
  rw [i_n0 (by omega), if_neg (show ¬ nI 3 < (3 : Int32) by decide), if_neg (show ¬ (4 : Int32) < nI 3 by decide), show (58 : Int32) = nI 58 from rfl, i_eq (by omega) (by omega)]
  by_cases q : y = 58
  · rw [if_pos q, if_pos q, show valF p [v] = if p = 3 then (if v = 98 ∨ v = 105 ∨ v = 110 then some v else none) else if dig v = true then (if p = 2 ∧ v = 48 then none else some (v - 48)) else none from rfl]
    by_cases p3 : p = 3
    · subst p3
      rw [if_pos (show nI 3 = (3 : Int32) from rfl), if_pos (show nI 3 = (3 : Int32) from rfl), show (98 : Int32) = nI 98 from rfl, show (105 : Int32) = nI 105 from rfl, show (110 : Int32) = nI 110 from rfl, i_eq (by omega) (by omega), i_eq (by omega) (by omega), i_eq (by omega) (by omega), if_pos rfl]
      by_cases a : v = 98
      · rw [if_pos a, if_pos (Or.inl a)]; rfl
      · rw [if_neg a]
        by_cases b : v = 105
        · rw [if_pos b, if_pos (Or.inr (Or.inl b))]; rfl
        · rw [if_neg b]
          by_cases c : v = 110
          · rw [if_pos c, if_pos (Or.inr (Or.inr c))]; rfl
          · rw [if_neg c, if_neg (by omega)]; rfl
    · have n3 : ¬ nI p = (3 : Int32) := by rw [show (3 : Int32) = nI 3 from rfl, g_eq (by omega) (by omega)]; exact p3
      rw [if_neg n3, if_neg p3, r_dig qM0 hv, q_bpE, i_b2]
      cases hd : dig v with
      | false => rw [if_pos rfl, if_neg (by decide)]; rfl
      | true =>
        have := dig_ge hd
        have e48 : nI v - 48 = nI (v - 48) := by rw [show (48 : Int32) = nI 48 from rfl, g_sub (by omega)]
        rw [if_neg (by decide), if_pos rfl, if_pos (show nI 3 = (3 : Int32) from rfl), e48]
        by_cases p2 : p = 2
        · rw [if_pos (show nI p = (2 : Int32) by rw [p2]; rfl), show (48 : Int32) = nI 48 from rfl, i_eq (by omega) (by omega)]
          by_cases v0 : v = 48
          · rw [if_pos v0, if_pos ⟨p2, v0⟩]; rfl
          · rw [if_neg v0, if_neg (fun h => v0 h.2)]; rfl
        · have n2 : ¬ nI p = (2 : Int32) := by rw [show (2 : Int32) = nI 2 from rfl, g_eq (by omega) (by omega)]; exact p2
          rw [if_neg n2, if_neg (fun h => p2 h.1)]; rfl
  · rw [if_neg q, if_neg q]; rfl
theorem dcl4 {p v y w : Nat} (hp : p < 7) (hv : v < 127) (hy : y < 127) (hw : w < 127) : dclP (nI p) (nI 4) (nI v) (nI y) (nI w) = some (eI (if y = 58 then valF p [v, w] else none)) := by
  unfold dclP dclJ
  rw [i_n0 (by omega), if_neg (show ¬ nI 4 < (3 : Int32) by decide), if_neg (show ¬ (4 : Int32) < nI 4 by decide), show (58 : Int32) = nI 58 from rfl, i_eq (by omega) (by omega)]
  by_cases q : y = 58
  · rw [if_pos q, if_pos q, show valF p [v, w] = if 4 ≤ p ∧ dig v = true ∧ dig w = true then some (10 * (v - 48) + (w - 48)) else none from rfl]
    by_cases p3 : p = 3
    · rw [if_pos (show nI p = (3 : Int32) by rw [p3]; rfl), if_neg (show ¬ nI 4 = (3 : Int32) by decide), if_neg (by omega)]; rfl
    · have n3 : ¬ nI p = (3 : Int32) := by rw [show (3 : Int32) = nI 3 from rfl, g_eq (by omega) (by omega)]; exact p3
      rw [if_neg n3, r_dig qM0 hv, q_bpE, i_b2]
      cases hd : dig v with
      | false => rw [if_pos rfl, if_neg (by rintro ⟨_, h, _⟩; cases h)]; rfl
      | true =>
        have := dig_ge hd
        have e48 : nI v - 48 = nI (v - 48) := by rw [show (48 : Int32) = nI 48 from rfl, g_sub (by omega)]
        rw [if_neg (by decide), if_neg (show ¬ nI 4 = (3 : Int32) by decide), e48, show (4 : Int32) = nI 4 from rfl, i_lt (by omega) (by omega)]
        by_cases p4 : 4 ≤ p
        · have n2 : ¬ nI p = (2 : Int32) := by rw [show (2 : Int32) = nI 2 from rfl, g_eq (by omega) (by omega)]; omega
          rw [if_neg n2, if_neg (by omega), r_dig qM0 hw, q_bpE, i_b2]
          cases hd2 : dig w with
          | false => rw [if_pos rfl, if_neg (by rintro ⟨_, _, h⟩; cases h)]; rfl
          | true =>
            have := dig_ge hd2
            rw [if_neg (by decide), if_pos ⟨p4, rfl, rfl⟩, show (10 : Int32) = nI 10 from rfl, g_mul, g_add, show (48 : Int32) = nI 48 from rfl, g_sub (by omega)]
            show some (nI _) = some (nI _)
            congr 2
            omega
        · rw [if_pos (show p < 4 by omega), ite_self, ite_self, if_neg (show ¬ (4 ≤ p ∧ true = true ∧ dig w = true) from fun h => p4 h.1)]
          rfl
  · rw [if_neg q, if_neg q]; rfl
def dB (M : qM) (D : List Nat) : Prop := ∀ j c, D[j]? = some c → M.1 21 j = nI c
def pX (D : List Nat) : Option Nat := D.head?.bind prI
def dcV (D : List Nat) : Option (Nat × Nat) := (declC false D).map Prod.snd
theorem dcV_imp (i : Bool) (D : List Nat) : declC i D = (dcV D).map fun q => (i, q.1, q.2) := by
  unfold dcV declC
  split
  · split
    · cases prI _ with
      | none => rfl
      | some p =>
        show Option.map _ _ = Option.map _ (Option.map _ (Option.map _ _))
        cases valF p _ <;> rfl
    · rfl
  · rfl
theorem r_dcl {M : qM} {D : List Nat} (hB : dB M D) (hD : ∀ c ∈ D, c < 127) (hl : D.length ≤ 120) : f_Md_declared (eI (pX D)) (nI D.length) M = some (eI ((dcV D).map Prod.snd)) ∧ ∀ p u, dcV D = some (p, u) → pX D = some p ∧ p < 7 ∧ u < 200 := by
  match D, hB, hD, hl with
  | [], _, _, _ => exact ⟨rfl, fun p u h => (by cases h)⟩
  | [x], _, hD, _ =>
    refine ⟨?_, fun p u h => (by cases h)⟩
    rw [dcl_eq]
    unfold dclP
    rw [if_pos (show nI [x].length < (3 : Int32) from (by decide : nI 1 < (3 : Int32))), ite_self]
    rfl
  | [x, y], _, hD, _ =>
    refine ⟨?_, fun p u h => (by cases h)⟩
    rw [dcl_eq]
    unfold dclP
    rw [if_pos (show nI [x, y].length < (3 : Int32) from (by decide : nI 2 < (3 : Int32))), ite_self]
    rfl
  | x :: y :: v :: V, hB, hD, hl =>
    have hx := hD x (by simp)
    have hy := hD y (by simp)
    have hv := hD v (by simp)
    have b1 : M.1 21 1 = nI y := hB 1 y rfl
    have b2' : M.1 21 2 = nI v := hB 2 v rfl
    have e0 : dcV (x :: y :: v :: V) = if y = 58 then ((prI x).bind fun p => (valF p (v :: V)).map fun u => (p, u)) else none := by
      unfold dcV declC
      dsimp only
      split
      · cases prI x with
        | none => rfl
        | some p =>
          show Option.map _ (Option.map _ _) = Option.map _ _
          cases valF p (v :: V) <;> rfl
      · rfl
    have e1 : pX (x :: y :: v :: V) = prI x := rfl
    rw [dcl_eq, e0, e1, b1, b2']
    cases hp : prI x with
    | none =>
      refine ⟨?_, fun p u h => ?_⟩
      · unfold dclP
        rw [if_pos (show eI none < 0 by decide)]
        split <;> rfl
      · split at h <;> cases h
    | some p =>
      have hp7 := prI_lt hp hx
      have fin : ∀ W : Option Nat, valF p (v :: V) = W → (if y = 58 then ((some p).bind fun p => (valF p (v :: V)).map fun u => (p, u)) else none).map Prod.snd = if y = 58 then W else none := fun W hW => by
        split
        · show Option.map _ (Option.map _ _) = _
          rw [hW]
          cases W <;> rfl
        · rfl
      have hu : ∀ p' u, (if y = 58 then ((some p).bind fun p => (valF p (v :: V)).map fun u => (p, u)) else none) = some (p', u) → some p = some p' ∧ p' < 7 ∧ u < 200 := fun p' u h => by
        split at h
        · have h' : (valF p (v :: V)).map (fun u => (p, u)) = some (p', u) := h
          cases hW : valF p (v :: V) with
          | none => rw [hW] at h'; cases h'
          | some u' =>
            rw [hW] at h'
            cases h'
            refine ⟨rfl, hp7, ?_⟩
            unfold valF at hW
            split at hW
            · rename_i v' e
              cases e
              split at hW
              · split at hW
                · cases hW; omega
                · cases hW
              · split at hW
                · split at hW
                  · cases hW
                  · cases hW; omega
                · cases hW
            · rename_i v' w' e
              cases e
              split at hW
              · rename_i hh
                have a1 := dig_ge hh.2.1
                have a2 := dig_ge hh.2.2
                cases hW
                omega
              · cases hW
            · cases hW
        · cases h
      refine ⟨?_, hu⟩
      match V, hB, hD, hl, fin with
      | [], _, _, _, fin =>
        rw [fin _ rfl]
        exact dcl3 hp7 hv hy _
      | [w], hB, hD, _, fin =>
        have b3 : M.1 21 3 = nI w := hB 3 w rfl
        rw [fin _ rfl, b3]
        exact dcl4 hp7 hv hy (hD w (by simp))
      | w :: w2 :: V', _, _, hl, fin =>
        have e2 : valF p (v :: w :: w2 :: V') = none := rfl
        rw [fin _ e2, ite_self]
        unfold dclP
        show (if nI p < 0 then _ else _) = _
        have hl' : V'.length + 5 ≤ 120 := hl
        rw [i_n0 (by omega), if_neg (show ¬ nI (x :: y :: v :: w :: w2 :: V').length < (3 : Int32) by
          rw [show (3 : Int32) = nI 3 from rfl, g_lt (by simp; omega) (by omega)]
          simp), if_pos (show (4 : Int32) < nI (x :: y :: v :: w :: w2 :: V').length by
          rw [show (4 : Int32) = nI 4 from rfl, g_lt (by omega) (by simp; omega)]
          simp)]
        rfl
