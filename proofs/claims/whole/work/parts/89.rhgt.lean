/-! layout on the reference's side: heights -/
section RH
variable {n nc : Nat} {I pj : Nat → Nat} {Z : lT}
theorem fl_le (L : List Nat) (p r s : Nat → Bool) (h : ∀ q, p q = true → s q = true ∧ r q = false) (h' : ∀ q, r q = true → s q = true) : (L.filter p).length + (L.filter r).length ≤ (L.filter s).length := by
  induction L with
  | nil => exact Nat.le_refl _
  | cons a L ih =>
    rw [List.filter_cons, List.filter_cons, List.filter_cons]
    cases hp : p a with
    | true =>
      rw [(h a hp).1, (h a hp).2]
      simp only [if_true, Bool.false_eq_true, if_false, List.length_cons]
      omega
    | false =>
      cases hr : r a with
      | true =>
        rw [h' a hr]
        simp only [if_true, Bool.false_eq_true, if_false, List.length_cons]
        omega
      | false =>
        cases hs : s a with
        | true => simp only [if_true, Bool.false_eq_true, if_false, List.length_cons]; omega
        | false => simp only [Bool.false_eq_true, if_false]; exact ih
theorem tk_ln1 (hW : wZ2 n nc I pj Z) (k : Nat) {j : Nat} (hj : j < n) : (tkF Z k j).length ≤ 1 + ((rgF 0 nc).filter fun q => zNq Z q == j).length := by
  unfold tkF
  by_cases h1 : zBo Z j = k
  · rw [if_pos h1]
    by_cases h2 : zIb Z j = true
    · rw [if_pos h2]; show 1 ≤ _; omega
    · rw [if_neg h2]
      by_cases h3 : zHd Z j = true
      · rw [if_pos h3]; show 0 ≤ _; omega
      · rw [if_neg h3]
        by_cases h4 : zNm Z j = 107
        · rw [if_pos h4, if_neg (by omega)]; show 1 ≤ _; omega
        · rw [if_neg h4]
          by_cases h5 : zNm Z j = 1
          · rw [if_pos h5, List.nil_append, List.length_map, hW.2.2.2.2.2.1 j hj]; omega
          · rw [if_neg h5]; show 0 ≤ _; omega
  · rw [if_neg h1]; show 0 ≤ _; omega
theorem tk_len (hW : wZ2 n nc I pj Z) (k : Nat) : ∀ (m a : Nat), a + m ≤ n → (tkR Z k a m).length ≤ m + ((rgF 0 nc).filter fun q => decide (a ≤ zNq Z q) && decide (zNq Z q < a + m)).length
  | 0, a, _ => by show 0 ≤ _; omega
  | m + 1, a, h => by
    rw [tkR_s, List.length_append]
    have h1 := tk_ln1 hW k (j := a) (by omega)
    have h2 := tk_len hW k m (a + 1) (by omega)
    have h3 := fl_le (rgF 0 nc) (fun q => zNq Z q == a) (fun q => decide (a + 1 ≤ zNq Z q) && decide (zNq Z q < a + 1 + m)) (fun q => decide (a ≤ zNq Z q) && decide (zNq Z q < a + (m + 1))) (fun q hq => by
      have : zNq Z q = a := by simpa using hq
      rw [this]
      refine ⟨by simp, by simp; omega⟩) (fun q hq => by
      simp only [Bool.and_eq_true, decide_eq_true_eq] at hq ⊢
      omega)
    omega
theorem rg_len : ∀ (m a : Nat), (rgF a m).length = m
  | 0, _ => rfl
  | m + 1, a => by rw [rgF, List.length_cons, rg_len m (a + 1)]
theorem tk_l2 (hW : wZ2 n nc I pj Z) (k : Nat) {m a : Nat} (h : a + m ≤ n) : (tkR Z k a m).length ≤ 184 := by
  have h1 := tk_len hW k m a h
  have h2 := List.length_filter_le (fun q => decide (a ≤ zNq Z q) && decide (zNq Z q < a + m)) (rgF 0 nc)
  rw [rg_len] at h2
  have := hW.1
  omega
def rWd (M : qM) (n : Nat) (Z : lT) : Prop := ∀ j, j < n → M.1 26 j = b2 (zHd Z j) ∧ M.1 27 j = b2 (zIb Z j) ∧ (0 < j → M.1 28 j = nI (zBo Z j)) ∧ (zIb Z j = true → M.1 29 j = zL Z j ∧ M.1 30 j = zW Z j)
def Sk (Z : lT) (k : Nat) : Nat → Prop := fun q => zBo Z (zNq Z q) = k
def rF5 (Z : lT) (k : Nat) (M M' : qM) : Prop := ∀ p i, ¬ (p = 0 ∧ (i = 39 ∨ (52 ≤ i ∧ i ≤ 57))) → ¬ p = 37 → ¬ (33 ≤ p ∧ p ≤ 36 ∧ Sk Z k i) → ¬ (p = 32 ∧ k < i ∧ zBo Z i = k ∧ zIb Z i = true) → M'.1 p i = M.1 p i
theorem rF5_t {k : Nat} {M M' M'' : qM} (h : rF5 Z k M M') (h' : rF5 Z k M' M'') : rF5 Z k M M'' := fun p j q1 q2 q3 q4 => by rw [h' p j q1 q2 q3 q4, h p j q1 q2 q3 q4]
theorem rF5_2 {k : Nat} {M M' : qM} (h : rF2 (Sk Z k) M M') : rF5 Z k M M' := fun p j q1 q2 q3 q4 => h p j (by omega) q3
theorem rF5_4 {k : Nat} {M M' : qM} (h : rF4 M M') : rF5 Z k M M' := fun p j q1 q2 q3 q4 => h p j (by omega) q2
theorem rF5_Z {k : Nat} {M M' : qM} (h : rF5 Z k M M') : kZ M M' := ⟨⟨h _ _ (by omega) (by omega) (by omega) (by omega), h _ _ (by omega) (by omega) (by omega) (by omega)⟩, fun p j hp => h _ _ (by omega) (by omega) (by omega) (by omega)⟩
theorem rWd_k {k : Nat} {M M' : qM} (h : rWd M n Z) (f : rF5 Z k M M') : rWd M' n Z := fun j hj => by
  obtain ⟨h1, h2, h3, h4⟩ := h j hj
  refine ⟨by rw [f _ _ (by omega) (by omega) (by omega) (by omega)]; exact h1, by rw [f _ _ (by omega) (by omega) (by omega) (by omega)]; exact h2, fun a => by rw [f _ _ (by omega) (by omega) (by omega) (by omega)]; exact h3 a, fun a => ?_⟩
  rw [f _ _ (by omega) (by omega) (by omega) (by omega), f _ _ (by omega) (by omega) (by omega) (by omega)]
  exact h4 a
def rBs (M : qM) (n nc : Nat) (I pj : Nat → Nat) (Z : lT) (k : Nat) : Prop := rZ M n nc I pj Z ∧ rWd M n Z ∧ ∀ i, k < i → i < n → zIb Z i = true → M.1 31 i = zH Z i
theorem rBs_k {k : Nat} {M M' : qM} (h : rBs M n nc I pj Z k) (f : rF5 Z k M M') : rBs M' n nc I pj Z k := ⟨rZ_k h.1 (rF5_Z f), rWd_k h.2.1 f, fun i h1 h2 h3 => by rw [f _ _ (by omega) (by omega) (by omega) (by omega)]; exact h.2.2 i h1 h2 h3⟩
def rHt (M : qM) (n nc : Nat) (I pj : Nat → Nat) (Z : lT) (k : Nat) (lb : Int32) (j : Nat) (pend : List kT2) (g : gT) : Prop := rBs M n nc I pj Z k ∧ (iX M pend ∧ (∀ t ∈ pend, iW n nc Z t ∧ (t.1 < 2 → Sk Z k t.2)) ∧ pend.length ≤ (tkR Z k (k + 1) (j - (k + 1))).length) ∧ gAt Z k (j - (k + 1)) = pend.foldl (gTk Z k) g ∧ g.2.1 = uNew (g.1.1 + g.1.2.1) (uNl g.2.1) (uPx g.2.1) (uPy g.2.1) ∧ M.1 0 39 = lb + uNl g.2.1 ∧ (∀ q, q < nc → Sk Z k q → rLt M k g.2.1 q) ∧ ∀ i, k < i → i < j → zBo Z i = k → zIb Z i = true → M.1 32 i = g.2.2 i
theorem gTk_fold (k : Nat) : ∀ (L : List kT2) (g : gT), (∀ t ∈ L, t.1 ≠ 3) → L.foldl (gTk Z k) g = (g.1, L.foldl (uTk Z k) g.2.1, g.2.2)
  | [], g, _ => rfl
  | t :: L, g, h => by
    show L.foldl (gTk Z k) (gTk Z k g t) = _
    have e : gTk Z k g t = (g.1, uTk Z k g.2.1 t, g.2.2) := if_neg (h t List.mem_cons_self)
    rw [e, gTk_fold k L _ fun t' ht' => h t' (List.mem_cons_of_mem _ ht')]
    rfl
theorem iW_3 {t : kT2} (h : iW n nc Z t) : t.1 ≠ 3 := by
  rcases h with ⟨h, _⟩ | ⟨h, _⟩ <;> omega
theorem uE_ln {sz : Nat → Int32} {cl W : Int32} (u : uT) : uLn (uEnd sz cl W u) = [] := by
  unfold uEnd
  by_cases h : uLn (uWo sz cl W u) = []
  · rw [if_pos h]; exact h
  · rw [if_neg h]; rfl
theorem rLt_n {M : qM} {k q : Nat} {u : uT} (h : rLt M k u q) (hl : uLn u = []) (y nl : Int32) : rLt M k (uNew y nl (uPx u) (uPy u)) q := ⟨h.1, fun x hx => ⟨(h.2 x hx).1, (h.2 x hx).2.1, fun _ => (h.2 x hx).2.2 (by rw [hl]; exact List.not_mem_nil)⟩⟩
/-- a run flushed -/
theorem r_fl (hW : wZ2 n nc I pj Z) {k : Nat} (hk : k < n) (hib : zIb Z k = true) (h05 : zV Z 0 5 = 0) {lb : Int32} {j : Nat} (hj : j ≤ n) (hkj : k < j) {pend : List kT2} {g : gT} {M : qM} (h : rHt M n nc I pj Z k lb j pend g) : ∃ M' b, f_Md_runs M = some (b2 b) ∧ (b = true → f_Md_lay (nI k) (g.1.1 + g.1.2.1) M = some ((gFl Z k (gAt Z k (j - (k + 1)))).1.1, M') ∧ (gFl Z k (gAt Z k (j - (k + 1)))).1.2.1 = 0) ∧ (b = false → M' = M ∧ (gFl Z k (gAt Z k (j - (k + 1)))).1 = g.1) ∧ (gFl Z k (gAt Z k (j - (k + 1)))).1.2.2 = g.1.2.2 ∧ (gFl Z k (gAt Z k (j - (k + 1)))).2.2 = g.2.2 ∧ M'.1 0 39 = lb + uNl (gFl Z k (gAt Z k (j - (k + 1)))).2.1 ∧ (∀ q, q < nc → Sk Z k q → rLt M' k (gFl Z k (gAt Z k (j - (k + 1)))).2.1 q) ∧ rF2 (Sk Z k) M M' := by
  obtain ⟨hB, ⟨hX, hp, hln⟩, hg, hu, h39, hL, h32⟩ := h
  have hpl : pend.length < 200 := by
    have := tk_l2 hW k (m := j - (k + 1)) (a := k + 1) (by omega)
    omega
  have hit : ∀ t ∈ pend, iW n nc Z t := fun t ht => (hp t ht).1
  have er := r_runs hW hit hpl hB.1 hX
  have hf := gTk_fold (Z := Z) k pend g (fun t ht => iW_3 (hit t ht))
  rw [hg, hf]
  obtain ⟨w1, w2, w3, w4⟩ := hB.2.1 k hk
  cases hb : pend.any fun t => t.1 != 1 with
  | true =>
    rw [hb] at er
    obtain ⟨t, ht, ht1⟩ := List.any_eq_true.mp hb
    have hs : uHs (uEnd (zSz Z) (zCl Z k) (zW Z k) (pend.foldl (uTk Z k) g.2.1)) = true := uE_hs (uA_fold pend g.2.1 (Or.inr ⟨t, ht, by simpa using ht1⟩))
    have e : gFl Z k (g.1, pend.foldl (uTk Z k) g.2.1, g.2.2) = ((uY (uEnd (zSz Z) (zCl Z k) (zW Z k) (pend.foldl (uTk Z k) g.2.1)), 0, g.1.2.2), uEnd (zSz Z) (zCl Z k) (zW Z k) (pend.foldl (uTk Z k) g.2.1), g.2.2) := if_pos hs
    obtain ⟨M', c1, c2, c3, c4⟩ := r_lay hW hit hpl hk h05 (Sc := Sk Z k) (fun t ht => (hp t ht).2) (lb := lb) (y := g.1.1 + g.1.2.1) (nl := uNl g.2.1) (px := uPx g.2.1) (py := uPy g.2.1) ⟨hB.1, hX, (w4 hib).1, (w4 hib).2⟩ h39 (by rw [← hu]; exact hL)
    rw [← hu] at c1 c2 c3
    refine ⟨M', true, er, fun _ => ?_, fun h => (by cases h), ?_, ?_, ?_, ?_, c4⟩
    · rw [e]; exact ⟨c1, rfl⟩
    · rw [e]
    · rw [e]
    · rw [e]; exact c2
    · rw [e]; exact c3
  | false =>
    rw [hb] at er
    have hall : ∀ t ∈ pend, t.1 = 1 := fun t ht => by
      have := List.any_eq_false.mp hb t ht
      simpa using this
    have hB0 : uB (g.1.1 + g.1.2.1) (uNl g.2.1) (uPx g.2.1) (uPy g.2.1) g.2.1 := by
      rw [hu]
      exact ⟨rfl, rfl, rfl, rfl⟩
    have hB1 := uB_fold (Z := Z) (k := k) pend g.2.1 hall hB0
    have eE : uEnd (zSz Z) (zCl Z k) (zW Z k) (pend.foldl (uTk Z k) g.2.1) = pend.foldl (uTk Z k) g.2.1 := uB_end hB1
    have hs : ¬ uHs (uEnd (zSz Z) (zCl Z k) (zW Z k) (pend.foldl (uTk Z k) g.2.1)) = true := by
      rw [eE]
      show ¬ (pend.foldl (uTk Z k) g.2.1).2.2.1.1 = true
      rw [hB1.2.2.2]
      simp
    have e : gFl Z k (g.1, pend.foldl (uTk Z k) g.2.1, g.2.2) = (g.1, pend.foldl (uTk Z k) g.2.1, g.2.2) := by
      refine Eq.trans (if_neg hs) ?_
      show (g.1, uEnd (zSz Z) (zCl Z k) (zW Z k) (pend.foldl (uTk Z k) g.2.1), g.2.2) = _
      rw [eE]
    refine ⟨M, false, er, fun h => (by cases h), fun _ => ⟨rfl, ?_⟩, ?_, ?_, ?_, ?_, rF2_r _ _⟩
    · rw [e]
    · rw [e]
    · rw [e]
    · rw [e, h39]
      congr 1
      show uNl g.2.1 = (pend.foldl (uTk Z k) g.2.1).2.2.1.2
      rw [hB1.2.2.2]
    · intro q hq hs'
      rw [e]
      have r := hL q hq hs'
      have p1 : uPx (pend.foldl (uTk Z k) g.2.1) = uPx g.2.1 := by show (pend.foldl (uTk Z k) g.2.1).2.2.2.1 = _; rw [hB1.2.2.2]
      have p2 : uPy (pend.foldl (uTk Z k) g.2.1) = uPy g.2.1 := by show (pend.foldl (uTk Z k) g.2.1).2.2.2.2 = _; rw [hB1.2.2.2]
      refine ⟨by show M.1 33 q = b2 (uPx (pend.foldl (uTk Z k) g.2.1) q).isSome; rw [p1]; exact r.1, fun x hx => ?_⟩
      have hx' : uPx (pend.foldl (uTk Z k) g.2.1) q = some x := hx
      rw [p1] at hx'
      refine ⟨(r.2 x hx').1, (r.2 x hx').2.1, fun _ => ?_⟩
      show _ = uPy (pend.foldl (uTk Z k) g.2.1) q
      rw [p2]
      refine (r.2 x hx').2.2 ?_
      rw [hu]
      exact List.not_mem_nil
end RH
