/-! layout on the reference's side: lay -/
section RL5
variable {n nc : Nat} {I pj : Nat → Nat} {Z : lT} {it : List kT2}
theorem r_l18 (hW : wZ2 n nc I pj Z) (hit : ∀ t ∈ it, iW n nc Z t) (h200 : it.length < 200) {k : Nat} (hk : k < n) (h05 : zV Z 0 5 = 0) {Sc : Nat → Prop} (hSc : ∀ t ∈ it, t.1 < 2 → Sc t.2) {lb : Int32} (K : qM → Option (Int32 × qM)) : ∀ (m x5 x3 a : Nat) (M : qM) (u : uT), x5 + m = it.length → rLy M n nc I pj Z it k lb Sc x3 x5 u → ∃ M' x3', f_Md_lay_18 (nI k) (m + a) K (nI x3) (uGp u) (nI x5) M = f_Md_lay_18 (nI k) a K (nI x3') (uGp ((it.drop x5).foldl (uTk Z k) u)) (nI it.length) M' ∧ rLy M' n nc I pj Z it k lb Sc x3' it.length ((it.drop x5).foldl (uTk Z k) u) ∧ rF2 Sc M M' := by
  intro m
  induction m with
  | zero =>
    intro x5 x3 a M u hx h
    have e : x5 = it.length := hx
    subst e
    rw [List.drop_length]
    exact ⟨M, x3, by rw [Nat.zero_add]; rfl, h, rF2_r _ _⟩
  | succ m ih =>
    intro x5 x3 a M u hx h
    obtain ⟨t, ht⟩ : ∃ t, it[x5]? = some t := ⟨_, List.getElem?_eq_getElem (by omega)⟩
    obtain ⟨M1, x31, e1, e2, e3⟩ := r_ls hW hit h200 ht hk h05 hSc h (m + a) K
    obtain ⟨M2, x32, f1, f2, f3⟩ := ih (x5 + 1) x31 a M1 (uTk Z k u t) (by omega) e2
    have hd : it.drop x5 = t :: it.drop (x5 + 1) := by
      have h2 := List.getElem?_eq_some_iff.mp ht
      rw [List.drop_eq_getElem_cons h2.1, h2.2]
    rw [hd]
    exact ⟨M2, x32, by rw [show m + 1 + a = m + a + 1 by omega, e1, f1]; rfl, f2, rF2_t e3 f3⟩
theorem r_lay (hW : wZ2 n nc I pj Z) (hit : ∀ t ∈ it, iW n nc Z t) (h200 : it.length < 200) {k : Nat} (hk : k < n) (h05 : zV Z 0 5 = 0) {Sc : Nat → Prop} (hSc : ∀ t ∈ it, t.1 < 2 → Sc t.2) {lb y nl : Int32} {px : Nat → Option Int32} {py : Nat → Int32} {M : qM} (hB : rZ M n nc I pj Z ∧ iX M it ∧ M.1 29 k = zL Z k ∧ M.1 30 k = zW Z k) (h39 : M.1 0 39 = lb + nl) (hL : ∀ q, q < nc → Sc q → rLt M k (uNew y nl px py) q) : ∃ M', f_Md_lay (nI k) y M = some (uY (uEnd (zSz Z) (zCl Z k) (zW Z k) (it.foldl (uTk Z k) (uNew y nl px py))), M') ∧ M'.1 0 39 = lb + uNl (uEnd (zSz Z) (zCl Z k) (zW Z k) (it.foldl (uTk Z k) (uNew y nl px py))) ∧ (∀ q, q < nc → Sc q → rLt M' k (uEnd (zSz Z) (zCl Z k) (zW Z k) (it.foldl (uTk Z k) (uNew y nl px py))) q) ∧ rF2 Sc M M' := by
  have f0 : rF2 Sc M (qsI (qsI (qsI (qsI (qsI M 0 53 y) 0 54 (nI 0)) 0 55 0) 0 56 0) 0 57 0) := fun p j q1 q2 => by simp (disch := omega) only [g_In]
  have hB0 := ly_k hB f0
  have h0 : rLy (qsI (qsI (qsI (qsI (qsI M 0 53 y) 0 54 (nI 0)) 0 55 0) 0 56 0) 0 57 0) n nc I pj Z it k lb Sc 0 0 (uNew y nl px py) := by
    refine ⟨hB0, ⟨⟨?_, ?_, ?_, ?_, ?_⟩, fun q hq hs => ?_⟩, uI_new _ _ _ _, rfl, rfl, 0, ?_, by omega, rfl⟩
    · simp (disch := omega) only [g_In, g_Ie]; rfl
    · simp (disch := omega) only [g_In, g_Ie]; rfl
    · simp (disch := omega) only [g_In, g_Ie]; rfl
    · simp (disch := omega) only [g_In, g_Ie]; rfl
    · simp (disch := omega) only [g_In, g_Ie]; exact h39
    · have r := hL q hq hs
      have kk : ∀ p j, p ≠ 0 → (qsI (qsI (qsI (qsI (qsI M 0 53 y) 0 54 (nI 0)) 0 55 0) 0 56 0) 0 57 0).1 p j = M.1 p j := fun p j hp => by simp (disch := omega) only [g_In]
      unfold rLt at r ⊢
      rw [kk _ _ (by omega), kk _ _ (by omega), kk _ _ (by omega), kk _ _ (by omega)]
      exact r
    · simp (disch := omega) only [g_In, g_Ie]
  obtain ⟨M1, x31, e1, e2, e3⟩ := r_l18 hW hit h200 hk h05 hSc (fun (M46 : qM) => if (M46.1 0 57) = 0 then (some (M46.1 0 53, M46)) else (q_cv (f_Md_endLine (M46.1 0 52) M46) fun M48 => some (M48.1 0 53, M48))) it.length 0 0 (1000 - it.length) _ _ (by omega) h0
  rw [List.drop_zero] at e1 e2
  obtain ⟨a, ha⟩ : ∃ a, 1000 - it.length = a + 1 + 1 := ⟨1000 - it.length - 2, by omega⟩
  obtain ⟨M2, ls, f1, f2, f3, f4, f5, f6⟩ := r_lw hW hit h200 (Nat.le_refl _) hk h05 hSc e2 (a + 1) (fun (M46 : qM) => if (M46.1 0 57) = 0 then (some (M46.1 0 53, M46)) else (q_cv (f_Md_endLine (M46.1 0 52) M46) fun M48 => some (M48.1 0 53, M48))) 0 0
  have hB2 := ly_k e2.1 f6
  have g1 : f_Md_lay (nI k) y M = (if (M2.1 0 57) = 0 then (some (M2.1 0 53, M2)) else (q_cv (f_Md_endLine (M2.1 0 52) M2) fun M48 => some (M48.1 0 53, M48))) := by
    have s1 : f_Md_lay (nI k) y M = f_Md_lay_18 (nI k) 1000 (fun (M46 : qM) => if (M46.1 0 57) = 0 then (some (M46.1 0 53, M46)) else (q_cv (f_Md_endLine (M46.1 0 52) M46) fun M48 => some (M48.1 0 53, M48))) 0 0 0 (qsI (qsI (qsI (qsI (qsI M 0 53 y) 0 54 (nI 0)) 0 55 0) 0 56 0) 0 57 0) := rfl
    rw [s1]
    have s2 := e1
    rw [show it.length + (1000 - it.length) = 1000 by omega] at s2
    refine Eq.trans s2 ?_
    rw [ha, l18_eq, e2.1.2.1.1, i_lt (by omega) (by omega), if_neg (by omega), i_le (by omega) (by omega), if_pos (by omega)]
    unfold l18_d
    rw [e2.1.2.1.1, i_le (by omega) (by omega), if_pos (by omega)]
    unfold l18_c
    rw [e2.1.2.1.1, i_eq (by omega) (by omega), if_pos rfl, f1]
    unfold l18_g
    rw [if_pos rfl]
    unfold l18_j
    rw [if_pos rfl, g_inc, l18_eq, hB2.2.1.1, i_lt (by omega) (by omega), if_pos (by omega)]
  have fr := rF2_t (rF2_t f0 e3) f6
  by_cases hl : uLn (uWo (zSz Z) (zCl Z k) (zW Z k) (it.foldl (uTk Z k) (uNew y nl px py))) = []
  · have eE : uEnd (zSz Z) (zCl Z k) (zW Z k) (it.foldl (uTk Z k) (uNew y nl px py)) = uWo (zSz Z) (zCl Z k) (zW Z k) (it.foldl (uTk Z k) (uNew y nl px py)) := if_pos hl
    rw [eE]
    refine ⟨M2, ?_, f2.1.2.2.2.2, f2.2, fr⟩
    rw [g1, if_pos (f2.1.2.2.2.1.trans (b2_ne.mpr hl)), f2.1.1]
  · have eE : uEnd (zSz Z) (zCl Z k) (zW Z k) (it.foldl (uTk Z k) (uNew y nl px py)) = uEl (zSz Z) (uWo (zSz Z) (zCl Z k) (zW Z k) (it.foldl (uTk Z k) (uNew y nl px py))) := if_neg hl
    rw [eE]
    obtain ⟨M3, c1, c2, c3, c4⟩ := r_el hW hit h200 (Nat.le_refl _) f4 hSc hB2.1 hB2.2.1 f2 f3 f5
    refine ⟨M3, ?_, c2.1.2.2.2.2, c2.2, rF2_t fr c4⟩
    rw [g1, if_neg (fun h => hl (b2_ne.mp (f2.1.2.2.2.1.symm.trans h))), hB2.2.1.1, c1, q_cvE, c2.1.1]
/-! a run that holds more than blanks has lines -/
def uA (u : uT) : Prop := uHs u = true ∨ uLn u ≠ [] ∨ uWd u ≠ []
theorem uA_wo {sz : Nat → Int32} {cl W : Int32} {u : uT} (h : uA u) : uHs (uWo sz cl W u) = true ∨ uLn (uWo sz cl W u) ≠ [] := by
  unfold uWo
  by_cases hw : uWd u = []
  · rw [if_pos hw]
    rcases h with h | h | h
    · exact Or.inl h
    · exact Or.inr h
    · exact absurd hw h
  · rw [if_neg hw]
    refine Or.inr fun hl => ?_
    have hf : uWd (uFit sz W u) = uWd u := by
      unfold uFit
      by_cases hl : uLn u = []
      · rw [if_pos hl]
      · rw [if_neg hl]
        by_cases hW : uUs u + uGp u + uWw u ≤ W
        · rw [if_pos hW]; rfl
        · rw [if_neg hW]; rfl
    have : uLn (uFit sz W u) ++ uWd (uFit sz W u) = [] := hl
    rw [hf] at this
    exact hw (List.append_eq_nil_iff.mp this).2
theorem uA_tk {k : Nat} {u : uT} {t : kT2} (h : uA u) : uA (uTk Z k u t) := by
  unfold uTk
  by_cases h0 : t.1 = 0
  · rw [if_pos h0]
    exact Or.inr (Or.inr (by show uWd u ++ [t.2] ≠ []; simp))
  · rw [if_neg h0]
    by_cases h1 : t.1 = 1
    · rw [if_pos h1]
      rcases uA_wo (sz := zSz Z) (cl := zCl Z k) (W := zW Z k) h with h | h
      · exact Or.inl h
      · exact Or.inr (Or.inl h)
    · rw [if_neg h1]
      exact Or.inl rfl
theorem uA_new {k : Nat} {u : uT} {t : kT2} (h : t.1 ≠ 1) : uA (uTk Z k u t) := by
  unfold uTk
  by_cases h0 : t.1 = 0
  · rw [if_pos h0]
    exact Or.inr (Or.inr (by show uWd u ++ [t.2] ≠ []; simp))
  · rw [if_neg h0, if_neg h]
    exact Or.inl rfl
theorem uA_fold {k : Nat} : ∀ (L : List kT2) (u : uT), (uA u ∨ ∃ t ∈ L, t.1 ≠ 1) → uA (L.foldl (uTk Z k) u)
  | [], u, h => by
    rcases h with h | ⟨t, h, _⟩
    · exact h
    · cases h
  | t :: L, u, h => by
    refine uA_fold L (uTk Z k u t) ?_
    rcases h with h | ⟨t', h, h'⟩
    · exact Or.inl (uA_tk h)
    · rcases List.mem_cons.mp h with h | h
      · rw [← h]; exact Or.inl (uA_new h')
      · exact Or.inr ⟨t', h, h'⟩
theorem uE_hs {sz : Nat → Int32} {cl W : Int32} {u : uT} (h : uA u) : uHs (uEnd sz cl W u) = true := by
  unfold uEnd
  by_cases hl : uLn (uWo sz cl W u) = []
  · rw [if_pos hl]
    rcases uA_wo (sz := sz) (cl := cl) (W := W) h with h | h
    · exact h
    · exact absurd hl h
  · rw [if_neg hl]
    rfl
/-- nothing but blanks -/
def uB (y nl : Int32) (px : Nat → Option Int32) (py : Nat → Int32) (u : uT) : Prop := u.1 = (y, [], 0, 0) ∧ uWd u = [] ∧ uWw u = 0 ∧ u.2.2 = ((false, nl), px, py)
theorem uB_fold {k : Nat} {y nl : Int32} {px : Nat → Option Int32} {py : Nat → Int32} : ∀ (L : List kT2) (u : uT), (∀ t ∈ L, t.1 = 1) → uB y nl px py u → uB y nl px py (L.foldl (uTk Z k) u)
  | [], u, _, h => h
  | t :: L, u, hL, h => by
    refine uB_fold L (uTk Z k u t) (fun t' ht' => hL t' (List.mem_cons_of_mem _ ht')) ?_
    have h1 := hL t List.mem_cons_self
    unfold uTk
    rw [if_neg (by omega), if_pos h1]
    unfold uBlk
    have : uWo (zSz Z) (zCl Z k) (zW Z k) u = u := if_pos h.2.1
    rw [this]
    exact h
theorem uB_end {sz : Nat → Int32} {cl W : Int32} {y nl : Int32} {px : Nat → Option Int32} {py : Nat → Int32} {u : uT} (h : uB y nl px py u) : uEnd sz cl W u = u := by
  unfold uEnd
  have : uWo sz cl W u = u := if_pos h.2.1
  rw [this, if_pos (by show u.1.2.1 = []; rw [h.1])]
end RL5
