/-! layout on the reference's side: a run laid, step by step -/
section RL4
variable {n nc : Nat} {I pj : Nat → Nat} {Z : lT} {it : List kT2}
/-- the state of lay between its steps -/
def rLy (M : qM) (n nc : Nat) (I pj : Nat → Nat) (Z : lT) (it : List kT2) (k : Nat) (lb : Int32) (Sc : Nat → Prop) (x3 x5 : Nat) (u : uT) : Prop := (rZ M n nc I pj Z ∧ iX M it ∧ M.1 29 k = zL Z k ∧ M.1 30 k = zW Z k) ∧ rU M nc k lb Sc u ∧ uI (zSz Z) u ∧ (it.take x5).drop x3 = (uWd u).map lw ∧ x3 + (uWd u).length = x5 ∧ ∃ ls, M.1 0 54 = nI ls ∧ ls ≤ x3 ∧ iL ((it.take x3).drop ls) = uLn u
theorem ly_k {M M' : qM} {k : Nat} {Sc : Nat → Prop} (h : rZ M n nc I pj Z ∧ iX M it ∧ M.1 29 k = zL Z k ∧ M.1 30 k = zW Z k) (f : rF2 Sc M M') : rZ M' n nc I pj Z ∧ iX M' it ∧ M'.1 29 k = zL Z k ∧ M'.1 30 k = zW Z k := ⟨rZ_k h.1 (rF2_Z f), iX_k h.2.1 (f _ _ (by omega) (by omega)) (fun j => f _ _ (by omega) (by omega)), by rw [f _ _ (by omega) (by omega)]; exact h.2.2.1, by rw [f _ _ (by omega) (by omega)]; exact h.2.2.2⟩
theorem rF2_r (Sc : Nat → Prop) (M : qM) : rF2 Sc M M := fun _ _ _ _ => rfl
theorem r_lw (hW : wZ2 n nc I pj Z) (hit : ∀ t ∈ it, iW n nc Z t) (h200 : it.length < 200) {k x3 x5 : Nat} (ht : x5 ≤ it.length) (hk : k < n) (h05 : zV Z 0 5 = 0) {Sc : Nat → Prop} (hSc : ∀ t ∈ it, t.1 < 2 → Sc t.2) {M : qM} {lb : Int32} {u : uT} (h : rLy M n nc I pj Z it k lb Sc x3 x5 u) (a : Nat) (K : qM → Option (Int32 × qM)) (x9 x10 : Int32) : ∃ M' ls', l18_w (nI k) a K (nI x5) x9 x10 (nI x3) (uGp u) M = l18_g (nI k) a K (nI x5) x9 x10 (nI (x5 + 1)) (uGp (uWo (zSz Z) (zCl Z k) (zW Z k) u)) M' ∧ rU M' nc k lb Sc (uWo (zSz Z) (zCl Z k) (zW Z k) u) ∧ M'.1 0 54 = nI ls' ∧ ls' ≤ x5 ∧ iL ((it.take x5).drop ls') = uLn (uWo (zSz Z) (zCl Z k) (zW Z k) u) ∧ rF2 Sc M M' := by
  obtain ⟨⟨hZ, hX, h29, h30⟩, hU, hI, hw, hx, ls, h54, hls, hL⟩ := h
  unfold l18_w
  rw [i_le (by omega) (by omega), g_inc]
  by_cases e : uWd u = []
  · have e5 : x3 = x5 := by rw [e] at hx; exact hx
    have eo : uWo (zSz Z) (zCl Z k) (zW Z k) u = u := if_pos e
    rw [if_pos (by omega), eo]
    exact ⟨M, ls, rfl, hU, h54, by omega, by rw [← e5]; exact hL, rF2_r _ _⟩
  · have hl : 0 < (uWd u).length := List.length_pos_iff.mpr e
    have eo : uWo (zSz Z) (zCl Z k) (zW Z k) u = uPut (zSz Z) (zCl Z k) (uFit (zSz Z) (zW Z k) u) := if_neg e
    rw [if_neg (by omega), eo]
    obtain ⟨M', ls', e1, e2, e3, e4, e5, e6⟩ := r_pw hW hit h200 ht hk h05 hSc hZ hX h29 h30 hw hx e hU hI h54 hls hL
    exact ⟨M', ls', by rw [e1, q_cvE]; rfl, e2, e3, e4, e5, e6⟩
theorem tk_s {x : Nat} {t : kT2} (h : it[x]? = some t) : it.take (x + 1) = it.take x ++ [t] := by
  rw [List.take_succ, h]
  rfl
theorem dr_a {x y : Nat} (h : y ≤ x) {t : kT2} (hx : it[x]? = some t) : (it.take (x + 1)).drop y = (it.take x).drop y ++ [t] := by
  have : x < it.length := (List.getElem?_eq_some_iff.mp hx).1
  rw [tk_s hx, List.drop_append_of_le_length (by rw [List.length_take]; omega)]
theorem neg_nle {j : Nat} (h : j < 1000) : ¬ 0 ≤ (-1 - nI j : Int32) := by
  have : ∀ j, j < 1000 → ¬ 0 ≤ (-1 - nI j : Int32) := by decide +kernel
  exact this j h
theorem sz_ne (hW : wZ2 n nc I pj Z) {q : Nat} (h : q < nc) : zSz Z q ≠ 0 := by
  obtain ⟨c1, c2, c3, c4⟩ := hW.2.2.2.1 q h
  have hpj := hW.2.2.1 _ c2 c3
  obtain ⟨z, z1, z2, z3⟩ := hW.2.2.2.2.2.2 (pj (zNq Z q)) (by omega)
  rw [c4, z3]
  intro e
  have : ∀ z, z < 10 → nI z = 0 → z = 0 := by decide
  have := this z (by omega) e
  omega
/-- one step -/
theorem r_ls (hW : wZ2 n nc I pj Z) (hit : ∀ t ∈ it, iW n nc Z t) (h200 : it.length < 200) {k x3 x5 : Nat} {t : kT2} (ht : it[x5]? = some t) (hk : k < n) (h05 : zV Z 0 5 = 0) {Sc : Nat → Prop} (hSc : ∀ t ∈ it, t.1 < 2 → Sc t.2) {M : qM} {lb : Int32} {u : uT} (h : rLy M n nc I pj Z it k lb Sc x3 x5 u) (a : Nat) (K : qM → Option (Int32 × qM)) : ∃ M' x3', f_Md_lay_18 (nI k) (a + 1) K (nI x3) (uGp u) (nI x5) M = f_Md_lay_18 (nI k) a K (nI x3') (uGp (uTk Z k u t)) (nI (x5 + 1)) M' ∧ rLy M' n nc I pj Z it k lb Sc x3' (x5 + 1) (uTk Z k u t) ∧ rF2 Sc M M' := by
  have hlt : x5 < it.length := (List.getElem?_eq_some_iff.mp ht).1
  have hiw := hit _ (List.mem_of_getElem? ht)
  have hn : n ≤ 24 := hW.1.2.1
  have hnc : nc ≤ 160 := hW.1.2.2
  have h' := h
  obtain ⟨⟨hZ, hX, h29, h30⟩, hU, hI, hw, hx, ls, h54, hls, hL⟩ := h
  have h37 := hX.2 x5 t ht
  have hIt := uI_tk k hI (t := t) (fun h1 => sz_ne hW (by
    rcases hiw with ⟨c, _⟩ | ⟨_, c, _⟩
    · omega
    · exact c))
  rw [l18_eq, hX.1, i_lt (by omega) (by omega), if_neg (by omega), i_le (by omega) (by omega), if_neg (by omega), g_ix (by omega) (by omega), g_cl (by omega), h37]
  rcases hiw with ⟨h1, h2⟩ | ⟨h1, h2, h3⟩
  · have ec : iC t = -1 - nI t.2 := if_pos h1
    rw [ec, if_neg (neg_nle (j := t.2) (by omega))]
    unfold l18_d
    rw [hX.1, i_le (by omega) (by omega), if_neg (by omega), if_neg (show ¬ (1 : Int32) = 0 by decide)]
    unfold l18_c
    rw [hX.1, i_eq (by omega) (by omega), if_neg (by omega), if_neg (show ¬ (1 : Int32) = 0 by decide)]
    obtain ⟨M1, ls1, e1, e2, e3, e4, e5, e6⟩ := r_lw hW hit h200 (by omega) hk h05 hSc h' a K 1 0
    have hB := ly_k ⟨hZ, hX, h29, h30⟩ e6
    have hsz : f_Md_size (nI x5) M1 = some (zV Z t.2 2) := by
      have := r_size hB.1 hW (x := x5) (by omega) (hB.2.1.2 x5 t ht) (Or.inl ⟨h1, h2⟩)
      rw [this, show tSz Z t = zV Z t.2 2 from if_pos h1]
    rw [e1]
    unfold l18_g
    rw [if_pos rfl]
    unfold l18_j
    rw [if_neg (show ¬ (1 : Int32) = 0 by decide), hsz, q_bpE]
    have et : uTk Z k u t = uEl (zSz Z) (uHgt (uWo (zSz Z) (zCl Z k) (zW Z k) u) (zV Z t.2 2)) := by
      unfold uTk
      rw [if_neg (by omega), if_neg (by omega)]
      rfl
    have hwd := (uI_wo (zCl Z k) (zW Z k) hI).2.2.1
    have fin : ∀ M2 : qM, (∀ p j, ¬ (p = 0 ∧ (j = 56 ∨ j = 57)) → M2.1 p j = M1.1 p j) → M2.1 0 56 = uLh (uHgt (uWo (zSz Z) (zCl Z k) (zW Z k) u) (zV Z t.2 2)) → ∃ M' x3', (q_cv (f_Md_endLine (nI x5) M2) fun M18 => f_Md_lay_18 (nI k) a K (nI (x5 + 1)) (uGp (uWo (zSz Z) (zCl Z k) (zW Z k) u)) (nI x5 + 1) M18) = f_Md_lay_18 (nI k) a K (nI x3') (uGp (uTk Z k u t)) (nI (x5 + 1)) M' ∧ rLy M' n nc I pj Z it k lb Sc x3' (x5 + 1) (uTk Z k u t) ∧ rF2 Sc M M' := by
      intro M2 k2 k56
      have hv : (uLn (uHgt (uWo (zSz Z) (zCl Z k) (zW Z k) u) (zV Z t.2 2)) = uLn (uWo (zSz Z) (zCl Z k) (zW Z k) u)) ∧ (uHgt (uWo (zSz Z) (zCl Z k) (zW Z k) u) (zV Z t.2 2)).2 = (uWo (zSz Z) (zCl Z k) (zW Z k) u).2 ∧ uY (uHgt (uWo (zSz Z) (zCl Z k) (zW Z k) u) (zV Z t.2 2)) = uY (uWo (zSz Z) (zCl Z k) (zW Z k) u) := by
        unfold uHgt
        by_cases q : uLn (uWo (zSz Z) (zCl Z k) (zW Z k) u) = []
        · rw [if_pos q]; exact ⟨rfl, rfl, rfl⟩
        · rw [if_neg q]; exact ⟨rfl, rfl, rfl⟩
      obtain ⟨v1, v2, v3⟩ := hv
      have f12 : rF2 Sc M1 M2 := fun p j q1 _ => k2 p j (fun h => q1 ⟨h.1, by omega⟩)
      have hB2 := ly_k hB f12
      obtain ⟨M3, c1, c2, c3, c4⟩ := r_elw (k := k) (lb := lb) (u := uHgt (uWo (zSz Z) (zCl Z k) (zW Z k) u) (zV Z t.2 2)) hW hit h200 (a1 := x5) (by omega) e4 hSc hB2.1 hB2.2.1 (by rw [k2 _ _ (by omega), v3]; exact e2.1.1) k56 (by
          rw [k2 _ _ (by omega)]
          have : uNl (uHgt (uWo (zSz Z) (zCl Z k) (zW Z k) u) (zV Z t.2 2)) = uNl (uWo (zSz Z) (zCl Z k) (zW Z k) u) := by unfold uNl; rw [v2]
          rw [this]
          exact e2.1.2.2.2.2) (fun q hq hs => by
          have r := e2.2 q hq hs
          have p1 : uPx (uHgt (uWo (zSz Z) (zCl Z k) (zW Z k) u) (zV Z t.2 2)) = uPx (uWo (zSz Z) (zCl Z k) (zW Z k) u) := by unfold uPx; rw [v2]
          have p2 : uPy (uHgt (uWo (zSz Z) (zCl Z k) (zW Z k) u) (zV Z t.2 2)) = uPy (uWo (zSz Z) (zCl Z k) (zW Z k) u) := by unfold uPy; rw [v2]
          unfold rLt at r ⊢
          rw [p1, p2, v1, k2 _ _ (by omega), k2 _ _ (by omega), k2 _ _ (by omega), k2 _ _ (by omega)]
          exact r) (by rw [k2 _ _ (by omega)]; exact e3) (by rw [v1]; exact e5)
      refine ⟨M3, x5 + 1, ?_, ?_, rF2_t (rF2_t e6 f12) c4⟩
      · rw [c1, q_cvE, g_inc, et]
        have : uGp (uEl (zSz Z) (uHgt (uWo (zSz Z) (zCl Z k) (zW Z k) u) (zV Z t.2 2))) = uGp (uWo (zSz Z) (zCl Z k) (zW Z k) u) := by
          show (uHgt (uWo (zSz Z) (zCl Z k) (zW Z k) u) (zV Z t.2 2)).2.1.2.2 = _
          rw [v2]
          rfl
        rw [this]
      · have ewd : uWd (uTk Z k u t) = [] := by
          rw [et]
          show (uHgt (uWo (zSz Z) (zCl Z k) (zW Z k) u) (zV Z t.2 2)).2.1.1 = _
          rw [v2]
          exact hwd
        refine ⟨ly_k hB2 c4, by rw [et]; exact c2, hIt, ?_, ?_, x5, c3, by omega, ?_⟩
        · rw [ewd, List.drop_eq_nil_iff.mpr (by rw [List.length_take]; omega)]
          rfl
        · rw [ewd]
          rfl
        · rw [dr_a (Nat.le_refl _) ht, List.drop_eq_nil_iff.mpr (by rw [List.length_take]; omega), et]
          show iL [t] = []
          unfold iL
          rw [List.filter_cons, if_neg (by simp [h1])]
          rfl
    by_cases hq : uLn (uWo (zSz Z) (zCl Z k) (zW Z k) u) = []
    · rw [if_pos (e2.1.2.2.2.1.trans (b2_ne.mpr hq))]
      unfold l18_e
      exact fin _ (fun p j q => by rw [g_In (by omega), g_In (by omega)]) (by
        rw [g_In (by omega), g_Ie ⟨rfl, rfl⟩]
        unfold uHgt
        rw [if_pos hq]
        rfl)
    · rw [if_neg (fun h => hq (b2_ne.mp (e2.1.2.2.2.1.symm.trans h)))]
      unfold l18_e
      exact fin _ (fun p j q => by rw [g_In (by omega)]) (by
        rw [g_In (by omega)]
        unfold uHgt
        rw [if_neg hq]
        exact e2.1.2.2.1)
  · have ec : iC t = nI t.2 := if_neg (by omega)
    obtain ⟨b1, b2', b3⟩ := hZ.2.2 t.2 h2
    have hcd := (hW.2.2.2.1 t.2 h2).1
    rw [ec, i_p0 (by omega)]
    unfold l18_d
    rw [hX.1, i_le (by omega) (by omega), if_neg (by omega), if_pos rfl, g_ix (by omega) (by omega), g_cl (by omega), h37, ec, g_ix (by omega) (by omega), g_cl (by omega), b1, show (32 : Int32) = nI 32 from rfl, i_eq (by omega) (by omega)]
    by_cases hc : zCd Z t.2 = 32
    · rw [if_pos hc]
      have h11 := h3.mpr hc
      unfold l18_c
      rw [hX.1, i_eq (by omega) (by omega), if_neg (by omega), if_pos rfl, if_neg (show ¬ (1 : Int32) = 0 by decide)]
      obtain ⟨M1, ls1, e1, e2, e3, e4, e5, e6⟩ := r_lw hW hit h200 (by omega) hk h05 hSc h' a K 0 1
      have hB := ly_k ⟨hZ, hX, h29, h30⟩ e6
      have hsz : f_Md_size (nI x5) M1 = some (zSz Z t.2) := by
        have := r_size hB.1 hW (x := x5) (by omega) (hB.2.1.2 x5 t ht) (Or.inr ⟨h1, h2, h3⟩)
        rw [this, show tSz Z t = zSz Z t.2 from if_neg (by omega)]
      have et : uTk Z k u t = uGap (uWo (zSz Z) (zCl Z k) (zW Z k) u) (zSz Z t.2) := by
        unfold uTk
        rw [if_neg (by omega), if_pos h11]
        rfl
      have hwd := (uI_wo (zCl Z k) (zW Z k) hI).2.2.1
      rw [e1]
      unfold l18_g
      rw [if_neg (show ¬ (1 : Int32) = 0 by decide), hsz, q_bpE]
      refine ⟨M1, x5 + 1, ?_, ⟨hB, by rw [et]; exact e2, hIt, ?_, ?_, ls1, e3, by omega, ?_⟩, e6⟩
      · have eg : uGp (uTk Z k u t) = if uGp (uWo (zSz Z) (zCl Z k) (zW Z k) u) = 0 then zSz Z t.2 else uGp (uWo (zSz Z) (zCl Z k) (zW Z k) u) := by rw [et]; rfl
        unfold l18_j
        rw [if_pos rfl, if_pos rfl, g_inc, eg]
        by_cases q : uGp (uWo (zSz Z) (zCl Z k) (zW Z k) u) = 0
        · rw [if_pos q, if_pos q]
        · rw [if_neg q, if_neg q]
      · rw [et]
        show _ = (uWd (uWo (zSz Z) (zCl Z k) (zW Z k) u)).map lw
        rw [hwd, List.drop_eq_nil_iff.mpr (by rw [List.length_take]; omega)]
        rfl
      · rw [et]
        show x5 + 1 + (uWd (uWo (zSz Z) (zCl Z k) (zW Z k) u)).length = _
        rw [hwd]
        rfl
      · rw [dr_a e4 ht, iL_app, e5, et]
        show uLn (uWo (zSz Z) (zCl Z k) (zW Z k) u) ++ iL [t] = uLn (uWo (zSz Z) (zCl Z k) (zW Z k) u)
        have : iL [t] = [] := by
          unfold iL
          rw [List.filter_cons, if_neg (by simp [h11])]
          rfl
        rw [this, List.append_nil]
    · rw [if_neg hc]
      have h00 : t.1 = 0 := by
        have : t.1 ≠ 1 := fun h => hc (h3.mp h)
        omega
      have et : uTk Z k u t = uChr (zSz Z) u t.2 := if_pos h00
      unfold l18_c
      rw [hX.1, i_eq (by omega) (by omega), if_neg (by omega), if_pos rfl, if_pos rfl]
      unfold l18_g
      rw [if_pos rfl]
      unfold l18_j
      rw [if_pos rfl, g_inc]
      refine ⟨M, x3, by rw [et]; rfl, ⟨⟨hZ, hX, h29, h30⟩, by rw [et]; exact hU, hIt, ?_, ?_, ls, h54, hls, by rw [et]; exact hL⟩, rF2_r _ _⟩
      · rw [dr_a (by omega) ht, hw, et]
        show _ = (uWd u ++ [t.2]).map lw
        rw [List.map_append]
        congr 1
        show [t] = [(0, t.2)]
        rw [← h00]
      · rw [et]
        show x3 + (uWd u ++ [t.2]).length = _
        rw [List.length_append]
        show x3 + ((uWd u).length + 1) = x5 + 1
        omega
end RL4
