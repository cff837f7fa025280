/-! layout on the class's side: a word ended -/
section CR2
variable {nc : Nat} {sz : Nat → Int32}
theorem q_nnE {β : Type} (o : Nat) (k : Nat → Option β) : q_nn (some o) k = k o := rfl
def cPx (M : qM) (nc : Nat) (sz : Nat → Int32) (Sc : Nat → Prop) (px : Nat → Option Int32) : Prop := ∀ q, q < nc → Sc q → M.1 (127 + q) 2 = b2 (px q).isSome ∧ ∀ v, px q = some v → M.1 (127 + q) 4 = v ∧ M.1 (127 + q) 3 = sz q
theorem t_ew69 (hnc : nc ≤ 160) {rw : List Nat} (h160 : rw.length ≤ 160) {Sc : Nat → Prop} (hSc : ∀ q ∈ rw, Sc q) {cl : Int32} (K : qM → Option qM) : ∀ (L : List Nat) (x f : Nat) (M : qM) (s : ulT), rw.drop x = L → x ≤ rw.length → L.length < f → M.1 365 3 = nI rw.length → M.1 365 4 = cl → M.1 365 6 = s.1 → M.1 365 8 = s.2.1 → cRw M nc sz rw → cPx M nc sz Sc s.2.2 → ∃ M', f_Run_endWord_69 f K (nI x) M = K M' ∧ M'.1 365 6 = (L.foldl (uPl sz cl) s).1 ∧ M'.1 365 8 = (L.foldl (uPl sz cl) s).2.1 ∧ cPx M' nc sz Sc (L.foldl (uPl sz cl) s).2.2 ∧ (∀ p j, ¬ (p = 365 ∧ (j = 6 ∨ j = 8)) → ¬ (∃ q, q < 160 ∧ Sc q ∧ p = 127 + q ∧ (j = 2 ∨ j = 4)) → M'.1 p j = M.1 p j) ∧ M'.2 = M.2 := by
  intro L
  induction L with
  | nil =>
    intro x f M s hL hx hf h3 h4 h6 h8 hR hP
    obtain ⟨f, rfl⟩ : ∃ g, f = g + 1 := ⟨f - 1, by simp at hf; omega⟩
    have := List.drop_eq_nil_iff.mp hL
    refine ⟨M, ?_, h6, h8, hP, fun _ _ _ _ => rfl, rfl⟩
    rw [f_Run_endWord_69, h3, i_le (by omega) (by omega), if_pos (by omega)]
  | cons q L ih =>
    intro x f M s hL hx hf h3 h4 h6 h8 hR hP
    obtain ⟨f, rfl⟩ : ∃ g, f = g + 1 := ⟨f - 1, by simp at hf; omega⟩
    obtain ⟨d1, d2, d3⟩ := dr_s hL
    have hm := List.mem_of_getElem? d2
    have h366 := hR.1 x q d2
    obtain ⟨hq, hs3⟩ := hR.2 q hm
    have hsq := hSc q hm
    rw [f_Run_endWord_69, h3, i_le (by omega) (by omega), if_neg (by omega), g_ix (by omega) (by omega), g_cl (by omega), h366, q_ltE, q_nnE, h4, h6, q_ltE, g_ix (by omega) (by omega)]
    have r1 : (qsI M (127 + q) 4 (cl + s.1)).2 366 x = some (127 + q) := h366
    rw [r1, q_ltE, q_nnE, q_ltE, g_ix (by omega) (by omega)]
    have r2 : (qsI (qsI M (127 + q) 4 (cl + s.1)) (127 + q) 2 1).2 366 x = some (127 + q) := h366
    have v1 : (qsI (qsI M (127 + q) 4 (cl + s.1)) (127 + q) 2 1).1 365 6 = s.1 := by rw [g_In (by omega), g_In (by omega)]; exact h6
    have v2 : (qsI (qsI M (127 + q) 4 (cl + s.1)) (127 + q) 2 1).1 (127 + q) 3 = sz q := by rw [g_In (by omega), g_In (by omega)]; exact hs3
    rw [r2, q_ltE, q_nnE, v1, v2, q_ltE, g_ix (by omega) (by omega)]
    have r3 : (qsI (qsI (qsI M (127 + q) 4 (cl + s.1)) (127 + q) 2 1) 365 6 (s.1 + sz q)).2 366 x = some (127 + q) := h366
    have v3 : (qsI (qsI (qsI M (127 + q) 4 (cl + s.1)) (127 + q) 2 1) 365 6 (s.1 + sz q)).1 365 8 = s.2.1 := by rw [g_In (by omega), g_In (by omega), g_In (by omega)]; exact h8
    have v4 : (qsI (qsI (qsI M (127 + q) 4 (cl + s.1)) (127 + q) 2 1) 365 6 (s.1 + sz q)).1 (127 + q) 3 = sz q := by rw [g_In (by omega)]; exact v2
    rw [r3, q_ltE, q_nnE, v3, v4, q_ltE, g_inc]
    have kk : ∀ p j, ¬ (p = 365 ∧ (j = 6 ∨ j = 8)) → ¬ (p = 127 + q ∧ (j = 2 ∨ j = 4)) → (qsI (qsI (qsI (qsI M (127 + q) 4 (cl + s.1)) (127 + q) 2 1) 365 6 (s.1 + sz q)) 365 8 (if s.2.1 < sz q then sz q else s.2.1)).1 p j = M.1 p j := fun p j h1 h2 => by rw [g_In (by omega), g_In (by omega), g_In (by omega), g_In (by omega)]
    obtain ⟨M', e1, e2, e3, e4, e5, e6⟩ := ih (x + 1) f (qsI (qsI (qsI (qsI M (127 + q) 4 (cl + s.1)) (127 + q) 2 1) 365 6 (s.1 + sz q)) 365 8 (if s.2.1 < sz q then sz q else s.2.1)) (uPl sz cl s q) d3 (by omega) (by simp at hf; omega) (by rw [kk _ _ (by omega) (by omega)]; exact h3) (by rw [kk _ _ (by omega) (by omega)]; exact h4) (by rw [g_In (by omega), g_Ie ⟨rfl, rfl⟩]; rfl) (by rw [g_Ie ⟨rfl, rfl⟩]; rfl) ⟨hR.1, fun q' hq' => ⟨(hR.2 q' hq').1, by rw [kk _ _ (by have := (hR.2 q' hq').1; omega) (by omega)]; exact (hR.2 q' hq').2⟩⟩ (fun q' hq' hs' => by
      show _ = b2 (up s.2.2 q (some (cl + s.1)) q').isSome ∧ ∀ v, up s.2.2 q (some (cl + s.1)) q' = some v → _
      by_cases e : q' = q
      · rw [e, up_e]
        refine ⟨by rw [g_In (by omega), g_In (by omega), g_Ie ⟨rfl, rfl⟩]; rfl, fun v hv => ?_⟩
        have hv2 : cl + s.1 = v := Option.some.inj hv
        rw [g_In (by omega), g_In (by omega), g_In (by omega), g_Ie ⟨rfl, rfl⟩, kk _ _ (by omega) (by omega), ← hv2]
        exact ⟨rfl, hs3⟩
      · rw [up_n e, kk _ _ (by omega) (by omega), kk _ _ (by omega) (by omega), kk _ _ (by omega) (by omega)]
        exact hP q' hq' hs')
    refine ⟨M', e1, e2, e3, e4, fun p j h1 h2 => ?_, e6⟩
    rw [e5 p j h1 h2, kk p j h1 (fun h => h2 ⟨q, by omega, hsq, h⟩)]
def ew_K (M23 : qM) : Option qM := q_lt (qsI M23 365 2 (M23.1 365 3)) fun M24 => q_lt (qsI M24 365 7 0) fun M25 => q_lt (qsI M25 365 9 (-1)) fun M26 => some M26
theorem ew_eq (M : qM) : f_Run_endWord M = if (M.1 365 3) = (M.1 365 2) then (some M) else (if (M.1 365 2) ≤ (M.1 365 1) then (f_Run_endWord_69 1000 ew_K (M.1 365 2) M) else (if (M.1 365 5) < (((M.1 365 6) + (M.1 365 9)) + (M.1 365 7)) then (q_cv (f_Run_endLine M) fun M30 => f_Run_endWord_69 1000 ew_K (M30.1 365 2) M30) else (f_Run_endWord_69 1000 ew_K ((qsI M 365 6 ((M.1 365 6) + (M.1 365 9))).1 365 2) (qsI M 365 6 ((M.1 365 6) + (M.1 365 9)))))) := by
  unfold f_Run_endWord
  rw [q_ltE]
  by_cases h1 : M.1 365 3 = M.1 365 2
  · rw [if_pos h1, if_pos h1]
  · rw [if_neg h1, if_neg h1]
    by_cases h2 : M.1 365 2 ≤ M.1 365 1
    · rw [if_pos h2, if_pos h2]
      rfl
    · rw [if_neg h2, if_neg h2]
      by_cases h3 : M.1 365 5 < M.1 365 6 + M.1 365 9 + M.1 365 7
      · rw [if_pos h3, if_pos h3]
        rfl
      · rw [if_neg h3, if_neg h3, q_ltE]
        rfl
/-- a word put behind what stands -/
theorem t_put (hnc : nc ≤ 160) {cl W off lb : Int32} {Sc : Nat → Prop} {u : uT} {rw : List Nat} {ls ws : Nat} {M : qM} (h160 : rw.length ≤ 160) (hlh : uWd u ≠ []) (h : cU M nc sz cl W off lb Sc u rw ls ws) : ∃ M', f_Run_endWord_69 1000 ew_K (nI ws) M = some M' ∧ cU M' nc sz cl W off lb Sc (uPut sz cl u) rw ls rw.length ∧ cF1 Sc M M' := by
  obtain ⟨⟨a1, a2, a3, a4, a5, a6, a7, a8, a9⟩, ⟨b1, b2', b3, b4, b5, b6, b7⟩, hR, hsc, hL⟩ := h
  obtain ⟨M1, e1, e2, e3, e4, e5, e6⟩ := t_ew69 hnc (sz := sz) h160 hsc (cl := cl) ew_K (uWd u) ws 1000 M (uUs u, uLh u, uPx u) b7 b5 (by rw [← b7, List.length_drop]; omega) b1 a1 a4 a5 hR (fun q hq hs => ⟨(hL q hq hs).1, fun v hv => ⟨((hL q hq hs).2 v hv).1, ((hL q hq hs).2 v hv).2.1⟩⟩)
  have k3 : ∀ j, ¬ (j = 6 ∨ j = 8) → M1.1 365 j = M.1 365 j := fun j h => e5 _ _ (by omega) (fun ⟨q, h0, _, h1, _⟩ => (by omega))
  have kk : ∀ p j, ¬ (p = 365 ∧ (j = 2 ∨ j = 7 ∨ j = 9)) → (qsI (qsI (qsI M1 365 2 (nI rw.length)) 365 7 0) 365 9 (-1)).1 p j = M1.1 p j := fun p j h => by rw [g_In (by omega), g_In (by omega), g_In (by omega)]
  refine ⟨qsI (qsI (qsI M1 365 2 (nI rw.length)) 365 7 0) 365 9 (-1), ?_, ⟨⟨?_, ?_, ?_, ?_, ?_, ?_, ?_, ?_, ?_⟩, ⟨?_, ?_, ?_, by omega, Nat.le_refl _, ?_, ?_⟩, ⟨fun x q hx => by show M1.2 366 x = _; rw [e6]; exact hR.1 x q hx, fun q hq => ⟨(hR.2 q hq).1, ?_⟩⟩, hsc, fun q hq hs => ?_⟩, fun p j q1 q2 => ?_, fun p j q1 => by show M1.2 p j = _; rw [e6]⟩
  · rw [e1]
    unfold ew_K
    rw [k3 _ (by omega), b1, q_ltE, q_ltE, q_ltE]
  · rw [kk _ _ (by omega), k3 _ (by omega)]; exact a1
  · rw [kk _ _ (by omega), k3 _ (by omega)]; exact a2
  · rw [kk _ _ (by omega), k3 _ (by omega)]; exact a3
  · rw [kk _ _ (by omega)]; exact e2
  · rw [kk _ _ (by omega)]; exact e3
  · rw [g_In (by omega), g_Ie ⟨rfl, rfl⟩]; rfl
  · rw [g_Ie ⟨rfl, rfl⟩]; rfl
  · rw [kk _ _ (by omega), k3 _ (by omega)]; exact a8
  · rw [kk _ _ (by omega), k3 _ (by omega)]; exact a9
  · rw [kk _ _ (by omega), k3 _ (by omega)]; exact b1
  · rw [kk _ _ (by omega), k3 _ (by omega)]; exact b2'
  · rw [g_In (by omega), g_In (by omega), g_Ie ⟨rfl, rfl⟩]
  · rw [List.take_length]
    show rw.drop ls = uLn u ++ uWd u
    rw [← b6, ← b7]
    conv => lhs; rw [← List.take_append_drop ws rw]
    rw [List.drop_append_of_le_length (by rw [List.length_take]; omega)]
  · rw [List.drop_length]; rfl
  · have := (hR.2 q hq).1
    rw [kk _ _ (by omega), e5 _ _ (by omega) (fun ⟨_, _, _, _, h⟩ => (by omega))]
    exact (hR.2 q hq).2
  · obtain ⟨f1, f2⟩ := e4 q hq hs
    refine ⟨by rw [kk _ _ (by omega)]; exact f1, fun x hx => ?_⟩
    obtain ⟨f3, f4⟩ := f2 x hx
    refine ⟨by rw [kk _ _ (by omega)]; exact f3, by rw [kk _ _ (by omega)]; exact f4, fun hn => ?_⟩
    have hn1 : q ∉ uLn u ++ uWd u := hn
    rw [List.mem_append] at hn1
    have hpx : uPx u q = some x := by
      rw [← hx]
      show _ = ((uWd u).foldl (uPl sz cl) (uUs u, uLh u, uPx u)).2.2 q
      have : ∀ (L : List Nat) (s : ulT), q ∉ L → (L.foldl (uPl sz cl) s).2.2 q = s.2.2 q := by
        intro L
        induction L with
        | nil => intro s _; rfl
        | cons a L ih =>
          intro s hq
          rw [List.mem_cons] at hq
          show (L.foldl _ (uPl sz cl s a)).2.2 q = _
          rw [ih _ (fun h => hq (Or.inr h))]
          exact up_n (fun h => hq (Or.inl h))
      exact (this (uWd u) (uUs u, uLh u, uPx u) (fun h => hn1 (Or.inr h))).symm
    rw [kk _ _ (by omega), e5 _ _ (by omega) (fun ⟨_, _, _, _, h⟩ => (by omega)), ((hL q hq hs).2 x hpx).2.2 (fun h => hn1 (Or.inl h))]
    rfl
  · rw [kk _ _ (by omega), e5 _ _ (by omega) (fun ⟨q, h0, h1, h2, h3⟩ => q2 ⟨q, h0, h1, h2, by omega, by omega⟩)]
theorem n_lt_le {a b : Int32} : ¬ b < a ↔ a ≤ b := by
  rw [Int32.lt_iff_toInt_lt, Int32.le_iff_toInt_le]
  omega
theorem t_ew (hnc : nc ≤ 160) {cl W off lb : Int32} {Sc : Nat → Prop} {u : uT} {rw : List Nat} {ls ws : Nat} {M : qM} (h160 : rw.length ≤ 160) (hI : uI sz u) (h : cU M nc sz cl W off lb Sc u rw ls ws) : ∃ M' ls', f_Run_endWord M = some M' ∧ cU M' nc sz cl W off lb Sc (uWo sz cl W u) rw ls' rw.length ∧ cF1 Sc M M' := by
  have h' := h
  obtain ⟨⟨a1, a2, a3, a4, a5, a6, a7, a8, a9⟩, ⟨b1, b2', b3, b4, b5, b6, b7⟩, hR, hsc, hL⟩ := h
  rw [ew_eq, b1, b3, b2', i_eq (by omega) (by omega)]
  by_cases hw : uWd u = []
  · rw [hw] at b7
    have := List.drop_eq_nil_iff.mp b7
    have e : rw.length = ws := by omega
    have eo : uWo sz cl W u = u := if_pos hw
    rw [if_pos e, eo]
    refine ⟨M, ls, rfl, ?_, cF1_r _ _⟩
    rw [e]
    exact h'
  · have hl : rw.length ≠ ws := fun h => hw (by rw [← b7, ← h, List.drop_length])
    have eo : uWo sz cl W u = uPut sz cl (uFit sz W u) := if_neg hw
    rw [if_neg hl, eo, i_le (by omega) (by omega)]
    by_cases hln : uLn u = []
    · have e : ws ≤ ls := by
        rw [hln] at b6
        have := List.drop_eq_nil_iff.mp b6
        rw [List.length_take] at this
        omega
      have ef : uFit sz W u = u := if_pos hln
      rw [if_pos e, ef]
      obtain ⟨M', c1, c2, c3⟩ := t_put hnc h160 hw h'
      exact ⟨M', ls, c1, c2, c3⟩
    · have e : ¬ ws ≤ ls := fun h => hln (by rw [← b6, List.drop_eq_nil_iff.mpr (by rw [List.length_take]; omega)])
      have hg : gpE (uGp u) = uGp u := if_neg (hI.2.1 hln)
      rw [if_neg e, a2, a4, a7, a6, hg]
      by_cases hf : uUs u + uGp u + uWw u ≤ W
      · have ef : uFit sz W u = ((uY u, uLn u, uUs u + uGp u, uLh u), u.2) := by
          unfold uFit
          rw [if_neg hln, if_pos hf]
        rw [if_neg (n_lt_le.mpr hf), ef, g_In (by omega), b3]
        have kk : ∀ p j, ¬ (p = 365 ∧ j = 6) → (qsI M 365 6 (uUs u + uGp u)).1 p j = M.1 p j := fun p j h => g_In h
        have hU : cU (qsI M 365 6 (uUs u + uGp u)) nc sz cl W off lb Sc ((uY u, uLn u, uUs u + uGp u, uLh u), u.2) rw ls ws := by
          refine ⟨⟨?_, ?_, ?_, ?_, ?_, ?_, ?_, ?_, ?_⟩, ⟨?_, ?_, ?_, b4, b5, b6, b7⟩, ⟨hR.1, fun q hq => ⟨(hR.2 q hq).1, ?_⟩⟩, hsc, fun q hq hs => ?_⟩
          · rw [kk _ _ (by omega)]; exact a1
          · rw [kk _ _ (by omega)]; exact a2
          · rw [kk _ _ (by omega)]; exact a3
          · rw [g_Ie ⟨rfl, rfl⟩]; rfl
          · rw [kk _ _ (by omega)]; exact a5
          · rw [kk _ _ (by omega)]; exact a6
          · rw [kk _ _ (by omega)]; exact a7
          · rw [kk _ _ (by omega)]; exact a8
          · rw [kk _ _ (by omega)]; exact a9
          · rw [kk _ _ (by omega)]; exact b1
          · rw [kk _ _ (by omega)]; exact b2'
          · rw [kk _ _ (by omega)]; exact b3
          · have := (hR.2 q hq).1
            rw [kk _ _ (by omega)]; exact (hR.2 q hq).2
          · have l := hL q hq hs
            unfold cLt at l ⊢
            rw [kk _ _ (by omega), kk _ _ (by omega), kk _ _ (by omega), kk _ _ (by omega)]
            exact l
        obtain ⟨M', c1, c2, c3⟩ := t_put hnc h160 (u := ((uY u, uLn u, uUs u + uGp u, uLh u), u.2)) hw hU
        exact ⟨M', ls, c1, c2, cF1_t ⟨fun p j q1 _ => kk p j (fun h => q1 h.1), fun _ _ _ => rfl⟩ c3⟩
      · have ef : uFit sz W u = uEl sz u := by
          unfold uFit
          rw [if_neg hln, if_neg hf]
        have hlt : W < uUs u + uGp u + uWw u := by
          rw [Int32.lt_iff_toInt_lt]
          rw [Int32.le_iff_toInt_le] at hf
          omega
        rw [if_pos hlt, ef]
        obtain ⟨M1, d1, d2, d3⟩ := t_eln hnc h160 h'
        obtain ⟨M', c1, c2, c3⟩ := t_put hnc h160 (u := uEl sz u) hw d2
        refine ⟨M', ws, ?_, c2, cF1_t d3 c3⟩
        rw [d1, q_cvE, d2.2.1.2.2.1]
        exact c1
end CR2
