/-! layout on the class's side: breaks, the ends of a run -/
section CR4
variable {nc : Nat} {Z : lT}
theorem cU_k {M M' : qM} {sz : Nat → Int32} {cl W off lb : Int32} {Sc : Nat → Prop} {u : uT} {rw : List Nat} {ls ws : Nat} (hnc : nc ≤ 160) (h : cU M nc sz cl W off lb Sc u rw ls ws) (k : ∀ p j, p = 365 ∨ (127 ≤ p ∧ p < 287) → M'.1 p j = M.1 p j) (k' : ∀ j, M'.2 366 j = M.2 366 j) : cU M' nc sz cl W off lb Sc u rw ls ws := by
  obtain ⟨⟨a1, a2, a3, a4, a5, a6, a7, a8, a9⟩, ⟨b1, b2', b3, b4, b5, b6, b7⟩, hR, hsc, hL⟩ := h
  refine ⟨⟨?_, ?_, ?_, ?_, ?_, ?_, ?_, ?_, ?_⟩, ⟨?_, ?_, ?_, b4, b5, b6, b7⟩, ⟨fun x q hx => by rw [k']; exact hR.1 x q hx, fun q hq => ⟨(hR.2 q hq).1, ?_⟩⟩, hsc, fun q hq hs => ?_⟩
  · rw [k _ _ (Or.inl rfl)]; exact a1
  · rw [k _ _ (Or.inl rfl)]; exact a2
  · rw [k _ _ (Or.inl rfl)]; exact a3
  · rw [k _ _ (Or.inl rfl)]; exact a4
  · rw [k _ _ (Or.inl rfl)]; exact a5
  · rw [k _ _ (Or.inl rfl)]; exact a6
  · rw [k _ _ (Or.inl rfl)]; exact a7
  · rw [k _ _ (Or.inl rfl)]; exact a8
  · rw [k _ _ (Or.inl rfl)]; exact a9
  · rw [k _ _ (Or.inl rfl)]; exact b1
  · rw [k _ _ (Or.inl rfl)]; exact b2'
  · rw [k _ _ (Or.inl rfl)]; exact b3
  · have := (hR.2 q hq).1
    rw [k _ _ (by omega)]; exact (hR.2 q hq).2
  · have l := hL q hq hs
    unfold cLt at l ⊢
    rw [k _ _ (by omega), k _ _ (by omega), k _ _ (by omega), k _ _ (by omega)]
    exact l
theorem ln_iff {rw : List Nat} {ls ws : Nat} (h1 : ls ≤ ws) (h2 : ws ≤ rw.length) {L : List Nat} (h : (rw.take ws).drop ls = L) : ws = ls ↔ L = [] := by
  rw [← h, List.drop_eq_nil_iff, List.length_take]
  omega
theorem t_brk (hnc : nc ≤ 160) {k : Nat} {off lb : Int32} {Sc : Nat → Prop} {u : uT} {b : Nat} {M : qM} (hb : b ≤ 160) (s : Int32) (h : cUx M nc Z k off lb Sc u b) : ∃ M', f_Run_addBreak s M = some M' ∧ cUx M' nc Z k off lb Sc (uBrk (zSz Z) (zCl Z k) (zW Z k) u s) b ∧ cF1 Sc M M' := by
  obtain ⟨rw, ls, ws, hU, hrl, hI, hJ⟩ := h
  obtain ⟨M1, ls1, e1, e2, e3⟩ := t_ew hnc (by omega) hI hU
  have hw := uI_wo (zCl Z k) (zW Z k) hI
  have hJw := uJ_wo (sz := zSz Z) (cl := zCl Z k) (W := zW Z k) hJ
  have e2' := e2
  obtain ⟨⟨a1, a2, a3, a4, a5, a6, a7, a8, a9⟩, ⟨b1, b2', b3, b4, b5, b6, b7⟩, hR, hsc, hL⟩ := e2
  have hiff := ln_iff b4 b5 b6
  have hIE : uI (zSz Z) (uBrk (zSz Z) (zCl Z k) (zW Z k) u s) := uI_el ((uHgt_wd _ _).1.trans hw.2.2.1) ((uHgt_wd _ _).2.trans hw.2.2.2)
  have hJE : uJ (uBrk (zSz Z) (zCl Z k) (zW Z k) u s) := uJ_hgt hJw s
  unfold f_Run_addBreak
  rw [e1, q_cvE, q_ltE, b3, b2', i_eq (by omega) (by omega)]
  by_cases q : rw.length = ls1
  · have hl := hiff.mp q
    have eh : uHgt (uWo (zSz Z) (zCl Z k) (zW Z k) u) s = ((uY (uWo (zSz Z) (zCl Z k) (zW Z k) u), uLn (uWo (zSz Z) (zCl Z k) (zW Z k) u), uUs (uWo (zSz Z) (zCl Z k) (zW Z k) u), s), (uWo (zSz Z) (zCl Z k) (zW Z k) u).2) := if_pos hl
    have kk : ∀ p j, ¬ (p = 365 ∧ j = 8) → (qsI M1 365 8 s).1 p j = M1.1 p j := fun p j h => g_In h
    have hU2 : cU (qsI M1 365 8 s) nc (zSz Z) (zCl Z k) (zW Z k) off lb Sc (uHgt (uWo (zSz Z) (zCl Z k) (zW Z k) u) s) rw ls1 rw.length := by
      rw [eh]
      refine ⟨⟨?_, ?_, ?_, ?_, ?_, ?_, ?_, ?_, ?_⟩, ⟨?_, ?_, ?_, b4, b5, b6, b7⟩, ⟨hR.1, fun q hq => ⟨(hR.2 q hq).1, ?_⟩⟩, hsc, fun q hq hs => ?_⟩
      · rw [kk _ _ (by omega)]; exact a1
      · rw [kk _ _ (by omega)]; exact a2
      · rw [kk _ _ (by omega)]; exact a3
      · rw [kk _ _ (by omega)]; exact a4
      · rw [g_Ie ⟨rfl, rfl⟩]; rfl
      · rw [kk _ _ (by omega)]; exact a6
      · rw [kk _ _ (by omega)]; exact a7
      · rw [kk _ _ (by omega)]; exact a8
      · rw [kk _ _ (by omega)]; exact a9
      · rw [kk _ _ (by omega)]; exact b1
      · rw [kk _ _ (by omega)]; exact b2'
      · rw [kk _ _ (by omega)]; exact b3
      · have := (hR.2 q hq).1
        rw [kk _ _ (by omega)]; exact (hR.2 q hq).2
      · have l := hL q hq hs
        unfold cLt at l ⊢
        rw [kk _ _ (by omega), kk _ _ (by omega), kk _ _ (by omega), kk _ _ (by omega)]
        exact l
    obtain ⟨M', c1, c2, c3⟩ := t_eln hnc (by omega) hU2
    refine ⟨M', by rw [if_pos q, q_ltE]; dsimp only; rw [c1, q_cvE], ⟨rw, rw.length, rw.length, c2, hrl, hIE, hJE⟩, cF1_t e3 (cF1_t ⟨fun p j q1 _ => kk p j (fun h => q1 h.1), fun _ _ _ => rfl⟩ c3)⟩
  · have hl : ¬ uLn (uWo (zSz Z) (zCl Z k) (zW Z k) u) = [] := fun h => q (hiff.mpr h)
    have eh : uHgt (uWo (zSz Z) (zCl Z k) (zW Z k) u) s = uWo (zSz Z) (zCl Z k) (zW Z k) u := if_neg hl
    obtain ⟨M', c1, c2, c3⟩ := t_eln hnc (by omega) e2'
    refine ⟨M', by rw [if_neg q]; dsimp only; rw [c1, q_cvE], ⟨rw, rw.length, rw.length, ?_, hrl, hIE, hJE⟩, cF1_t e3 c3⟩
    show cU M' nc (zSz Z) (zCl Z k) (zW Z k) off lb Sc (uEl (zSz Z) (uHgt (uWo (zSz Z) (zCl Z k) (zW Z k) u) s)) rw rw.length rw.length
    rw [eh]
    exact c2
/-- what a run leaves at its end -/
def cEd (M : qM) (nc : Nat) (Z : lT) (off lb : Int32) (Sc : Nat → Prop) (u : uT) : Prop := M.1 365 12 = lb + uNl u ∧ ∀ q, q < nc → Sc q → cLt M (zSz Z) off u q
def cF2 (Sc : Nat → Prop) (B : Nat) (M M' : qM) : Prop := (∀ p j, ¬ p = 365 → ¬ (∃ q, q < 160 ∧ Sc q ∧ p = 127 + q ∧ 2 ≤ j ∧ j ≤ 5) → ¬ (p = B ∧ (j = 8 ∨ j = 9)) → M'.1 p j = M.1 p j) ∧ ∀ p j, ¬ p = 366 → M'.2 p j = M.2 p j
theorem cF2_1 {Sc : Nat → Prop} {B : Nat} {M M' : qM} (h : cF1 Sc M M') : cF2 Sc B M M' := ⟨fun p j q1 q2 _ => h.1 p j q1 q2, h.2⟩
theorem cF2_t {Sc : Nat → Prop} {B : Nat} {M M' M'' : qM} (h : cF2 Sc B M M') (h' : cF2 Sc B M' M'') : cF2 Sc B M M'' := ⟨fun p j q1 q2 q3 => by rw [h'.1 p j q1 q2 q3, h.1 p j q1 q2 q3], fun p j q => by rw [h'.2 p j q, h.2 p j q]⟩
theorem t_endI (hnc : nc ≤ 160) {k B : Nat} (hB : B < 127) {off lb : Int32} {Sc : Nat → Prop} {u : uT} {b : Nat} {M : qM} (hb : b ≤ 160) (h : cUx M nc Z k off lb Sc u b) : ∃ M', f_Run_endIn B M = some M' ∧ cEd M' nc Z off lb Sc (uEnd (zSz Z) (zCl Z k) (zW Z k) u) ∧ (M'.1 B 8 = if uHs (uEnd (zSz Z) (zCl Z k) (zW Z k) u) = true then off + uY (uEnd (zSz Z) (zCl Z k) (zW Z k) u) else M.1 B 8) ∧ (M'.1 B 9 = if uHs (uEnd (zSz Z) (zCl Z k) (zW Z k) u) = true then 0 else M.1 B 9) ∧ cF2 Sc B M M' := by
  obtain ⟨rw, ls, ws, hU, hrl, hI, hJ⟩ := h
  obtain ⟨M1, ls1, e1, e2, e3⟩ := t_ew hnc (by omega) hI hU
  have e2' := e2
  obtain ⟨⟨a1, a2, a3, a4, a5, a6, a7, a8, a9⟩, ⟨b1, b2', b3, b4, b5, b6, b7⟩, hR, hsc, hL⟩ := e2
  have hiff := ln_iff b4 b5 b6
  have fin : ∀ (M2 : qM) (v : uT) (rw : List Nat) (x y : Nat), cU M2 nc (zSz Z) (zCl Z k) (zW Z k) off lb Sc v rw x y → cF1 Sc M M2 → ∃ M', (if (M2.1 365 10) = 0 then (some M2) else (q_lt (qsI M2 B 8 (M2.1 365 11)) fun M4 => q_lt (qsI M4 B 9 0) fun M5 => some M5)) = some M' ∧ cEd M' nc Z off lb Sc v ∧ (M'.1 B 8 = if uHs v = true then off + uY v else M.1 B 8) ∧ (M'.1 B 9 = if uHs v = true then 0 else M.1 B 9) ∧ cF2 Sc B M M' := fun M2 v rw x y hv f2 => by
    obtain ⟨⟨c1, c2, c3, c4, c5, c6, c7, c8, c9⟩, _, _, _, cL⟩ := hv
    rw [c8, i_b2, c3]
    have o8 : ∀ j, M2.1 B j = M.1 B j := fun j => f2.1 _ _ (by omega) (fun ⟨q, h0, _, h1, _⟩ => (by omega))
    by_cases hh : uHs v = true
    · rw [if_neg (by rw [hh]; simp), if_pos hh, if_pos hh, q_ltE, q_ltE]
      have kk : ∀ p j, ¬ (p = B ∧ (j = 8 ∨ j = 9)) → (qsI (qsI M2 B 8 (off + uY v)) B 9 0).1 p j = M2.1 p j := fun p j h => by rw [g_In (by omega), g_In (by omega)]
      refine ⟨_, rfl, ⟨by rw [kk _ _ (by omega)]; exact c9, fun q hq hs => ?_⟩, by rw [g_In (by omega), g_Ie ⟨rfl, rfl⟩], g_Ie ⟨rfl, rfl⟩, cF2_t (cF2_1 f2) ⟨fun p j _ _ q3 => kk p j q3, fun _ _ _ => rfl⟩⟩
      have l := cL q hq hs
      unfold cLt at l ⊢
      rw [kk _ _ (by omega), kk _ _ (by omega), kk _ _ (by omega), kk _ _ (by omega)]
      exact l
    · rw [if_pos (Bool.eq_false_iff.mpr hh), if_neg hh, if_neg hh]
      exact ⟨M2, rfl, ⟨c9, cL⟩, o8 8, o8 9, cF2_1 f2⟩
  unfold f_Run_endIn uEnd
  rw [e1, q_cvE, q_ltE, b3, b2', i_le (by omega) (by omega)]
  by_cases q : rw.length ≤ ls1
  · have hl := hiff.mp (by omega)
    rw [if_pos q, if_pos hl]
    exact fin M1 _ rw _ _ e2' e3
  · have hl : ¬ uLn (uWo (zSz Z) (zCl Z k) (zW Z k) u) = [] := fun h => q (by have := hiff.mpr h; omega)
    obtain ⟨M2, c1, c2, c3⟩ := t_eln hnc (by omega) e2'
    rw [if_neg q, if_neg hl, c1, q_cvE]
    exact fin M2 _ rw _ _ c2 (cF1_t e3 c3)
theorem t_beg (hnc : nc ≤ 160) {k B : Nat} (hB : B < 127) {off lb e l nl : Int32} {px : Nat → Option Int32} {py : Nat → Int32} {Sc : Nat → Prop} {M : qM} (h5 : M.1 B 5 = zCl Z k) (h7 : M.1 B 7 = zW Z k) (h8 : M.1 B 8 = off + e) (h9 : M.1 B 9 = l) (h12 : M.1 365 12 = lb + nl) (hL : ∀ y, ∀ q, q < nc → Sc q → cLt M (zSz Z) off (uNew y nl px py) q) : ∃ M', f_Run_beginIn B M = some M' ∧ cUx M' nc Z k off lb Sc (uNew (e + l) nl px py) 0 ∧ (∀ p j, ¬ p = 365 → M'.1 p j = M.1 p j) ∧ M'.2 = M.2 := by
  refine ⟨qsI (qsI (qsI (qsI (qsI (qsI (qsI (qsI (qsI (qsI (qsI M 365 4 (zCl Z k)) 365 11 (off + e + l)) 365 5 (zW Z k)) 365 1 0) 365 2 0) 365 3 0) 365 6 0) 365 7 0) 365 8 0) 365 9 (-1)) 365 10 0, ?_, ⟨[], 0, 0, ⟨⟨?_, ?_, ?_, ?_, ?_, ?_, ?_, ?_, ?_⟩, ⟨?_, ?_, ?_, Nat.le_refl _, Nat.le_refl _, rfl, rfl⟩, ⟨fun x q hx => (by cases hx), fun q hq => (by cases hq)⟩, fun q hq => (by cases hq), fun q hq hs => ?_⟩, Nat.le_refl _, uI_new _ _ _ _, ?_⟩, fun p j h => ?_, rfl⟩
  · unfold f_Run_beginIn
    rw [h5, q_ltE, g_In (by omega), g_In (by omega), h8, h9, q_ltE, g_In (by omega), g_In (by omega), h7]
    rfl
  · simp (disch := omega) only [g_In, g_Ie]
  · simp (disch := omega) only [g_In, g_Ie]
  · simp (disch := omega) only [g_In, g_Ie]
    show off + e + l = off + (e + l)
    rw [Int32.add_assoc]
  · simp (disch := omega) only [g_In, g_Ie]; rfl
  · simp (disch := omega) only [g_In, g_Ie]; rfl
  · simp (disch := omega) only [g_In, g_Ie]; rfl
  · simp (disch := omega) only [g_In, g_Ie]; rfl
  · simp (disch := omega) only [g_In, g_Ie]; rfl
  · simp (disch := omega) only [g_In]; exact h12
  · simp (disch := omega) only [g_In, g_Ie]; rfl
  · simp (disch := omega) only [g_In, g_Ie]; rfl
  · simp (disch := omega) only [g_In, g_Ie]; rfl
  · have l' := hL (e + l) q hq hs
    have kk : ∀ p j, ¬ p = 365 → (qsI (qsI (qsI (qsI (qsI (qsI (qsI (qsI (qsI (qsI (qsI M 365 4 (zCl Z k)) 365 11 (off + e + l)) 365 5 (zW Z k)) 365 1 0) 365 2 0) 365 3 0) 365 6 0) 365 7 0) 365 8 0) 365 9 (-1)) 365 10 0).1 p j = M.1 p j := fun p j h => by simp (disch := omega) only [g_In]
    unfold cLt at l' ⊢
    rw [kk _ _ (by omega), kk _ _ (by omega), kk _ _ (by omega), kk _ _ (by omega)]
    exact l'
  · show (0 : Int32) ≠ -1
    decide
  · simp (disch := omega) only [g_In]
end CR4
