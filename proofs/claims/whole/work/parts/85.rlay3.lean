/-! layout on the reference's side: a run laid -/
section RL3
def l18_e (a1 : Int32) (n : Nat) (K7 : qM → Option (Int32 × qM)) (x5 x11 x14 : Int32) (M16 : qM) : Option (Int32 × qM) := q_cv (f_Md_endLine x5 (qsI M16 0 57 1)) fun M18 => f_Md_lay_18 a1 n K7 x11 x14 (x5 + 1) M18
def l18_j (a1 : Int32) (n : Nat) (K7 : qM → Option (Int32 × qM)) (x5 x9 x11 x14 : Int32) (M13 : qM) : Option (Int32 × qM) := if x9 = 0 then (f_Md_lay_18 a1 n K7 x11 x14 (x5 + 1) M13) else (if (M13.1 0 57) = 0 then (q_bp (f_Md_size x5 M13) fun x21 => l18_e a1 n K7 x5 x11 x14 (qsI M13 0 56 x21)) else (l18_e a1 n K7 x5 x11 x14 M13))
def l18_g (a1 : Int32) (n : Nat) (K7 : qM → Option (Int32 × qM)) (x5 x9 x10 x11 x12 : Int32) (M13 : qM) : Option (Int32 × qM) := if x10 = 0 then (l18_j a1 n K7 x5 x9 x11 x12 M13) else (if x12 = 0 then (q_bp (f_Md_size x5 M13) fun x26 => l18_j a1 n K7 x5 x9 x11 x26 M13) else (l18_j a1 n K7 x5 x9 x11 x12 M13))
def l18_w (a1 : Int32) (n : Nat) (K7 : qM → Option (Int32 × qM)) (x5 x9 x10 x3 x4 : Int32) (M6 : qM) : Option (Int32 × qM) := if x5 ≤ x3 then (l18_g a1 n K7 x5 x9 x10 (x5 + 1) x4 M6) else (q_cv (f_Md_putWord a1 x3 x5 x4 M6) fun M29 => l18_g a1 n K7 x5 x9 x10 (x5 + 1) 0 M29)
def l18_c (a1 : Int32) (n : Nat) (K7 : qM → Option (Int32 × qM)) (x5 x9 x10 x3 x4 : Int32) (M6 : qM) : Option (Int32 × qM) := if x5 = (M6.1 0 52) then (l18_w a1 n K7 x5 x9 x10 x3 x4 M6) else (if x9 = 0 then (if x10 = 0 then (l18_g a1 n K7 x5 x9 x10 x3 x4 M6) else (l18_w a1 n K7 x5 x9 x10 x3 x4 M6)) else (l18_w a1 n K7 x5 x9 x10 x3 x4 M6))
def l18_d (a1 : Int32) (n : Nat) (K7 : qM → Option (Int32 × qM)) (x5 x9 x3 x4 : Int32) (M6 : qM) : Option (Int32 × qM) := if (M6.1 0 52) ≤ x5 then (l18_c a1 n K7 x5 x9 0 x3 x4 M6) else (if x9 = 0 then (q_ix x5 200 <| q_ix (M6.1 37 x5.toNatClampNeg) 160 <| if (M6.1 11 (M6.1 37 x5.toNatClampNeg).toNatClampNeg) = 32 then (l18_c a1 n K7 x5 x9 1 x3 x4 M6) else (l18_c a1 n K7 x5 x9 0 x3 x4 M6)) else (l18_c a1 n K7 x5 x9 0 x3 x4 M6))
theorem l18_eq (a1 : Int32) (n : Nat) (K7 : qM → Option (Int32 × qM)) (x3 x4 x5 : Int32) (M6 : qM) : f_Md_lay_18 a1 (n + 1) K7 x3 x4 x5 M6 = if (M6.1 0 52) < x5 then (K7 M6) else (if (M6.1 0 52) ≤ x5 then (l18_d a1 n K7 x5 0 x3 x4 M6) else (q_ix x5 200 <| if 0 ≤ (M6.1 37 x5.toNatClampNeg) then (l18_d a1 n K7 x5 0 x3 x4 M6) else (l18_d a1 n K7 x5 1 x3 x4 M6))) := by
  rw [f_Md_lay_18]
  rfl
/-- what a run keeps, token by token -/
def uI2 (u : uT) : Prop := (uLn u = [] → uUs u = 0) ∧ 0 ≤ uLh u ∧ uWd u = [] ∧ uWw u = 0
theorem uI_wo {sz : Nat → Int32} (cl W : Int32) {u : uT} (h : uI sz u) : uI2 (uWo sz cl W u) := by
  obtain ⟨h1, h2, h3, h4⟩ := h
  unfold uWo
  by_cases hw : uWd u = []
  · rw [if_pos hw]
    refine ⟨h1, h3, hw, ?_⟩
    rw [h4, hw]
    rfl
  · rw [if_neg hw]
    have hf : uWd (uFit sz W u) = uWd u ∧ 0 ≤ uLh (uFit sz W u) := by
      unfold uFit
      by_cases hl : uLn u = []
      · rw [if_pos hl]; exact ⟨rfl, h3⟩
      · rw [if_neg hl]
        by_cases hW : uUs u + uGp u + uWw u ≤ W
        · rw [if_pos hW]; exact ⟨rfl, h3⟩
        · rw [if_neg hW]; exact ⟨rfl, by show (0 : Int32) ≤ 0; decide⟩
    refine ⟨fun hl => ?_, ?_, rfl, rfl⟩
    · have : uLn (uFit sz W u) ++ uWd (uFit sz W u) = [] := hl
      rw [hf.1] at this
      exact absurd (List.append_eq_nil_iff.mp this).2 hw
    · show 0 ≤ ((uWd (uFit sz W u)).foldl (uPl sz cl) (uUs (uFit sz W u), uLh (uFit sz W u), uPx (uFit sz W u))).2.1
      rw [pl_lh]
      exact fold_ge _ _ _ hf.2
theorem uI_chr {sz : Nat → Int32} {u : uT} (h : uI sz u) (q : Nat) : uI sz (uChr sz u q) := by
  obtain ⟨h1, h2, h3, h4⟩ := h
  refine ⟨h1, h2, h3, ?_⟩
  show uWw u + sz q = (uWd u ++ [q]).foldl (fun a q => a + sz q) 0
  rw [List.foldl_append, ← h4]
  rfl
theorem uI_gap {sz : Nat → Int32} {u : uT} (h : uI2 u) {s : Int32} (hs : s ≠ 0) : uI sz (uGap u s) := by
  obtain ⟨h1, h2, h3, h4⟩ := h
  refine ⟨h1, fun _ => ?_, h2, ?_⟩
  · show (if uGp u = 0 then s else uGp u) ≠ 0
    by_cases e : uGp u = 0
    · rw [if_pos e]; exact hs
    · rw [if_neg e]; exact e
  · show uWw u = (uWd u).foldl _ 0
    rw [h3, h4]
    rfl
theorem uI_el {sz : Nat → Int32} {u : uT} (h : uWd u = []) (h' : uWw u = 0) : uI sz (uEl sz u) := by
  refine ⟨fun _ => rfl, fun h => absurd rfl h, by show (0 : Int32) ≤ 0; decide, ?_⟩
  show uWw u = (uWd u).foldl _ 0
  rw [h, h']
  rfl
theorem uI_new {sz : Nat → Int32} (y nl : Int32) (px : Nat → Option Int32) (py : Nat → Int32) : uI sz (uNew y nl px py) := ⟨fun _ => rfl, fun h => absurd rfl h, by show (0 : Int32) ≤ 0; decide, rfl⟩
theorem uHgt_wd (u : uT) (s : Int32) : uWd (uHgt u s) = uWd u ∧ uWw (uHgt u s) = uWw u := by
  unfold uHgt
  by_cases h : uLn u = []
  · rw [if_pos h]; exact ⟨rfl, rfl⟩
  · rw [if_neg h]; exact ⟨rfl, rfl⟩
theorem uI_tk {Z : lT} (k : Nat) {u : uT} (h : uI (zSz Z) u) {t : kT2} (hs : t.1 = 1 → zSz Z t.2 ≠ 0) : uI (zSz Z) (uTk Z k u t) := by
  unfold uTk
  by_cases h0 : t.1 = 0
  · rw [if_pos h0]; exact uI_chr h _
  · rw [if_neg h0]
    by_cases h1 : t.1 = 1
    · rw [if_pos h1]; exact uI_gap (uI_wo _ _ h) (hs h1)
    · rw [if_neg h1]
      have w := uI_wo (zCl Z k) (zW Z k) h
      exact uI_el ((uHgt_wd _ _).1.trans w.2.2.1) ((uHgt_wd _ _).2.trans w.2.2.2)
end RL3
