/-! what is typed, on the class's side: state, held letter, name, classes -/
abbrev yT : Type := Nat × Nat × Nat × Int32
def sml (c : Nat) : Bool := decide (97 ≤ c ∧ c ≤ 122)
def cap (c : Nat) : Bool := decide (65 ≤ c ∧ c ≤ 90)
theorem g_sml {c : Nat} (M : qM) (h : c < 127) : f_Pg_isSmall (nI c) M = some (b2 (sml c)) := by
  have : ∀ y, y < 127 → f_Pg_isSmall (nI y) qM0 = some (b2 (sml y)) := by decide +kernel
  exact this c h
theorem g_cap {c : Nat} (M : qM) (h : c < 127) : f_Pg_isCapital (nI c) M = some (b2 (cap c)) := by
  have : ∀ y, y < 127 → f_Pg_isCapital (nI y) qM0 = some (b2 (cap y)) := by decide +kernel
  exact this c h
def y_go (y : yT) (c : Nat) : Bool := if y.1 = 1 then inS 0 c else if y.1 = 2 then decide (c = 59) else if y.1 = 3 then (sml c || decide (c = 47) || decide (c = 33)) else true
def y_give (s : aT) (y : yT) : aT := if y.1 = 2 then s_chr (s_chr s 38) y.2.1 else if y.1 = 3 then s_chr s 60 else s_chr s 38
def mean (l : Nat) : Nat := if l = 103 then 62 else if l = 108 then 60 else 38
def y_step (s : aT) (y : yT) (c : Nat) : aT × yT :=
  if y.1 = 0 then (if c = 60 then (s, (3, y.2)) else if c = 38 then (s, (1, y.2)) else (s_chr s c, y))
  else if y.1 = 1 then (s, (2, c, y.2.2))
  else if y.1 = 2 then (s_chr s (mean y.2.1), (0, y.2))
  else if y.1 = 3 then (if c = 47 then (s, (4, y.2)) else if c = 33 then (s, (7, y.2)) else (s, (5, y.2.1, c, 0)))
  else if y.1 = 4 then (if sml c = true then (s, (6, y.2.1, c, y.2.2.2)) else if c = 62 then (s, (0, y.2)) else (s, (7, y.2)))
  else if c = 62 then ((if y.1 = 5 then s_stt s y.2.2.1 y.2.2.2 else if y.1 = 6 then s_end s y.2.2.1 else s), (0, y.2))
  else if cap c = true then (s, (y.1, y.2.1, y.2.2.1, y.2.2.2 ||| (1 <<< ((nI c - 65) &&& 31))))
  else (s, y)
def y_type (s : aT) (y : yT) (c : Nat) : aT × yT := if y_go y c = true then y_step s y c else y_step (y_give s y) (0, y.2) c
def cT (M : qM) (y : yT) : Prop := (M.1 287 0 = nI y.1 ∧ y.1 ≤ 7) ∧ (y.1 = 2 → M.1 287 1 = nI y.2.1 ∧ (y.2.1 = 108 ∨ y.2.1 = 103 ∨ y.2.1 = 97)) ∧ (y.1 = 5 ∨ y.1 = 6 → M.1 287 2 = nI y.2.2.1 ∧ (97 ≤ y.2.2.1 ∧ y.2.2.1 ≤ 122) ∧ (y.1 = 5 → M.1 287 3 = y.2.2.2))
def tG (M M' : qM) : Prop := ∀ p j, (p = 0 ∨ 288 ≤ p ∨ (p = 7 ∧ (j = 4 ∨ j = 8))) → M'.1 p j = M.1 p j ∧ M'.2 p j = M.2 p j
theorem tG_r (M : qM) : tG M M := fun _ _ _ => ⟨rfl, rfl⟩
theorem tG_t {M M1 M2 : qM} (h1 : tG M M1) (h2 : tG M1 M2) : tG M M2 := fun p j h => ⟨(h2 p j h).1.trans (h1 p j h).1, (h2 p j h).2.trans (h1 p j h).2⟩
theorem tF_G {M M' : qM} (h : tF M M') : tG M M' := fun p j hp => h p j (by omega)
theorem tG_w (M : qM) (j : Nat) (v : Int32) : tG M (qsI M 287 j v) := fun p k h => ⟨g_In (by omega), rfl⟩
theorem C_w {M : qM} {s : aT} (c : C M s) (h24 : sN s ≤ 24) (hn : sNc s ≤ 160) (j : Nat) (v : Int32) : C (qsI M 287 j v) s := by
  obtain ⟨⟨cB, cN⟩, c1, c2, c3, c4, c5⟩ := c
  refine ⟨⟨?_, ?_⟩, ?_, ?_, ?_, ?_, ?_⟩
  · rw [g_In (by omega)]; exact cB
  · rw [g_In (by omega)]; exact cN
  · exact cNm_cg c1 fun x hx j hj => g_In (by omega)
  · exact cLk_cg c2 fun x hx j h1 h2 => rfl
  · exact cSt_cg c3 (g_In (by omega)) (fun k hk => rfl) fun x hx => g_In (by omega)
  · exact cFl_cg c4 (fun x hx => g_In (by omega)) fun x hx k => rfl
  · exact cCh_cg c5 (g_In (by omega)) (fun x hx j h1 h2 => rfl) fun q hq => ⟨g_In (by omega), rfl⟩
theorem Wn {s : aT} (w : Wf s) : sN s ≤ 24 ∧ sNc s ≤ 160 := ⟨w.1.1.2, w.2.2.2.2.2.2.2.1.2⟩
theorem t_go {M : qM} {y : yT} (h : cT M y) {c : Nat} (hc : c < 127) : f_Typist_goesOn (nI c) M = some (b2 (y_go y c)) := by
  obtain ⟨ts, tl, tn, tc⟩ := y
  have h0 : M.1 287 0 = nI ts := h.1.1
  have h7 : ts ≤ 7 := h.1.2
  unfold f_Typist_goesOn
  rcases (show ts = 1 ∨ ts = 2 ∨ ts = 3 ∨ (ts ≠ 1 ∧ ts ≠ 2 ∧ ts ≠ 3) by omega) with rfl | rfl | rfl | ⟨n1, n2, n3⟩
  · have h0' : M.1 287 0 = 1 := h0
    have e : y_go (1, tl, tn, tc) c = inS 0 c := rfl
    rw [if_pos h0', g_one M (by omega) (show c < 65536 by omega), q_bpE, e]
    cases inS 0 c <;> rfl
  · have h0' : M.1 287 0 = 2 := h0
    have e : y_go (2, tl, tn, tc) c = decide (c = 59) := rfl
    rw [h0', if_neg (by decide), if_pos rfl, e, show (59 : Int32) = nI 59 from rfl, i_eq (by omega) (by omega)]
    by_cases q : c = 59 <;> simp [q, b2]
  · have h0' : M.1 287 0 = 3 := h0
    have e : y_go (3, tl, tn, tc) c = (sml c || decide (c = 47) || decide (c = 33)) := rfl
    rw [h0', if_neg (by decide), if_neg (by decide), if_pos rfl, e, g_sml M hc, q_bpE, i_b2, show (47 : Int32) = nI 47 from rfl, show (33 : Int32) = nI 33 from rfl, i_eq (by omega) (by omega), i_eq (by omega) (by omega)]
    cases hs : sml c with
    | true => rfl
    | false =>
      by_cases q : c = 47
      · simp [q, b2]
      · by_cases q2 : c = 33
        · simp [q2, b2]
        · simp [q, q2, b2]
  · have m : ∀ k, k < 8 → ts ≠ k → ¬ nI ts = nI k := fun k hk h => by rw [g_eq (by omega) (by omega)]; exact h
    have e : y_go (ts, tl, tn, tc) c = true := by
      unfold y_go
      rw [if_neg n1, if_neg n2, if_neg n3]
    rw [h0, if_neg (show ¬ nI ts = (1 : Int32) from m 1 (by omega) n1), if_neg (show ¬ nI ts = (2 : Int32) from m 2 (by omega) n2), if_neg (show ¬ nI ts = (3 : Int32) from m 3 (by omega) n3), e]
    rfl
def gu_K : qM → Option qM := fun M3 => q_lt (qsI M3 287 0 0) fun M4 => some M4
theorem gu_eq (M : qM) : f_Typist_giveUpHeld M = if (M.1 287 0) = 3 then (q_cv (f_Tree_character 60 M) fun M2 => if (M2.1 287 0) = 2 then (q_cv (f_Tree_character (M2.1 287 1) M2) fun M7 => gu_K M7) else (gu_K M2)) else (q_cv (f_Tree_character 38 M) fun M2 => if (M2.1 287 0) = 2 then (q_cv (f_Tree_character (M2.1 287 1) M2) fun M7 => gu_K M7) else (gu_K M2)) := rfl
theorem t_give {M : qM} {s : aT} {y : yT} (c : C M s) (w : Wf s) (h : cT M y) : ∃ M', f_Typist_giveUpHeld M = some M' ∧ C M' (y_give s y) ∧ Wf (y_give s y) ∧ M'.1 287 0 = 0 ∧ tG M M' := by
  have h0 : M.1 287 0 = nI y.1 := h.1.1
  have h7 : y.1 ≤ 7 := h.1.2
  have one : ∀ code, code < 200 → y.1 ≠ 2 → ∃ M', (q_cv (f_Tree_character (nI code) M) fun M2 => if (M2.1 287 0) = 2 then (q_cv (f_Tree_character (M2.1 287 1) M2) fun M7 => gu_K M7) else (gu_K M2)) = some M' ∧ C M' (s_chr s code) ∧ Wf (s_chr s code) ∧ M'.1 287 0 = 0 ∧ tG M M' := fun code hc h2 => by
    obtain ⟨M1, a1, a2, a3, a4⟩ := t_chr c w hc
    have e0 : M1.1 287 0 = nI y.1 := by rw [(a3 287 0 (by omega)).1]; exact h0
    refine ⟨qsI M1 287 0 0, ?_, C_w a2 (Wn a4).1 (Wn a4).2 0 0, a4, g_Ie ⟨rfl, rfl⟩, tG_t (tF_G a3) (tG_w M1 0 0)⟩
    rw [a1, q_cvE, e0, if_neg (by rw [show (2 : Int32) = nI 2 from rfl, g_eq (by omega) (by omega)]; exact h2)]
    rfl
  rw [gu_eq, h0]
  unfold y_give
  by_cases q3 : y.1 = 3
  · have q2 : y.1 ≠ 2 := by omega
    rw [if_pos (by rw [q3]; rfl), if_neg q2, if_pos q3]
    exact one 60 (by omega) q2
  · rw [if_neg (by rw [show (3 : Int32) = nI 3 from rfl, g_eq (by omega) (by omega)]; exact q3)]
    by_cases q2 : y.1 = 2
    · have hl := h.2.1 q2
      rw [if_pos q2]
      obtain ⟨M1, a1, a2, a3, a4⟩ := t_chr c w (code := 38) (by omega)
      have e0 : M1.1 287 0 = nI y.1 := by rw [(a3 287 0 (by omega)).1]; exact h0
      have e1 : M1.1 287 1 = nI y.2.1 := by rw [(a3 287 1 (by omega)).1]; exact hl.1
      obtain ⟨M2, b1, b2', b3, b4⟩ := t_chr a2 a4 (code := y.2.1) (by omega)
      refine ⟨qsI M2 287 0 0, ?_, C_w b2' (Wn b4).1 (Wn b4).2 0 0, b4, g_Ie ⟨rfl, rfl⟩, tG_t (tF_G a3) (tG_t (tF_G b3) (tG_w M2 0 0))⟩
      have a1' : f_Tree_character 38 M = some M1 := a1
      rw [a1', q_cvE, e0, if_pos (by rw [q2]; rfl), e1, b1]
      rfl
    · rw [if_neg q2, if_neg q3]
      exact one 38 (by omega) q2
def ty_D (a1 : Int32) : qM → Option qM := fun M2 => if (M2.1 287 0) = 0 then (q_cv (f_Typist_typeInText a1 M2) fun M4 => some M4) else if (M2.1 287 0) = 1 then (q_lt (qsI M2 287 1 a1) fun M6 => q_lt (qsI M6 287 0 2) fun M7 => some M7) else if (M2.1 287 0) = 2 then (q_lt (qsI M2 287 0 0) fun M9 => q_bp (f_Typist_meaningOf (M9.1 287 1) M9) fun x10 => q_cv (f_Tree_character x10 M9) fun M11 => some M11) else if (M2.1 287 0) = 3 then (q_cv (f_Typist_typeAfterLess a1 M2) fun M13 => some M13) else if (M2.1 287 0) = 4 then (q_cv (f_Typist_typeAfterLessSlash a1 M2) fun M15 => some M15) else (q_cv (f_Typist_typeInTag a1 M2) fun M16 => some M16)
theorem ty_eq (a1 : Int32) (M : qM) : f_Typist_type a1 M = q_bp (f_Typist_goesOn a1 M) fun x1 => if x1 = 0 then (q_cv (f_Typist_giveUpHeld M) fun M19 => ty_D a1 M19) else (ty_D a1 M) := rfl
def it_K : qM → Option qM := fun M2 => q_lt (qsI M2 287 0 0) fun M3 => some M3
theorem it_eq (a1 : Int32) (M : qM) : f_Typist_typeInTag a1 M = if a1 = 62 then (if (M.1 287 0) = 5 then (q_cv (f_Tree_startTag (M.1 287 2) (M.1 287 3) M) fun M8 => it_K M8) else (if (M.1 287 0) = 6 then (q_cv (f_Tree_endTag (M.1 287 2) M) fun M7 => it_K M7) else (it_K M))) else (q_bp (f_Pg_isCapital a1 M) fun x9 => if x9 = 0 then (some M) else (q_lt (qsI M 287 3 ((M.1 287 3) ||| (1 <<< ((a1 - 65) &&& 31)))) fun M11 => some M11)) := rfl
theorem ty_D0 {a1 : Int32} {M : qM} (h : M.1 287 0 = 0) : ty_D a1 M = f_Typist_typeInText a1 M := by
  unfold ty_D
  rw [if_pos h, q_cvs]
theorem ty_D1 {a1 : Int32} {M : qM} (h : M.1 287 0 = 1) : ty_D a1 M = some (qsI (qsI M 287 1 a1) 287 0 2) := by
  unfold ty_D
  rw [h, if_neg (by decide), if_pos rfl]
  rfl
theorem ty_D2 {a1 : Int32} {M : qM} (h : M.1 287 0 = 2) : ty_D a1 M = q_bp (f_Typist_meaningOf ((qsI M 287 0 0).1 287 1) (qsI M 287 0 0)) fun x10 => f_Tree_character x10 (qsI M 287 0 0) := by
  unfold ty_D
  rw [h, if_neg (by decide), if_neg (by decide), if_pos rfl, q_ltE, q_bpc]
theorem ty_D3 {a1 : Int32} {M : qM} (h : M.1 287 0 = 3) : ty_D a1 M = f_Typist_typeAfterLess a1 M := by
  unfold ty_D
  rw [h, if_neg (by decide), if_neg (by decide), if_neg (by decide), if_pos rfl, q_cvs]
theorem ty_D4 {a1 : Int32} {M : qM} (h : M.1 287 0 = 4) : ty_D a1 M = f_Typist_typeAfterLessSlash a1 M := by
  unfold ty_D
  rw [h, if_neg (by decide), if_neg (by decide), if_neg (by decide), if_neg (by decide), if_pos rfl, q_cvs]
theorem ty_D5 {a1 : Int32} {M : qM} {k : Nat} (h : M.1 287 0 = nI k) (h5 : 5 ≤ k) (h7 : k ≤ 7) : ty_D a1 M = f_Typist_typeInTag a1 M := by
  have m : ∀ j, j < 5 → ¬ nI k = nI j := fun j hj => by rw [g_eq (by omega) (by omega)]; omega
  unfold ty_D
  rw [h, if_neg (show ¬ nI k = (0 : Int32) from m 0 (by omega)), if_neg (show ¬ nI k = (1 : Int32) from m 1 (by omega)), if_neg (show ¬ nI k = (2 : Int32) from m 2 (by omega)), if_neg (show ¬ nI k = (3 : Int32) from m 3 (by omega)), if_neg (show ¬ nI k = (4 : Int32) from m 4 (by omega)), q_cvs]
/-- the typist's memory after a state alone was written, where nothing else is held -/
theorem cT_w {M : qM} {k : Nat} {v : Int32} {r : Nat × Nat × Int32} (hv : v = nI k) (h7 : k ≤ 7) (h2 : k ≠ 2) (h5 : k ≤ 4) : cT (qsI M 287 0 v) (k, r) := by
  refine ⟨⟨by rw [g_Ie ⟨rfl, rfl⟩]; exact hv, h7⟩, fun h => absurd h h2, fun h => ?_⟩
  have h' : k = 5 ∨ k = 6 := h
  omega
theorem t_step {M : qM} {s : aT} {y : yT} (cc : C M s) (w : Wf s) (h : cT M y) {c : Nat} (hc1 : 32 ≤ c) (hc : c < 127) (hg : y.1 = 1 → inS 0 c = true) (hg3 : y.1 = 3 → sml c = true ∨ c = 47 ∨ c = 33) : ∃ M', ty_D (nI c) M = some M' ∧ C M' (y_step s y c).1 ∧ Wf (y_step s y c).1 ∧ cT M' (y_step s y c).2 ∧ tG M M' := by
  obtain ⟨ts, tl, tn, tc⟩ := y
  have h0 : M.1 287 0 = nI ts := h.1.1
  have h7 : ts ≤ 7 := h.1.2
  have wn := Wn w
  have cm : ∀ k, k < 200 → c ≠ k → ¬ nI c = nI k := fun k hk h => by rw [g_eq (by omega) (by omega)]; exact h
  rcases (show ts = 0 ∨ ts = 1 ∨ ts = 2 ∨ ts = 3 ∨ ts = 4 ∨ (5 ≤ ts) by omega) with rfl | rfl | rfl | rfl | rfl | h5
  · have e : y_step s (0, tl, tn, tc) c = (if c = 60 then (s, (3, tl, tn, tc)) else if c = 38 then (s, (1, tl, tn, tc)) else (s_chr s c, (0, tl, tn, tc))) := rfl
    rw [ty_D0 h0, e]
    unfold f_Typist_typeInText
    by_cases q : c = 60
    · rw [if_pos (by rw [q]; rfl), if_pos q]
      exact ⟨qsI M 287 0 3, rfl, C_w cc wn.1 wn.2 0 3, w, cT_w rfl (by omega) (by omega) (by omega), tG_w M 0 3⟩
    · rw [if_neg (show ¬ nI c = (60 : Int32) from cm 60 (by omega) q), if_neg q]
      by_cases q2 : c = 38
      · rw [if_pos (by rw [q2]; rfl), if_pos q2]
        exact ⟨qsI M 287 0 1, rfl, C_w cc wn.1 wn.2 0 1, w, cT_w rfl (by omega) (by omega) (by omega), tG_w M 0 1⟩
      · rw [if_neg (show ¬ nI c = (38 : Int32) from cm 38 (by omega) q2), if_neg q2, q_cvs]
        obtain ⟨M1, a1, a2, a3, a4⟩ := t_chr cc w (code := c) (by omega)
        refine ⟨M1, a1, a2, a4, ⟨⟨by rw [(a3 287 0 (by omega)).1]; exact h0, by show (0 : Nat) ≤ 7; omega⟩, fun h => ?_, fun h => ?_⟩, tF_G a3⟩
        · exact absurd h (by show ¬ (0 : Nat) = 2; omega)
        · exact absurd h (by show ¬ ((0 : Nat) = 5 ∨ (0 : Nat) = 6); omega)
  · have hin : c = 108 ∨ c = 103 ∨ c = 97 := by
      have : ∀ y, y < 127 → inS 0 y = true → y = 108 ∨ y = 103 ∨ y = 97 := by decide +kernel
      exact this c hc (hg rfl)
    have e : y_step s (1, tl, tn, tc) c = (s, (2, c, tn, tc)) := rfl
    rw [ty_D1 h0, e]
    refine ⟨_, rfl, C_w (C_w cc wn.1 wn.2 1 _) wn.1 wn.2 0 2, w, ⟨⟨g_Ie ⟨rfl, rfl⟩, by show (2 : Nat) ≤ 7; omega⟩, fun _ => ⟨?_, hin⟩, fun h => ?_⟩, tG_t (tG_w M 1 _) (tG_w _ 0 2)⟩
    · rw [g_In (by omega), g_Ie ⟨rfl, rfl⟩]
    · exact absurd h (by show ¬ ((2 : Nat) = 5 ∨ (2 : Nat) = 6); omega)
  · have e : y_step s (2, tl, tn, tc) c = (s_chr s (mean tl), (0, tl, tn, tc)) := rfl
    have hl := h.2.1 rfl
    have e1 : (qsI M 287 0 0).1 287 1 = nI tl := by rw [g_In (by omega)]; exact hl.1
    have em : f_Typist_meaningOf (nI tl) (qsI M 287 0 0) = some (nI (mean tl)) := by
      have hl2 : tl = 108 ∨ tl = 103 ∨ tl = 97 := hl.2
      rcases hl2 with q | q | q <;> rw [q] <;> rfl
    have hm : mean tl < 200 := by unfold mean; split <;> (try split) <;> omega
    obtain ⟨M1, a1, a2, a3, a4⟩ := t_chr (C_w cc wn.1 wn.2 0 0) w hm
    rw [ty_D2 h0, e, e1, em, q_bpE, a1]
    refine ⟨M1, rfl, a2, a4, ⟨⟨by rw [(a3 287 0 (by omega)).1]; exact g_Ie ⟨rfl, rfl⟩, by show (0 : Nat) ≤ 7; omega⟩, fun h => ?_, fun h => ?_⟩, tG_t (tG_w M 0 0) (tF_G a3)⟩
    · exact absurd h (by show ¬ (0 : Nat) = 2; omega)
    · exact absurd h (by show ¬ ((0 : Nat) = 5 ∨ (0 : Nat) = 6); omega)
  · have e : y_step s (3, tl, tn, tc) c = (if c = 47 then (s, (4, tl, tn, tc)) else if c = 33 then (s, (7, tl, tn, tc)) else (s, (5, tl, c, 0))) := rfl
    rw [ty_D3 h0, e]
    unfold f_Typist_typeAfterLess
    by_cases q : c = 47
    · rw [if_pos (by rw [q]; rfl), if_pos q]
      exact ⟨qsI M 287 0 4, rfl, C_w cc wn.1 wn.2 0 4, w, cT_w rfl (by omega) (by omega) (by omega), tG_w M 0 4⟩
    · rw [if_neg (show ¬ nI c = (47 : Int32) from cm 47 (by omega) q), if_neg q]
      by_cases q2 : c = 33
      · rw [if_pos (by rw [q2]; rfl), if_pos q2]
        refine ⟨qsI M 287 0 7, rfl, C_w cc wn.1 wn.2 0 7, w, ⟨⟨g_Ie ⟨rfl, rfl⟩, by show (7 : Nat) ≤ 7; omega⟩, fun h => ?_, fun h => ?_⟩, tG_w M 0 7⟩
        · exact absurd h (by show ¬ (7 : Nat) = 2; omega)
        · exact absurd h (by show ¬ ((7 : Nat) = 5 ∨ (7 : Nat) = 6); omega)
      · rw [if_neg (show ¬ nI c = (33 : Int32) from cm 33 (by omega) q2), if_neg q2]
        have hs := (hg3 rfl).resolve_right (by omega)
        have hs' : 97 ≤ c ∧ c ≤ 122 := by simpa [sml] using hs
        refine ⟨qsI (qsI (qsI M 287 2 (nI c)) 287 3 0) 287 0 5, rfl, C_w (C_w (C_w cc wn.1 wn.2 2 _) wn.1 wn.2 3 _) wn.1 wn.2 0 5, w, ⟨⟨g_Ie ⟨rfl, rfl⟩, by show (5 : Nat) ≤ 7; omega⟩, fun h => ?_, fun _ => ⟨?_, hs', fun _ => ?_⟩⟩, tG_t (tG_w M 2 _) (tG_t (tG_w _ 3 _) (tG_w _ 0 5))⟩
        · exact absurd h (by show ¬ (5 : Nat) = 2; omega)
        · rw [g_In (by omega), g_In (by omega), g_Ie ⟨rfl, rfl⟩]
        · rw [g_In (by omega), g_Ie ⟨rfl, rfl⟩]
  · have e : y_step s (4, tl, tn, tc) c = (if sml c = true then (s, (6, tl, c, tc)) else if c = 62 then (s, (0, tl, tn, tc)) else (s, (7, tl, tn, tc))) := rfl
    rw [ty_D4 h0, e]
    have ea : f_Typist_typeAfterLessSlash (nI c) M = if sml c = false then (if nI c = 62 then (some (qsI M 287 0 0)) else (some (qsI M 287 0 7))) else (some (qsI (qsI M 287 2 (nI c)) 287 0 6)) := by
      unfold f_Typist_typeAfterLessSlash
      rw [g_sml M hc, q_bpE, i_b2]
      rfl
    rw [ea]
    by_cases q : sml c = true
    · rw [if_neg (by simp [q]), if_pos q]
      have hs' : 97 ≤ c ∧ c ≤ 122 := by simpa [sml] using q
      refine ⟨_, rfl, C_w (C_w cc wn.1 wn.2 2 _) wn.1 wn.2 0 6, w, ⟨⟨g_Ie ⟨rfl, rfl⟩, by show (6 : Nat) ≤ 7; omega⟩, fun h => ?_, fun _ => ⟨?_, hs', fun h => ?_⟩⟩, tG_t (tG_w M 2 _) (tG_w _ 0 6)⟩
      · exact absurd h (by show ¬ (6 : Nat) = 2; omega)
      · rw [g_In (by omega), g_Ie ⟨rfl, rfl⟩]
      · exact absurd h (by show ¬ (6 : Nat) = 5; omega)
    · rw [if_pos (by simpa using q), if_neg q]
      by_cases q2 : c = 62
      · rw [if_pos (by rw [q2]; rfl), if_pos q2]
        exact ⟨_, rfl, C_w cc wn.1 wn.2 0 0, w, cT_w rfl (by omega) (by omega) (by omega), tG_w M 0 0⟩
      · rw [if_neg (show ¬ nI c = (62 : Int32) from cm 62 (by omega) q2), if_neg q2]
        refine ⟨_, rfl, C_w cc wn.1 wn.2 0 7, w, ⟨⟨g_Ie ⟨rfl, rfl⟩, by show (7 : Nat) ≤ 7; omega⟩, fun h => ?_, fun h => ?_⟩, tG_w M 0 7⟩
        · exact absurd h (by show ¬ (7 : Nat) = 2; omega)
        · exact absurd h (by show ¬ ((7 : Nat) = 5 ∨ (7 : Nat) = 6); omega)
  · have e : y_step s (ts, tl, tn, tc) c = (if c = 62 then ((if ts = 5 then s_stt s tn tc else if ts = 6 then s_end s tn else s), (0, tl, tn, tc)) else if cap c = true then (s, (ts, tl, tn, tc ||| (1 <<< ((nI c - 65) &&& 31)))) else (s, (ts, tl, tn, tc))) := by
      unfold y_step
      rw [if_neg (show ¬ ts = 0 by omega), if_neg (show ¬ ts = 1 by omega), if_neg (show ¬ ts = 2 by omega), if_neg (show ¬ ts = 3 by omega), if_neg (show ¬ ts = 4 by omega)]
    rw [ty_D5 h0 h5 h7, it_eq, e, h0]
    have m : ∀ k, k < 8 → ts ≠ k → ¬ nI ts = nI k := fun k hk h => by rw [g_eq (by omega) (by omega)]; exact h
    by_cases q : c = 62
    · rw [if_pos (by rw [q]; rfl), if_pos q]
      by_cases q5 : ts = 5
      · have hn := h.2.2 (Or.inl q5)
        have hn1 : M.1 287 2 = nI tn := hn.1
        have hn3 : M.1 287 3 = tc := hn.2.2 q5
        rw [if_pos (by rw [q5]; rfl), hn1, hn3, if_pos q5]
        obtain ⟨M1, a1, a2, a3, a4⟩ := t_stt (a := tc) cc w hn.2.1.1 hn.2.1.2
        have wn' := Wn a4
        rw [a1]
        exact ⟨_, rfl, C_w a2 wn'.1 wn'.2 0 0, a4, cT_w rfl (by omega) (by omega) (by omega), tG_t (tF_G a3) (tG_w M1 0 0)⟩
      · rw [if_neg (show ¬ nI ts = (5 : Int32) from m 5 (by omega) q5), if_neg q5]
        by_cases q6 : ts = 6
        · have hn := h.2.2 (Or.inr q6)
          have hn1 : M.1 287 2 = nI tn := hn.1
          rw [if_pos (by rw [q6]; rfl), hn1, if_pos q6]
          obtain ⟨M1, a1, a2, a3, a4⟩ := t_end cc w hn.2.1.1 hn.2.1.2
          have wn' := Wn a4
          rw [a1]
          exact ⟨_, rfl, C_w a2 wn'.1 wn'.2 0 0, a4, cT_w rfl (by omega) (by omega) (by omega), tG_t (tF_G a3) (tG_w M1 0 0)⟩
        · rw [if_neg (show ¬ nI ts = (6 : Int32) from m 6 (by omega) q6), if_neg q6]
          exact ⟨_, rfl, C_w cc wn.1 wn.2 0 0, w, cT_w rfl (by omega) (by omega) (by omega), tG_w M 0 0⟩
    · rw [if_neg (show ¬ nI c = (62 : Int32) from cm 62 (by omega) q), if_neg q, g_cap M hc, q_bpE, i_b2]
      by_cases q2 : cap c = true
      · rw [if_neg (by simp [q2]), if_pos q2]
        refine ⟨_, rfl, C_w cc wn.1 wn.2 3 _, w, ⟨⟨by rw [g_In (by omega)]; exact h0, h7⟩, fun h' => ?_, fun h' => ⟨?_, (h.2.2 h').2.1, fun h'' => ?_⟩⟩, tG_w M 3 _⟩
        · have h'' : ts = 2 := h'
          omega
        · rw [g_In (by omega)]
          exact (h.2.2 h').1
        · rw [g_Ie ⟨rfl, rfl⟩]
          have := (h.2.2 h').2.2 h''
          rw [this]
      · rw [if_pos (by simpa using q2), if_neg q2]
        exact ⟨M, rfl, cc, w, h, tG_r M⟩
theorem t_type {M : qM} {s : aT} {y : yT} (cc : C M s) (w : Wf s) (h : cT M y) {c : Nat} (hc1 : 32 ≤ c) (hc : c < 127) : ∃ M', f_Typist_type (nI c) M = some M' ∧ C M' (y_type s y c).1 ∧ Wf (y_type s y c).1 ∧ cT M' (y_type s y c).2 ∧ tG M M' := by
  rw [ty_eq, t_go h hc, q_bpE, i_b2]
  unfold y_type
  by_cases g : y_go y c = true
  · rw [if_neg (by simp [g]), if_pos g]
    refine t_step cc w h hc1 hc (fun h1 => ?_) (fun h3 => ?_)
    · unfold y_go at g
      rw [if_pos h1] at g
      exact g
    · unfold y_go at g
      rw [if_neg (by omega), if_neg (by omega), if_pos h3] at g
      simp at g
      rcases g with (g | g) | g
      · exact Or.inl g
      · exact Or.inr (Or.inl g)
      · exact Or.inr (Or.inr g)
  · rw [if_pos (by simpa using g), if_neg g]
    obtain ⟨M1, a1, a2, a3, a4, a5⟩ := t_give cc w h
    have hT : cT M1 (0, y.2) := by
      refine ⟨⟨a4, by show (0 : Nat) ≤ 7; omega⟩, fun h => ?_, fun h => ?_⟩
      · exact absurd h (by show ¬ (0 : Nat) = 2; omega)
      · exact absurd h (by show ¬ ((0 : Nat) = 5 ∨ (0 : Nat) = 6); omega)
    obtain ⟨M2, b1, b2', b3, b4, b5⟩ := t_step a2 a3 hT hc1 hc (fun h => absurd h (by show ¬ (0 : Nat) = 1; omega)) (fun h => absurd h (by show ¬ (0 : Nat) = 3; omega))
    exact ⟨M2, by rw [a1, q_cvE]; exact b1, b2', b3, b4, tG_t a5 b5⟩
