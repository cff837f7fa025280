/-! the style sheet typed, on the class's side -/
abbrev selT : Type := List pT × Nat × Nat
abbrev zT : Type := List (selT × List Nat) × Bool × Option selT × List Nat
def z00 : zT := ([], false, none, [])
def z_end (pd : Option selT) (rs : List (selT × List Nat)) (hd : List Nat) : List (selT × List Nat) := match pd with
  | some s => rs ++ [(s, hd)]
  | none => rs
def z_type (z : zT) (c : Nat) : zT :=
  if z.2.1 = false then (if c = 123 then (z.1, true, (if z.1.length < 12 then selF z.2.2.2 else none), []) else (z.1, false, z.2.2.1, z.2.2.2 ++ [c]))
  else if c = 125 then (z_end z.2.2.1 z.1 z.2.2.2, false, z.2.2.1, [])
  else if c = 32 then z else (z.1, true, z.2.2.1, z.2.2.2 ++ [c])
def cSl (M : qM) (i : Nat) (s : selT) : Prop := M.1 (292 + 6 * i) 5 = nI s.1.length ∧ M.1 (292 + 6 * i) 6 = nI s.2.1 ∧ M.1 (292 + 6 * i) 7 = nI s.2.2 ∧ cSel M (292 + 6 * i) 0 s.1
def cRu (M : qM) (i : Nat) (r : selT × List Nat) : Prop := cSl M i r.1 ∧ cDt M (292 + 6 * i) (bodyF [] r.2 dNo)
def cZ (M : qM) (z : zT) : Prop := (M.1 288 3 = nI z.2.2.2.length ∧ M.1 288 4 = b2 z.2.1 ∧ M.1 288 6 = nI z.1.length ∧ z.1.length ≤ 12) ∧ hX M z.2.2.2 ∧ (∀ i r, z.1[i]? = some r → cRu M i r) ∧ (z.2.1 = true → M.1 288 5 = b2 z.2.2.1.isSome ∧ ∀ s, z.2.2.1 = some s → z.1.length < 12 ∧ cSl M z.1.length s)
theorem nar_c {c : Nat} (h : c < 127) : vp_nar .char (nI c) = nI c := by
  have : ∀ y, y < 127 → vp_nar .char (nI y) = nI y := by decide +kernel
  exact this c h
theorem selP_len : ∀ {m : Nat} {d : Bool} {R : List Nat} {s : selT}, selP m d R = some s → s.1.length ≤ m
  | 0, _, _, _, h => by cases h
  | m + 1, d, R, s, h => by
    unfold selP at h
    split at h
    · cases h
    · split at h
      · cases h
        show 1 ≤ m + 1
        omega
      · split at h
        · cases hq : selP m true (skB (skB (pRest (pName R).2.2)).tail) with
          | none => rw [hq] at h; cases h
          | some q =>
            rw [hq] at h
            cases h
            have := selP_len hq
            show q.1.length + 1 ≤ m + 1
            omega
        · split at h
          · cases h
          · cases hq : selP m false (skB (pRest (pName R).2.2)) with
            | none => rw [hq] at h; cases h
            | some q =>
              rw [hq] at h
              cases h
              have := selP_len hq
              show q.1.length + 1 ≤ m + 1
              omega
theorem cSl_cg {M M' : qM} {i : Nat} {s : selT} (h : cSl M i s) (hs : s.1.length ≤ 4) (k1 : ∀ j, 5 ≤ j → j ≤ 7 → M'.1 (292 + 6 * i) j = M.1 (292 + 6 * i) j) (k2 : ∀ p j, (p = 292 + 6 * i + 1 ∨ p = 292 + 6 * i + 2 ∨ p = 292 + 6 * i + 3) → j < 4 → M'.1 p j = M.1 p j) : cSl M' i s := by
  refine ⟨by rw [k1 5 (by omega) (by omega)]; exact h.1, by rw [k1 6 (by omega) (by omega)]; exact h.2.1, by rw [k1 7 (by omega) (by omega)]; exact h.2.2.1, fun t x ht => ?_⟩
  have htl := (List.getElem?_eq_some_iff.mp ht).1
  rw [k2 _ _ (Or.inl rfl) (by omega), k2 _ _ (Or.inr (Or.inl rfl)) (by omega), k2 _ _ (Or.inr (Or.inr rfl)) (by omega)]
  exact h.2.2.2 t x ht
theorem cDt_cg {M M' : qM} {q0 : Nat} {a : dT} (h : cDt M q0 a) (k : ∀ p j, (p = q0 + 4 ∨ p = q0 + 5) → M'.1 p j = M.1 p j) : cDt M' q0 a := fun j hj => by
  rw [k _ _ (Or.inl rfl), k _ _ (Or.inr rfl)]
  exact h j hj
/-- the rows that a right sheet must keep -/
def wZ (z : zT) : Prop := (∀ (i : Nat) (r : selT × List Nat), z.1[i]? = some r → r.1.1.length ≤ 4) ∧ (∀ s : selT, z.2.2.1 = some s → s.1.length ≤ 4) ∧ (∀ c ∈ z.2.2.2, c < 127) ∧ z.2.2.2.length ≤ 120
theorem wZ_type {z : zT} (w : wZ z) {c : Nat} (hc : c < 127) (hl : z.2.2.2.length < 120) : wZ (z_type z c) := by
  obtain ⟨w1, w2, w3, w4⟩ := w
  unfold z_type
  by_cases hb : z.2.1 = false
  · rw [if_pos hb]
    by_cases q : c = 123
    · rw [if_pos q]
      refine ⟨w1, fun s hs => ?_, fun c hc => (by cases hc), Nat.zero_le _⟩
      have hs' : (if z.1.length < 12 then selF z.2.2.2 else none) = some s := hs
      split at hs'
      · exact selP_len hs'
      · cases hs'
    · rw [if_neg q]
      refine ⟨w1, w2, fun x hx => ?_, by show (z.2.2.2 ++ [c]).length ≤ 120; simp; omega⟩
      have hx' : x ∈ z.2.2.2 ++ [c] := hx
      rcases List.mem_append.mp hx' with m | m
      · exact w3 x m
      · rw [List.mem_singleton.mp m]; exact hc
  · rw [if_neg hb]
    by_cases q : c = 125
    · rw [if_pos q]
      refine ⟨fun i r hr => ?_, w2, fun c hc => (by cases hc), Nat.zero_le _⟩
      have hr' : (z_end z.2.2.1 z.1 z.2.2.2)[i]? = some r := hr
      cases hp : z.2.2.1 with
      | none =>
        rw [hp] at hr'
        exact w1 i r hr'
      | some s =>
        rw [hp] at hr'
        have hr2 : (z.1 ++ [(s, z.2.2.2)])[i]? = some r := hr'
        rw [List.getElem?_append] at hr2
        split at hr2
        · exact w1 i r hr2
        · have hz : i - z.1.length = 0 := by
            have := (List.getElem?_eq_some_iff.mp hr2).1
            simp at this
            omega
          rw [hz] at hr2
          have : (s, z.2.2.2) = r := by simpa using hr2
          rw [← this]
          exact w2 s hp
    · rw [if_neg q]
      split
      · exact ⟨w1, w2, w3, w4⟩
      · refine ⟨w1, w2, fun x hx => ?_, by show (z.2.2.2 ++ [c]).length ≤ 120; simp; omega⟩
        have hx' : x ∈ z.2.2.2 ++ [c] := hx
        rcases List.mem_append.mp hx' with m | m
        · exact w3 x m
        · rw [List.mem_singleton.mp m]; exact hc
def sh_H (a1 : Int32) (M : qM) : Option qM := q_ix (M.1 288 3) 120 <| q_lt (qsI M 291 (M.1 288 3).toNatClampNeg (vp_nar .char a1)) fun M3 => q_lt (qsI M3 288 3 ((M3.1 288 3) + 1)) fun M4 => some M4
def sh_B (a1 : Int32) (M : qM) : Option qM := if 120 ≤ (M.1 288 3) then (some M) else (if (M.1 288 4) = 0 then (sh_H a1 M) else (if a1 = 32 then (some M) else (sh_H a1 M)))
def sh_R (a1 : Int32) (M : qM) : Option qM := if (M.1 288 4) = 0 then (sh_B a1 M) else (if a1 = 125 then (q_cv (f_Sheet_endRule M) fun M11 => some M11) else (sh_B a1 M))
def sh_Q (x15 : Int32) (M16 : qM) : Option qM := q_zk x15 <| q_lt (qsI M16 288 5 x15) fun M17 => q_lt (qsI M17 288 3 0) fun M19 => q_lt (qsI M19 288 4 1) fun M20 => some M20
theorem sh_eq (a1 : Int32) (M : qM) : f_Sheet_type a1 M = if (M.1 288 4) = 0 then (if a1 = 123 then (if 12 ≤ (M.1 288 6) then (sh_Q 0 M) else (q_ix (M.1 288 6) 12 <| q_lt (292 + 6 * (M.1 288 6).toNatClampNeg) fun o26 => q_cl (f_Rule_readSelector o26 (M.1 288 3) M) fun x27 M28 => if x27 = 0 then (sh_Q 0 M28) else (sh_Q 1 M28))) else (sh_R a1 M)) else (sh_R a1 M) := rfl
def er_J : qM → Option qM := fun M1 => q_lt (qsI M1 288 3 0) fun M2 => q_lt (qsI M2 288 4 0) fun M3 => some M3
theorem er_eq (M : qM) : f_Sheet_endRule M = if (M.1 288 5) = 0 then (er_J M) else (if 12 ≤ (M.1 288 6) then (er_J M) else (q_ix (M.1 288 6) 12 <| q_lt (292 + 6 * (M.1 288 6).toNatClampNeg) fun o8 => q_cv (f_Rule_readBody o8 (M.1 288 3) M) fun M9 => q_lt (qsI M9 288 6 ((M9.1 288 6) + 1)) fun M10 => er_J M10)) := rfl
theorem t_css {M : qM} {z : zT} (h : cZ M z) (w : wZ z) {c : Nat} (hc1 : 32 ≤ c) (hc : c < 127) (hl : z.2.2.2.length < 120) : ∃ M', f_Sheet_type (nI c) M = some M' ∧ cZ M' (z_type z c) ∧ (∀ p j, p < 288 ∨ 364 ≤ p → M'.1 p j = M.1 p j) ∧ M'.2 = M.2 := by
  obtain ⟨rs, ib, pd, hd⟩ := z
  obtain ⟨⟨h3, h4, h6, h12⟩, hH, hR, hB⟩ := h
  obtain ⟨w1, w2, w3, w4⟩ := w
  have h3 : M.1 288 3 = nI hd.length := h3
  have h4 : M.1 288 4 = b2 ib := h4
  have h6 : M.1 288 6 = nI rs.length := h6
  have h12 : rs.length ≤ 12 := h12
  have hl : hd.length < 120 := hl
  have hH : hX M hd := hH
  have hR : ∀ i r, rs[i]? = some r → cRu M i r := hR
  have w3 : ∀ c ∈ hd, c < 127 := w3
  have cm : ∀ k, k < 200 → c ≠ k → ¬ nI c = nI k := fun k hk h => by rw [g_eq (by omega) (by omega)]; exact h
  -- a character that is held
  have held : ∀ (pd' : Option selT) (ib' : Bool), M.1 288 4 = b2 ib' → (ib' = true → M.1 288 5 = b2 pd'.isSome ∧ ∀ s, pd' = some s → rs.length < 12 ∧ cSl M rs.length s) → (∀ s, pd' = some s → s.1.length ≤ 4) → ∃ M', sh_H (nI c) M = some M' ∧ cZ M' (rs, ib', pd', hd ++ [c]) ∧ (∀ p j, p < 288 ∨ 364 ≤ p → M'.1 p j = M.1 p j) ∧ M'.2 = M.2 := by
    intro pd' ib' e4 eB eS
    have k : ∀ p j, ¬ (p = 291 ∧ j = hd.length) → ¬ (p = 288 ∧ j = 3) → (qsI (qsI M 291 hd.length (nI c)) 288 3 (nI (hd.length + 1))).1 p j = M.1 p j := fun p j q1 q2 => by rw [g_In q2, g_In q1]
    refine ⟨qsI (qsI M 291 hd.length (nI c)) 288 3 (nI (hd.length + 1)), ?_, ⟨⟨?_, ?_, ?_, h12⟩, fun j x hj => ?_, fun i r hi => ?_, fun hb => ?_⟩, fun p j hp => k p j (by omega) (by omega), rfl⟩
    · unfold sh_H
      rw [h3, g_ix (by omega) (by omega), g_cl (by omega), nar_c hc, q_ltE, g_In (by omega), h3, g_inc]
      rfl
    · rw [g_Ie ⟨rfl, rfl⟩]
      show nI (hd.length + 1) = nI (hd ++ [c]).length
      simp
    · rw [k _ _ (by omega) (by omega)]; exact e4
    · rw [k _ _ (by omega) (by omega)]; exact h6
    · have hj' : (hd ++ [c])[j]? = some x := hj
      rw [List.getElem?_append] at hj'
      split at hj'
      · rw [k _ _ (by omega) (by omega)]
        exact hH j x hj'
      · have hz : j - hd.length = 0 := by
          have := (List.getElem?_eq_some_iff.mp hj').1
          simp at this
          omega
        rw [hz] at hj'
        have : c = x := by simpa using hj'
        rw [g_In (by omega), g_Ie ⟨rfl, by omega⟩, this]
    · have hi' : rs[i]? = some r := hi
      have hil := (List.getElem?_eq_some_iff.mp hi').1
      exact ⟨cSl_cg (hR i r hi').1 (w1 i r hi') (fun j q1 q2 => k _ _ (by omega) (by omega)) (fun p j hp hj => k _ _ (by omega) (by omega)), cDt_cg (hR i r hi').2 fun p j hp => k _ _ (by omega) (by omega)⟩
    · have := eB hb
      refine ⟨by rw [k _ _ (by omega) (by omega)]; exact this.1, fun s hs => ⟨(this.2 s hs).1, cSl_cg (this.2 s hs).2 (eS s hs) (fun j q1 q2 => k _ _ (by omega) (by omega)) fun p j hp hj => k _ _ (by omega) (by omega)⟩⟩
  have n120 : ¬ (120 : Int32) ≤ nI hd.length := by rw [show (120 : Int32) = nI 120 from rfl, g_le (by omega) (by omega)]; omega
  rw [sh_eq, h4, i_b2]
  cases ib with
  | false =>
    rw [if_pos rfl]
    have e : z_type (rs, false, pd, hd) c = if c = 123 then (rs, true, (if rs.length < 12 then selF hd else none), []) else (rs, false, pd, hd ++ [c]) := rfl
    rw [e]
    by_cases q : c = 123
    · -- what a selector leaves
      have fin : ∀ (M1 : qM) (pd' : Option selT), (∀ p j, p ≠ 292 + 6 * rs.length → p ≠ 292 + 6 * rs.length + 1 → p ≠ 292 + 6 * rs.length + 2 → p ≠ 292 + 6 * rs.length + 3 → M1.1 p j = M.1 p j) → M1.2 = M.2 → (rs.length < 12 ∨ M1 = M) → (∀ s, pd' = some s → rs.length < 12 ∧ cSl M1 rs.length s ∧ s.1.length ≤ 4) → ∃ M', sh_Q (b2 pd'.isSome) M1 = some M' ∧ cZ M' (rs, true, pd', []) ∧ (∀ p j, p < 288 ∨ 364 ≤ p → M'.1 p j = M.1 p j) ∧ M'.2 = M.2 := by
        intro M1 pd' k1 m1 hlt eS
        have k1' : ∀ p j, (p < 292 + 6 * rs.length ∨ 364 ≤ p) → M1.1 p j = M.1 p j := fun p j hp => by
          rcases hlt with hlt | hlt
          · exact k1 p j (by omega) (by omega) (by omega) (by omega)
          · rw [hlt]
        have k : ∀ p j, ¬ (p = 288 ∧ (j = 3 ∨ j = 4 ∨ j = 5)) → (qsI (qsI (qsI M1 288 5 (b2 pd'.isSome)) 288 3 0) 288 4 1).1 p j = M1.1 p j := fun p j q => by rw [g_In (by omega), g_In (by omega), g_In (by omega)]
        refine ⟨qsI (qsI (qsI M1 288 5 (b2 pd'.isSome)) 288 3 0) 288 4 1, ?_, ⟨⟨?_, ?_, ?_, h12⟩, fun j x hj => ?_, fun i r hi => ?_, fun _ => ⟨?_, fun s hs => ?_⟩⟩, fun p j hp => by rw [k _ _ (by omega), k1' _ _ (by omega)], m1⟩
        · unfold sh_Q
          rw [b2_zk]
          rfl
        · rw [g_In (by omega), g_Ie ⟨rfl, rfl⟩]; rfl
        · rw [g_Ie ⟨rfl, rfl⟩]; rfl
        · rw [k _ _ (by omega), k1' _ _ (by omega)]; exact h6
        · have hj' : ([] : List Nat)[j]? = some x := hj
          simp at hj'
        · have hi' : rs[i]? = some r := hi
          have hil := (List.getElem?_eq_some_iff.mp hi').1
          exact ⟨cSl_cg (hR i r hi').1 (w1 i r hi') (fun j q1 q2 => by rw [k _ _ (by omega), k1' _ _ (by omega)]) (fun p j hp hj => by rw [k _ _ (by omega), k1' _ _ (by omega)]), cDt_cg (hR i r hi').2 fun p j hp => by rw [k _ _ (by omega), k1' _ _ (by omega)]⟩
        · rw [g_In (by omega), g_In (by omega), g_Ie ⟨rfl, rfl⟩]
        · have := eS s hs
          exact ⟨this.1, cSl_cg this.2.1 this.2.2 (fun j q1 q2 => k _ _ (by omega)) fun p j hp hj => k _ _ (by omega)⟩
      rw [if_pos (by rw [q]; rfl), if_pos q, h6]
      by_cases hf : rs.length < 12
      · have n12 : ¬ (12 : Int32) ≤ nI rs.length := by rw [show (12 : Int32) = nI 12 from rfl, g_le (by omega) (by omega)]; omega
        rw [if_neg n12, g_ix (by omega) (by omega), g_cl (by omega), q_ltE, h3, if_pos hf]
        obtain ⟨M1, a1, a2, a3, a4⟩ := t_sel (by omega) w3 (q0 := 292 + 6 * rs.length) (Or.inr (by omega)) hH
        rw [a1, q_clE, i_b2]
        have k1 : ∀ p j, p ≠ 292 + 6 * rs.length → p ≠ 292 + 6 * rs.length + 1 → p ≠ 292 + 6 * rs.length + 2 → p ≠ 292 + 6 * rs.length + 3 → M1.1 p j = M.1 p j := fun p j q1 q2 q3 q4 => a3 p j (by omega) (by omega)
        have := fin M1 (selF hd) k1 a4 (Or.inl hf) (fun s hs => ⟨hf, by
          obtain ⟨ps, c1, s1⟩ := s
          have := a2 ps c1 s1 hs
          exact this, selP_len hs⟩)
        cases hs : selF hd with
        | none =>
          rw [hs] at this
          rw [if_pos (show (none : Option selT).isSome = false from rfl)]
          exact this
        | some s =>
          rw [hs] at this
          rw [if_neg (by simp)]
          exact this
      · have y12 : (12 : Int32) ≤ nI rs.length := by rw [show (12 : Int32) = nI 12 from rfl, g_le (by omega) (by omega)]; omega
        rw [if_pos y12, if_neg hf]
        exact fin M none (fun _ _ _ _ _ _ => rfl) rfl (Or.inr rfl) (fun s hs => (by cases hs))
    · rw [if_neg (show ¬ nI c = (123 : Int32) from cm 123 (by omega) q), if_neg q]
      unfold sh_R sh_B
      rw [if_pos (by rw [h4]; rfl), h3, if_neg n120, if_pos (by rw [h4]; rfl)]
      exact held pd false h4 (fun h => by cases h) w2
  | true =>
    have hB := hB rfl
    rw [if_neg (by simp)]
    unfold sh_R sh_B
    rw [if_neg (by rw [h4]; decide)]
    have e : z_type (rs, true, pd, hd) c = if c = 125 then (z_end pd rs hd, false, pd, []) else if c = 32 then (rs, true, pd, hd) else (rs, true, pd, hd ++ [c]) := rfl
    rw [e]
    by_cases q : c = 125
    · rw [if_pos (by rw [q]; rfl), if_pos q, er_eq]
      have h5 : M.1 288 5 = b2 pd.isSome := hB.1
      rw [h5, i_b2]
      -- the end, over a memory with the rules
      have fin : ∀ (M1 : qM) (rs' : List (selT × List Nat)), M1.1 288 6 = nI rs'.length → rs'.length ≤ 12 → (∀ i r, rs'[i]? = some r → cRu M1 i r ∧ r.1.1.length ≤ 4) → (∀ p j, p < 288 ∨ 364 ≤ p → M1.1 p j = M.1 p j) → M1.2 = M.2 → ∃ M', (q_cv (er_J M1) fun M11 => some M11) = some M' ∧ cZ M' (rs', false, pd, []) ∧ (∀ p j, p < 288 ∨ 364 ≤ p → M'.1 p j = M.1 p j) ∧ M'.2 = M.2 := by
        intro M1 rs' e6 e12 eR k1 m1
        have k : ∀ p j, ¬ (p = 288 ∧ (j = 3 ∨ j = 4)) → (qsI (qsI M1 288 3 0) 288 4 0).1 p j = M1.1 p j := fun p j q => by rw [g_In (by omega), g_In (by omega)]
        refine ⟨qsI (qsI M1 288 3 0) 288 4 0, rfl, ⟨⟨?_, ?_, ?_, e12⟩, fun j x hj => ?_, fun i r hi => ?_, fun h => (by cases h)⟩, fun p j hp => by rw [k _ _ (by omega), k1 _ _ hp], m1⟩
        · rw [g_In (by omega), g_Ie ⟨rfl, rfl⟩]; rfl
        · rw [g_Ie ⟨rfl, rfl⟩]; rfl
        · rw [k _ _ (by omega)]; exact e6
        · have hj' : ([] : List Nat)[j]? = some x := hj
          simp at hj'
        · have := eR i r hi
          exact ⟨cSl_cg this.1.1 this.2 (fun j q1 q2 => k _ _ (by omega)) (fun p j hp hj => k _ _ (by omega)), cDt_cg this.1.2 fun p j hp => k _ _ (by omega)⟩
      cases hp : pd with
      | none =>
        rw [if_pos (show (none : Option selT).isSome = false from rfl)]
        have := fin M rs h6 h12 (fun i r hi => ⟨hR i r hi, w1 i r hi⟩) (fun _ _ _ => rfl) rfl
        rw [hp] at this
        exact this
      | some s =>
        have hs := hB.2 s hp
        have hs1 : rs.length < 12 := hs.1
        have n12 : ¬ (12 : Int32) ≤ nI rs.length := by rw [show (12 : Int32) = nI 12 from rfl, g_le (by omega) (by omega)]; omega
        obtain ⟨M9, a1, a2, a3, a4⟩ := t_body (H := hd) (by omega) w3 (q0 := 292 + 6 * rs.length) (by omega) hH
        rw [if_neg (show ¬ (some s).isSome = false by simp), h6, if_neg n12, g_ix (by omega) (by omega), g_cl (by omega), q_ltE, h3, a1, q_cvE, a3 _ _ (by omega), h6, g_inc, q_ltE]
        have k : ∀ p j, ¬ ((p = 292 + 6 * rs.length + 4 ∨ p = 292 + 6 * rs.length + 5) ∧ j < 7) → ¬ (p = 288 ∧ j = 6) → (qsI M9 288 6 (nI (rs.length + 1))).1 p j = M.1 p j := fun p j q1 q2 => by rw [g_In q2, a3 p j q1]
        have eR : ∀ i r, (rs ++ [(s, hd)])[i]? = some r → cRu (qsI M9 288 6 (nI (rs.length + 1))) i r ∧ r.1.1.length ≤ 4 := fun i r hi => by
          rw [List.getElem?_append] at hi
          split at hi
          · rename_i hlt
            exact ⟨⟨cSl_cg (hR i r hi).1 (w1 i r hi) (fun j q1 q2 => k _ _ (by omega) (by omega)) (fun p j hp hj => k _ _ (by omega) (by omega)), cDt_cg (hR i r hi).2 fun p j hp => k _ _ (by omega) (by omega)⟩, w1 i r hi⟩
          · rename_i hge
            have hz : i - rs.length = 0 := by
              have := (List.getElem?_eq_some_iff.mp hi).1
              simp at this
              omega
            rw [hz] at hi
            have hr : (s, hd) = r := by simpa using hi
            have hi2 : i = rs.length := by omega
            rw [← hr, hi2]
            refine ⟨⟨cSl_cg hs.2 (w2 s hp) (fun j q1 q2 => k _ _ (by omega) (by omega)) (fun p j hp hj => k _ _ (by omega) (by omega)), fun j hj => ?_⟩, w2 s hp⟩
            rw [g_In (by omega), g_In (by omega)]
            exact a2 j hj
        have := fin (qsI M9 288 6 (nI (rs.length + 1))) (rs ++ [(s, hd)]) (by rw [g_Ie ⟨rfl, rfl⟩]; simp) (by simp; omega) eR (fun p j hp => k p j (by omega) (by omega)) a4
        rw [hp] at this
        exact this
    · rw [if_neg (show ¬ nI c = (125 : Int32) from cm 125 (by omega) q), if_neg q, h3, if_neg n120, if_neg (by rw [h4]; decide)]
      by_cases q2 : c = 32
      · rw [if_pos (by rw [q2]; rfl), if_pos q2]
        exact ⟨M, rfl, ⟨⟨h3, h4, h6, h12⟩, hH, hR, fun _ => hB⟩, fun _ _ _ => rfl, rfl⟩
      · rw [if_neg (show ¬ nI c = (32 : Int32) from cm 32 (by omega) q2), if_neg q2]
        exact held pd true h4 (fun _ => hB) w2
