/-! the first call on fresh objects -/
def Mx0 : qM := (f_Pg_startAnew qM0).getD qM0
def Mm0 : qM := (f_Md_reset qM0).getD qM0
theorem q_some {α : Type} {x : Option α} {d : α} (h : x.isSome = true) : x = some (x.getD d) := by
  cases x with
  | none => cases h
  | some v => rfl
theorem q_fst {α : Type} {x : Option (α × qM)} {r : α} (h : x.map Prod.fst = some r) : ∃ M1, x = some (r, M1) := by
  cases x with
  | none => cases h
  | some v => exact ⟨v.2, by cases h; rfl⟩
theorem q_fst2 {x y : Option (Int32 × qM)} (h : x.isSome = true) (e : x.map Prod.fst = y.map Prod.fst) : ∃ r M1 M2, x = some (r, M1) ∧ y = some (r, M2) := by
  cases x with
  | none => cases h
  | some v =>
    cases y with
    | none => cases e
    | some w =>
      have e1 : v.1 = w.1 := Option.some.inj e
      exact ⟨v.1, v.2, w.2, rfl, by rw [e1]⟩
set_option maxRecDepth 100000 in
theorem mx0_ok : f_Pg_startAnew qM0 = some Mx0 := q_some (by decide +kernel)
set_option maxRecDepth 100000 in
theorem mm0_ok : f_Md_reset qM0 = some Mm0 := q_some (by decide +kernel)
theorem mx_br : Mx0.1 1 7 = 0 := by decide +kernel
theorem mx_us : Mx0.1 1 5 = 1 := by decide +kernel
theorem mx_ld : Mx0.1 0 7 = 0 := by decide +kernel
theorem mm_br : Mm0.1 0 4 = 0 := by decide +kernel
theorem mm_ct : Mm0.1 0 5 = 1 := by decide +kernel
theorem mm_ld : Mm0.1 0 37 = 0 := by decide +kernel
theorem mm_o0 : Mm0.1 3 0 = 0 := by decide +kernel
theorem mm_n0 : Mm0.1 4 0 = 0 := by decide +kernel
theorem q_lt1 {a : Int32} (h0 : ¬ a < 0) (h1 : a < 1) : a = 0 := by
  obtain ⟨j, hj, rfl⟩ := nI_of2 (n := 0) (M := 0) (by decide) h0 (by
    rw [← Int32.not_lt]
    intro h
    rw [Int32.lt_iff_toInt_lt] at h h1
    have e0 : (0 : Int32).toInt = 0 := by decide
    have e1 : (1 : Int32).toInt = 1 := by decide
    omega)
  have : j = 0 := by omega
  subst this
  rfl
theorem nx_out {a : Int32} (h : a < 0 ∨ ¬ a < 1) : f_Tree_nodeAt a Mx0 = some none := by
  unfold f_Tree_nodeAt
  rw [if_pos mx_br, mx_us]
  by_cases h0 : a < 0
  · rw [if_pos h0]
  · rw [if_neg h0, if_neg (h.resolve_left h0)]
theorem nm_out {a : Int32} (h : a < 0 ∨ ¬ a < 1) : f_Md_none a Mm0 = some 1 := by
  unfold f_Md_none
  rw [if_pos mm_br, mm_ct]
  by_cases h0 : a < 0
  · rw [if_pos h0]
  · rw [if_neg h0, if_neg (h.resolve_left h0)]
theorem n0_cases (a : Int32) : (a < 0 ∨ ¬ a < 1) ∨ a = 0 := by
  by_cases h0 : a < 0
  · exact Or.inl (Or.inl h0)
  · by_cases h1 : a < 1
    · exact Or.inr (q_lt1 h0 h1)
    · exact Or.inl (Or.inr h1)
set_option maxRecDepth 100000 in
theorem fx_html : ∀ n, n < 127 → 32 ≤ n → (f_Pg_html (nI n) Mx0).map Prod.fst = some 1 ∧ (f_Md_html (nI n) Mm0).map Prod.fst = some 1 := by decide +kernel
set_option maxRecDepth 100000 in
theorem fx_css : ∀ n, n < 127 → 32 ≤ n → (f_Pg_css (nI n) Mx0).map Prod.fst = some 1 ∧ (f_Md_css (nI n) Mm0).map Prod.fst = some 1 := by decide +kernel
theorem q_chars (c : Int32) : c < 32 ∨ 126 < c ∨ ∃ n, n < 127 ∧ 32 ≤ n ∧ c = nI n := by
  by_cases h0 : c < 32
  · exact Or.inl h0
  · by_cases h1 : 126 < c
    · exact Or.inr (Or.inl h1)
    · rw [Int32.lt_iff_toInt_lt] at h0 h1
      have e0 : (32 : Int32).toInt = 32 := by decide
      have e1 : (126 : Int32).toInt = 126 := by decide
      obtain ⟨j, hj, rfl⟩ := nI_of2 (n := 126) (M := 126) (x := c) (by decide) (by
        rw [Int32.lt_iff_toInt_lt]
        have e2 : (0 : Int32).toInt = 0 := by decide
        omega) (by
        rw [← Int32.not_lt, Int32.lt_iff_toInt_lt]
        omega)
      rw [nI_toInt (by omega)] at h0
      exact Or.inr (Or.inr ⟨j, by omega, by omega, rfl⟩)
theorem fr_html (c : Int32) : ∃ (r : Int32) (Mx1 Mm1 : qM), f_Pg_html c Mx0 = some (r, Mx1) ∧ f_Md_html c Mm0 = some (r, Mm1) := by
  rcases q_chars c with h | h | ⟨n, h1, h2, rfl⟩
  · exact ⟨0, Mx0, Mm0, by simp [f_Pg_html, f_Pg_canBeTyped, q_bp, h], by simp [f_Md_html, h]⟩
  · by_cases h0 : c < 32
    · exact ⟨0, Mx0, Mm0, by simp [f_Pg_html, f_Pg_canBeTyped, q_bp, h0], by simp [f_Md_html, h0]⟩
    · exact ⟨0, Mx0, Mm0, by simp [f_Pg_html, f_Pg_canBeTyped, q_bp, h0, h], by simp [f_Md_html, h0, h]⟩
  · obtain ⟨Mx1, e1⟩ := q_fst (fx_html n h1 h2).1
    obtain ⟨Mm1, e2⟩ := q_fst (fx_html n h1 h2).2
    exact ⟨1, Mx1, Mm1, e1, e2⟩
theorem fr_css (c : Int32) : ∃ (r : Int32) (Mx1 Mm1 : qM), f_Pg_css c Mx0 = some (r, Mx1) ∧ f_Md_css c Mm0 = some (r, Mm1) := by
  rcases q_chars c with h | h | ⟨n, h1, h2, rfl⟩
  · exact ⟨0, Mx0, Mm0, by simp [f_Pg_css, f_Pg_canBeTyped, q_bp, h], by simp [f_Md_css, h]⟩
  · by_cases h0 : c < 32
    · exact ⟨0, Mx0, Mm0, by simp [f_Pg_css, f_Pg_canBeTyped, q_bp, h0], by simp [f_Md_css, h0]⟩
    · exact ⟨0, Mx0, Mm0, by simp [f_Pg_css, f_Pg_canBeTyped, q_bp, h0, h], by simp [f_Md_css, h0, h]⟩
  · obtain ⟨Mx1, e1⟩ := q_fst (fx_css n h1 h2).1
    obtain ⟨Mm1, e2⟩ := q_fst (fx_css n h1 h2).2
    exact ⟨1, Mx1, Mm1, e1, e2⟩
set_option maxRecDepth 100000 in
theorem fx_lay : ∀ n, n < 65 → 1 ≤ n → (f_Pg_layout (nI n) Mx0).isSome = true ∧ (f_Pg_layout (nI n) Mx0).map Prod.fst = (f_Md_layout (nI n) Mm0).map Prod.fst := by decide +kernel
theorem fr_lay (c : Int32) : ∃ (r : Int32) (Mx1 Mm1 : qM), f_Pg_layout c Mx0 = some (r, Mx1) ∧ f_Md_layout c Mm0 = some (r, Mm1) := by
  by_cases h0 : c < 1
  · exact ⟨-1, Mx0, Mm0, by simp [f_Pg_layout, h0], by simp [f_Md_layout, h0]⟩
  · by_cases h1 : 64 < c
    · exact ⟨-1, Mx0, Mm0, by simp [f_Pg_layout, h0, h1], by simp [f_Md_layout, h0, h1]⟩
    · rw [Int32.lt_iff_toInt_lt] at h0 h1
      have e0 : (1 : Int32).toInt = 1 := by decide
      have e1 : (64 : Int32).toInt = 64 := by decide
      obtain ⟨j, hj, rfl⟩ := nI_of2 (n := 64) (M := 64) (x := c) (by decide) (by
        rw [Int32.lt_iff_toInt_lt]
        have e2 : (0 : Int32).toInt = 0 := by decide
        omega) (by
        rw [← Int32.not_lt, Int32.lt_iff_toInt_lt]
        omega)
      rw [nI_toInt (by omega)] at h0
      obtain ⟨r, M1, M2, a, b⟩ := q_fst2 (fx_lay j (by omega) (by omega)).1 (fx_lay j (by omega) (by omega)).2
      exact ⟨r, M1, M2, a, b⟩
theorem fx_0 : f_Pg_name 0 Mx0 = some 0 ∧ f_Md_name 0 Mm0 = some 0 ∧ f_Pg_parent 0 Mx0 = some (-1) ∧ f_Md_parent 0 Mm0 = some (-1) ∧ f_Pg_classes 0 Mx0 = some 0 ∧ f_Md_classes 0 Mm0 = some 0 ∧ f_Tree_nodeAt 0 Mx0 = some (some 7) ∧ Mx0.2 7 9 = none ∧ f_Node_isElement 7 Mx0 = some 0 := by decide +kernel
theorem fx_let (a b : Int32) : f_Tree_letterAt a b Mx0 = some none := by
  unfold f_Tree_letterAt
  rcases n0_cases a with h | rfl
  · rw [nx_out h]; rfl
  · rw [fx_0.2.2.2.2.2.2.1]
    show (if 0 ≤ b then (q_lt (Mx0.2 7 9) fun r4 => f_Tree_letterAt_25 b Mx0 1000 (fun (r12 : Option Nat) => some r12) r4 0) else (some none)) = some none
    rw [fx_0.2.2.2.2.2.2.2.1]
    by_cases hb : 0 ≤ b
    · rw [if_pos hb]
      show f_Tree_letterAt_25 b Mx0 (999 + 1) (fun (r12 : Option Nat) => some r12) none 0 = some none
      rw [f_Tree_letterAt_25]
      by_cases h2 : b ≤ 0
      · simp [h2]
      · simp [h2, q_on]
    · rw [if_neg hb]
theorem fx_fnd (a b : Int32) : f_Md_find a b Mm0 = some (-1) := by
  unfold f_Md_find
  rcases n0_cases a with h | rfl
  · rw [nm_out h]; rfl
  · have h0 : f_Md_none 0 Mm0 = some 0 := by decide +kernel
    rw [h0]
    have hc : (0 : Int32).toNatClampNeg = 0 := by decide
    simp [q_bp, q_ix, hc, mm_o0, mm_n0]
theorem p1_op (a1 a2 : Int32) : ∀ j, j < 16 → qOp j a1 a2 Mx0 Mm0 (fun _ _ => True) := by
  intro j hj
  rcases (show j = 0 ∨ j = 1 ∨ j = 2 ∨ j = 3 ∨ j = 4 ∨ j = 5 ∨ j = 6 ∨ j = 7 ∨ j = 8 ∨ j = 9 ∨ j = 10 ∨ j = 11 ∨ j = 12 ∨ j = 13 ∨ j = 14 ∨ j = 15 by omega) with rfl | rfl | rfl | rfl | rfl | rfl | rfl | rfl | rfl | rfl | rfl | rfl | rfl | rfl | rfl | rfl
  · obtain ⟨r, M1, M2, e1, e2⟩ := fr_html (a1.toUInt32 % 65536).toInt32
    exact ⟨r, M1, M2, e1, e2, trivial⟩
  · obtain ⟨r, M1, M2, e1, e2⟩ := fr_css (a1.toUInt32 % 65536).toInt32
    exact ⟨r, M1, M2, e1, e2, trivial⟩
  · exact ⟨_, _, q_some (d := qM0) (by decide +kernel), q_some (d := qM0) (by decide +kernel), trivial⟩
  · exact ⟨1, by decide +kernel, by decide +kernel, trivial⟩
  · rcases n0_cases a1 with h | rfl
    · exact ⟨-1, by simp [f_Pg_name, nx_out h, q_bp, q_on], by simp [f_Md_name, nm_out h, q_bp], trivial⟩
    · exact ⟨0, fx_0.1, fx_0.2.1, trivial⟩
  · rcases n0_cases a1 with h | rfl
    · exact ⟨-1, by simp [f_Pg_parent, nx_out h, q_bp, q_on], by simp [f_Md_parent, nm_out h, q_bp], trivial⟩
    · exact ⟨-1, fx_0.2.2.1, fx_0.2.2.2.1, trivial⟩
  · rcases n0_cases a1 with h | rfl
    · exact ⟨-1, by simp [f_Pg_classes, nx_out h, q_bp, q_on], by simp [f_Md_classes, nm_out h, q_bp], trivial⟩
    · exact ⟨0, fx_0.2.2.2.2.1, fx_0.2.2.2.2.2.1, trivial⟩
  · exact ⟨-1, by simp [f_Pg_letter, fx_let, q_bp, q_on], by simp [f_Md_letter, fx_fnd, q_bp], trivial⟩
  · exact ⟨1, by decide +kernel, by decide +kernel, trivial⟩
  · obtain ⟨M1, e⟩ := q_fst (x := f_Md_rules Mm0) (r := 0) (by decide +kernel)
    exact ⟨0, M1, by decide +kernel, e, trivial⟩
  · have hm : ∃ x, f_Md_propertyIndex (a2.toUInt32 % 65536).toInt32 Mm0 = some x := by
      generalize (a2.toUInt32 % 65536).toInt32 = c
      unfold f_Md_propertyIndex
      repeat' split
      all_goals exact ⟨_, rfl⟩
    obtain ⟨x, hm⟩ := hm
    have hi : ∃ y, f_indexOf 9 (a2.toUInt32 % 65536).toInt32 = some y := ⟨_, rfl⟩
    obtain ⟨y, hi⟩ := hi
    rcases n0_cases a1 with h | rfl
    · exact ⟨-1, Mx0, Mm0, by simp [f_Pg_value, nx_out h, hi, q_bp, q_on], by simp [f_Md_value, hm, nm_out h, q_bp], trivial⟩
    · have h0 : f_Md_none 0 Mm0 = some 0 := by decide +kernel
      have hc : (0 : Int32).toNatClampNeg = 0 := by decide
      refine ⟨-1, Mx0, Mm0, by simp [f_Pg_value, fx_0.2.2.2.2.2.2.1, hi, q_bp, q_on, fx_0.2.2.2.2.2.2.2.2], ?_, trivial⟩
      by_cases hx : x < 0
      · simp [f_Md_value, hm, h0, q_bp, hx]
      · simp [f_Md_value, hm, h0, q_bp, hx, q_ix, hc, mm_o0, mm_n0]
  · obtain ⟨r, M1, M2, e1, e2⟩ := fr_lay a1
    exact ⟨r, M1, M2, e1, e2, trivial⟩
  · refine ⟨-1, ?_, by simp [f_Md_box, mm_ld], trivial⟩
    rcases n0_cases a1 with h | rfl
    · simp [f_Pg_box, nx_out h, q_bp, mx_ld]
    · simp [f_Pg_box, fx_0.2.2.2.2.2.2.1, q_bp, mx_ld]
  · exact ⟨-1, by simp [f_Pg_place, fx_let, q_bp, mx_ld], by simp [f_Md_place, fx_fnd, q_bp, mm_ld], trivial⟩
  · exact ⟨-1, by simp [f_Pg_lines, mx_ld], by simp [f_Md_lines, mm_ld], trivial⟩
  · exact ⟨-1, by simp [f_Pg_pixel, mx_ld], by simp [f_Md_pixel, mm_ld], trivial⟩
