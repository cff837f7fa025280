/-! layout on the class's side: the run -/
section CR
variable {nc : Nat} {sz : Nat → Int32}
def gpE (g : Int32) : Int32 := if g = 0 then -1 else g
/-- what a run's work leaves alone -/
def cF1 (Sc : Nat → Prop) (M M' : qM) : Prop := (∀ p j, ¬ p = 365 → ¬ (∃ q, q < 160 ∧ Sc q ∧ p = 127 + q ∧ 2 ≤ j ∧ j ≤ 5) → M'.1 p j = M.1 p j) ∧ ∀ p j, ¬ p = 366 → M'.2 p j = M.2 p j
theorem cF1_r (Sc : Nat → Prop) (M : qM) : cF1 Sc M M := ⟨fun _ _ _ _ => rfl, fun _ _ _ => rfl⟩
theorem cF1_t {Sc : Nat → Prop} {M M' M'' : qM} (h : cF1 Sc M M') (h' : cF1 Sc M' M'') : cF1 Sc M M'' := ⟨fun p j q1 q2 => by rw [h'.1 p j q1 q2, h.1 p j q1 q2], fun p j q => by rw [h'.2 p j q, h.2 p j q]⟩
/-- a letter's place -/
def cLt (M : qM) (sz : Nat → Int32) (off : Int32) (u : uT) (q : Nat) : Prop := M.1 (127 + q) 2 = b2 (uPx u q).isSome ∧ ∀ x, uPx u q = some x → M.1 (127 + q) 4 = x ∧ M.1 (127 + q) 3 = sz q ∧ (q ∉ uLn u → M.1 (127 + q) 5 = off + uPy u q)
/-- the row of letters -/
def cRw (M : qM) (nc : Nat) (sz : Nat → Int32) (rw : List Nat) : Prop := (∀ x q, rw[x]? = some q → M.2 366 x = some (127 + q)) ∧ ∀ q ∈ rw, q < nc ∧ M.1 (127 + q) 3 = sz q
def cU (M : qM) (nc : Nat) (sz : Nat → Int32) (cl W off lb : Int32) (Sc : Nat → Prop) (u : uT) (rw : List Nat) (ls ws : Nat) : Prop := (M.1 365 4 = cl ∧ M.1 365 5 = W ∧ M.1 365 11 = off + uY u ∧ M.1 365 6 = uUs u ∧ M.1 365 8 = uLh u ∧ M.1 365 7 = uWw u ∧ M.1 365 9 = gpE (uGp u) ∧ M.1 365 10 = b2 (uHs u) ∧ M.1 365 12 = lb + uNl u) ∧ (M.1 365 3 = nI rw.length ∧ M.1 365 1 = nI ls ∧ M.1 365 2 = nI ws ∧ ls ≤ ws ∧ ws ≤ rw.length ∧ (rw.take ws).drop ls = uLn u ∧ rw.drop ws = uWd u) ∧ cRw M nc sz rw ∧ (∀ q ∈ rw, Sc q) ∧ ∀ q, q < nc → Sc q → cLt M sz off u q
theorem off_a (a b c d : Int32) : a + b + c - d = a + (b + c - d) := by
  rw [Int32.sub_eq_add_neg, Int32.sub_eq_add_neg, Int32.add_assoc, Int32.add_assoc, Int32.add_assoc]
theorem t_el5 (hnc : nc ≤ 160) {rw : List Nat} (h160 : rw.length ≤ 160) {ws : Nat} (hws : ws ≤ rw.length) (K : qM → Option qM) {Sc : Nat → Prop} (hSc : ∀ q ∈ rw, Sc q) : ∀ (m x f : Nat) (M : qM), x + m = ws → m < f → M.1 365 2 = nI ws → cRw M nc sz rw → ∃ M', f_Run_endLine_5 f K (nI x) M = K M' ∧ (∀ q, M'.1 (127 + q) 5 = if q ∈ (rw.take ws).drop x then (M.1 365 11 + M.1 365 8) - sz q else M.1 (127 + q) 5) ∧ (∀ p j, ¬ (∃ q, q < 160 ∧ Sc q ∧ p = 127 + q ∧ j = 5) → M'.1 p j = M.1 p j) ∧ M'.2 = M.2 := by
  intro m
  induction m with
  | zero =>
    intro x f M hx hf h2 hR
    obtain ⟨f, rfl⟩ : ∃ g, f = g + 1 := ⟨f - 1, by omega⟩
    refine ⟨M, ?_, fun q => ?_, fun _ _ _ => rfl, rfl⟩
    · rw [f_Run_endLine_5, h2, i_le (by omega) (by omega), if_pos (by omega)]
    · rw [List.drop_eq_nil_iff.mpr (by rw [List.length_take]; omega), if_neg List.not_mem_nil]
  | succ m ih =>
    intro x f M hx hf h2 hR
    obtain ⟨f, rfl⟩ : ∃ g, f = g + 1 := ⟨f - 1, by omega⟩
    obtain ⟨t, hxt⟩ : ∃ t, rw[x]? = some t := ⟨_, List.getElem?_eq_getElem (by omega)⟩
    have hdr : (rw.take ws).drop x = t :: (rw.take ws).drop (x + 1) := by
      have h1 : (rw.take ws)[x]? = some t := by rw [List.getElem?_take, if_pos (by omega)]; exact hxt
      have h2 := (List.getElem?_eq_some_iff.mp h1)
      rw [List.drop_eq_getElem_cons h2.1, h2.2]
    have hm := List.mem_of_getElem? hxt
    have h366 := hR.1 x t hxt
    obtain ⟨ht, h3⟩ := hR.2 t hm
    rw [f_Run_endLine_5, h2, i_le (by omega) (by omega), if_neg (by omega), g_ix (by omega) (by omega), g_cl (by omega), h366, q_ltE, g_ix (by omega) (by omega), q_ltE]
    have nn : ∀ {β : Type} (o : Nat) (k : Nat → Option β), q_nn (some o) k = k o := fun _ _ => rfl
    rw [nn, nn, h3, q_ltE, g_inc]
    have k1 : ∀ p j, ¬ (p = 127 + t ∧ j = 5) → (qsI M (127 + t) 5 ((M.1 365 11 + M.1 365 8) - sz t)).1 p j = M.1 p j := fun p j h => g_In h
    obtain ⟨M', e1, e2, e3, e4⟩ := ih (x + 1) f (qsI M (127 + t) 5 ((M.1 365 11 + M.1 365 8) - sz t)) (by omega) (by omega) (by rw [k1 _ _ (by omega)]; exact h2) ⟨hR.1, fun q hq => ⟨(hR.2 q hq).1, by rw [k1 _ _ (by omega)]; exact (hR.2 q hq).2⟩⟩
    refine ⟨M', e1, fun q => ?_, fun p j h => by rw [e3 p j h, k1 p j (fun h' => h ⟨t, by omega, hSc t hm, h'⟩)], e4⟩
    rw [e2 q, k1 _ _ (by omega), k1 _ _ (by omega), hdr]
    by_cases m1 : q ∈ (rw.take ws).drop (x + 1)
    · rw [if_pos m1, if_pos (List.mem_cons_of_mem _ m1)]
    · rw [if_neg m1]
      by_cases m2 : q = t
      · rw [if_pos (by rw [m2]; exact List.mem_cons_self), m2, g_Ie ⟨rfl, rfl⟩]
      · rw [if_neg (fun h => by
          rcases List.mem_cons.mp h with h | h
          · exact m2 h
          · exact m1 h), k1 _ _ (fun h => m2 (by omega))]
theorem t_eln (hnc : nc ≤ 160) {cl W off lb : Int32} {Sc : Nat → Prop} {u : uT} {rw : List Nat} {ls ws : Nat} {M : qM} (h160 : rw.length ≤ 160) (h : cU M nc sz cl W off lb Sc u rw ls ws) : ∃ M', f_Run_endLine M = some M' ∧ cU M' nc sz cl W off lb Sc (uEl sz u) rw ws ws ∧ cF1 Sc M M' := by
  obtain ⟨⟨a1, a2, a3, a4, a5, a6, a7, a8, a9⟩, ⟨b1, b2', b3, b4, b5, b6, b7⟩, hR, hsc, hL⟩ := h
  obtain ⟨M1, e1, e2, e3, e4⟩ := t_el5 (nc := nc) (sz := sz) hnc h160 b5 (fun (M12 : qM) => q_lt (qsI M12 365 11 ((M12.1 365 11) + (M12.1 365 8))) fun M13 => q_lt (qsI M13 365 1 (M13.1 365 2)) fun M14 => q_lt (qsI M14 365 6 0) fun M15 => q_lt (qsI M15 365 8 0) fun M16 => q_lt (qsI M16 365 10 1) fun M17 => q_lt (qsI M17 365 12 ((M17.1 365 12) + 1)) fun M18 => some M18) hsc (ws - ls) ls 1000 M (by omega) (by omega) b3 hR
  have k1 : ∀ j, M1.1 365 j = M.1 365 j := fun j => e3 _ _ (fun ⟨q, h0, _, h1, _⟩ => (by omega))
  have k2 : ∀ p j, ¬ p = 365 → (qsI (qsI (qsI (qsI (qsI (qsI M1 365 11 (off + uY u + uLh u)) 365 1 (nI ws)) 365 6 0) 365 8 0) 365 10 1) 365 12 (lb + uNl u + 1)).1 p j = M1.1 p j := fun p j h => by simp (disch := omega) only [g_In]
  have k3 : ∀ j, ¬ (j = 11 ∨ j = 1 ∨ j = 6 ∨ j = 8 ∨ j = 10 ∨ j = 12) → (qsI (qsI (qsI (qsI (qsI (qsI M1 365 11 (off + uY u + uLh u)) 365 1 (nI ws)) 365 6 0) 365 8 0) 365 10 1) 365 12 (lb + uNl u + 1)).1 365 j = M.1 365 j := fun j h => by
    rw [g_In (by omega), g_In (by omega), g_In (by omega), g_In (by omega), g_In (by omega), g_In (by omega), k1]
  refine ⟨qsI (qsI (qsI (qsI (qsI (qsI M1 365 11 (off + uY u + uLh u)) 365 1 (nI ws)) 365 6 0) 365 8 0) 365 10 1) 365 12 (lb + uNl u + 1), ?_, ⟨⟨by rw [k3 _ (by omega)]; exact a1, by rw [k3 _ (by omega)]; exact a2, ?_, ?_, ?_, by rw [k3 _ (by omega)]; exact a6, by rw [k3 _ (by omega)]; exact a7, ?_, ?_⟩, ⟨by rw [k3 _ (by omega)]; exact b1, ?_, by rw [k3 _ (by omega)]; exact b3, Nat.le_refl _, b5, ?_, b7⟩, ⟨fun x q hx => by show M1.2 366 x = _; rw [e4]; exact hR.1 x q hx, fun q hq => ⟨(hR.2 q hq).1, ?_⟩⟩, hsc, fun q hq hs => ?_⟩, fun p j q1 q2 => ?_, fun p j q1 => by show M1.2 p j = _; rw [e4]⟩
  · unfold f_Run_endLine
    rw [b2', e1, q_ltE, k1, k1, a3, a5, q_ltE, g_In (by omega), k1, b3, q_ltE, q_ltE, q_ltE, q_ltE]
    simp (disch := omega) only [g_In, k1, a9]
  · simp (disch := omega) only [g_In, g_Ie]
    show off + uY u + uLh u = off + (uY u + uLh u)
    rw [Int32.add_assoc]
  · simp (disch := omega) only [g_In, g_Ie]
    rfl
  · simp (disch := omega) only [g_In, g_Ie]
    rfl
  · simp (disch := omega) only [g_In, g_Ie]
    rfl
  · rw [g_Ie ⟨rfl, rfl⟩]
    show lb + uNl u + 1 = lb + (uNl u + 1)
    rw [Int32.add_assoc]
  · simp (disch := omega) only [g_In, g_Ie]
  · rw [List.drop_eq_nil_iff.mpr (by rw [List.length_take]; omega)]
    rfl
  · rw [k2 _ _ (by have := (hR.2 q hq).1; omega), e3 _ _ (fun ⟨_, _, _, _, h⟩ => (by omega))]
    exact (hR.2 q hq).2
  · obtain ⟨l1, l2⟩ := hL q hq hs
    refine ⟨by rw [k2 _ _ (by omega), e3 _ _ (fun ⟨_, _, _, _, h⟩ => (by omega))]; exact l1, fun x hx => ?_⟩
    obtain ⟨l3, l4, l5⟩ := l2 x hx
    refine ⟨by rw [k2 _ _ (by omega), e3 _ _ (fun ⟨_, _, _, _, h⟩ => (by omega))]; exact l3, by rw [k2 _ _ (by omega), e3 _ _ (fun ⟨_, _, _, _, h⟩ => (by omega))]; exact l4, fun _ => ?_⟩
    rw [k2 _ _ (by omega), e2 q, b6, a3, a5]
    show _ = off + if q ∈ uLn u then (uY u + uLh u) - sz q else uPy u q
    by_cases m : q ∈ uLn u
    · rw [if_pos m, if_pos m, off_a]
    · rw [if_neg m, if_neg m]
      exact l5 m
  · rw [k2 _ _ q1, e3 _ _ (fun ⟨q, h0, h1, h2, h3⟩ => q2 ⟨q, h0, h1, h2, by omega, by omega⟩)]
end CR
