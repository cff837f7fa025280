/-! layout on the reference's side: a line ended, a word put -/
def iL (L : List kT2) : List Nat := (L.filter fun t => t.1 == 0).map Prod.snd
theorem iL_app (A B : List kT2) : iL (A ++ B) = iL A ++ iL B := by
  unfold iL
  rw [List.filter_append, List.map_append]
theorem iL_map (L : List Nat) : iL (L.map fun q => ((0 : Nat), q)) = L := by
  induction L with
  | nil => rfl
  | cons q L ih =>
    show iL ([(0, q)] ++ L.map fun q => ((0 : Nat), q)) = q :: L
    rw [iL_app, ih]
    rfl
def rF2 (Sc : Nat → Prop) (M M' : qM) : Prop := ∀ p j, ¬ (p = 0 ∧ (j = 39 ∨ (53 ≤ j ∧ j ≤ 57))) → ¬ (33 ≤ p ∧ p ≤ 36 ∧ Sc j) → M'.1 p j = M.1 p j
theorem rF2_t {Sc : Nat → Prop} {M M' M'' : qM} (h : rF2 Sc M M') (h' : rF2 Sc M' M'') : rF2 Sc M M'' := fun p j q1 q2 => by rw [h' p j q1 q2, h p j q1 q2]
theorem rF2_Z {Sc : Nat → Prop} {M M' : qM} (h : rF2 Sc M M') : kZ M M' := ⟨⟨h _ _ (by omega) (by omega), h _ _ (by omega) (by omega)⟩, fun p j hp => h _ _ (by omega) (by omega)⟩
theorem iX_k {M M' : qM} {it : List kT2} (h : iX M it) (k0 : M'.1 0 52 = M.1 0 52) (k : ∀ j, M'.1 37 j = M.1 37 j) : iX M' it := ⟨by rw [k0]; exact h.1, fun x t ht => by rw [k]; exact h.2 x t ht⟩
section RL
variable {n nc : Nat} {I pj : Nat → Nat} {Z : lT} {it : List kT2}
theorem r_el5 (hW : wZ2 n nc I pj Z) (hit : ∀ t ∈ it, iW n nc Z t) (h200 : it.length < 200) {a1 : Nat} (ha : a1 ≤ it.length) {Sc : Nat → Prop} (hSc : ∀ t ∈ it, t.1 < 2 → Sc t.2) : ∀ (m x f : Nat) (M : qM) (K : qM → Option qM), x + m = a1 → rZ M n nc I pj Z → iX M it → m < f → ∃ M', f_Md_endLine_5 (nI a1) f K (nI x) M = K M' ∧ (∀ q, M'.1 35 q = if q ∈ iL ((it.take a1).drop x) then (M.1 0 53 + M.1 0 56) - zSz Z q else M.1 35 q) ∧ (∀ p j, ¬ (p = 35 ∧ Sc j) → M'.1 p j = M.1 p j) := by
  intro m
  induction m with
  | zero =>
    intro x f M K hx hZ hX hf
    obtain ⟨f, rfl⟩ : ∃ g, f = g + 1 := ⟨f - 1, by omega⟩
    refine ⟨M, ?_, fun q => ?_, fun _ _ _ => rfl⟩
    · rw [f_Md_endLine_5, i_le (by omega) (by omega), if_pos (by omega)]
    · rw [List.drop_eq_nil_iff.mpr (by rw [List.length_take]; omega), if_neg (by show q ∉ []; simp)]
  | succ m ih =>
    intro x f M K hx hZ hX hf
    obtain ⟨f, rfl⟩ : ∃ g, f = g + 1 := ⟨f - 1, by omega⟩
    obtain ⟨t, hxt⟩ : ∃ t, it[x]? = some t := ⟨_, List.getElem?_eq_getElem (by omega)⟩
    have ht := hit t (List.mem_of_getElem? hxt)
    have hdr : (it.take a1).drop x = t :: (it.take a1).drop (x + 1) := by
      have h1 : (it.take a1)[x]? = some t := by rw [List.getElem?_take, if_pos (by omega)]; exact hxt
      have h2 := (List.getElem?_eq_some_iff.mp h1)
      rw [List.drop_eq_getElem_cons h2.1, h2.2]
    have hsz := r_size hZ hW (x := x) (by omega) (hX.2 x t hxt) ht
    have h37 := hX.2 x t hxt
    have hnc : nc ≤ 160 := hW.1.2.2
    have hn : n ≤ 24 := hW.1.2.1
    rw [f_Md_endLine_5, i_le (by omega) (by omega), if_neg (by omega), g_ix (by omega) (by omega), g_ix (by omega) (by omega), g_ix (by omega) (by omega), g_cl (by omega), h37, hsz, q_bpE, g_inc]
    have skip : t.1 ≠ 0 → ∃ M', f_Md_endLine_5 (nI a1) f K (nI (x + 1)) M = K M' ∧ (∀ q, M'.1 35 q = if q ∈ iL ((it.take a1).drop x) then (M.1 0 53 + M.1 0 56) - zSz Z q else M.1 35 q) ∧ (∀ p j, ¬ (p = 35 ∧ Sc j) → M'.1 p j = M.1 p j) := fun h0 => by
      have e : iL ((it.take a1).drop x) = iL ((it.take a1).drop (x + 1)) := by
        rw [hdr]
        unfold iL
        rw [List.filter_cons, if_neg (by simp [h0])]
      rw [e]
      exact ih (x + 1) f M K (by omega) hZ hX (by omega)
    rcases ht with ⟨h1, h2⟩ | ⟨h1, h2, h3⟩
    · have e : iC t = -1 - nI t.2 := if_pos h1
      rw [e, if_pos (neg_lt (by omega))]
      exact skip (by omega)
    · have e : iC t = nI t.2 := if_neg (by omega)
      obtain ⟨b1, b2', b3⟩ := hZ.2.2 t.2 h2
      have hcd := (hW.2.2.2.1 t.2 h2).1
      rw [e, i_n0 (by omega), g_ix (by omega) (by omega), g_ix (by omega) (by omega), g_cl (by omega), b1, show (32 : Int32) = nI 32 from rfl, i_eq (by omega) (by omega)]
      by_cases q : zCd Z t.2 = 32
      · rw [if_pos q]
        have := h3.mpr q
        exact skip (by omega)
      · rw [if_neg q, q_ltE]
        have h0 : t.1 = 0 := by
          have : t.1 ≠ 1 := fun h => q (h3.mp h)
          omega
        have hs : tSz Z t = zSz Z t.2 := if_neg (by omega)
        have hscq := hSc t (List.mem_of_getElem? hxt) h1
        rw [hs]
        have k1 : ∀ p j, ¬ (p = 35 ∧ j = t.2) → (qsI M 35 t.2 ((M.1 0 53 + M.1 0 56) - zSz Z t.2)).1 p j = M.1 p j := fun p j h => g_In h
        obtain ⟨M', e1, e2, e3⟩ := ih (x + 1) f (qsI M 35 t.2 ((M.1 0 53 + M.1 0 56) - zSz Z t.2)) K (by omega) (rZ_k hZ ⟨⟨k1 _ _ (by omega), k1 _ _ (by omega)⟩, fun p j hp => k1 _ _ (by omega)⟩) (iX_k hX (k1 _ _ (by omega)) fun j => k1 _ _ (by omega)) (by omega)
        refine ⟨M', e1, fun q' => ?_, fun p j h => by rw [e3 p j h, k1 p j (fun h' => h ⟨h'.1, by rw [h'.2]; exact hscq⟩)]⟩
        rw [e2 q', k1 0 53 (by omega), k1 0 56 (by omega), hdr]
        have ei : iL (t :: (it.take a1).drop (x + 1)) = t.2 :: iL ((it.take a1).drop (x + 1)) := by
          unfold iL
          rw [List.filter_cons, if_pos (by simp [h0])]
          rfl
        rw [ei]
        by_cases m1 : q' ∈ iL ((it.take a1).drop (x + 1))
        · rw [if_pos m1, if_pos (List.mem_cons_of_mem _ m1)]
        · rw [if_neg m1]
          by_cases m2 : q' = t.2
          · rw [if_pos (by rw [m2]; exact List.mem_cons_self), m2, g_Ie ⟨rfl, rfl⟩]
          · rw [if_neg (fun h => by
              rcases List.mem_cons.mp h with h | h
              · exact m2 h
              · exact m1 h), k1 _ _ (fun h => m2 h.2)]
/-- a letter's place -/
def rLt (M : qM) (k : Nat) (u : uT) (q : Nat) : Prop := M.1 33 q = b2 (uPx u q).isSome ∧ ∀ x, uPx u q = some x → M.1 34 q = x ∧ M.1 36 q = nI k ∧ (q ∉ uLn u → M.1 35 q = uPy u q)
def rU (M : qM) (nc k : Nat) (lb : Int32) (Sc : Nat → Prop) (u : uT) : Prop := (M.1 0 53 = uY u ∧ M.1 0 55 = uUs u ∧ M.1 0 56 = uLh u ∧ M.1 0 57 = b2 (!(uLn u).isEmpty) ∧ M.1 0 39 = lb + uNl u) ∧ ∀ q, q < nc → Sc q → rLt M k u q
theorem r_elw (hW : wZ2 n nc I pj Z) (hit : ∀ t ∈ it, iW n nc Z t) (h200 : it.length < 200) {a1 ls : Nat} (ha : a1 ≤ it.length) (hls : ls ≤ a1) {Sc : Nat → Prop} (hSc : ∀ t ∈ it, t.1 < 2 → Sc t.2) {M : qM} {k : Nat} {lb : Int32} {u : uT} (hZ : rZ M n nc I pj Z) (hX : iX M it) (u1 : M.1 0 53 = uY u) (u3 : M.1 0 56 = uLh u) (u5 : M.1 0 39 = lb + uNl u) (u6 : ∀ q, q < nc → Sc q → rLt M k u q) (h54 : M.1 0 54 = nI ls) (hL : iL ((it.take a1).drop ls) = uLn u) : ∃ M', f_Md_endLine (nI a1) M = some M' ∧ rU M' nc k lb Sc (uEl (zSz Z) u) ∧ M'.1 0 54 = nI a1 ∧ rF2 Sc M M' := by
  obtain ⟨M1, e1, e2, e3⟩ := r_el5 hW hit h200 ha hSc (a1 - ls) ls 1000 M (fun (M14 : qM) => q_lt (qsI M14 0 53 ((M14.1 0 53) + (M14.1 0 56))) fun M15 => q_lt (qsI M15 0 39 ((M15.1 0 39) + 1)) fun M16 => q_cv (f_Md_newLine (nI a1) M16) fun M17 => some M17) (by omega) hZ hX (by omega)
  have s53 : M1.1 0 53 = uY u := by rw [e3 _ _ (by omega)]; exact u1
  have s56 : M1.1 0 56 = uLh u := by rw [e3 _ _ (by omega)]; exact u3
  have s39 : M1.1 0 39 = lb + uNl u := by rw [e3 _ _ (by omega)]; exact u5
  refine ⟨qsI (qsI (qsI (qsI (qsI (qsI M1 0 53 (uY u + uLh u)) 0 39 (lb + uNl u + 1)) 0 54 (nI a1)) 0 55 0) 0 56 0) 0 57 0, ?_, ⟨⟨?_, ?_, ?_, ?_, ?_⟩, fun q hq hs => ?_⟩, ?_, fun p j q1 q2 => ?_⟩
  · unfold f_Md_endLine
    rw [h54, e1, q_ltE, s53, s56, g_In (by omega), s39]
    rfl
  · simp (disch := omega) only [g_In, g_Ie]
    rfl
  · simp (disch := omega) only [g_In, g_Ie]
    rfl
  · simp (disch := omega) only [g_In, g_Ie]
    rfl
  · simp (disch := omega) only [g_In, g_Ie]
    rfl
  · simp (disch := omega) only [g_In, g_Ie]
    show lb + uNl u + 1 = lb + (uNl u + 1)
    rw [Int32.add_assoc]
  · have kk : ∀ p j, p ≠ 0 → (qsI (qsI (qsI (qsI (qsI (qsI M1 0 53 (uY u + uLh u)) 0 39 (lb + uNl u + 1)) 0 54 (nI a1)) 0 55 0) 0 56 0) 0 57 0).1 p j = M1.1 p j := fun p j hp => by simp (disch := omega) only [g_In]
    obtain ⟨l1, l2⟩ := u6 q hq hs
    refine ⟨by rw [kk _ _ (by omega), e3 _ _ (by omega)]; exact l1, fun x hx => ?_⟩
    obtain ⟨l3, l4, l5⟩ := l2 x hx
    refine ⟨by rw [kk _ _ (by omega), e3 _ _ (by omega)]; exact l3, by rw [kk _ _ (by omega), e3 _ _ (by omega)]; exact l4, fun _ => ?_⟩
    rw [kk _ _ (by omega), e2 q, hL, u1, u3]
    show _ = if q ∈ uLn u then (uY u + uLh u) - zSz Z q else uPy u q
    by_cases m : q ∈ uLn u
    · rw [if_pos m, if_pos m]
    · rw [if_neg m, if_neg m]
      exact l5 m
  · simp (disch := omega) only [g_In, g_Ie]
  · have : ¬ (p = 35 ∧ Sc j) := fun h => q2 ⟨by omega, by omega, h.2⟩
    rw [← e3 p j this]
    simp (disch := omega) only [g_In]
theorem r_el (hW : wZ2 n nc I pj Z) (hit : ∀ t ∈ it, iW n nc Z t) (h200 : it.length < 200) {a1 ls : Nat} (ha : a1 ≤ it.length) (hls : ls ≤ a1) {Sc : Nat → Prop} (hSc : ∀ t ∈ it, t.1 < 2 → Sc t.2) {M : qM} {k : Nat} {lb : Int32} {u : uT} (hZ : rZ M n nc I pj Z) (hX : iX M it) (hU : rU M nc k lb Sc u) (h54 : M.1 0 54 = nI ls) (hL : iL ((it.take a1).drop ls) = uLn u) : ∃ M', f_Md_endLine (nI a1) M = some M' ∧ rU M' nc k lb Sc (uEl (zSz Z) u) ∧ M'.1 0 54 = nI a1 ∧ rF2 Sc M M' := r_elw hW hit h200 ha hls hSc hZ hX hU.1.1 hU.1.2.2.1 hU.1.2.2.2.2 hU.2 h54 hL
end RL
