/-! layout on the reference's side: runs, gather -/
section RG
variable {n nc : Nat} {I pj : Nat → Nat} {Z : lT} {it : List kT2}
theorem r_runs4 (hW : wZ2 n nc I pj Z) (hit : ∀ t ∈ it, iW n nc Z t) (h200 : it.length < 200) {M : qM} (hZ : rZ M n nc I pj Z) (hX : iX M it) (K : Int32 → Option Int32) : ∀ (m x f : Nat) (b : Bool), x + m = it.length → m < f → f_Md_runs_4 M f K (b2 b) (nI x) = K (b2 (b || (it.drop x).any fun t => t.1 != 1)) := by
  have hn : n ≤ 24 := hW.1.2.1
  have hnc : nc ≤ 160 := hW.1.2.2
  intro m
  induction m with
  | zero =>
    intro x f b hx hf
    obtain ⟨f, rfl⟩ : ∃ g, f = g + 1 := ⟨f - 1, by omega⟩
    rw [f_Md_runs_4, hX.1, i_le (by omega) (by omega), if_pos (by omega), List.drop_eq_nil_iff.mpr (by omega), List.any_nil, Bool.or_false]
  | succ m ih =>
    intro x f b hx hf
    obtain ⟨f, rfl⟩ : ∃ g, f = g + 1 := ⟨f - 1, by omega⟩
    obtain ⟨t, ht⟩ : ∃ t, it[x]? = some t := ⟨_, List.getElem?_eq_getElem (by omega)⟩
    have hd : it.drop x = t :: it.drop (x + 1) := by
      have h2 := List.getElem?_eq_some_iff.mp ht
      rw [List.drop_eq_getElem_cons h2.1, h2.2]
    have hiw := hit _ (List.mem_of_getElem? ht)
    have h37 := hX.2 x t ht
    rw [f_Md_runs_4, hX.1, i_le (by omega) (by omega), if_neg (by omega), g_inc, hd, List.any_cons, i_b2]
    have e1 := ih (x + 1) f true (by omega) (by omega)
    have e0 := ih (x + 1) f false (by omega) (by omega)
    rw [Bool.true_or] at e1
    rw [Bool.false_or] at e0
    have e1' : f_Md_runs_4 M f K 1 (nI (x + 1)) = K (b2 true) := e1
    have e0' : f_Md_runs_4 M f K 0 (nI (x + 1)) = K (b2 ((it.drop (x + 1)).any fun t => t.1 != 1)) := e0
    cases b with
    | true => rw [if_neg (by simp), e1', Bool.true_or]
    | false =>
      rw [if_pos rfl, g_ix (by omega) (by omega), g_ix (by omega) (by omega), g_cl (by omega), h37, Bool.false_or]
      rcases hiw with ⟨h1, h2⟩ | ⟨h1, h2, h3⟩
      · have e : iC t = -1 - nI t.2 := if_pos h1
        rw [e, if_pos (neg_lt (by omega)), e1', show (t.1 != 1) = true by rw [h1]; rfl, Bool.true_or]
      · have e : iC t = nI t.2 := if_neg (by omega)
        obtain ⟨b1, _, _⟩ := hZ.2.2 t.2 h2
        have hcd := (hW.2.2.2.1 t.2 h2).1
        rw [e, i_n0 (by omega), g_ix (by omega) (by omega), g_cl (by omega), b1, show (32 : Int32) = nI 32 from rfl, i_eq (by omega) (by omega)]
        by_cases q : zCd Z t.2 = 32
        · rw [if_pos q, e0', show (t.1 != 1) = false by rw [h3.mpr q]; rfl, Bool.false_or]
        · have : t.1 = 0 := by
            have : t.1 ≠ 1 := fun h => q (h3.mp h)
            omega
          rw [if_neg q, e1', show (t.1 != 1) = true by rw [this]; rfl, Bool.true_or]
theorem q_zkb {β : Type} (b : Bool) (k : Option β) : q_zk (b2 b) k = k := by cases b <;> rfl
theorem r_runs (hW : wZ2 n nc I pj Z) (hit : ∀ t ∈ it, iW n nc Z t) (h200 : it.length < 200) {M : qM} (hZ : rZ M n nc I pj Z) (hX : iX M it) : f_Md_runs M = some (b2 (it.any fun t => t.1 != 1)) := by
  unfold f_Md_runs
  have e := r_runs4 hW hit h200 hZ hX (fun (x11 : Int32) => q_zk x11 <| some x11) it.length 0 1000 false (by omega) (by omega)
  rw [Bool.false_or, List.drop_zero] at e
  refine Eq.trans e ?_
  exact q_zkb _ _
/-- what gather leaves alone -/
def rF4 (M M' : qM) : Prop := ∀ p j, ¬ (p = 0 ∧ j = 52) → ¬ p = 37 → M'.1 p j = M.1 p j
theorem rF4_t {M M' M'' : qM} (h : rF4 M M') (h' : rF4 M' M'') : rF4 M M'' := fun p j q1 q2 => by rw [h' p j q1 q2, h p j q1 q2]
theorem rF4_Z {M M' : qM} (h : rF4 M M') : kZ M M' := ⟨⟨h _ _ (by omega) (by omega), h _ _ (by omega) (by omega)⟩, fun p j hp => h _ _ (by omega) (by omega)⟩
theorem iX_a {M : qM} (hX : iX M it) (h : it.length < 200) (t : kT2) : iX (qsI (qsI M 37 it.length (iC t)) 0 52 (nI (it.length + 1))) (it ++ [t]) := by
  refine ⟨by rw [g_Ie ⟨rfl, rfl⟩, List.length_append]; rfl, fun x t' hx => ?_⟩
  rw [g_In (by omega)]
  by_cases e : x < it.length
  · rw [List.getElem?_append_left e] at hx
    rw [g_In (by omega)]
    exact hX.2 x t' hx
  · rw [List.getElem?_append_right (by omega)] at hx
    by_cases e2 : x = it.length
    · rw [e2, Nat.sub_self] at hx
      have : t = t' := Option.some.inj hx
      rw [g_Ie ⟨rfl, e2⟩, this]
    · rw [List.getElem?_eq_none (by show 1 ≤ x - it.length; omega)] at hx
      cases hx
theorem r_g42 (hW : wZ2 n nc I pj Z) {j : Nat} (hj : j < n) (hnm : zNm Z j = 1) {M0 : qM} (h0 : M0.1 3 j = nI (I j)) : ∀ (m x f : Nat) (M : qM) (it : List kT2) (K : qM → Option qM), x + m = nc → m < f → rZ M n nc I pj Z → iX M it → it.length + ((rgF x m).filter fun q => zNq Z q == j).length < 200 → ∃ M', f_Md_gather_42 M0 (nI j) f K (nI x) M = K M' ∧ iX M' (it ++ ((rgF x m).filter fun q => zNq Z q == j).map (kLet Z)) ∧ rF4 M M' := by
  have hn : n ≤ 24 := hW.1.2.1
  have hnc : nc ≤ 160 := hW.1.2.2
  have hI := hW.2.1 j hj
  intro m
  induction m with
  | zero =>
    intro x f M it K hx hf hZ hX hl
    obtain ⟨f, rfl⟩ : ∃ g, f = g + 1 := ⟨f - 1, by omega⟩
    refine ⟨M, ?_, by show iX M (it ++ []); rw [List.append_nil]; exact hX, fun _ _ _ _ => rfl⟩
    rw [f_Md_gather_42, hZ.1.2, i_le (by omega) (by omega), if_pos (by omega)]
  | succ m ih =>
    intro x f M it K hx hf hZ hX hl
    obtain ⟨f, rfl⟩ : ∃ g, f = g + 1 := ⟨f - 1, by omega⟩
    obtain ⟨b1, b2', b3⟩ := hZ.2.2 x (by omega)
    obtain ⟨c1, c2, c3, c4⟩ := hW.2.2.2.1 x (by omega)
    have hIq := hW.2.1 _ c3
    have h4 := (hZ.2.1 j hj).2.1
    rw [f_Md_gather_42, hZ.1.2, i_le (by omega) (by omega), if_neg (by omega), g_ix (by omega) (by omega), g_cl (by omega), h0, g_ix (by omega) (by omega), g_cl (by omega), h4, hnm, if_pos (show nI 1 = (1 : Int32) from rfl), g_cl (by omega), b2', i_eq (by omega) (by omega), hX.1, g_ix (by omega) (by omega), g_inc, g_cl (by omega), q_ltE]
    by_cases e : zNq Z x = j
    · have eI : I (zNq Z x) = I j := by rw [e]
      rw [rgF, List.filter_cons, if_pos (by rw [e]; simp)] at hl
      have hl' : it.length + (((rgF (x + 1) m).filter fun q => zNq Z q == j).length + 1) < 200 := hl
      rw [if_pos eI]
      have e52 : (qsI M 37 it.length (nI x)).1 0 52 = nI it.length := by rw [g_In (by omega)]; exact hX.1
      rw [e52, q_ltE, g_inc]
      have ek : iC (kLet Z x) = nI x := by
        unfold kLet
        by_cases q : zCd Z x = 32
        · rw [if_pos q]; rfl
        · rw [if_neg q]; rfl
      have hX' := iX_a hX (by omega) (kLet Z x)
      rw [ek] at hX'
      have fr : rF4 M (qsI (qsI M 37 it.length (nI x)) 0 52 (nI (it.length + 1))) := fun p j q1 q2 => by rw [g_In (by omega), g_In (by omega)]
      obtain ⟨M', e1, e2, e3⟩ := ih (x + 1) f _ _ K (by omega) (by omega) (rZ_k hZ (rF4_Z fr)) hX' (by rw [List.length_append]; show it.length + 1 + _ < 200; omega)
      refine ⟨M', e1, ?_, rF4_t fr e3⟩
      rw [List.append_assoc] at e2
      rw [rgF, List.filter_cons, if_pos (by rw [e]; simp)]
      exact e2
    · rw [if_neg (fun h => e (hW.2.2.2.2.1 _ _ c3 hj h))]
      rw [rgF, List.filter_cons, if_neg (by simpa using e)] at hl
      obtain ⟨M', e1, e2, e3⟩ := ih (x + 1) f M it K (by omega) (by omega) hZ hX hl
      refine ⟨M', e1, ?_, e3⟩
      rw [rgF, List.filter_cons, if_neg (by simpa using e)]
      exact e2
/-- what a place that is no box and not hidden gives -/
def tkG (Z : lT) (j : Nat) : List kT2 := (if zNm Z j = 107 then [(2, j)] else []) ++ (if zNm Z j = 1 then (zLt Z j).map (kLet Z) else [])
def ga_J (M : qM) (a1 : Int32) (M3 : qM) : Option qM := f_Md_gather_42 M a1 1000 (fun (M15 : qM) => some M15) 0 M3
theorem ga_eq (a1 : Int32) (M : qM) : f_Md_gather a1 M = (q_ix a1 40 <| q_ix (M.1 3 a1.toNatClampNeg) 40 <| if (M.1 4 (M.1 3 a1.toNatClampNeg).toNatClampNeg) = 107 then (q_ix (M.1 0 52) 200 <| q_lt (qsI M 37 (M.1 0 52).toNatClampNeg ((-1) - a1)) fun M19 => q_lt (qsI M19 0 52 ((M19.1 0 52) + 1)) fun M20 => ga_J M a1 M20) else (ga_J M a1 M)) := rfl
theorem g42_n {j : Nat} {M0 : qM} (a1 : Int32) (h0 : M0.1 3 a1.toNatClampNeg = nI j) (hj : j < 40) {f : Nat} {K : qM → Option qM} {x : Int32} {M : qM} {v nc : Nat} (hv : M.1 4 j = nI v) (h1 : v ≠ 1) (hv' : v < 200) : f_Md_gather_42 M0 a1 (f + 1) K x M = K M := by
  rw [f_Md_gather_42, h0, g_ix (by omega) (by omega), g_cl (by omega), hv, i_eq1 (by omega), if_neg h1]
  by_cases q : M.1 0 17 ≤ x
  · rw [if_pos q]
  · rw [if_neg q]
theorem r_ga (hW : wZ2 n nc I pj Z) {j : Nat} (hj : j < n) {M : qM} (hZ : rZ M n nc I pj Z) (hX : iX M it) (hl : it.length + (tkG Z j).length < 200) : ∃ M', f_Md_gather (nI j) M = some M' ∧ iX M' (it ++ tkG Z j) ∧ rF4 M M' := by
  have hn : n ≤ 24 := hW.1.2.1
  have hnc : nc ≤ 160 := hW.1.2.2
  have hI := hW.2.1 j hj
  obtain ⟨a1, a2, a3, a4, a5⟩ := hZ.2.1 j hj
  rw [ga_eq, g_ix (by omega) (by omega), g_cl (by omega), a1, g_ix (by omega) (by omega), g_cl (by omega), a2, show (107 : Int32) = nI 107 from rfl, i_eq (by omega) (by omega)]
  unfold tkG at hl ⊢
  by_cases h7 : zNm Z j = 107
  · rw [if_pos h7, if_pos h7, if_neg (by omega), List.append_nil]
    rw [if_pos h7, if_neg (by omega)] at hl
    have hl' : it.length + 1 < 200 := hl
    have e52 : (qsI M 37 it.length (-1 - nI j)).1 0 52 = nI it.length := by rw [g_In (by omega)]; exact hX.1
    rw [hX.1, g_ix (by omega) (by omega), g_cl (by omega), q_ltE, e52, q_ltE, g_inc]
    have fr : rF4 M (qsI (qsI M 37 it.length (-1 - nI j)) 0 52 (nI (it.length + 1))) := fun p j q1 q2 => by rw [g_In (by omega), g_In (by omega)]
    refine ⟨_, ?_, iX_a hX (by omega) (2, j), fr⟩
    exact g42_n (nI j) (j := I j) (by rw [g_cl (by omega)]; exact a1) (by omega) (v := zNm Z j) (nc := nc) (by rw [fr _ _ (by omega) (by omega)]; exact a2) (by omega) (by omega)
  · rw [if_neg h7, if_neg h7, List.nil_append]
    by_cases h1 : zNm Z j = 1
    · rw [if_neg h7, if_pos h1, hW.2.2.2.2.2.1 j hj, List.nil_append, List.length_map] at hl
      rw [if_pos h1, hW.2.2.2.2.2.1 j hj]
      obtain ⟨M', e1, e2, e3⟩ := r_g42 hW hj h1 a1 nc 0 1000 M it (fun M15 => some M15) (by omega) (by omega) hZ hX hl
      exact ⟨M', e1, e2, e3⟩
    · rw [if_neg h1, List.append_nil]
      refine ⟨M, ?_, hX, fun _ _ _ _ => rfl⟩
      exact g42_n (nI j) (j := I j) (by rw [g_cl (by omega)]; exact a1) (by omega) (v := zNm Z j) (nc := nc) a2 (by omega) (by omega)
end RG
