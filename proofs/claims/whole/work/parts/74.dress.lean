/-! style on the class's side: what counts -/
def pr2 (i : Bool) (b : bT) : Option (Nat × Int32) := if i = true then b.2 else b.1
def dc2 (i : Bool) (a : dT) : Nat → Int32 := if i = true then a.2 else a.1
theorem pr2_S (E : eT) (k p : Nat) (i : Bool) (b : bT) (r : selT × List Nat) : pr2 i (stS E k p b r) = if fitF E r.1.1 r.1.1.length k = true then comb (pr2 i b) (wgt r.1) (dc2 i (bodyF [] r.2 dNo) p) else pr2 i b := by
  unfold stS
  split
  · cases i <;> rfl
  · rfl
def relB (rs : List (selT × List Nat)) (i : Bool) (p : Nat) (r1 : Option Nat) (b : Option (Nat × Int32)) : Prop := match b with
  | none => r1 = none
  | some q => q.2 ≠ -1 ∧ ∃ j r, rs[j]? = some r ∧ r1 = some (292 + 6 * j) ∧ q = (wgt r.1, dc2 i (bodyF [] r.2 dNo) p)
theorem t_decl {M : qM} {i p : Nat} {a : dT} (h : cDt M (292 + 6 * i) a) (hp : p < 7) (im : Bool) : f_Rule_declared (292 + 6 * i) (nI p) (b2 im) M = some (dc2 im a p) := by
  unfold f_Rule_declared
  rw [i_b2, g_ix (by omega) (by omega), g_ix (by omega) (by omega), g_cl (by omega), (h p hp).1, (h p hp).2]
  cases im <;> rfl
theorem t_wm {M : qM} {i j : Nat} {s t : selT} (hs : cSl M i s) (ht : cSl M j t) (h1 : s.2.1 ≤ 120 ∧ s.2.2 ≤ 4) (h2 : t.2.1 ≤ 120 ∧ t.2.2 ≤ 4) : f_Rule_weighsMoreThan (292 + 6 * i) (292 + 6 * j) M = some (b2 (decide (¬ wgt s ≤ wgt t))) := by
  unfold f_Rule_weighsMoreThan
  rw [hs.2.1, hs.2.2.1, ht.2.1, ht.2.2.1, i_eq (by omega) (by omega), i_le (by omega) (by omega), i_le (by omega) (by omega)]
  unfold wgt
  by_cases q : s.2.1 = t.2.1
  · rw [if_pos q]
    by_cases q2 : s.2.2 ≤ t.2.2
    · rw [if_pos q2, decide_eq_false (by omega)]; rfl
    · rw [if_neg q2, decide_eq_true (by omega)]; rfl
  · rw [if_neg q]
    by_cases q2 : s.2.1 ≤ t.2.1
    · rw [if_pos q2, decide_eq_false (by omega)]; rfl
    · rw [if_neg q2, decide_eq_true (by omega)]; rfl
def cRs (M : qM) (rs : List (selT × List Nat)) : Prop := M.1 288 6 = nI rs.length ∧ rs.length ≤ 12 ∧ ∀ i r, rs[i]? = some r → cRu M i r ∧ wRu r
theorem t_str5 {M : qM} {rs : List (selT × List Nat)} (hR : cRs M rs) {E : eT} {k p : Nat} (hp : p < 7) {im : Bool} (hF : ∀ i r, rs[i]? = some r → M.1 290 i = b2 (fitF E r.1.1 r.1.1.length k)) : ∀ (L : List (selT × List Nat)) (i : Nat) (b : bT) (r1 : Option Nat) (f : Nat) (K : Option Nat → Option Int32), rs.drop i = L → i ≤ rs.length → relB rs im p r1 (pr2 im b) → L.length < f → ∃ r', f_Sheet_strongest_5 M (nI p) (b2 im) f K r1 (nI i) = K r' ∧ relB rs im p r' (pr2 im (L.foldl (stS E k p) b)) := by
  obtain ⟨h6, h12, hRu⟩ := hR
  intro L
  induction L with
  | nil =>
    intro i b r1 f K hL hi hb hf
    obtain ⟨f, rfl⟩ : ∃ g, f = g + 1 := ⟨f - 1, by simp at hf; omega⟩
    have hk2 : rs.length ≤ i := List.drop_eq_nil_iff.mp hL
    refine ⟨r1, ?_, hb⟩
    rw [f_Sheet_strongest_5, h6, i_le (by omega) (by omega), if_pos hk2]
  | cons r L ih =>
    intro i b r1 f K hL hi hb hf
    obtain ⟨f, rfl⟩ : ∃ g, f = g + 1 := ⟨f - 1, by simp at hf; omega⟩
    have hlt : i < rs.length := by
      refine Nat.lt_of_not_le fun q => ?_
      rw [List.drop_eq_nil_iff.mpr q] at hL
      cases hL
    have hri : rs[i]? = some r := by
      have := congrArg List.head? hL
      rw [List.head?_drop] at this
      exact this
    have hL' : rs.drop (i + 1) = L := by
      have := congrArg List.tail hL
      rw [List.tail_drop] at this
      exact this
    obtain ⟨⟨cS, cD⟩, wr⟩ := hRu i r hri
    have hf' : L.length < f := by simp at hf; omega
    have ef : ∀ b', L.foldl (stS E k p) (stS E k p b r) = b' → (r :: L).foldl (stS E k p) b = b' := fun _ h => h
    rw [f_Sheet_strongest_5, h6, i_le (by omega) (by omega), if_neg (by omega), g_ix (by omega) (by omega), q_ltE, g_ix (by omega) (by omega), g_cl (by omega), hF i r hri, i_b2, t_decl cD hp, q_bpE, g_inc]
    have hS := pr2_S E k p im b r
    show ∃ r', _ = K r' ∧ relB rs im p r' (pr2 im (L.foldl (stS E k p) (stS E k p b r)))
    by_cases g1 : fitF E r.1.1 r.1.1.length k = false
    · rw [if_pos g1]
      rw [if_neg (by rw [g1]; decide)] at hS
      exact ih (i + 1) _ r1 f K hL' (by omega) (by rw [hS]; exact hb) hf'
    · rw [if_neg g1]
      rw [if_pos (by simpa using g1)] at hS
      unfold comb at hS
      by_cases g2 : dc2 im (bodyF [] r.2 dNo) p = -1
      · rw [if_pos g2]
        rw [if_pos g2] at hS
        exact ih (i + 1) _ r1 f K hL' (by omega) (by rw [hS]; exact hb) hf'
      · rw [if_neg g2]
        rw [if_neg g2] at hS
        have rnew : relB rs im p (some (292 + 6 * i)) (some (wgt r.1, dc2 im (bodyF [] r.2 dNo) p)) := ⟨g2, i, r, hri, rfl, rfl⟩
        cases hb2 : pr2 im b with
        | none =>
          rw [hb2] at hb hS
          have hr1 : r1 = none := hb
          subst hr1
          exact ih (i + 1) _ (some (292 + 6 * i)) f K hL' (by omega) (by rw [hS]; exact rnew) hf'
        | some q =>
          rw [hb2] at hb hS
          obtain ⟨hq1, j, rj, hj, hr1, hq⟩ := hb
          subst hr1
          have wj := hRu j rj hj
          show ∃ r', (q_bp (f_Rule_weighsMoreThan (292 + 6 * j) (292 + 6 * i) M) fun x12 => if x12 = 0 then (f_Sheet_strongest_5 M (nI p) (b2 im) f K (some (292 + 6 * i)) (nI (i + 1))) else (f_Sheet_strongest_5 M (nI p) (b2 im) f K (some (292 + 6 * j)) (nI (i + 1)))) = K r' ∧ _
          rw [t_wm wj.1.1 cS wj.2.2.1 wr.2.1, q_bpE, i_b2]
          have hS' : pr2 im (stS E k p b r) = if q.1 ≤ wgt r.1 then some (wgt r.1, dc2 im (bodyF [] r.2 dNo) p) else some q := hS
          have hq1' : q.1 = wgt rj.1 := by rw [hq]
          rw [hq1'] at hS'
          by_cases g3 : wgt rj.1 ≤ wgt r.1
          · rw [if_pos (by rw [decide_eq_false]; exact fun h => h g3)]
            rw [if_pos g3] at hS'
            exact ih (i + 1) _ (some (292 + 6 * i)) f K hL' (by omega) (by rw [hS']; exact rnew) hf'
          · rw [if_neg (by rw [decide_eq_true g3]; decide)]
            rw [if_neg g3] at hS'
            exact ih (i + 1) _ (some (292 + 6 * j)) f K hL' (by omega) (by rw [hS']; exact ⟨hq1, j, rj, hj, rfl, hq⟩) hf'
def oV (b : Option (Nat × Int32)) : Int32 := match b with
  | none => -1
  | some q => q.2
theorem t_str {M : qM} {rs : List (selT × List Nat)} (hR : cRs M rs) {E : eT} {k p : Nat} (hp : p < 7) {im : Bool} (hF : ∀ i r, rs[i]? = some r → M.1 290 i = b2 (fitF E r.1.1 r.1.1.length k)) : f_Sheet_strongest (nI p) (b2 im) M = some (oV (pr2 im (stF E rs k p))) ∧ ∀ q, pr2 im (stF E rs k p) = some q → q.2 ≠ -1 := by
  have h12 := hR.2.1
  obtain ⟨r', e1, e2⟩ := t_str5 hR (E := E) (k := k) hp (im := im) hF rs 0 (none, none) none 1000 (fun (r15 : Option Nat) => q_on r15 (some (-1)) fun o16 => (q_bp (f_Rule_declared o16 (nI p) (b2 im) M) fun x17 => some x17)) (List.drop_zero ..) (Nat.zero_le _) (by cases im <;> rfl) (by omega)
  have e2' : relB rs im p r' (pr2 im (stF E rs k p)) := e2
  unfold f_Sheet_strongest
  rw [← l_0, e1]
  cases hq : pr2 im (stF E rs k p) with
  | none =>
    rw [hq] at e2'
    have : r' = none := e2'
    subst this
    exact ⟨rfl, fun q h => (by cases h)⟩
  | some q =>
    rw [hq] at e2'
    obtain ⟨g1, j, r, hj, hr, hqq⟩ := e2'
    subst hr
    refine ⟨?_, fun q' h => by cases h; exact g1⟩
    show (q_bp (f_Rule_declared (292 + 6 * j) (nI p) (b2 im) M) fun x17 => some x17) = _
    rw [t_decl (hR.2.2 j r hj).1.2 hp, q_bpE, hqq]
    rfl
