/-! style on the class's side: all nodes dressed -/
def kW (M M' : qM) : Prop := (∀ p j, p ≠ 290 → ¬ (7 ≤ p ∧ p ≤ 126 ∧ p % 5 = 0) → M'.1 p j = M.1 p j) ∧ M'.2 = M.2
theorem kW_r (M : qM) : kW M M := ⟨fun _ _ _ _ => rfl, rfl⟩
theorem kW_t {M M' M'' : qM} (h : kW M M') (h' : kW M' M'') : kW M M'' := ⟨fun p j q1 q2 => by rw [h'.1 p j q1 q2, h.1 p j q1 q2], h'.2.trans h.2⟩
theorem eC_w {M M' : qM} {n : Nat} {I : Nat → Nat} {E : eT} (h : eC M n I E) (hW : wE n I E) (k : kW M M') : eC M' n I E := by
  refine ⟨by rw [k.1 _ _ (by omega) (by omega)]; exact h.1, fun j hj => ?_⟩
  have := (hW.2.2.1 j hj).1
  rw [k.2, k.1 _ _ (by omega) (by omega), k.1 _ _ (by omega) (by omega)]
  exact h.2 j hj
theorem cRs_w {M M' : qM} {rs : List (selT × List Nat)} (h : cRs M rs) (k : kW M M') : cRs M' rs := by
  obtain ⟨h6, h12, hR⟩ := h
  refine ⟨by rw [k.1 _ _ (by omega) (by omega)]; exact h6, h12, fun i r hi => ?_⟩
  have hil := (List.getElem?_eq_some_iff.mp hi).1
  obtain ⟨⟨c1, c2⟩, c3⟩ := hR i r hi
  exact ⟨⟨cSl_cg c1 c3.1.2.1 (fun j q1 q2 => k.1 _ _ (by omega) (by omega)) (fun p j hp hj => k.1 _ _ (by omega) (by omega)), cDt_cg c2 fun p j hp => k.1 _ _ (by omega) (by omega)⟩, c3⟩
theorem dr_s {α : Type} {rs : List α} {i : Nat} {r : α} {L : List α} (h : rs.drop i = r :: L) : i < rs.length ∧ rs[i]? = some r ∧ rs.drop (i + 1) = L := by
  have hlt : i < rs.length := by
    refine Nat.lt_of_not_le fun q => ?_
    rw [List.drop_eq_nil_iff.mpr q] at h
    cases h
  refine ⟨hlt, ?_, ?_⟩
  · have := congrArg List.head? h
    rw [List.head?_drop] at this
    exact this
  · have := congrArg List.tail h
    rw [List.tail_drop] at this
    exact this
theorem t_sd2 {n : Nat} {I : Nat → Nat} {E : eT} (hW : wE n I E) {rs : List (selT × List Nat)} {k : Nat} (hk : k < n) : ∀ (L : List (selT × List Nat)) (i f : Nat) (M : qM) (K : qM → Option qM), rs.drop i = L → cRs M rs → eC M n I E → (∀ j r, j < i → rs[j]? = some r → M.1 290 j = b2 (fitF E r.1.1 r.1.1.length k)) → i ≤ rs.length → L.length < f → ∃ M', f_Sheet_setDeclared_2 (7 + 5 * I k) f K (nI i) M = K M' ∧ (∀ j r, rs[j]? = some r → M'.1 290 j = b2 (fitF E r.1.1 r.1.1.length k)) ∧ (∀ p j, p ≠ 290 → M'.1 p j = M.1 p j) ∧ M'.2 = M.2 := by
  intro L
  induction L with
  | nil =>
    intro i f M K hL hR hC hj hi hf
    obtain ⟨f, rfl⟩ : ∃ g, f = g + 1 := ⟨f - 1, by simp at hf; omega⟩
    have hk2 : rs.length ≤ i := List.drop_eq_nil_iff.mp hL
    have h12 := hR.2.1
    refine ⟨M, ?_, fun j r h => hj j r (by have := (List.getElem?_eq_some_iff.mp h).1; omega) h, fun _ _ _ => rfl, rfl⟩
    rw [f_Sheet_setDeclared_2, hR.1, i_le (by omega) (by omega), if_pos hk2]
  | cons r L ih =>
    intro i f M K hL hR hC hj hi hf
    obtain ⟨f, rfl⟩ : ∃ g, f = g + 1 := ⟨f - 1, by simp at hf; omega⟩
    obtain ⟨hlt, hri, hL'⟩ := dr_s hL
    have h12 := hR.2.1
    obtain ⟨⟨⟨s5, _, _, sS⟩, _⟩, wr⟩ := hR.2.2 i r hri
    have kw : kW M (qsI M 290 i (b2 (fitF E r.1.1 r.1.1.length k))) := ⟨fun p j q1 _ => g_In (by omega), rfl⟩
    obtain ⟨M', e1, e2, e3, e4⟩ := ih (i + 1) f (qsI M 290 i (b2 (fitF E r.1.1 r.1.1.length k))) K hL' (cRs_w hR kw) (eC_w hC hW kw) (fun j r' h1 h2 => by
      by_cases q : j = i
      · rw [g_Ie ⟨rfl, q⟩]
        rw [q, hri] at h2
        cases h2
        rfl
      · rw [g_In (by omega)]
        exact hj j r' (by omega) h2) (by omega) (by simp at hf; omega)
    refine ⟨M', ?_, e2, fun p j q => by rw [e3 p j q, g_In (by omega)], e4⟩
    rw [f_Sheet_setDeclared_2, hR.1, i_le (by omega) (by omega), if_neg (by omega), g_ix (by omega) (by omega), g_cl (by omega), q_ltE, t_fits hC hW sS s5 wr.1.2.2 wr.1.2.1 wr.1.1 hk, q_bpE, g_ix (by omega) (by omega), b2_zk, q_ltE, g_inc]
    exact e1
def sd_J (q1 n : Nat) (K14 : qM → Option qM) (x12 : Int32) (M13 : qM) (x17 : Int32) : Option qM := if x17 = (-1) then (f_Sheet_setDeclared_34 q1 n K14 (x12 + 1) M13) else (q_ix x12 7 <| q_lt (qsI M13 (q1 + 3) x12.toNatClampNeg x17) fun M20 => f_Sheet_setDeclared_34 q1 n K14 (x12 + 1) M20)
theorem sd34_eq (q1 n : Nat) (K14 : qM → Option qM) (x12 : Int32) (M13 : qM) : f_Sheet_setDeclared_34 q1 (n + 1) K14 x12 M13 = if 7 ≤ x12 then (K14 M13) else (q_bp (f_Sheet_strongest x12 1 M13) fun x16 => if x16 = (-1) then (q_bp (f_Sheet_strongest x12 0 M13) fun x23 => sd_J q1 n K14 x12 M13 x23) else (sd_J q1 n K14 x12 M13 x16)) := by
  rw [f_Sheet_setDeclared_34]
  rfl
theorem fnd_oV {b : bT} (h1 : ∀ q, b.1 = some q → q.2 ≠ -1) (h2 : ∀ q, b.2 = some q → q.2 ≠ -1) : (if oV b.2 = -1 then oV b.1 else oV b.2) = (fnd b).getD (-1) ∧ ∀ v, fnd b = some v → v ≠ -1 := by
  obtain ⟨b1, b2'⟩ := b
  cases b2' with
  | some q =>
    have := h2 q rfl
    refine ⟨?_, fun v hv => ?_⟩
    · show (if q.2 = -1 then _ else q.2) = q.2
      rw [if_neg this]
    · have : q.2 = v := Option.some.inj hv
      rw [← this]
      exact h2 q rfl
  | none =>
    cases b1 with
    | none => exact ⟨rfl, fun v hv => (by cases hv)⟩
    | some q =>
      refine ⟨rfl, fun v hv => ?_⟩
      have : q.2 = v := Option.some.inj hv
      rw [← this]
      exact h1 q rfl
theorem t_sd34 {n : Nat} {I : Nat → Nat} {E : eT} (hW : wE n I E) {rs : List (selT × List Nat)} {k : Nat} (hk : k < n) : ∀ (m p f : Nat) (M : qM) (K : qM → Option qM), p + m = 7 → cRs M rs → (∀ j r, rs[j]? = some r → M.1 290 j = b2 (fitF E r.1.1 r.1.1.length k)) → m < f → ∃ M', f_Sheet_setDeclared_34 (7 + 5 * I k) f K (nI p) M = K M' ∧ (∀ q, p ≤ q → q < 7 → M'.1 (7 + 5 * I k + 3) q = (fnd (stF E rs k q)).getD (M.1 (7 + 5 * I k + 3) q)) ∧ (∀ P j, ¬ (P = 7 + 5 * I k + 3 ∧ p ≤ j) → M'.1 P j = M.1 P j) ∧ M'.2 = M.2 := by
  intro m
  induction m with
  | zero =>
    intro p f M K hp hR hF hf
    obtain ⟨f, rfl⟩ : ∃ g, f = g + 1 := ⟨f - 1, by omega⟩
    refine ⟨M, ?_, fun q h1 h2 => by omega, fun _ _ _ => rfl, rfl⟩
    rw [sd34_eq, show (7 : Int32) = nI 7 from rfl, i_le (by omega) (by omega), if_pos (by omega)]
  | succ m ih =>
    intro p f M K hp hR hF hf
    obtain ⟨f, rfl⟩ : ∃ g, f = g + 1 := ⟨f - 1, by omega⟩
    have hI := (hW.2.2.1 k hk).1
    have s1 := t_str hR (E := E) (k := k) (p := p) (by omega) (im := true) hF
    have s0 := t_str hR (E := E) (k := k) (p := p) (by omega) (im := false) hF
    have s1' : f_Sheet_strongest (nI p) 1 M = some (oV (stF E rs k p).2) := s1.1
    have s0' : f_Sheet_strongest (nI p) 0 M = some (oV (stF E rs k p).1) := s0.1
    obtain ⟨g1, g2⟩ := fnd_oV (b := stF E rs k p) s0.2 s1.2
    have eq : f_Sheet_setDeclared_34 (7 + 5 * I k) (f + 1) K (nI p) M = sd_J (7 + 5 * I k) f K (nI p) M ((fnd (stF E rs k p)).getD (-1)) := by
      rw [sd34_eq, show (7 : Int32) = nI 7 from rfl, i_le (by omega) (by omega), if_neg (by omega), s1', q_bpE, s0', q_bpE, ← g1]
      split <;> rfl
    rw [eq]
    unfold sd_J
    cases hf2 : fnd (stF E rs k p) with
    | none =>
      obtain ⟨M', e1, e2, e3, e4⟩ := ih (p + 1) f M K (by omega) hR hF (by omega)
      refine ⟨M', ?_, fun q h1 h2 => ?_, fun P j h => e3 P j (by omega), e4⟩
      · show (if (-1 : Int32) = -1 then _ else _) = _
        rw [if_pos rfl, g_inc]
        exact e1
      · by_cases q2 : q = p
        · rw [q2, hf2, e3 _ _ (by omega)]
          rfl
        · exact e2 q (by omega) h2
    | some v =>
      have hv := g2 v hf2
      have kw : kW M (qsI M (7 + 5 * I k + 3) p v) := ⟨fun P j q1 q2 => g_In (by omega), rfl⟩
      obtain ⟨M', e1, e2, e3, e4⟩ := ih (p + 1) f (qsI M (7 + 5 * I k + 3) p v) K (by omega) (cRs_w hR kw) (fun j r h => by rw [g_In (by omega)]; exact hF j r h) (by omega)
      refine ⟨M', ?_, fun q h1 h2 => ?_, fun P j h => by rw [e3 P j (by omega), g_In (by omega)], e4⟩
      · show (if v = -1 then _ else _) = _
        rw [if_neg hv, g_ix (by omega) (by omega), g_cl (by omega), q_ltE, g_inc]
        exact e1
      · by_cases q2 : q = p
        · rw [q2, hf2, e3 _ _ (by omega), g_Ie ⟨rfl, rfl⟩]
          rfl
        · rw [e2 q (by omega) h2, g_In (by omega)]
def sd_K (q1 : Nat) : qM → Option qM := fun M24 => q_ix (3 : Int32) 7 <| if (M24.1 (q1 + 3) (3 : Int32).toNatClampNeg) = 105 then (q_bp (f_Pg_isOneOf (M24.1 q1 0) 11 M24) fun x27 => if x27 = 0 then (some M24) else (q_ix (3 : Int32) 7 <| q_lt (qsI M24 (q1 + 3) (3 : Int32).toNatClampNeg 98) fun M30 => some M30)) else (some M24)
theorem t_sd {n : Nat} {I : Nat → Nat} {E : eT} (hW : wE n I E) {rs : List (selT × List Nat)} {k : Nat} (hk : k < n) {M : qM} (hR : cRs M rs) (hC : eC M n I E) : ∃ M', f_Sheet_setDeclared (7 + 5 * I k) M = some M' ∧ (∀ q, q < 7 → M'.1 (7 + 5 * I k + 3) q = fxD E k q ((fnd (stF E rs k q)).getD (M.1 (7 + 5 * I k + 3) q))) ∧ (∀ P j, P ≠ 290 → P ≠ 7 + 5 * I k + 3 → M'.1 P j = M.1 P j) ∧ M'.2 = M.2 := by
  have hI := (hW.2.2.1 k hk).1
  have hN := (hW.2.2.1 k hk).2.1
  have h12 := hR.2.1
  obtain ⟨M1, a1, a2, a3, a4⟩ := t_sd2 hW hk rs 0 1000 M (fun (M11 : qM) => f_Sheet_setDeclared_34 (7 + 5 * I k) 1000 (sd_K (7 + 5 * I k)) 0 M11) (List.drop_zero ..) hR hC (fun j r h => by omega) (Nat.zero_le _) (by omega)
  have kw1 : kW M M1 := ⟨fun p j q1 q2 => a3 p j q1, a4⟩
  obtain ⟨M2, b1, b2', b3, b4⟩ := t_sd34 hW hk 7 0 1000 M1 (sd_K (7 + 5 * I k)) rfl (cRs_w hR kw1) a2 (by omega)
  have e0 : f_Sheet_setDeclared (7 + 5 * I k) M = sd_K (7 + 5 * I k) M2 := by
    have h1 : f_Sheet_setDeclared (7 + 5 * I k) M = f_Sheet_setDeclared_2 (7 + 5 * I k) 1000 (fun (M11 : qM) => f_Sheet_setDeclared_34 (7 + 5 * I k) 1000 (sd_K (7 + 5 * I k)) 0 M11) 0 M := rfl
    rw [h1]
    exact a1.trans b1
  have v2 : ∀ q, q < 7 → M2.1 (7 + 5 * I k + 3) q = (fnd (stF E rs k q)).getD (M.1 (7 + 5 * I k + 3) q) := fun q hq => by
    rw [b2' q (Nat.zero_le _) hq, a3 _ _ (by omega)]
  have f2 : ∀ P j, P ≠ 290 → P ≠ 7 + 5 * I k + 3 → M2.1 P j = M.1 P j := fun P j q1 q2 => by rw [b3 P j (by omega), a3 P j q1]
  have hnm : M2.1 (7 + 5 * I k) 0 = nI (E k).1 := by rw [f2 _ _ (by omega) (by omega)]; exact (hC.2 k hk).2.1
  have c3 : (3 : Int32).toNatClampNeg = 3 := by decide
  rw [e0]
  unfold sd_K
  rw [show (3 : Int32) = nI 3 from rfl, g_ix (by omega) (by omega), g_ix (by omega) (by omega), g_cl (by omega), hnm, g_one M2 (by omega) (by omega), q_bpE, i_b2]
  by_cases g1 : M2.1 (7 + 5 * I k + 3) 3 = 105
  · rw [if_pos g1]
    by_cases g2 : inS 11 (E k).1 = false
    · rw [if_pos g2]
      refine ⟨M2, rfl, fun q hq => ?_, f2, by rw [b4, a4]⟩
      rw [v2 q hq]
      unfold fxD
      rw [if_neg (by rintro ⟨_, _, h⟩; rw [g2] at h; cases h)]
    · rw [if_neg g2]
      refine ⟨qsI M2 (7 + 5 * I k + 3) 3 98, rfl, fun q hq => ?_, fun P j q1 q2 => by rw [g_In (by omega), f2 P j q1 q2], by rw [show (qsI M2 (7 + 5 * I k + 3) 3 98).2 = M2.2 from rfl, b4, a4]⟩
      unfold fxD
      by_cases q3 : q = 3
      · rw [g_Ie ⟨rfl, q3⟩, if_pos ⟨q3, by rw [← v2 q hq, q3]; exact g1, by simpa using g2⟩]
      · rw [g_In (by omega), if_neg (fun h => q3 h.1), v2 q hq]
  · rw [if_neg g1]
    refine ⟨M2, rfl, fun q hq => ?_, f2, by rw [b4, a4]⟩
    rw [v2 q hq]
    unfold fxD
    rw [if_neg]
    rintro ⟨h1, h2, _⟩
    apply g1
    rw [h1] at h2
    rw [v2 3 (by omega)]
    exact h2
