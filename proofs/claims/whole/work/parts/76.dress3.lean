/-! defaults, and the walk over all nodes -/
theorem x7_0 {β : Type} (k : Option β) : q_ix (0 : Int32) 7 k = k := rfl
theorem x7_1 {β : Type} (k : Option β) : q_ix (1 : Int32) 7 k = k := rfl
theorem x7_2 {β : Type} (k : Option β) : q_ix (2 : Int32) 7 k = k := rfl
theorem x7_3 {β : Type} (k : Option β) : q_ix (3 : Int32) 7 k = k := rfl
theorem x7_4 {β : Type} (k : Option β) : q_ix (4 : Int32) 7 k = k := rfl
theorem x7_5 {β : Type} (k : Option β) : q_ix (5 : Int32) 7 k = k := rfl
theorem x7_6 {β : Type} (k : Option β) : q_ix (6 : Int32) 7 k = k := rfl
theorem c7_0 : (0 : Int32).toNatClampNeg = 0 := rfl
theorem c7_1 : (1 : Int32).toNatClampNeg = 1 := rfl
theorem c7_2 : (2 : Int32).toNatClampNeg = 2 := rfl
theorem c7_3 : (3 : Int32).toNatClampNeg = 3 := rfl
theorem c7_4 : (4 : Int32).toNatClampNeg = 4 := rfl
theorem c7_5 : (5 : Int32).toNatClampNeg = 5 := rfl
theorem c7_6 : (6 : Int32).toNatClampNeg = 6 := rfl
def dfv_4 (q0 : Nat) (M9 : qM) (x10 : Int32) : Option qM := some (qsI (qsI (qsI (qsI M9 (q0 + 3) 3 x10) (q0 + 3) 4 0) (q0 + 3) 5 0) (q0 + 3) 6 (-1))
def dfv_3 (q0 : Nat) (M9 : qM) : Option qM := if (M9.1 q0 0) = 0 then (dfv_4 q0 M9 98) else (q_bp (f_Pg_isOneOf (M9.1 q0 0) 8 M9) fun x22 => if x22 = 0 then (dfv_4 q0 M9 105) else (dfv_4 q0 M9 98))
def dfv_2 (q0 : Nat) (M : qM) (x2 : Int32) : qM := qsI (qsI M (q0 + 3) 0 x2) (q0 + 3) 1 0
theorem dfv_n (q0 : Nat) (M : qM) (h : M.2 q0 4 = none) : f_Sheet_setDefaults q0 M = dfv_3 q0 (qsI (dfv_2 q0 M 1) (q0 + 3) 2 1) := by
  unfold f_Sheet_setDefaults
  rw [h]
  rfl
theorem dfv_p (q0 o : Nat) (M : qM) (h : M.2 q0 4 = some o) : f_Sheet_setDefaults q0 M = dfv_3 q0 (qsI (dfv_2 q0 M (M.1 (o + 3) 0)) (q0 + 3) 2 ((dfv_2 q0 M (M.1 (o + 3) 0)).1 (o + 3) 2)) := by
  unfold f_Sheet_setDefaults
  rw [h]
  rfl
theorem t_df3 {q0 nm : Nat} {M9 : qM} (h : M9.1 q0 0 = nI nm) (hn : nm < 200) : ∃ M', dfv_3 q0 M9 = some M' ∧ M'.1 (q0 + 3) 3 = (if nm = 0 then 98 else if inS 8 nm = true then 98 else 105) ∧ M'.1 (q0 + 3) 4 = 0 ∧ M'.1 (q0 + 3) 5 = 0 ∧ M'.1 (q0 + 3) 6 = -1 ∧ (∀ P j, ¬ (P = q0 + 3 ∧ 3 ≤ j) → M'.1 P j = M9.1 P j) ∧ M'.2 = M9.2 := by
  have fin : ∀ x, ∃ M', dfv_4 q0 M9 x = some M' ∧ M'.1 (q0 + 3) 3 = x ∧ M'.1 (q0 + 3) 4 = 0 ∧ M'.1 (q0 + 3) 5 = 0 ∧ M'.1 (q0 + 3) 6 = -1 ∧ (∀ P j, ¬ (P = q0 + 3 ∧ 3 ≤ j) → M'.1 P j = M9.1 P j) ∧ M'.2 = M9.2 := fun x => by
    refine ⟨_, rfl, ?_, ?_, ?_, ?_, fun P j h => ?_, rfl⟩
    · rw [g_In (by omega), g_In (by omega), g_In (by omega), g_Ie ⟨rfl, rfl⟩]
    · rw [g_In (by omega), g_In (by omega), g_Ie ⟨rfl, rfl⟩]
    · rw [g_In (by omega), g_Ie ⟨rfl, rfl⟩]
    · rw [g_Ie ⟨rfl, rfl⟩]
    · rw [g_In (by omega), g_In (by omega), g_In (by omega), g_In (by omega)]
  unfold dfv_3
  rw [h, ← l_0, i_eq (by omega) (by omega), g_one M9 (by omega) (by omega), q_bpE, l_0, i_b2]
  by_cases q : nm = 0
  · rw [if_pos q, if_pos q]
    exact fin 98
  · rw [if_neg q, if_neg q]
    by_cases q2 : inS 8 nm = false
    · rw [if_pos q2, if_neg (by rw [q2]; decide)]
      exact fin 105
    · rw [if_neg q2, if_pos (by simpa using q2)]
      exact fin 98
theorem p7 {p : Nat} (h : p < 7) : p = 0 ∨ p = 1 ∨ p = 2 ∨ p = 3 ∨ p = 4 ∨ p = 5 ∨ p = 6 := by omega
theorem t_def {n : Nat} {I : Nat → Nat} {E : eT} (hW : wE n I E) {k : Nat} (hk : k < n) {M : qM} (hC : eC M n I E) {V : Nat → Nat → Int32} (hV : 0 < k → M.1 (7 + 5 * I (E k).2.2 + 3) 0 = V (E k).2.2 0 ∧ M.1 (7 + 5 * I (E k).2.2 + 3) 2 = V (E k).2.2 2) : ∃ M', f_Sheet_setDefaults (7 + 5 * I k) M = some M' ∧ (∀ q, q < 7 → M'.1 (7 + 5 * I k + 3) q = dfl E V k q) ∧ (∀ P j, P ≠ 7 + 5 * I k + 3 → M'.1 P j = M.1 P j) ∧ M'.2 = M.2 := by
  have hI := (hW.2.2.1 k hk).1
  have hN := (hW.2.2.1 k hk).2.1
  have hpar := (hC.2 k hk).2.2.2
  have main : ∀ x0 x2, x0 = dfl E V k 0 → x2 = dfl E V k 2 → ∃ M', dfv_3 (7 + 5 * I k) (qsI (dfv_2 (7 + 5 * I k) M x0) (7 + 5 * I k + 3) 2 x2) = some M' ∧ (∀ q, q < 7 → M'.1 (7 + 5 * I k + 3) q = dfl E V k q) ∧ (∀ P j, P ≠ 7 + 5 * I k + 3 → M'.1 P j = M.1 P j) ∧ M'.2 = M.2 := by
    intro x0 x2 e0 e2
    have hnm : (qsI (dfv_2 (7 + 5 * I k) M x0) (7 + 5 * I k + 3) 2 x2).1 (7 + 5 * I k) 0 = nI (E k).1 := by
      unfold dfv_2
      rw [g_In (by omega), g_In (by omega), g_In (by omega)]
      exact (hC.2 k hk).2.1
    obtain ⟨M', a1, a3, a4, a5, a6, aF, a2⟩ := t_df3 hnm (by omega)
    refine ⟨M', a1, fun q hq => ?_, fun P j hP => ?_, a2⟩
    · rcases p7 hq with rfl | rfl | rfl | rfl | rfl | rfl | rfl
      · rw [aF _ _ (by omega)]
        unfold dfv_2
        rw [g_In (by omega), g_In (by omega), g_Ie ⟨rfl, rfl⟩]
        exact e0
      · rw [aF _ _ (by omega)]
        unfold dfv_2
        rw [g_In (by omega), g_Ie ⟨rfl, rfl⟩]
        rfl
      · rw [aF _ _ (by omega), g_Ie ⟨rfl, rfl⟩]
        exact e2
      · rw [a3]
        show _ = (if k = 0 then (98 : Int32) else if inS 8 (E k).1 = true then 98 else 105)
        by_cases h0 : k = 0
        · rw [if_pos h0, h0, if_pos hW.2.1]
        · rw [if_neg h0, if_neg (hW.2.2.2.1 k (by omega) hk).2.1]
      · rw [a4]; rfl
      · rw [a5]; rfl
      · rw [a6]; rfl
    · rw [aF P j (by omega)]
      unfold dfv_2
      rw [g_In (by omega), g_In (by omega), g_In (by omega)]
  by_cases h0 : k = 0
  · rw [if_pos h0] at hpar
    rw [dfv_n _ _ hpar]
    refine main 1 1 ?_ ?_
    · show _ = (if k = 0 then (1 : Int32) else _)
      rw [if_pos h0]
    · show _ = (if k = 0 then (1 : Int32) else _)
      rw [if_pos h0]
  · rw [if_neg h0] at hpar
    have hpj := hW.2.2.2.1 k (by omega) hk
    have hne : I (E k).2.2 ≠ I k := fun h => by
      have := hW.2.2.2.2 _ _ (by omega) hk h
      omega
    rw [dfv_p _ _ _ hpar]
    refine main _ _ ?_ ?_
    · show _ = (if k = 0 then (1 : Int32) else _)
      rw [if_neg h0, (hV (by omega)).1]
    · show _ = (if k = 0 then (1 : Int32) else _)
      unfold dfv_2
      rw [if_neg h0, g_In (by omega), g_In (by omega), (hV (by omega)).2]
/-- what is dressed up to a place -/
def cV (M : qM) (n : Nat) (I : Nat → Nat) (E : eT) (V : Nat → Nat → Int32) : Prop := ∀ k, k < n → (E k).1 ≠ 1 → ∀ p, p < 7 → M.1 (7 + 5 * I k + 3) p = V k p
theorem stF_no {E : eT} {rs : List (selT × List Nat)} {k p : Nat} (h : ¬ 2 ≤ (E k).1) : stF E rs k p = (none, none) := by
  have hf : ∀ (ps : List pT) m, fitF E ps m k = false := fun ps m => by
    cases m with
    | zero => rfl
    | succ m =>
      rw [fitF]
      split
      · rfl
      · unfold partF
        rw [decide_eq_false h]
        rfl
  unfold stF
  have : ∀ (L : List (selT × List Nat)) b, L.foldl (stS E k p) b = b := fun L => by
    induction L with
    | nil => intro b; rfl
    | cons r L ih =>
      intro b
      show L.foldl (stS E k p) (stS E k p b r) = b
      have : stS E k p b r = b := by
        unfold stS
        rw [if_neg (by rw [hf]; decide)]
      rw [this]
      exact ih b
  exact this rs _
def dr_J (o7 n : Nat) (K3 : qM → Option qM) (x : Int32) (M8 : qM) : Option qM := q_bp (f_Node_isElement o7 M8) fun x9 => if x9 = 0 then (f_Sheet_dress_2 n K3 x M8) else (q_cv (f_Sheet_setDeclared o7 M8) fun M11 => f_Sheet_dress_2 n K3 x M11)
theorem t_dress2 {n : Nat} {I : Nat → Nat} {E : eT} (hW : wE n I E) {rs : List (selT × List Nat)} : ∀ (m k f : Nat) (M : qM) (K : qM → Option qM), k + m = n → cRs M rs → eC M n I E → cV M k I E (vF E rs) → m < f → ∃ M', f_Sheet_dress_2 f K (nI k) M = K M' ∧ cV M' n I E (vF E rs) ∧ kW M M' := by
  intro m
  induction m with
  | zero =>
    intro k f M K hk hR hC hV hf
    obtain ⟨f, rfl⟩ : ∃ g, f = g + 1 := ⟨f - 1, by omega⟩
    have h24 := hW.1.2
    refine ⟨M, ?_, by rw [show n = k by omega]; exact hV, kW_r M⟩
    rw [f_Sheet_dress_2, hC.1, i_le (by omega) (by omega), if_pos (by omega)]
  | succ m ih =>
    intro k f M K hk hR hC hV hf
    obtain ⟨f, rfl⟩ : ∃ g, f = g + 1 := ⟨f - 1, by omega⟩
    have h24 := hW.1.2
    have hI := (hW.2.2.1 k (by omega)).1
    have hN := (hW.2.2.1 k (by omega)).2.1
    have hinj : ∀ j, j < n → j ≠ k → I j ≠ I k := fun j hj hne h => hne (hW.2.2.2.2 j k hj (by omega) h)
    obtain ⟨c1, c2, c3, c4⟩ := hC.2 k (by omega)
    rw [f_Sheet_dress_2, hC.1, i_le (by omega) (by omega), if_neg (by omega), g_ix (by omega) (by omega), g_cl (by omega), c1, q_ltE]
    show ∃ M', (if (M.1 (7 + 5 * I k) 0) = 1 then (dr_J (7 + 5 * I k) f K (nI k + 1) M) else (q_cv (f_Sheet_setDefaults (7 + 5 * I k) M) fun M14 => dr_J (7 + 5 * I k) f K (nI k + 1) M14)) = K M' ∧ _
    rw [c2, i_eq1 (by omega), g_inc]
    by_cases h1 : (E k).1 = 1
    · unfold dr_J
      rw [if_pos h1, t_el c2 (by omega), q_bpE, i_b2, if_pos (decide_eq_false (by omega))]
      refine ih (k + 1) f M K (by omega) hR hC (fun j hj hn p hp => ?_) (by omega)
      exact hV j (by have : j ≠ k := fun h => hn (by rw [h]; exact h1); omega) hn p hp
    · rw [if_neg h1]
      have hVp : 0 < k → M.1 (7 + 5 * I (E k).2.2 + 3) 0 = vF E rs (E k).2.2 0 ∧ M.1 (7 + 5 * I (E k).2.2 + 3) 2 = vF E rs (E k).2.2 2 := fun h0 => by
        have hp := hW.2.2.2.1 k h0 (by omega)
        exact ⟨hV _ hp.1 hp.2.2 0 (by omega), hV _ hp.1 hp.2.2 2 (by omega)⟩
      obtain ⟨M14, d1, d2, d3, d4⟩ := t_def hW (k := k) (by omega) hC hVp
      have kw14 : kW M M14 := ⟨fun p j q1 q2 => d3 p j (by omega), d4⟩
      have n14 : M14.1 (7 + 5 * I k) 0 = nI (E k).1 := by rw [d3 _ _ (by omega)]; exact c2
      have hvE : ∀ p, vF E rs k p = vS E rs (vF E rs) k p := fun p => vF_e fun h0 => (hW.2.2.2.1 k h0 (by omega)).1
      rw [d1, q_cvE]
      unfold dr_J
      rw [t_el n14 (by omega), q_bpE, i_b2]
      by_cases h2 : 2 ≤ (E k).1
      · rw [if_neg (by rw [decide_eq_true h2]; decide)]
        obtain ⟨M11, s1, s2, s3, s4⟩ := t_sd hW (k := k) (by omega) (cRs_w hR kw14) (eC_w hC hW kw14)
        have kw11 : kW M14 M11 := ⟨fun p j q1 q2 => s3 p j q1 (by omega), s4⟩
        rw [s1, q_cvE]
        obtain ⟨M', e1, e2, e3⟩ := ih (k + 1) f M11 K (by omega) (cRs_w (cRs_w hR kw14) kw11) (eC_w (eC_w hC hW kw14) hW kw11) (fun j hj hn p hp => by
          by_cases q : j = k
          · rw [q, s2 p hp, d2 p hp, hvE p]
            rfl
          · have := hinj j (by omega) q
            have hIj := (hW.2.2.1 j (by omega)).1
            rw [s3 _ _ (by omega) (by omega), d3 _ _ (by omega)]
            exact hV j (by omega) hn p hp) (by omega)
        exact ⟨M', e1, e2, kW_t (kW_t kw14 kw11) e3⟩
      · rw [if_pos (decide_eq_false h2)]
        obtain ⟨M', e1, e2, e3⟩ := ih (k + 1) f M14 K (by omega) (cRs_w hR kw14) (eC_w hC hW kw14) (fun j hj hn p hp => by
          by_cases q : j = k
          · rw [q, d2 p hp, hvE p]
            unfold vS
            rw [stF_no h2]
            show _ = fxD E k p (dfl E (vF E rs) k p)
            unfold fxD
            rw [if_neg]
            rintro ⟨_, _, h3⟩
            have h0 : (E k).1 = 0 := by omega
            rw [h0] at h3
            exact absurd h3 (by decide +kernel)
          · have := hinj j (by omega) q
            rw [d3 _ _ (by omega)]
            exact hV j (by omega) hn p hp) (by omega)
        exact ⟨M', e1, e2, kW_t kw14 e3⟩
theorem t_dress {n : Nat} {I : Nat → Nat} {E : eT} (hW : wE n I E) {rs : List (selT × List Nat)} {M : qM} (hR : cRs M rs) (hC : eC M n I E) : ∃ M', f_Sheet_dress M = some M' ∧ cV M' n I E (vF E rs) ∧ kW M M' := by
  have h24 := hW.1.2
  obtain ⟨M', e1, e2, e3⟩ := t_dress2 hW n 0 1000 M (fun (M15 : qM) => some M15) (by omega) hR hC (fun k hk => by omega) (by omega)
  exact ⟨M', e1, e2, e3⟩
