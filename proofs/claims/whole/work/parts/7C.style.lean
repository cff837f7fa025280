/-! a rule's body; all rules; values -/
theorem r_80 {n i : Nat} (h24 : n ≤ 24) (hi : i < 12) {E : eT} {r : selT × List Nat} (wr : wRu r) {T : List Nat} (hT : T.length ≤ 120) (hTc : ∀ c ∈ T, c < 127) {bs : Nat → Nat → bT} {b : Nat} (hbT : b ≤ T.length) : ∀ (B : List Nat) (k f : Nat) (M : qM) (K : qM → Option qM) (D : List Nat) (a : dT), T.drop k = B ++ T.drop b → k + B.length = b → yX M T → dB M D → M.1 0 32 = nI D.length → (∀ c ∈ D, c < 127) → D.length + B.length ≤ 120 → rBd M n i E r → M.1 20 i = nI b → rVb M n (midF E r bs a) → B.length < f → ∃ M' D' a', f_Md_style_80 (nI i) f K (nI k) M = K M' ∧ bodyF D (nbl B) a = declF D' a' ∧ dB M' D' ∧ M'.1 0 32 = nI D'.length ∧ (∀ c ∈ D', c < 127) ∧ D'.length ≤ 120 ∧ rVb M' n (midF E r bs a') ∧ ∀ p j, ¬ (p = 0 ∧ j = 32) → p ≠ 21 → p ≠ 24 → p ≠ 25 → M'.1 p j = M.1 p j := by
  intro B
  induction B with
  | nil =>
    intro k f M K D a hd hk hY hB h32 hD hl hb h20 hV hf
    obtain ⟨f, rfl⟩ : ∃ g, f = g + 1 := ⟨f - 1, by simp at hf; omega⟩
    have hk' : k = b := hk
    refine ⟨M, D, a, ?_, rfl, hB, h32, hD, by simp at hl; omega, hV, fun _ _ _ _ _ _ => rfl⟩
    rw [f_Md_style_80, g_ix (by omega) (by omega), g_cl (by omega), h20, i_le (by omega) (by omega), if_pos (by omega)]
  | cons c B ih =>
    intro k f M K D a hd hk hY hB h32 hD hl hb h20 hV hf
    obtain ⟨f, rfl⟩ : ∃ g, f = g + 1 := ⟨f - 1, by simp at hf; omega⟩
    have hk' : k + (B.length + 1) = b := hk
    have hl' : D.length + (B.length + 1) ≤ 120 := hl
    have hf' : B.length < f := by simp at hf; omega
    obtain ⟨d1, d2, d3⟩ := dr_s (show T.drop k = c :: (B ++ T.drop b) from hd)
    have hcb := hTc c (List.mem_of_getElem? d2)
    rw [f_Md_style_80, g_ix (by omega) (by omega), g_cl (by omega), h20, i_le (by omega) (by omega), if_neg (by omega), g_ix (by omega) (by omega), g_ix (by omega) (by omega), g_ix (by omega) (by omega), g_cl (by omega), hY k c d2, show (59 : Int32) = nI 59 from rfl, i_eq (by omega) (by omega), show (32 : Int32) = nI 32 from rfl, i_eq (by omega) (by omega), g_inc]
    by_cases q1 : c = 59
    · rw [if_pos q1]
      obtain ⟨M1, a1, a2, a3, a4⟩ := r_declare h24 hi wr hB h32 hD (by omega) hb hV
      rw [a1, q_cvE]
      have e : bodyF D (nbl (c :: B)) a = bodyF [] (nbl B) (declF D a) := by
        have : nbl (c :: B) = c :: nbl B := by
          unfold nbl
          rw [List.filter_cons, if_pos (by simp [q1])]
        rw [this, bodyF, if_pos q1]
      rw [e]
      obtain ⟨M', D', a', x1, x2, x3, x4, x5, x6, x7, x8⟩ := ih (k + 1) f M1 K [] (declF D a) d3 (by omega) (fun j x hj => by rw [a4 _ _ (by omega) (by omega) (by omega)]; exact hY j x hj) (fun j x hj => by simp at hj) (by rw [a3]; rfl) (fun x hx => (by cases hx)) (by simp; omega) (rBd_k hb (a4 _ _ (by omega) (by omega) (by omega)) fun p j hp => a4 _ _ (by omega) (by omega) (by omega)) (by rw [a4 _ _ (by omega) (by omega) (by omega)]; exact h20) a2 hf'
      exact ⟨M', D', a', x1, x2, x3, x4, x5, x6, x7, fun p j q1 q2 q3 q4 => by rw [x8 p j q1 q2 q3 q4, a4 p j q1 q3 q4]⟩
    · rw [if_neg q1]
      by_cases q2 : c = 32
      · rw [if_pos q2]
        have e : nbl (c :: B) = nbl B := by
          unfold nbl
          rw [List.filter_cons, if_neg (by simp [q2])]
        rw [e]
        exact ih (k + 1) f M K D a d3 (by omega) hY hB h32 hD (by omega) hb h20 hV hf'
      · rw [if_neg q2, h32, g_ix (by omega) (by omega), g_cl (by omega), q_ltE, g_In (by omega), h32, g_inc, q_ltE]
        have e : bodyF D (nbl (c :: B)) a = bodyF (D ++ [c]) (nbl B) a := by
          have : nbl (c :: B) = c :: nbl B := by
            unfold nbl
            rw [List.filter_cons, if_pos (by simp [q2])]
          rw [this, bodyF, if_neg q1]
        rw [e]
        have k2 : ∀ p j, ¬ (p = 0 ∧ j = 32) → p ≠ 21 → (qsI (qsI M 21 D.length (nI c)) 0 32 (nI (D.length + 1))).1 p j = M.1 p j := fun p j h1 h2 => by rw [g_In (by omega), g_In (by omega)]
        obtain ⟨M', D', a', x1, x2, x3, x4, x5, x6, x7, x8⟩ := ih (k + 1) f (qsI (qsI M 21 D.length (nI c)) 0 32 (nI (D.length + 1))) K (D ++ [c]) a d3 (by omega) (fun j x hj => by rw [k2 _ _ (by omega) (by omega)]; exact hY j x hj) (fun j x hj => by
          rw [g_In (by omega)]
          rw [List.getElem?_append] at hj
          split at hj
          · rw [g_In (by omega)]
            exact hB j x hj
          · have hz : j - D.length = 0 := by
              have := (List.getElem?_eq_some_iff.mp hj).1
              simp at this
              omega
            rw [hz] at hj
            have hx : c = x := by simpa using hj
            rw [g_Ie ⟨rfl, by omega⟩, hx]) (by rw [g_Ie ⟨rfl, rfl⟩]; simp) (fun x hx => by
          rcases List.mem_append.mp hx with m | m
          · exact hD x m
          · rw [List.mem_singleton.mp m]; exact hcb) (by simp; omega) (rBd_k hb (k2 _ _ (by omega) (by omega)) fun p j hp => k2 _ _ (by omega) (by omega)) (by rw [k2 _ _ (by omega) (by omega)]; exact h20) (fun p k hp hk => by
          rw [k2 _ _ (by omega) (by omega), k2 _ _ (by omega) (by omega)]
          exact hV p k hp hk) hf'
        exact ⟨M', D', a', x1, x2, x3, x4, x5, x6, x7, fun p j q1 q2 q3 q4 => by rw [x8 p j q1 q2 q3 q4, k2 p j q1 q2]⟩
theorem rRu_k {M M' : qM} {T : List Nat} {rs : List (selT × List Nat)} (h : rRs M T rs) (k0 : M'.1 0 22 = M.1 0 22) (k : ∀ p j, 13 ≤ p → p ≤ 20 → M'.1 p j = M.1 p j) : rRs M' T rs := by
  obtain ⟨⟨h1, h2⟩, h3⟩ := h
  exact ⟨⟨by rw [k0]; exact h1, h2⟩, fun i r hi => ⟨rRu_cg (h3 i r hi).1 (h3 i r hi).2 (fun p q1 q2 => k _ _ (by omega) (by omega)) (fun p j hp q1 q2 => k _ _ (by omega) (by omega)), (h3 i r hi).2⟩⟩
/-- all rules -/
theorem r_55 {n : Nat} {I : Nat → Nat} {E : eT} (hW : wE n I E) {rs : List (selT × List Nat)} {T : List Nat} (hT : T.length ≤ 120) (hTc : ∀ c ∈ T, c < 127) (hwr : ∀ r ∈ rs, wRu r) : ∀ (L : List (selT × List Nat)) (i f : Nat) (M : qM) (K : qM → Option qM), rs.drop i = L → i ≤ rs.length → eS M n I E → rRs M T rs → yX M T → rVb M n (fun k p => stF E (rs.take i) k p) → L.length < f → ∃ M', f_Md_style_55 f K (nI i) M = K M' ∧ rVb M' n (fun k p => stF E rs k p) ∧ ∀ p j, ¬ (p = 0 ∧ j = 32) → p ≠ 21 → p ≠ 23 → p ≠ 24 → p ≠ 25 → M'.1 p j = M.1 p j := by
  intro L
  induction L with
  | nil =>
    intro i f M K hL hi hS hR hY hV hf
    obtain ⟨f, rfl⟩ : ∃ g, f = g + 1 := ⟨f - 1, by simp at hf; omega⟩
    have hk2 : rs.length ≤ i := List.drop_eq_nil_iff.mp hL
    have h12 := hR.1.2
    refine ⟨M, ?_, ?_, fun _ _ _ _ _ _ _ => rfl⟩
    · rw [f_Md_style_55, hR.1.1, i_le (by omega) (by omega), if_pos hk2]
    · rw [List.take_of_length_le hk2] at hV
      exact hV
  | cons r L ih =>
    intro i f M K hL hi hS hR hY hV hf
    obtain ⟨f, rfl⟩ : ∃ g, f = g + 1 := ⟨f - 1, by simp at hf; omega⟩
    obtain ⟨d1, d2, d3⟩ := dr_s hL
    have h12 := hR.1.2
    have h24 := hW.1.2
    have hf' : L.length < f := by simp at hf; omega
    have wr := hwr r (List.mem_of_getElem? d2)
    obtain ⟨⟨⟨r16, r17, r18, rS⟩, a, B, rest, r19, r20, rT, rB⟩, _⟩ := hR.2 i r d2
    obtain ⟨M1, m1, m2, m3⟩ := r_match hW (show i < 12 by omega) wr.1.1 wr.1.2.1 wr.1.2.2 hS rS r16
    have k2 : ∀ p j, ¬ (p = 0 ∧ j = 32) → p ≠ 23 → (qsI M1 0 32 0).1 p j = M.1 p j := fun p j h1 h2 => by rw [g_In h1, m3 p j h2]
    have haT : a + B.length + 1 ≤ T.length := by
      have := congrArg List.length rT
      rw [List.length_drop, List.length_append, List.length_cons] at this
      omega
    have hdb : T.drop a = B ++ T.drop (a + B.length) := by
      rw [← List.drop_drop, rT, List.drop_left]
    have hmid : rVb (qsI M1 0 32 0) n (midF E r (fun k p => stF E (rs.take i) k p) dNo) := fun p k hp hk => by
      rw [k2 _ _ (by omega) (by omega), k2 _ _ (by omega) (by omega)]
      have e : midF E r (fun k p => stF E (rs.take i) k p) dNo k p = stF E (rs.take i) k p := by
        unfold midF
        show (if _ then (comb _ _ (-1), comb _ _ (-1)) else _) = _
        rw [comb_n, comb_n]
        split <;> rfl
      rw [e]
      exact hV p k hp hk
    have hbd : rBd (qsI M1 0 32 0) n i E r := ⟨by rw [k2 _ _ (by omega) (by omega)]; exact hS.1, ⟨by rw [k2 _ _ (by omega) (by omega)]; exact r16, by rw [k2 _ _ (by omega) (by omega)]; exact r17, by rw [k2 _ _ (by omega) (by omega)]; exact r18⟩, fun j hj => by rw [g_In (by omega)]; exact m2 j hj⟩
    obtain ⟨M2, D, a', x1, x2, x3, x4, x5, x6, x7, x8⟩ := r_80 h24 (show i < 12 by omega) wr hT hTc (bs := fun k p => stF E (rs.take i) k p) (b := a + B.length) (by omega) B a 1000 (qsI M1 0 32 0) (fun (M39 : qM) => q_cv (f_Md_declare (nI i) M39) fun M40 => f_Md_style_55 f K (nI i + 1) M40) [] dNo hdb rfl (fun j x hj => by rw [k2 _ _ (by omega) (by omega)]; exact hY j x hj) (fun j x hj => by simp at hj) (g_Ie ⟨rfl, rfl⟩) (fun x hx => (by cases hx)) (by simp; omega) hbd (by rw [k2 _ _ (by omega) (by omega)]; exact r20) hmid (by omega)
    obtain ⟨M3, y1, y2, y3, y4⟩ := r_declare h24 (show i < 12 by omega) wr x3 x4 x5 x6 (rBd_k hbd (x8 _ _ (by omega) (by omega) (by omega) (by omega)) fun p j hp => x8 _ _ (by omega) (by omega) (by omega) (by omega)) x7
    rw [← x2] at y2
    have k3 : ∀ p j, ¬ (p = 0 ∧ j = 32) → p ≠ 21 → p ≠ 23 → p ≠ 24 → p ≠ 25 → M3.1 p j = M.1 p j := fun p j q1 q2 q3 q4 q5 => by rw [y4 p j q1 q4 q5, x8 p j q1 q2 q4 q5, k2 p j q1 q3]
    have hV3 : rVb M3 n (fun k p => stF E (rs.take (i + 1)) k p) := rVb_cg y2 fun k p hk hp => by
      have e : rs.take (i + 1) = rs.take i ++ [r] := by
        rw [List.take_add_one, d2]
        rfl
      rw [e, stF_s]
      unfold stS midF
      rw [rB]
    obtain ⟨M', e1, e2, e3⟩ := ih (i + 1) f M3 K d3 (by omega) (eS_k hS (k3 _ _ (by omega) (by omega) (by omega) (by omega) (by omega)) fun p j hp => k3 _ _ (by omega) (by omega) (by omega) (by omega) (by omega)) (rRu_k hR (k3 _ _ (by omega) (by omega) (by omega) (by omega) (by omega)) fun p j q1 q2 => k3 _ _ (by omega) (by omega) (by omega) (by omega) (by omega)) (fun j x hj => by rw [k3 _ _ (by omega) (by omega) (by omega) (by omega) (by omega)]; exact hY j x hj) hV3 hf'
    refine ⟨M', ?_, e2, fun p j q1 q2 q3 q4 q5 => by rw [e3 p j q1 q2 q3 q4 q5, k3 p j q1 q2 q3 q4 q5]⟩
    rw [f_Md_style_55, hR.1.1, i_le (by omega) (by omega), if_neg (by omega), m1, q_cvE, q_ltE, g_ix (by omega) (by omega), g_cl (by omega), k2 _ _ (by omega) (by omega), r19, q_ltE, x1, y1, q_cvE, g_inc]
    exact e1
