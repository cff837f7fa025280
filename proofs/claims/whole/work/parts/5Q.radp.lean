/-! the reference's side: an element taken over -/
theorem r_ad4 {M : qM} {s : aT} (w : Wf s) (hn : rNm M s) (hs : rSt M s) {b : Nat} : ∀ m k f K, k + m = sH s → m < f → fstI (fun j => inS 3 (sNm s (sSf s j))) m k = some b → f_Md_adopt_4 M f K (nI k) = K (nI b) := by
  have hh : sH s ≤ 24 := by have := w.1.2.2.1.2; have := w.1.1.2; omega
  intro m
  induction m with
  | zero => intro k f K _ _ h; cases h
  | succ m ih =>
    intro k f K hk hf h
    obtain ⟨f, rfl⟩ : ∃ g, f = g + 1 := ⟨f - 1, by omega⟩
    have hbk := w.1.2.2.2.1 k (by omega)
    have e1 := hs.2 k (by omega)
    have e2 := r_named w hn hbk bit_3
    rw [f_Md_adopt_4, hs.1, i_le (by omega) (by omega), if_neg (by omega), g_ix (by omega) (by omega), g_cl (by omega), e1, e2]
    show (if b2 (inS 3 (sNm s (sSf s k))) = 0 then _ else _) = _
    rw [i_b2]
    unfold fstI at h
    by_cases q : inS 3 (sNm s (sSf s k)) = true
    · rw [if_pos q] at h
      cases h
      rw [if_neg (by simp [q])]
    · rw [if_neg q] at h
      rw [if_pos (by simpa using q), g_inc]
      exact ih (k + 1) f K (by omega) (by omega) h
theorem r_ad63 {x n : Nat} (hn : x + n ≤ 24) : ∀ m k f K M, k + m = n → m < f → ∃ M', f_Md_adopt_63 (nI (x + n)) (nI x) f K (nI k) M = K M' ∧ (∀ p j, p ≠ 7 → M'.1 p j = M.1 p j) ∧ (∀ j, k ≤ j → j < n → M'.1 7 j = M.1 3 (x + j)) ∧ ∀ j, j < k → M'.1 7 j = M.1 7 j := by
  have es : nI (x + n) - nI x = nI n := by rw [g_sub (by omega), Nat.add_sub_cancel_left]
  intro m
  induction m with
  | zero =>
    intro k f K M hk hf
    obtain ⟨f, rfl⟩ : ∃ g, f = g + 1 := ⟨f - 1, by omega⟩
    refine ⟨M, ?_, fun _ _ _ => rfl, fun j h1 h2 => by omega, fun _ _ => rfl⟩
    rw [f_Md_adopt_63, es, i_le (by omega) (by omega), if_pos (by omega)]
  | succ m ih =>
    intro k f K M hk hf
    obtain ⟨f, rfl⟩ : ∃ g, f = g + 1 := ⟨f - 1, by omega⟩
    obtain ⟨M', e1, e2, e3, e4⟩ := ih (k + 1) f K (qsI M 7 k (M.1 3 (x + k))) (by omega) (by omega)
    refine ⟨M', ?_, fun p j hp => ?_, fun j h1 h2 => ?_, fun j hj => ?_⟩
    · rw [f_Md_adopt_63, es, i_le (by omega) (by omega), if_neg (by omega), g_add, g_ix (by omega) (by omega), g_ix (by omega) (by omega), g_cl (by omega), g_cl (by omega), g_inc]
      exact e1
    · rw [e2 p j hp, g_In (by omega)]
    · by_cases q : k + 1 ≤ j
      · rw [e3 j q h2, g_In (by omega)]
      · have : j = k := by omega
        subst this
        rw [e4 j (by omega), g_Ie ⟨rfl, rfl⟩]
    · rw [e4 j (by omega), g_In (by omega)]
theorem r_ad108 {x n c : Nat} (hn : x + n ≤ 24) (hc : c + n ≤ 24) : ∀ m k f K M, M.1 0 5 = nI c → k + m = c → m < f → ∃ M', f_Md_adopt_108 (nI (x + n)) (nI x) f K (nI k) M = K M' ∧ (∀ p j, p ≠ 3 → M'.1 p j = M.1 p j) ∧ (∀ j, k ≤ j → j < c → M'.1 3 j = M.1 3 (j + n)) ∧ ∀ j, j < k → M'.1 3 j = M.1 3 j := by
  have es : nI (x + n) - nI x = nI n := by rw [g_sub (by omega), Nat.add_sub_cancel_left]
  intro m
  induction m with
  | zero =>
    intro k f K M h5 hk hf
    obtain ⟨f, rfl⟩ : ∃ g, f = g + 1 := ⟨f - 1, by omega⟩
    refine ⟨M, ?_, fun _ _ _ => rfl, fun j h1 h2 => by omega, fun _ _ => rfl⟩
    rw [f_Md_adopt_108, h5, i_le (by omega) (by omega), if_pos (by omega)]
  | succ m ih =>
    intro k f K M h5 hk hf
    obtain ⟨f, rfl⟩ : ∃ g, f = g + 1 := ⟨f - 1, by omega⟩
    by_cases hn0 : n = 0
    · subst hn0
      obtain ⟨M', e1, e2, e3, e4⟩ := ih (k + 1) f K (qsI M 3 k (M.1 3 (k + 0))) (by rw [g_In (by omega)]; exact h5) (by omega) (by omega)
      have hM : ∀ p j, (qsI M 3 k (M.1 3 (k + 0))).1 p j = M.1 p j := fun p j => by
        by_cases q : p = 3 ∧ j = k
        · rw [g_Ie q, q.1, q.2]
          rfl
        · rw [g_In q]
      refine ⟨M', ?_, fun p j hp => ?_, fun j h1 h2 => ?_, fun j hj => ?_⟩
      · rw [f_Md_adopt_108, h5, es, i_le (by omega) (by omega), if_neg (by omega), g_add, g_ix (by omega) (by omega), g_ix (by omega) (by omega), g_cl (by omega), g_cl (by omega), g_inc]
        exact e1
      · rw [e2 p j hp, hM]
      · by_cases q : k + 1 ≤ j
        · rw [e3 j q h2, hM]
        · have : j = k := by omega
          subst this
          rw [e4 j (by omega), hM]
          rfl
      · rw [e4 j (by omega), hM]
    · obtain ⟨M', e1, e2, e3, e4⟩ := ih (k + 1) f K (qsI M 3 k (M.1 3 (k + n))) (by rw [g_In (by omega)]; exact h5) (by omega) (by omega)
      refine ⟨M', ?_, fun p j hp => ?_, fun j h1 h2 => ?_, fun j hj => ?_⟩
      · rw [f_Md_adopt_108, h5, es, i_le (by omega) (by omega), if_neg (by omega), g_add, g_ix (by omega) (by omega), g_ix (by omega) (by omega), g_cl (by omega), g_cl (by omega), g_inc]
        exact e1
      · rw [e2 p j hp, g_In (by omega)]
      · by_cases q : k + 1 ≤ j
        · rw [e3 j q h2, g_In (by omega)]
        · have : j = k := by omega
          subst this
          rw [e4 j (by omega), g_Ie ⟨rfl, rfl⟩]
      · rw [e4 j (by omega), g_In (by omega)]
theorem r_ad173 {x n a : Nat} {M28 : qM} (hn : x + n ≤ 24) (h0 : 1 ≤ n) (h20 : M28.1 0 20 = nI a) (ha : a ≤ 24) : ∀ m k f K M, a + m = k → k + n ≤ 24 → m < f → ∃ M', f_Md_adopt_173 M28 (nI (x + n)) (nI x) f K (dI k) M = K M' ∧ (∀ p j, p ≠ 3 → M'.1 p j = M.1 p j) ∧ (∀ j, a ≤ j → j < k → M'.1 3 (j + n) = M.1 3 j) ∧ ∀ j, j < a + n ∨ k + n ≤ j → M'.1 3 j = M.1 3 j := by
  have es : nI (x + n) - nI x = nI n := by rw [g_sub (by omega), Nat.add_sub_cancel_left]
  intro m
  induction m with
  | zero =>
    intro k f K M hk hk2 hf
    obtain ⟨f, rfl⟩ : ∃ g, f = g + 1 := ⟨f - 1, by omega⟩
    refine ⟨M, ?_, fun _ _ _ => rfl, fun j h1 h2 => by omega, fun _ _ => rfl⟩
    have hlt : dI k < nI a := by
      cases k with
      | zero =>
        have : dI 0 = -1 := by decide
        rw [this, Int32.lt_iff_toInt_lt, nI_toInt (by omega)]
        have : (-1 : Int32).toInt = -1 := by decide
        omega
      | succ k =>
        rw [d_s, g_lt (by omega) (by omega)]
        omega
    rw [f_Md_adopt_173, h20, if_pos hlt]
  | succ m ih =>
    intro k f K M hk hk2 hf
    obtain ⟨f, rfl⟩ : ∃ g, f = g + 1 := ⟨f - 1, by omega⟩
    obtain ⟨k, rfl⟩ : ∃ g, k = g + 1 := ⟨k - 1, by omega⟩
    obtain ⟨M', e1, e2, e3, e4⟩ := ih k f K (qsI M 3 (k + n) (M.1 3 k)) (by omega) (by omega) (by omega)
    refine ⟨M', ?_, fun p j hp => ?_, fun j h1 h2 => ?_, fun j hj => ?_⟩
    · rw [f_Md_adopt_173, h20, d_s, i_lt (by omega) (by omega), if_neg (by omega), es, g_add, g_ix (by omega) (by omega), g_ix (by omega) (by omega), g_cl (by omega), g_cl (by omega), d_m]
      exact e1
    · rw [e2 p j hp, g_In (by omega)]
    · by_cases q : j < k
      · rw [e3 j h1 q, g_In (by omega)]
      · have : j = k := by omega
        subst this
        rw [e4 (j + n) (by omega), g_Ie ⟨rfl, rfl⟩]
    · rw [e4 j (by omega), g_In (by omega)]
theorem g_mv {a b c : Nat} (h : c ≤ a) : nI a + (nI b - nI c) = nI (a - c + b) := by
  have e : nI a = nI (a - c) + nI c := by rw [g_add, Nat.sub_add_cancel h]
  rw [e, ← g_add, Int32.add_assoc]
  congr 1
  rw [Int32.sub_eq_add_neg, Int32.add_comm (nI b), ← Int32.add_assoc, Int32.add_right_neg, Int32.zero_add]
theorem r_ad217 {x n a d eb : Nat} {M28 : qM} {V : List (Nat × Nat)} (hn : x + n ≤ 24) (hV : V.length = n) (h20 : M28.1 0 20 = nI a) (ha : a + n ≤ 24) (nd : (fI V).Nodup) (hid : ∀ q ∈ V, q.1 < 24 ∧ eb ≤ q.2) : ∀ m k f K M, (∀ j i e, V[j]? = some (i, e) → M.1 7 j = nI i) → (∀ j i e, k ≤ j → V[j]? = some (i, e) → M.1 6 i = nI e) → k + m = n → m < f → ∃ M', f_Md_adopt_217 (nI (x + n)) (nI x) M28 (nI d - nI eb) f K (nI k) M = K M' ∧ (∀ p j, p ≠ 3 → p ≠ 6 → M'.1 p j = M.1 p j) ∧ (∀ j i e, k ≤ j → V[j]? = some (i, e) → M'.1 3 (a + j) = nI i ∧ M'.1 6 i = nI (e - eb + d + (if j = 0 then 0 else 1))) ∧ (∀ j, j < a + k ∨ a + n ≤ j → M'.1 3 j = M.1 3 j) ∧ ∀ i, (∀ j e, k ≤ j → V[j]? ≠ some (i, e)) → M'.1 6 i = M.1 6 i := by
  have es : nI (x + n) - nI x = nI n := by rw [g_sub (by omega), Nat.add_sub_cancel_left]
  intro m
  induction m with
  | zero =>
    intro k f K M h7 h6 hk hf
    obtain ⟨f, rfl⟩ : ∃ g, f = g + 1 := ⟨f - 1, by omega⟩
    refine ⟨M, ?_, fun _ _ _ _ => rfl, fun j i e h1 h2 => ?_, fun _ _ => rfl, fun _ _ => rfl⟩
    · rw [f_Md_adopt_217, es, i_le (by omega) (by omega), if_pos (by omega)]
    · have := (List.getElem?_eq_some_iff.mp h2).1
      omega
  | succ m ih =>
    intro k f K M h7 h6 hk hf
    obtain ⟨f, rfl⟩ : ∃ g, f = g + 1 := ⟨f - 1, by omega⟩
    have hk2 : k < V.length := by omega
    have e0 : V[k]? = some (V[k].1, V[k].2) := List.getElem?_eq_getElem hk2
    have a7 := h7 k _ _ e0
    have a6 := h6 k _ _ (Nat.le_refl k) e0
    have hb := hid _ (List.getElem_mem hk2)
    -- the others are other nodes
    have oth : ∀ j i e, k + 1 ≤ j → V[j]? = some (i, e) → i ≠ V[k].1 := fun j i e h1 h2 q => by
      have h3 := fI_get h2
      rw [q] at h3
      have := nd_inj nd h3 (fI_get e0)
      omega
    obtain ⟨M', e1, e2, e3, e4, e5⟩ := ih (k + 1) f K (qsI (qsI M 3 (a + k) (nI V[k].1)) 6 V[k].1 (nI (V[k].2 - eb + d + (if k = 0 then 0 else 1)))) (fun j i e h => by rw [g_In (by omega), g_In (by omega)]; exact h7 j i e h) (fun j i e h1 h2 => by
      have := oth j i e h1 h2
      rw [g_In (by omega), g_In (by omega)]
      exact h6 j i e (by omega) h2) (by omega) (by omega)
    refine ⟨M', ?_, fun p j h1 h2 => ?_, fun j i e h1 h2 => ?_, fun j hj => ?_, fun i hi => ?_⟩
    · rw [f_Md_adopt_217, es, i_le (by omega) (by omega), if_neg (by omega), h20, g_add]
      simp (disch := omega) only [g_ix, g_cl, a7, q_lt, g_In, a6]
      by_cases q : k = 0
      · rw [if_pos q] at e1
        rw [if_pos (by rw [q]; rfl), g_mv hb.2, g_inc]
        exact e1
      · rw [if_neg q] at e1
        rw [if_neg (by rw [← l_0, g_eq (by omega) (by omega)]; exact q), ← Int32.add_assoc, g_mv hb.2, g_inc, g_inc]
        exact e1
    · rw [e2 p j h1 h2, g_In (by omega), g_In (by omega)]
    · by_cases q : k + 1 ≤ j
      · exact e3 j i e q h2
      · have : j = k := by omega
        subst this
        have h2' : V[j].1 = i ∧ V[j].2 = e := by
          have := Option.some.inj (e0.symm.trans h2)
          simpa using this
        rw [← h2'.1, ← h2'.2]
        constructor
        · rw [e4 (a + j) (by omega), g_In (by omega), g_Ie ⟨rfl, rfl⟩]
        · rw [e5 _ (fun j' e' h3 h4 => oth j' _ e' h3 h4 rfl), g_Ie ⟨rfl, rfl⟩]
    · rw [e4 j (by omega), g_In (by omega), g_In (by omega)]
    · rw [e5 i (fun j e h1 h2 => hi j e (by omega) h2), g_In (fun q => hi k V[k].2 (Nat.le_refl k) (by rw [q.2]; exact e0)), g_In (by omega)]
theorem r_ad279 {e b h : Nat} {sf : Nat → Nat} (heb : e < b) (hb : b ≤ h) (hh : h ≤ 24) : ∀ m k f K M, M.1 0 13 = nI h → (∀ j, k ≤ j → j < h → M.1 8 j = nI (sf j)) → b ≤ k → k + m = h → m < f → ∃ M', f_Md_adopt_279 (nI e) (nI b) f K (nI k) M = K M' ∧ (∀ p j, p ≠ 8 → M'.1 p j = M.1 p j) ∧ (∀ j, k ≤ j → j < h → M'.1 8 (e + j - b) = nI (sf j)) ∧ ∀ j, j < e + k - b → M'.1 8 j = M.1 8 j := by
  intro m
  induction m with
  | zero =>
    intro k f K M h13 hM hk1 hk hf
    obtain ⟨f, rfl⟩ : ∃ g, f = g + 1 := ⟨f - 1, by omega⟩
    refine ⟨M, ?_, fun _ _ _ => rfl, fun j h1 h2 => by omega, fun _ _ => rfl⟩
    rw [f_Md_adopt_279, h13, i_le (by omega) (by omega), if_pos (by omega)]
  | succ m ih =>
    intro k f K M h13 hM hk1 hk hf
    obtain ⟨f, rfl⟩ : ∃ g, f = g + 1 := ⟨f - 1, by omega⟩
    obtain ⟨M', e1, e2, e3, e4⟩ := ih (k + 1) f K (qsI M 8 (e + k - b) (nI (sf k))) (by rw [g_In (by omega)]; exact h13) (fun j h1 h2 => by rw [g_In (by omega)]; exact hM j (by omega) h2) (by omega) (by omega) (by omega)
    refine ⟨M', ?_, fun p j hp => ?_, fun j h1 h2 => ?_, fun j hj => ?_⟩
    · rw [f_Md_adopt_279, h13, i_le (by omega) (by omega), if_neg (by omega), g_add, g_sub (by omega), g_ix (by omega) (by omega), g_ix (by omega) (by omega), g_cl (by omega), g_cl (by omega), hM k (Nat.le_refl k) (by omega), g_inc]
      exact e1
    · rw [e2 p j hp, g_In (by omega)]
    · by_cases q : k + 1 ≤ j
      · exact e3 j q h2
      · have : j = k := by omega
        subst this
        rw [e4 _ (by omega), g_Ie ⟨rfl, rfl⟩]
    · rw [e4 j (by omega), g_In (by omega)]
