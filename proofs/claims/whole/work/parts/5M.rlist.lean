/-! the reference's side: elements renewed, entries -/
theorem lastI_of {P : Nat → Bool} : ∀ {n j : Nat}, j < n → P j = true → (∀ i, j < i → i < n → P i = false) → lastI P n = some j
  | 0, j, h, _, _ => by omega
  | n + 1, j, h, hp, hm => by
    unfold lastI
    by_cases e : j = n
    · rw [← e, if_pos hp]
    · rw [if_neg (by rw [hm n (by omega) (by omega)]; simp)]
      exact lastI_of (by omega) hp fun i h1 h2 => hm i h1 (by omega)
def enP (s : aT) (o : Nat) (Q : Nat → Bool) (k : Nat) : Bool := ((sEn s).getD k (0, 0)).2 == o && Q ((sEn s).getD k (0, 0)).1
theorem getD_s {α : Type} {l : List α} {k : Nat} {d x : α} (h : l[k]? = some x) : l.getD k d = x := by rw [List.getD_eq_getElem?_getD, h]; rfl
/-- the last entry of an owner with a property, in the entries and in the owner's list -/
theorem ent_last {en : List (Nat × Nat)} {o : Nat} {Q : Nat → Bool} : (lastI (fun k => (en.getD k (0, 0)).2 == o && Q (en.getD k (0, 0)).1) en.length = none ∧ lastI (fun j => Q ((flO en o).getD j 0)) (flO en o).length = none) ∨ ∃ X e Y, en = X ++ (e, o) :: Y ∧ Q e = true ∧ lastI (fun k => (en.getD k (0, 0)).2 == o && Q (en.getD k (0, 0)).1) en.length = some X.length ∧ lastI (fun j => Q ((flO en o).getD j 0)) (flO en o).length = some (flO X o).length := by
  cases h : lastI (fun k => (en.getD k (0, 0)).2 == o && Q (en.getD k (0, 0)).1) en.length with
  | none =>
    left
    refine ⟨rfl, lastI_none fun j hj => ?_⟩
    have hm : (flO en o).getD j 0 ∈ flO en o := by
      rw [List.getD_eq_getElem?_getD, List.getElem?_eq_getElem hj]
      exact List.getElem_mem _
    obtain ⟨k, hk⟩ := List.getElem?_of_mem (flO_m hm)
    have := lastI_no h k (List.getElem?_eq_some_iff.mp hk).1
    rw [getD_s hk] at this
    simpa using this
  | some k =>
    right
    have hk := lastI_lt h
    have hk0 : en[k]? = some en[k] := List.getElem?_eq_getElem hk.1
    have hP := hk.2
    rw [getD_s hk0] at hP
    have hP' : en[k].2 = o ∧ Q en[k].1 = true := by simpa using hP
    have hs : en = en.take k ++ (en[k].1, o) :: en.drop (k + 1) := by
      have : en[k] = (en[k].1, o) := Prod.ext rfl hP'.1
      rw [← this, ← List.drop_eq_getElem_cons hk.1, List.take_append_drop]
    have hX : (en.take k).length = k := by rw [List.length_take]; omega
    refine ⟨en.take k, en[k].1, en.drop (k + 1), hs, hP'.2, by rw [hX], ?_⟩
    have hF : flO en o = flO (en.take k) o ++ en[k].1 :: flO (en.drop (k + 1)) o := by
      conv => lhs; rw [hs]
      rw [flO_app, flO_e]
    refine lastI_of (by rw [hF]; simp) ?_ (fun i h1 h2 => ?_)
    · rw [hF, List.getD_eq_getElem?_getD]
      simpa using hP'.2
    · have hi : i - (flO (en.take k) o).length - 1 < (flO (en.drop (k + 1)) o).length := by
        rw [hF] at h2
        simp at h2
        omega
      have hg : (flO en o).getD i 0 = (flO (en.drop (k + 1)) o)[i - (flO (en.take k) o).length - 1] := by
        rw [hF, List.getD_eq_getElem?_getD, List.getElem?_append_right (by omega)]
        obtain ⟨j, hj⟩ : ∃ j, i - (flO (en.take k) o).length = j + 1 := ⟨i - (flO (en.take k) o).length - 1, by omega⟩
        have hj2 : i - (flO (en.take k) o).length - 1 = j := by omega
        simp only [hj, List.getElem?_cons_succ, Nat.add_sub_cancel]
        rw [List.getElem?_eq_getElem (by omega)]
        rfl
      rw [hg]
      have hm := flO_m (List.getElem_mem hi)
      obtain ⟨m, hm2⟩ := List.getElem?_of_mem hm
      have hm3 : en[k + 1 + m]? = some ((flO (en.drop (k + 1)) o)[i - (flO (en.take k) o).length - 1], o) := by
        rw [← List.getElem?_drop]
        exact hm2
      have := lastI_max h (k + 1 + m) (by omega) (List.getElem?_eq_some_iff.mp hm3).1
      rw [getD_s hm3] at this
      simpa using this
theorem r_ren9 {M : qM} {s : aT} {pre : List (Nat × Nat)} (r : R M s pre) (w : Wf s) {o : Nat} (ho : o < 24) : ∀ m k f K, k + m = (sEn s).length → m < f → f_Md_renew_9 M (nI o) f K (nI ((lastI (fun k => ((sEn s).getD k (0, 0)).2 == o && opn (sSf s) (sH s) ((sEn s).getD k (0, 0)).1) k).elim 0 (· + 1))) (nI k) = K (nI ((lastI (fun k => ((sEn s).getD k (0, 0)).2 == o && opn (sSf s) (sH s) ((sEn s).getD k (0, 0)).1) (sEn s).length).elim 0 (· + 1))) := by
  have hl := w.2.1.2.2.2
  have h24 := w.1.1.2
  intro m
  induction m with
  | zero =>
    intro k f K hk hf
    obtain ⟨f, rfl⟩ : ∃ g, f = g + 1 := ⟨f - 1, by omega⟩
    have : k = (sEn s).length := by omega
    subst this
    rw [f_Md_renew_9, r.2.2.2.2.1.1, i_le (by omega) (by omega), if_pos (Nat.le_refl _)]
  | succ m ih =>
    intro k f K hk hf
    obtain ⟨f, rfl⟩ : ∃ g, f = g + 1 := ⟨f - 1, by omega⟩
    have hk2 : k < (sEn s).length := by omega
    have e0 : (sEn s)[k]? = some (sEn s)[k] := List.getElem?_eq_getElem hk2
    have e1 := r.2.2.2.2.1.2 k (sEn s)[k].1 (sEn s)[k].2 e0
    have hb := w.2.1.1 _ (List.getElem_mem hk2)
    have e2 := r_opn w r.2.2.2.1 (i := (sEn s)[k].1) (by omega)
    have hlt : ∀ j, lastI (fun j => sSf s j == (sEn s)[k].1) (sH s) = some j → j < 2147483648 := fun j hj => by
      have := (lastI_lt hj).1
      have := w.1.2.2.1.2
      omega
    have := ih (k + 1) f K (by omega) (by omega)
    rw [f_Md_renew_9, r.2.2.2.2.1.1, i_le (by omega) (by omega), if_neg (by omega), g_ix (by omega) (by omega), g_cl (by omega), e1.1, e1.2, i_eq (by omega) (by omega), e2, g_inc]
    by_cases q : (sEn s)[k].2 = o
    · rw [if_pos q, g_ix (by omega) (by omega)]
      cases hj : lastI (fun j => sSf s j == (sEn s)[k].1) (sH s) with
      | none =>
        have ho : opn (sSf s) (sH s) (sEn s)[k].1 = false := by unfold opn; rw [hj]; rfl
        rw [lastI, if_neg (by rw [getD_s e0, ho]; simp)] at this
        have hm : eI none < 0 := by decide
        simp only [q_bp]
        rw [if_pos hm]
        exact this
      | some j =>
        have ho : opn (sSf s) (sH s) (sEn s)[k].1 = true := by unfold opn; rw [hj]; rfl
        rw [lastI, if_pos (by rw [getD_s e0, ho]; simpa using q)] at this
        show (if nI j < 0 then _ else _) = _
        rw [i_n0 (hlt j hj)]
        exact this
    · rw [lastI, if_neg (by rw [getD_s e0]; simp [q])] at this
      rw [if_neg q]
      exact this
theorem r_renew {M : qM} {s : aT} {pre : List (Nat × Nat)} (r : R M s pre) (w : Wf s) (ht : wT s pre) : ∃ M', f_Md_renew M = some M' ∧ RO M M' (s_renew s) := by
  have hl := w.2.1.2.2.2
  have h24 := w.1.1.2
  have ho := ow_lt w.1
  have h9 := r_ren9 r w (o := ow s) (by omega) (sEn s).length 0 1000 (fun (x11 : Int32) => f_Md_renew_52 (nI (ow s)) 1000 (fun (M29 : qM) => some M29) x11 M) (by omega) (by omega)
  have h9' : f_Md_renew_9 M (nI (ow s)) 1000 (fun (x11 : Int32) => f_Md_renew_52 (nI (ow s)) 1000 (fun (M29 : qM) => some M29) x11 M) 0 0 = _ := h9
  unfold f_Md_renew
  rw [r_own w r.2.1 r.2.2.2.1]
  simp only [q_bp]
  rw [h9']
  unfold s_renew bLO
  rcases ent_last (en := sEn s) (o := ow s) (Q := fun e => opn (sSf s) (sH s) e) with ⟨e1, e2⟩ | ⟨X, e, Y, hX, hQ, e1, e2⟩
  · rw [e1, e2]
    have := r_ren52 (o := ow s) (sEn s) [] s M pre 1000 r w ht (by omega) rfl (by omega)
    exact this
  · rw [e1, e2]
    have hF : flO (sEn s) (ow s) = (flO X (ow s) ++ [e]) ++ flO Y (ow s) := by rw [hX, flO_app, flO_e]; simp
    have hD : (flO (sEn s) (ow s)).drop ((flO X (ow s)).length + 1) = flO Y (ow s) := by
      rw [hF, show (flO X (ow s)).length + 1 = (flO X (ow s) ++ [e]).length by simp, List.drop_left]
    have := r_ren52 (o := ow s) Y (X ++ [(e, ow s)]) s M pre 1000 r w ht (by omega) (by rw [hX]; simp) (by have := congrArg List.length hX; simp at this; omega)
    rw [show (X ++ [(e, ow s)]).length = X.length + 1 by simp] at this
    simp only [Option.elim, hD]
    exact this
/-! an entry taken out -/
theorem r_de12 {n : Nat} (hn : n ≤ 24) : ∀ m k f K M, M.1 0 16 = nI n → k + m = n → m < f → ∃ M', f_Md_dropEntry_12 f K (nI k) M = K M' ∧ (∀ p j, p ≠ 9 → p ≠ 10 → M'.1 p j = M.1 p j) ∧ (∀ j, k ≤ j → j < n → M'.1 9 j = M.1 9 (j + 1) ∧ M'.1 10 j = M.1 10 (j + 1)) ∧ ∀ j, j < k → M'.1 9 j = M.1 9 j ∧ M'.1 10 j = M.1 10 j := by
  intro m
  induction m with
  | zero =>
    intro k f K M h0 hk hf
    obtain ⟨f, rfl⟩ : ∃ g, f = g + 1 := ⟨f - 1, by omega⟩
    refine ⟨M, ?_, fun _ _ _ _ => rfl, fun i h1 h2 => by omega, fun _ _ => ⟨rfl, rfl⟩⟩
    rw [f_Md_dropEntry_12, h0, i_le (by omega) (by omega), if_pos (by omega)]
  | succ m ih =>
    intro k f K M h0 hk hf
    obtain ⟨f, rfl⟩ : ∃ g, f = g + 1 := ⟨f - 1, by omega⟩
    obtain ⟨M', e1, e2, e3, e4⟩ := ih (k + 1) f K (qsI (qsI M 9 k (M.1 9 (k + 1))) 10 k (M.1 10 (k + 1))) (by rw [g_In (by omega), g_In (by omega)]; exact h0) (by omega) (by omega)
    refine ⟨M', ?_, fun p j h1 h2 => ?_, fun j h1 h2 => ?_, fun j hj => ?_⟩
    · rw [f_Md_dropEntry_12, h0, i_le (by omega) (by omega), if_neg (by omega), g_inc, g_ix (by omega) (by omega), g_ix (by omega) (by omega), g_cl (by omega), g_cl (by omega)]
      simp only [q_lt]
      rw [g_ix (by omega) (by omega), g_ix (by omega) (by omega), g_In (by omega)]
      exact e1
    · rw [e2 p j h1 h2, g_In (by omega), g_In (by omega)]
    · by_cases hi : k + 1 ≤ j
      · rw [(e3 j hi h2).1, (e3 j hi h2).2]
        constructor
        · rw [g_In (by omega), g_In (by omega)]
        · rw [g_In (by omega), g_In (by omega)]
      · have : j = k := by omega
        subst this
        rw [(e4 j (by omega)).1, (e4 j (by omega)).2]
        constructor
        · rw [g_In (by omega), g_Ie ⟨rfl, rfl⟩]
        · rw [g_Ie ⟨rfl, rfl⟩]
    · rw [(e4 j (by omega)).1, (e4 j (by omega)).2]
      constructor
      · rw [g_In (by omega), g_In (by omega)]
      · rw [g_In (by omega), g_In (by omega)]
theorem r_de {M : qM} {X Y : List (Nat × Nat)} {q : Nat × Nat} (h : rEn M (X ++ q :: Y)) (hl : (X ++ q :: Y).length ≤ 24) : ∃ M', f_Md_dropEntry (nI X.length) M = some M' ∧ rEn M' (X ++ Y) ∧ ∀ p j, p ≠ 9 → p ≠ 10 → ¬ (p = 0 ∧ j = 16) → M'.1 p j = M.1 p j := by
  have hll : (X ++ q :: Y).length = X.length + Y.length + 1 := by simp; omega
  have e16 : M.1 0 16 - 1 = nI (X.length + Y.length) := by rw [h.1, hll]; exact d_s _
  obtain ⟨M', e1, e2, e3, e4⟩ := r_de12 (n := X.length + Y.length) (by omega) Y.length X.length 1000 (fun (M12 : qM) => some M12) (qsI M 0 16 (nI (X.length + Y.length))) (g_Ie ⟨rfl, rfl⟩) rfl (by omega)
  refine ⟨M', ?_, ⟨?_, fun k a b hk => ?_⟩, fun p j h1 h2 h3 => ?_⟩
  · unfold f_Md_dropEntry
    rw [e16]
    exact e1
  · rw [e2 _ _ (by omega) (by omega), g_Ie ⟨rfl, rfl⟩]
    simp
  · rw [List.getElem?_append] at hk
    split at hk
    · rename_i hlt
      rw [(e4 k hlt).1, (e4 k hlt).2, g_In (by omega), g_In (by omega)]
      refine h.2 k a b ?_
      rw [List.getElem?_append, if_pos hlt]
      exact hk
    · rename_i hge
      have hk2 : k - X.length < Y.length := (List.getElem?_eq_some_iff.mp hk).1
      have := e3 k (by omega) (by omega)
      rw [this.1, this.2, g_In (by omega), g_In (by omega)]
      refine h.2 (k + 1) a b ?_
      rw [List.getElem?_append, if_neg (by omega), show k + 1 - X.length = (k - X.length) + 1 by omega]
      exact hk
  · rw [e2 p j h1 h2, g_In h3]
theorem R_en {M M' : qM} {s : aT} {pre en : List (Nat × Nat)} (r : R M s pre) (he : rEn M' en) (k : ∀ p j, p ≠ 9 → p ≠ 10 → ¬ (p = 0 ∧ j = 16) → M'.1 p j = M.1 p j) : R M' (s_en s en) pre ∧ rF M M' := by
  obtain ⟨⟨a1, a2⟩, b, c, d, e, f⟩ := r
  refine ⟨⟨⟨by rw [k _ _ (by omega) (by omega) (by omega)]; exact a1, a2⟩, ⟨by rw [k _ _ (by omega) (by omega) (by omega)]; exact b.1, fun i hi => ?_⟩, ⟨by rw [k _ _ (by omega) (by omega) (by omega)]; exact c.1, fun i x y hi => ?_⟩, ⟨by rw [k _ _ (by omega) (by omega) (by omega)]; exact d.1, fun i hi => ?_⟩, he, ⟨by rw [k _ _ (by omega) (by omega) (by omega)]; exact f.1, fun i hi => ?_⟩⟩, fun p j h => k p j (by omega) (by omega) (by omega)⟩
  · rw [k _ _ (by omega) (by omega) (by omega), k _ _ (by omega) (by omega) (by omega)]
    exact b.2 i hi
  · rw [k _ _ (by omega) (by omega) (by omega), k _ _ (by omega) (by omega) (by omega)]
    exact c.2 i x y hi
  · rw [k _ _ (by omega) (by omega) (by omega)]
    exact d.2 i hi
  · rw [k _ _ (by omega) (by omega) (by omega), k _ _ (by omega) (by omega) (by omega)]
    exact f.2 i hi
/-! an entry added -/
theorem r_li13 {M : qM} {en : List (Nat × Nat)} (h : rEn M en) (hl : en.length ≤ 24) (hb : ∀ q ∈ en, q.2 < 24) {o : Nat} (ho : o < 24) : ∀ k f K, k ≤ en.length → k < f → f_Md_list_13 M (nI o) f K (eI (fstI (fun j => (en.getD j (0, 0)).2 == o) (en.length - k) k)) (nI (flO (en.drop k) o).length) (dI k) = K (eI (fstI (fun j => (en.getD j (0, 0)).2 == o) en.length 0)) (nI (flO en o).length) := by
  intro k
  induction k with
  | zero =>
    intro f K hk hf
    obtain ⟨f, rfl⟩ : ∃ g, f = g + 1 := ⟨f - 1, by omega⟩
    rw [f_Md_list_13]
    simp only [d_0, if_true, Nat.sub_zero, List.drop_zero]
  | succ k ih =>
    intro f K hk hf
    obtain ⟨f, rfl⟩ : ∃ g, f = g + 1 := ⟨f - 1, by omega⟩
    have hk2 : k < en.length := by omega
    have e0 : en[k]? = some en[k] := List.getElem?_eq_getElem hk2
    have e1 := (h.2 k en[k].1 en[k].2 e0).2
    have e2 := hb _ (List.getElem_mem hk2)
    have := ih f K (by omega) (by omega)
    rw [show en.length - k = (en.length - (k + 1)) + 1 by omega, List.drop_eq_getElem_cons hk2] at this
    rw [f_Md_list_13, d_s, i_n0 (by omega)]
    simp (disch := omega) only [if_false, g_ix, g_cl, e1, g_eq, q_lt, d_m, g_inc]
    by_cases q : en[k].2 = o
    · rw [if_pos q, if_pos q]
      have hq : en[k] = (en[k].1, o) := Prod.ext rfl q
      have hfl : flO (en[k] :: en.drop (k + 1)) o = en[k].1 :: flO (en.drop (k + 1)) o := by
        conv => lhs; rw [hq]
        exact flO_e _ _ _
      rw [fstI, if_pos (by rw [getD_s e0]; simpa using q), hfl] at this
      exact this
    · rw [if_neg q, if_neg q, Int32.add_zero]
      have hq : flO (en[k] :: en.drop (k + 1)) o = flO (en.drop (k + 1)) o := flO_n (e := en[k].1) (fun z => q z.symm) _
      rw [fstI, if_neg (by rw [getD_s e0]; simpa using q), hq] at this
      exact this
theorem r_add {M : qM} {s : aT} {pre : List (Nat × Nat)} (r : R M s pre) (w : Wf s) {o i : Nat} (ho : o < sN s) (hi : i < 24) (hl : (sEn s).length < 24) : ∃ M', f_Md_list (nI i) (nI o) M = some M' ∧ R M' (s_en s (en1 (sEn s) o ++ [(i, o)])) pre ∧ rF M M' := by
  have h24 := w.1.1.2
  have hb : ∀ q ∈ sEn s, q.2 < 24 := fun q hq => by have := (w.2.1.1 q hq).2; omega
  have h4 := w.2.1.2.1 o
  have add0 : ∀ (M1 : qM) (en : List (Nat × Nat)), R M1 (s_en s en) pre → en.length < 24 → ∃ M', (q_ix (M1.1 0 16) 40 <| q_lt (qsI M1 9 (M1.1 0 16).toNatClampNeg (nI i)) fun M16 => q_ix (M16.1 0 16) 40 <| q_lt (qsI M16 10 (M16.1 0 16).toNatClampNeg (nI o)) fun M18 => q_lt (qsI M18 0 16 ((M18.1 0 16) + 1)) fun M19 => some M19) = some M' ∧ R M' (s_en s (en ++ [(i, o)])) pre ∧ rF M1 M' := by
    intro M1 en r1 hle
    have e16 : M1.1 0 16 = nI en.length := r1.2.2.2.2.1.1
    refine ⟨qsI (qsI (qsI M1 9 en.length (nI i)) 10 en.length (nI o)) 0 16 (nI (en.length + 1)), ?_, ?_⟩
    · simp (disch := omega) only [e16, g_ix, g_cl, q_lt, g_In, g_inc]
    · refine R_en (s := s_en s en) (en := en ++ [(i, o)]) r1 ⟨?_, fun k a b hk => ?_⟩ fun p j h1 h2 h3 => by rw [g_In h3, g_In (by omega), g_In (by omega)]
      · rw [g_Ie ⟨rfl, rfl⟩]
        simp
      · rw [List.getElem?_append] at hk
        split at hk
        · rename_i hlt
          have := r1.2.2.2.2.1.2 k a b hk
          constructor
          · rw [g_In (by omega), g_In (by omega), g_In (by omega)]
            exact this.1
          · rw [g_In (by omega), g_In (by omega), g_In (by omega)]
            exact this.2
        · have hz : k - en.length = 0 := by
            have := (List.getElem?_eq_some_iff.mp hk).1
            simp at this
            omega
          rw [hz] at hk
          have hk' : i = a ∧ o = b := by simpa using hk
          have hk2 : k = en.length := by omega
          rw [← hk'.1, ← hk'.2, hk2]
          constructor
          · rw [g_In (by omega), g_In (by omega), g_Ie ⟨rfl, rfl⟩]
          · rw [g_In (by omega), g_Ie ⟨rfl, rfl⟩]
  have h13 := r_li13 r.2.2.2.2.1 (by omega) hb (o := o) (by omega) (sEn s).length 1000 (fun (x12 : Int32) (x13 : Int32) => q_lt (fun (M14 : qM) => q_ix (M14.1 0 16) 40 <| q_lt (qsI M14 9 (M14.1 0 16).toNatClampNeg (nI i)) fun M16 => q_ix (M16.1 0 16) 40 <| q_lt (qsI M16 10 (M16.1 0 16).toNatClampNeg (nI o)) fun M18 => q_lt (qsI M18 0 16 ((M18.1 0 16) + 1)) fun M19 => some M19) fun (j20 : qM → Option qM) => if x13 = 4 then (q_cv (f_Md_dropEntry x12 M) fun M22 => j20 M22) else (j20 M)) (Nat.le_refl _) (by omega)
  rw [Nat.sub_self, List.drop_length] at h13
  unfold f_Md_list
  rw [r.2.2.2.2.1.1, d_k]
  have h13' : f_Md_list_13 M (nI o) 1000 (fun (x12 : Int32) (x13 : Int32) => q_lt (fun (M14 : qM) => q_ix (M14.1 0 16) 40 <| q_lt (qsI M14 9 (M14.1 0 16).toNatClampNeg (nI i)) fun M16 => q_ix (M16.1 0 16) 40 <| q_lt (qsI M16 10 (M16.1 0 16).toNatClampNeg (nI o)) fun M18 => q_lt (qsI M18 0 16 ((M18.1 0 16) + 1)) fun M19 => some M19) fun (j20 : qM → Option qM) => if x13 = 4 then (q_cv (f_Md_dropEntry x12 M) fun M22 => j20 M22) else (j20 M)) (-1) 0 (dI (sEn s).length) = _ := h13
  rw [h13']
  show ∃ M', (if nI (flO (sEn s) o).length = 4 then _ else _) = some M' ∧ _
  rw [show (4 : Int32) = nI 4 from rfl, i_eq (by omega) (by omega)]
  rcases en1_c h4 with ⟨h1, h2⟩ | ⟨X, e, Y, h1, h2, h3⟩
  · rw [if_neg (by omega), h1]
    exact add0 M (sEn s) r hl
  · by_cases hf : (flO (sEn s) o).length = 4
    · rw [if_pos hf, h2]
      have hEn : sEn s = X ++ (e, o) :: Y := h1
      have hfst : fstI (fun j => ((sEn s).getD j (0, 0)).2 == o) (sEn s).length 0 = some X.length := by
        have gen : ∀ (m a : Nat), a ≤ X.length → X.length < a + m → (∀ j, a ≤ j → j < X.length → (((sEn s).getD j (0, 0)).2 == o) = false) → fstI (fun j => ((sEn s).getD j (0, 0)).2 == o) m a = some X.length := by
          intro m
          induction m with
          | zero => intro a h1 h2 _; omega
          | succ m ih =>
            intro a h1 h2 h3
            unfold fstI
            by_cases q : a = X.length
            · subst q
              rw [if_pos]
              rw [hEn, List.getD_eq_getElem?_getD]
              simp
            · rw [if_neg (by rw [h3 a (Nat.le_refl _) (by omega)]; simp)]
              exact ih (a + 1) (by omega) (by omega) fun j h4 h5 => h3 j (by omega) h5
        refine gen _ 0 (Nat.zero_le _) (by have := congrArg List.length h1; simp at this; omega) fun j _ hj => ?_
        have hx : X[j]? = some X[j] := List.getElem?_eq_getElem hj
        have : (sEn s)[j]? = some X[j] := by rw [h1, List.getElem?_append, if_pos hj]; exact hx
        rw [getD_s this]
        have hne : ¬ X[j].2 = o := fun q => by
          have : X[j].1 ∈ flO X o := by
            unfold flO
            exact List.mem_map.mpr ⟨X[j], List.mem_filter.mpr ⟨List.getElem_mem hj, by simpa using q⟩, rfl⟩
          rw [h3] at this
          cases this
        simpa using hne
      rw [hfst, eI_s]
      obtain ⟨M1, a1, a2, a3⟩ := r_de (X := X) (Y := Y) (q := (e, o)) (by rw [← h1]; exact r.2.2.2.2.1) (by rw [← h1]; omega)
      obtain ⟨b1, b2'⟩ := R_en r a2 a3
      rw [a1]
      simp only [q_cv]
      obtain ⟨M', c1, c2, c3⟩ := add0 M1 (X ++ Y) b1 (by have := congrArg List.length h1; simp at this ⊢; omega)
      exact ⟨M', c1, c2, rF_t b2' c3⟩
    · unfold en1 at h2
      rw [if_neg hf] at h2
      rw [h1] at h2
      exact absurd (congrArg List.length h2) (by simp)
