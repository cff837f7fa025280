/-! formatting lists -/
def ow (s : aT) : Nat := match lastI (fun j => sNm s (sSf s j) == 99) (sH s) with
  | none => 0
  | some j => sSf s j
theorem ow_lt {s : aT} (w : wS s) : ow s < sN s := by
  unfold ow
  split
  · exact w.1.1
  · rename_i j e
    exact w.2.2.2.1 j (lastI_lt e).1
theorem t_list {M : qM} {s : aT} (c : C M s) (w : wS s) : f_Tree_theList M = some (some (8 + 5 * ow s)) := by
  unfold f_Tree_theList ow
  rw [show (99 : Int32) = nI 99 from rfl, t_top c.2.1 c.2.2.2.1 w.2.2.2.1 (by have := w.2.2.1.2; have := w.1.2; omega) w.2.1 (by omega)]
  cases lastI (fun j => sNm s (sSf s j) == 99) (sH s) with
  | none => rfl
  | some j =>
    simp only [Option.map, q_bp, q_on, Option.some.injEq]
    omega
theorem fl_g {M : qM} {n o : Nat} {en : List (Nat × Nat)} (h : cFl M n en) (ho : o < n) {k : Nat} (hk : k < (flO en o).length) : M.2 (8 + 5 * o + 1) k = some (7 + 5 * (flO en o).getD k 0) := by
  refine (h o ho).2 k _ ?_
  rw [List.getD_eq_getElem?_getD, List.getElem?_eq_getElem hk]
  rfl
theorem t_blo7 {M : qM} {n h o : Nat} {sf : Nat → Nat} {en : List (Nat × Nat)} (hs : cSt M n sf h) (hf : cFl M n en) (ho : o < n) (h4 : (flO en o).length ≤ 4) (hb : ∀ e ∈ flO en o, e < n) : ∀ k f, k ≤ (flO en o).length → k < f → f_FormattingList_behindLastOpen_7 M (8 + 5 * o) f (some 0) (dI k) = some (nI ((lastI (fun j => opn sf h ((flO en o).getD j 0)) k).elim 0 (· + 1))) := by
  intro k
  induction k with
  | zero =>
    intro f _ hf
    obtain ⟨f, rfl⟩ : ∃ g, f = g + 1 := ⟨f - 1, by omega⟩
    rw [f_FormattingList_behindLastOpen_7]
    simp only [d_0, if_true, lastI, Option.elim, l_0]
  | succ k ih =>
    intro f hk hf2
    obtain ⟨f, rfl⟩ : ∃ g, f = g + 1 := ⟨f - 1, by omega⟩
    have e := fl_g hf ho (show k < (flO en o).length by omega)
    have e3 : (flO en o).getD k 0 < n := hb _ (by
      rw [List.getD_eq_getElem?_getD, List.getElem?_eq_getElem (by omega)]
      exact List.getElem_mem _)
    have e2 := hs.2.2 _ e3
    rw [f_FormattingList_behindLastOpen_7, d_s]
    simp (disch := omega) only [g_n0, if_false, g_ix, g_cl, q_lt, q_nn, e, e2, d_m, b2_0, lastI, g_inc]
    by_cases hc : opn sf h ((flO en o).getD k 0) = true
    · rw [if_neg (by rw [hc]; simp), if_pos hc]
      rfl
    · rw [if_neg hc, if_pos (by simpa using hc)]
      exact ih f (by omega) (by omega)
def bLO (s : aT) : Nat := (lastI (fun j => opn (sSf s) (sH s) ((flO (sEn s) (ow s)).getD j 0)) (flO (sEn s) (ow s)).length).elim 0 (· + 1)
/-- what the lists must be -/
def wL (s : aT) : Prop := (∀ q ∈ sEn s, q.1 < sN s ∧ q.2 < sN s) ∧ (∀ o, (flO (sEn s) o).length ≤ 4) ∧ ((sEn s).map Prod.fst).Nodup ∧ (sEn s).length < sN s
theorem flO_m {en : List (Nat × Nat)} {o e : Nat} (h : e ∈ flO en o) : (e, o) ∈ en := by
  unfold flO at h
  obtain ⟨⟨a, b⟩, h1, rfl⟩ := List.mem_map.mp h
  have := List.mem_filter.mp h1
  have hb : b = o := by simpa using this.2
  rw [← hb]
  exact this.1
theorem t_blo {M : qM} {s : aT} (c : C M s) (w : wS s) (l : wL s) : f_FormattingList_behindLastOpen (8 + 5 * ow s) M = some (nI (bLO s)) := by
  unfold f_FormattingList_behindLastOpen
  rw [(c.2.2.2.2.1 _ (ow_lt w)).1, d_k]
  exact t_blo7 c.2.2.2.1 c.2.2.2.2.1 (ow_lt w) (l.2.1 _) (fun e he => (l.1 _ (flO_m he)).1) _ 1000 (Nat.le_refl _) (by have := l.2.1 (ow s); omega)
theorem t_ln7 {M : qM} {n o a : Nat} {nm : Nat → Nat} {cs : Nat → Int32} {en : List (Nat × Nat)} (hn : cNm M n nm cs) (hf : cFl M n en) (ho : o < n) (h4 : (flO en o).length ≤ 4) (hb : ∀ e ∈ flO en o, e < n) (hm : ∀ i, i < n → nm i < 200) (ha : a < 200) : ∀ k f, k ≤ (flO en o).length → k < f → f_FormattingList_lastNamed_7 M (8 + 5 * o) (nI a) f (some none) (dI k) = some ((lastI (fun j => nm ((flO en o).getD j 0) == a) k).map fun j => 7 + 5 * (flO en o).getD j 0) := by
  intro k
  induction k with
  | zero =>
    intro f _ hf
    obtain ⟨f, rfl⟩ : ∃ g, f = g + 1 := ⟨f - 1, by omega⟩
    rw [f_FormattingList_lastNamed_7]
    simp only [d_0, if_true, lastI, Option.map]
  | succ k ih =>
    intro f hk hf2
    obtain ⟨f, rfl⟩ : ∃ g, f = g + 1 := ⟨f - 1, by omega⟩
    have e := fl_g hf ho (show k < (flO en o).length by omega)
    have e3 : (flO en o).getD k 0 < n := hb _ (by
      rw [List.getD_eq_getElem?_getD, List.getElem?_eq_getElem (by omega)]
      exact List.getElem_mem _)
    have e2 := (hn _ e3).1
    have e4 := hm _ e3
    rw [f_FormattingList_lastNamed_7, d_s]
    simp (disch := omega) only [g_n0, if_false, g_ix, g_cl, q_lt, q_nn, e, e2, d_m, g_eq, lastI]
    by_cases hc : nm ((flO en o).getD k 0) = a
    · rw [if_pos hc, if_pos (by simpa using hc)]
      rfl
    · rw [if_neg hc, if_neg (by simpa using hc), ih f (by omega) (by omega)]
theorem t_ln {M : qM} {s : aT} (c : C M s) (w : wS s) (l : wL s) {a : Nat} (ha : a < 200) : f_FormattingList_lastNamed (8 + 5 * ow s) (nI a) M = some ((lastI (fun j => sNm s ((flO (sEn s) (ow s)).getD j 0) == a) (flO (sEn s) (ow s)).length).map fun j => 7 + 5 * (flO (sEn s) (ow s)).getD j 0) := by
  unfold f_FormattingList_lastNamed
  rw [(c.2.2.2.2.1 _ (ow_lt w)).1, d_k]
  exact t_ln7 c.2.1 c.2.2.2.2.1 (ow_lt w) (l.2.1 _) (fun e he => (l.1 _ (flO_m he)).1) w.2.1 ha _ 1000 (Nat.le_refl _) (by have := l.2.1 (ow s); omega)
theorem t_ra2 {q0 len : Nat} (h4 : len ≤ 4) : ∀ m k f K M, M.1 q0 1 = nI len → k + 1 + m = len → m < f → ∃ M', f_FormattingList_removeAt_2 q0 f K (nI k) M = K M' ∧ M'.1 = M.1 ∧ (∀ p j, p ≠ q0 + 1 → M'.2 p j = M.2 p j) ∧ (∀ i, k ≤ i → i + 1 < len → M'.2 (q0 + 1) i = M.2 (q0 + 1) (i + 1)) ∧ ∀ i, i < k → M'.2 (q0 + 1) i = M.2 (q0 + 1) i := by
  intro m
  induction m with
  | zero =>
    intro k f K M h0 hk hf
    obtain ⟨f, rfl⟩ : ∃ g, f = g + 1 := ⟨f - 1, by omega⟩
    refine ⟨M, ?_, rfl, fun _ _ _ => rfl, fun i h1 h2 => by omega, fun _ _ => rfl⟩
    rw [f_FormattingList_removeAt_2, h0, g_inc, i_le (by omega) (by omega), if_pos (by omega)]
  | succ m ih =>
    intro k f K M h0 hk hf
    obtain ⟨f, rfl⟩ : ∃ g, f = g + 1 := ⟨f - 1, by omega⟩
    obtain ⟨M', e1, e2, e3, e4, e5⟩ := ih (k + 1) f K (qsR M (q0 + 1) k (M.2 (q0 + 1) (k + 1))) h0 (by omega) (by omega)
    refine ⟨M', ?_, e2, fun p j hp => ?_, fun i h1 h2 => ?_, fun i hi => ?_⟩
    · rw [f_FormattingList_removeAt_2, h0, g_inc, i_le (by omega) (by omega), if_neg (by omega), g_ix (by omega) (by omega), g_cl (by omega)]
      show q_ix (nI k) 4 _ = _
      rw [g_ix (by omega) (by omega), g_cl (by omega)]
      exact e1
    · rw [e3 p j hp, g_Rn (by omega)]
    · by_cases hi : k + 1 ≤ i
      · rw [e4 i hi h2, g_Rn (by omega)]
      · have : i = k := by omega
        subst this
        rw [e5 _ (by omega), g_Re ⟨rfl, rfl⟩]
    · rw [e5 i (by omega), g_Rn (by omega)]
theorem t_ra {M : qM} {n o e : Nat} {en : List (Nat × Nat)} {A B : List Nat} (hf : cFl M n en) (ho : o < n) (h4 : (flO en o).length ≤ 4) (hA : flO en o = A ++ e :: B) : ∃ M', f_FormattingList_removeAt (8 + 5 * o) (nI A.length) M = some M' ∧ M'.1 (8 + 5 * o) 1 = nI (A ++ B).length ∧ (∀ k x, (A ++ B)[k]? = some x → M'.2 (8 + 5 * o + 1) k = some (7 + 5 * x)) ∧ (∀ p j, ¬ (p = 8 + 5 * o ∧ j = 1) → M'.1 p j = M.1 p j) ∧ ∀ p j, p ≠ 8 + 5 * o + 1 → M'.2 p j = M.2 p j := by
  have hl : (flO en o).length = A.length + 1 + B.length := by rw [hA]; simp; omega
  obtain ⟨M1, e1, e2, e3, e4, e5⟩ := t_ra2 (q0 := 8 + 5 * o) h4 B.length A.length 1000 (fun (M9 : qM) => q_lt (qsI M9 (8 + 5 * o) 1 ((M9.1 (8 + 5 * o) 1) - 1)) fun M10 => some M10) M (hf o ho).1 (by omega) (by omega)
  refine ⟨qsI M1 (8 + 5 * o) 1 (nI (A ++ B).length), ?_, g_Ie ⟨rfl, rfl⟩, fun k x hx => ?_, fun p j hp => ?_, fun p j hp => e3 p j hp⟩
  · unfold f_FormattingList_removeAt
    rw [e1, e2, (hf o ho).1, hl, show nI (A.length + 1 + B.length) - 1 = nI (A ++ B).length by rw [show A.length + 1 + B.length = A.length + B.length + 1 by omega, List.length_append]; exact d_s _]
    rfl
  · show M1.2 (8 + 5 * o + 1) k = _
    rw [List.getElem?_append] at hx
    split at hx
    · rename_i hk
      rw [e5 k hk]
      refine (hf o ho).2 k x ?_
      rw [hA, List.getElem?_append, if_pos hk]
      exact hx
    · rename_i hk
      have hk2 : k - A.length < B.length := by
        have := (List.getElem?_eq_some_iff.mp hx).1
        exact this
      rw [e4 k (by omega) (by omega)]
      refine (hf o ho).2 (k + 1) x ?_
      rw [hA, List.getElem?_append, if_neg (by omega), show k + 1 - A.length = (k - A.length) + 1 by omega]
      exact hx
  · rw [g_In hp, e2]
theorem cFl_one {M M' : qM} {n o : Nat} {en en' : List (Nat × Nat)} (h : cFl M n en) (h0 : ∀ i, i ≠ o → flO en' i = flO en i) (h1 : M'.1 (8 + 5 * o) 1 = nI (flO en' o).length) (h2 : ∀ k e, (flO en' o)[k]? = some e → M'.2 (8 + 5 * o + 1) k = some (7 + 5 * e)) (k1 : ∀ i, i < n → i ≠ o → M'.1 (8 + 5 * i) 1 = M.1 (8 + 5 * i) 1) (k2 : ∀ i, i < n → i ≠ o → ∀ k, M'.2 (8 + 5 * i + 1) k = M.2 (8 + 5 * i + 1) k) : cFl M' n en' := fun i hi => by
  by_cases e : i = o
  · rw [e]
    exact ⟨h1, h2⟩
  · rw [h0 i e, k1 i hi e]
    refine ⟨(h i hi).1, fun k x hx => ?_⟩
    rw [k2 i hi e]
    exact (h i hi).2 k x hx
def s_en (s : aT) (en : List (Nat × Nat)) : aT := (sB s, sN s, sNm s, sCs s, sKd s, sSf s, sH s, en, sCf s, sNc s)
/-- the parts that a change of one list leaves alone -/
theorem C_fl {M M' : qM} {s : aT} {o : Nat} {en : List (Nat × Nat)} (c : C M s) (hn : sN s ≤ 24) (hf : cFl M' (sN s) en) (r1 : ∀ p j, ¬ (p = 8 + 5 * o ∧ j = 1) → M'.1 p j = M.1 p j) (r2 : ∀ p j, p ≠ 8 + 5 * o + 1 → M'.2 p j = M.2 p j) (ho : o < sN s) : C M' (s_en s en) ∧ tF M M' := by
  obtain ⟨⟨cB, cN⟩, c1, c2, c3, c4, c5⟩ := c
  refine ⟨⟨⟨?_, ?_⟩, ?_, ?_, ?_, hf, ?_⟩, fun p j hp => ⟨r1 _ _ (by omega), r2 _ _ (by omega)⟩⟩
  · exact (r1 _ _ (by omega)).trans cB
  · exact (r1 _ _ (by omega)).trans cN
  · exact cNm_cg c1 fun i hi j hj => r1 _ _ (by omega)
  · exact cLk_cg c2 fun i hi j h1 h2 => r2 _ _ (by omega)
  · exact cSt_cg c3 (r1 _ _ (by omega)) (fun k hk => r2 _ _ (by omega)) fun i hi => r1 _ _ (by omega)
  · exact cCh_cg c5 (r1 _ _ (by omega)) (fun i hi j h1 h2 => r2 _ _ (by omega)) fun q hq => ⟨r1 _ _ (by omega), r2 _ _ (by omega)⟩
theorem flO_app (X Y : List (Nat × Nat)) (o : Nat) : flO (X ++ Y) o = flO X o ++ flO Y o := by
  unfold flO
  rw [List.filter_append, List.map_append]
theorem flO_e (e o : Nat) (Y : List (Nat × Nat)) : flO ((e, o) :: Y) o = e :: flO Y o := by
  unfold flO
  rw [List.filter_cons, if_pos (by simp)]
  rfl
theorem flO_n {e o i : Nat} (h : i ≠ o) (Y : List (Nat × Nat)) : flO ((e, o) :: Y) i = flO Y i := by
  unfold flO
  rw [List.filter_cons, if_neg (by simpa using fun q => h q.symm)]
theorem t_rem2 {M : qM} {n o e : Nat} {en : List (Nat × Nat)} {A B : List Nat} {M' : qM} (hf : cFl M n en) (ho : o < n) (h4 : (flO en o).length ≤ 4) (hA : flO en o = A ++ e :: B) (hd : e ∉ A) (hr : f_FormattingList_removeAt (8 + 5 * o) (nI A.length) M = some M') : ∀ m k f, k + m = A.length → m < f → f_FormattingList_remove_2 M (8 + 5 * o) (7 + 5 * e) f (some M) (nI k) = some M' := by
  have hl : (flO en o).length = A.length + 1 + B.length := by rw [hA]; simp; omega
  intro m
  induction m with
  | zero =>
    intro k f hk hf2
    obtain ⟨f, rfl⟩ : ∃ g, f = g + 1 := ⟨f - 1, by omega⟩
    have : k = A.length := by omega
    subst this
    have e1 : M.2 (8 + 5 * o + 1) A.length = some (7 + 5 * e) := (hf o ho).2 _ _ (by rw [hA]; simp)
    rw [f_FormattingList_remove_2, (hf o ho).1, i_le (by omega) (by omega), if_neg (by omega), g_ix (by omega) (by omega), g_cl (by omega), e1]
    simp only [q_lt, if_true, hr, q_cv]
  | succ m ih =>
    intro k f hk hf2
    obtain ⟨f, rfl⟩ : ∃ g, f = g + 1 := ⟨f - 1, by omega⟩
    obtain ⟨x, hx⟩ : ∃ x, A[k]? = some x := ⟨A[k]'(by omega), List.getElem?_eq_getElem _⟩
    have hxe : x ≠ e := fun q => hd (q ▸ List.mem_of_getElem? hx)
    have e1 : M.2 (8 + 5 * o + 1) k = some (7 + 5 * x) := (hf o ho).2 _ _ (by rw [hA, List.getElem?_append, if_pos (by omega)]; exact hx)
    rw [f_FormattingList_remove_2, (hf o ho).1, i_le (by omega) (by omega), if_neg (by omega), g_ix (by omega) (by omega), g_cl (by omega), e1]
    show (if some (7 + 5 * x) = some (7 + 5 * e) then _ else _) = _
    rw [if_neg (by simp; omega), g_inc]
    exact ih (k + 1) f (by omega) (by omega)
/-- an entry taken out of the list -/
theorem s_rem {M : qM} {s : aT} (c : C M s) (hn : sN s ≤ 24) (l : wL s) {o e : Nat} {X Y : List (Nat × Nat)} (ho : o < sN s) (hX : sEn s = X ++ (e, o) :: Y) : ∃ M', f_FormattingList_remove (8 + 5 * o) (7 + 5 * e) M = some M' ∧ C M' (s_en s (X ++ Y)) ∧ tF M M' := by
  have hA : flO (sEn s) o = flO X o ++ e :: flO Y o := by rw [hX, flO_app, flO_e]
  obtain ⟨M', e1, e2, e3, e4, e5⟩ := t_ra c.2.2.2.2.1 ho (l.2.1 o) hA
  have hd : e ∉ flO X o := fun m => by
    have nd := l.2.2.1
    rw [hX, List.map_append] at nd
    exact (List.nodup_append.mp nd).2.2 e (List.mem_map.mpr ⟨(e, o), flO_m m, rfl⟩) e (by simp) rfl
  have h4 := l.2.1 o
  have hl : (flO (sEn s) o).length = (flO X o).length + 1 + (flO Y o).length := by rw [hA]; simp; omega
  have e6 := t_rem2 c.2.2.2.2.1 ho (l.2.1 o) hA hd e1 (flO X o).length 0 1000 (by omega) (by omega)
  have hf : cFl M' (sN s) (X ++ Y) := cFl_one c.2.2.2.2.1 (fun i hi => by rw [hX, flO_app, flO_app, flO_n hi]) (by rw [flO_app]; exact e2) (by rw [flO_app]; exact e3) (fun i _ hi => e4 _ _ (by omega)) fun i _ hi k => e5 _ _ (by omega)
  exact ⟨M', e6, C_fl c hn hf e4 e5 ho⟩
/-- the entries with one more: the first of four falls out -/
def en1 (en : List (Nat × Nat)) (o : Nat) : List (Nat × Nat) := if (flO en o).length = 4 then en.eraseP (fun q => q.2 == o) else en
theorem en1_c {en : List (Nat × Nat)} {o : Nat} (h : (flO en o).length ≤ 4) : (en1 en o = en ∧ (flO en o).length < 4) ∨ ∃ X e Y, en = X ++ (e, o) :: Y ∧ en1 en o = X ++ Y ∧ flO X o = [] := by
  unfold en1
  by_cases h4 : (flO en o).length = 4
  · rw [if_pos h4]
    have hm : ∃ q ∈ en, (q.2 == o) = true := by
      cases hc : flO en o with
      | nil => rw [hc] at h4; cases h4
      | cons e L =>
        have := flO_m (o := o) (en := en) (e := e) (by rw [hc]; simp)
        exact ⟨(e, o), this, by simp⟩
    obtain ⟨q, h1, h2⟩ := hm
    obtain ⟨⟨a, b⟩, X, Y, h3, h5, h6, h7⟩ := List.exists_of_eraseP (p := fun q => q.2 == o) h1 h2
    have hb : b = o := by simpa using h5
    subst hb
    refine Or.inr ⟨X, a, Y, h6, h7, flO_no fun q hq => ?_⟩
    simpa using h3 q hq
  · rw [if_neg h4]
    exact Or.inl ⟨rfl, by omega⟩
theorem s_add0 {M : qM} {s : aT} (c : C M s) (hn : sN s ≤ 24) {o e : Nat} (ho : o < sN s) (h4 : (flO (sEn s) o).length < 4) : ∃ M', (q_ix (M.1 (8 + 5 * o) 1) 4 <| q_lt (qsR M (8 + 5 * o + 1) (M.1 (8 + 5 * o) 1).toNatClampNeg (some (7 + 5 * e))) fun M3 => q_lt (qsI M3 (8 + 5 * o) 1 ((M3.1 (8 + 5 * o) 1) + 1)) fun M4 => some M4) = some M' ∧ C M' (s_en s (sEn s ++ [(e, o)])) ∧ tF M M' := by
  have c0 := (c.2.2.2.2.1 o ho).1
  have hfl : flO (sEn s ++ [(e, o)]) o = flO (sEn s) o ++ [e] := by rw [flO_app, flO_e]; rfl
  refine ⟨qsI (qsR M (8 + 5 * o + 1) (flO (sEn s) o).length (some (7 + 5 * e))) (8 + 5 * o) 1 (nI ((flO (sEn s) o).length + 1)), ?_, C_fl (o := o) c hn (cFl_one (o := o) c.2.2.2.2.1 (fun i hi => ?_) ?_ (fun k x hx => ?_) (fun i _ hi => ?_) fun i _ hi k => ?_) (fun p j hp => ?_) (fun p j hp => ?_) ho⟩
  · rw [c0, g_ix (by omega) (by omega), g_cl (by omega)]
    simp only [q_lt, g_R1, c0, g_inc]
  · rw [flO_app, flO_n hi]
    exact List.append_nil _
  · rw [g_Ie ⟨rfl, rfl⟩, hfl]
    simp
  · rw [hfl, List.getElem?_append] at hx
    rw [g_I2]
    split at hx
    · rename_i hk
      rw [g_Rn (by omega)]
      exact (c.2.2.2.2.1 o ho).2 k x hx
    · rename_i hk
      have : k - (flO (sEn s) o).length = 0 := by
        have := (List.getElem?_eq_some_iff.mp hx).1
        simp at this
        omega
      rw [this] at hx
      have hx' : e = x := by simpa using hx
      rw [g_Re ⟨rfl, by omega⟩, hx']
  · rw [g_In (by omega)]
    rfl
  · rw [g_I2, g_Rn (by omega)]
  · rw [g_In hp]
    rfl
  · rw [g_I2, g_Rn (by omega)]
theorem s_addT {M : qM} {s : aT} (c : C M s) (hn : sN s ≤ 24) (l : wL s) {o e : Nat} (ho : o < sN s) : ∃ M', f_FormattingList_add (8 + 5 * o) (7 + 5 * e) M = some M' ∧ C M' (s_en s (en1 (sEn s) o ++ [(e, o)])) ∧ tF M M' := by
  have c0 := (c.2.2.2.2.1 o ho).1
  unfold f_FormattingList_add
  rcases en1_c (l.2.1 o) with ⟨h1, h2⟩ | ⟨X, d, Y, h1, h2, h3⟩
  · rw [h1]
    obtain ⟨M', e1, e2⟩ := s_add0 (e := e) c hn ho h2
    refine ⟨M', ?_, e2⟩
    show (if M.1 (8 + 5 * o) 1 = 4 then _ else _) = _
    rw [if_neg (by rw [c0, show (4 : Int32) = nI 4 from rfl, g_eq (by omega) (by omega)]; omega)]
    exact e1
  · have hA : flO (sEn s) o = [] ++ d :: flO Y o := by rw [h1, flO_app, flO_e, h3]
    have h4 := l.2.1 o
    by_cases hf : (flO (sEn s) o).length = 4
    · obtain ⟨M1, e1, e2, e3, e4, e5⟩ := t_ra c.2.2.2.2.1 ho (l.2.1 o) hA
      have hfl : cFl M1 (sN s) (X ++ Y) := cFl_one c.2.2.2.2.1 (fun i hi => by rw [h1, flO_app, flO_app, flO_n hi]) (by rw [flO_app, h3]; exact e2) (by rw [flO_app, h3]; exact e3) (fun i _ hi => e4 _ _ (by omega)) fun i _ hi k => e5 _ _ (by omega)
      have c1 := C_fl c hn hfl e4 e5 ho
      have hlen : (flO (X ++ Y) o).length < 4 := by
        rw [flO_app, h3]
        rw [hA] at hf
        simp at hf ⊢
        omega
      obtain ⟨M', a1, a2, a3⟩ := s_add0 (s := s_en s (X ++ Y)) (e := e) c1.1 hn ho hlen
      refine ⟨M', ?_, ?_, tF_t c1.2 a3⟩
      · show (if M.1 (8 + 5 * o) 1 = 4 then _ else _) = _
        rw [c0, hf]
        rw [if_pos (show nI 4 = 4 from rfl)]
        have e1' : f_FormattingList_removeAt (8 + 5 * o) 0 M = some M1 := e1
        rw [e1']
        exact a1
      · rw [h2]
        exact a2
    · unfold en1 at h2
      rw [if_neg hf] at h2
      rw [h1] at h2
      exact absurd (congrArg List.length h2) (by simp)
/-- the first from a number on that has a property -/
def fstI (P : Nat → Bool) : Nat → Nat → Option Nat
  | 0, _ => none
  | m + 1, a => if P a = true then some a else fstI P m (a + 1)
theorem t_low8 {M : qM} {n h z : Nat} {nm sf : Nat → Nat} {cs : Nat → Int32} (hn : cNm M n nm cs) (hs : cSt M n sf h) (hb : ∀ k, k < h → sf k < n) (hh : h ≤ 24) (hm : ∀ i, i < n → nm i < 200) (hz : z < 12) : ∀ m k f, k + m = h → m < f → f_OpenStack_lowestAbove_8 M z f (some none) (nI k) = some ((fstI (fun j => inS z (nm (sf j))) m k).map fun j => 7 + 5 * sf j) := by
  intro m
  induction m with
  | zero =>
    intro k f hk hf
    obtain ⟨f, rfl⟩ : ∃ g, f = g + 1 := ⟨f - 1, by omega⟩
    rw [f_OpenStack_lowestAbove_8, hs.1, i_le (by omega) (by omega), if_pos (by omega)]
    rfl
  | succ m ih =>
    intro k f hk hf
    obtain ⟨f, rfl⟩ : ∃ g, f = g + 1 := ⟨f - 1, by omega⟩
    have e := hs.2.1 k (by omega)
    have e2 := (hn (sf k) (hb k (by omega))).1
    have e3 := hm (sf k) (hb k (by omega))
    have e4 := g_one M hz (show nm (sf k) < 65536 by omega)
    rw [f_OpenStack_lowestAbove_8, hs.1, i_le (by omega) (by omega), if_neg (by omega)]
    simp (disch := omega) only [g_ix, g_cl, q_lt, q_nn, q_bp, e, e2, e4, b2_0, fstI, g_inc]
    by_cases hq : inS z (nm (sf k)) = true
    · simp [hq]
    · rw [if_neg hq, if_pos (by simpa using hq)]
      exact ih (k + 1) f (by omega) (by omega)
theorem t_low {M : qM} {s : aT} (c : C M s) (w : wS s) {z k : Nat} (hz : z < 12) (hk : k < sH s) : f_OpenStack_lowestAbove (7 + 5 * sSf s k) z M = some ((fstI (fun j => inS z (sNm s (sSf s j))) (sH s - (k + 1)) (k + 1)).map fun j => 7 + 5 * sSf s j) := by
  have hh : sH s ≤ 24 := by have := w.2.2.1.2; have := w.1.2; omega
  unfold f_OpenStack_lowestAbove
  rw [t_idx c.2.2.2.1 hh w.2.2.2.2 hk]
  show f_OpenStack_lowestAbove_8 M z 1000 (some none) (nI k + 1) = _
  rw [g_inc]
  exact t_low8 c.2.1 c.2.2.2.1 w.2.2.2.1 hh w.2.1 hz _ _ 1000 (by omega) (by omega)
