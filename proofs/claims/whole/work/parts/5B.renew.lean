/-! elements renewed; characters -/
theorem flO_split {o e : Nat} : ∀ {en : List (Nat × Nat)} {P es : List Nat}, flO en o = P ++ e :: es → ∃ X Y, en = X ++ (e, o) :: Y ∧ flO X o = P ∧ flO Y o = es
  | [], P, es, h => by
    have : flO [] o = ([] : List Nat) := rfl
    rw [this] at h
    simp at h
  | (a, b) :: en, P, es, h => by
    by_cases hb : b = o
    · subst hb
      rw [flO_e] at h
      cases P with
      | nil =>
        simp at h
        exact ⟨[], en, by rw [h.1]; rfl, rfl, h.2⟩
      | cons p P =>
        simp at h
        obtain ⟨X, Y, h1, h2, h3⟩ := flO_split h.2
        exact ⟨(a, b) :: X, Y, by rw [h1]; rfl, by rw [flO_e, h2, h.1], h3⟩
    · rw [flO_n (fun q => hb q.symm)] at h
      obtain ⟨X, Y, h1, h2, h3⟩ := flO_split h
      exact ⟨(a, b) :: X, Y, by rw [h1]; rfl, by rw [flO_n (fun q => hb q.symm), h2], h3⟩
def enR (en : List (Nat × Nat)) (e n : Nat) : List (Nat × Nat) := en.map fun q => if q.1 = e then (n, q.2) else q
theorem enR_no {e n : Nat} {X : List (Nat × Nat)} (h : ∀ q ∈ X, q.1 ≠ e) : enR X e n = X := by
  unfold enR
  refine (List.map_congr_left fun q hq => ?_).trans (List.map_id X)
  rw [if_neg (h q hq)]
  rfl
theorem enR_s {en X Y : List (Nat × Nat)} {e o n : Nat} (h : en = X ++ (e, o) :: Y) (nd : (en.map Prod.fst).Nodup) : enR en e n = X ++ (n, o) :: Y := by
  rw [h, List.map_append, List.map_cons] at nd
  have a := List.nodup_append.mp nd
  have hX : ∀ q ∈ X, q.1 ≠ e := fun q hq => a.2.2 q.1 (List.mem_map.mpr ⟨q, hq, rfl⟩) e (by simp)
  have hY : ∀ q ∈ Y, q.1 ≠ e := fun q hq h2 => (List.nodup_cons.mp a.2.1).1 (List.mem_map.mpr ⟨q, hq, h2⟩)
  rw [h]
  have : enR (X ++ (e, o) :: Y) e n = enR X e n ++ (n, o) :: enR Y e n := by
    unfold enR
    rw [List.map_append, List.map_cons, if_pos rfl]
  rw [this, enR_no hX, enR_no hY]
def s_rn (s : aT) (e : Nat) : aT := s_en (s_push (s_new s (sNm s e) (sCs s e)) (sN s)) (enR (sEn s) e (sN s))
def renL : List Nat → aT → aT
  | [], s => s
  | e :: es, s => if sN s < 24 then renL es (s_rn s e) else s_brk s
def s_renew (s : aT) : aT := renL ((flO (sEn s) (ow s)).drop (bLO s)) s
theorem W_en {s : aT} (w : Wf s) {en : List (Nat × Nat)} (h1 : ∀ q ∈ en, q.1 < sN s ∧ q.2 < sN s ∧ inS 7 (sNm s q.1) = true) (h2 : ∀ o, (flO en o).length ≤ 4) (h3 : (en.map Prod.fst).Nodup) (h4 : en.length < sN s) : Wf (s_en s en) := by
  obtain ⟨a, l, t, ⟨x1, x2, x3, x4, x5, x6, x7⟩⟩ := w
  exact ⟨a, ⟨fun q hq => ⟨(h1 q hq).1, (h1 q hq).2.1⟩, h2, h3, h4⟩, t, x1, x2, x3, x4, x5, fun q hq => (h1 q hq).2.2, x7⟩
theorem sNew_kn {s : aT} (w : Wf s) (x : Nat) (a : Int32) : sKd (s_new s x a) (sN s) = [] := by
  have hb : ∀ k, k < sH s → sSf s k < sN s := w.1.2.2.2.1
  have hh : 1 ≤ sH s ∧ sH s ≤ sN s := w.1.2.2.1
  show (match plT (sNm (s_make s x a)) (sSf (s_make s x a)) (sH s) with
    | some j => fun q => insB (sN s) (sSf (s_make s x a) j) (sKd (s_make s x a) q)
    | none => up (sKd (s_make s x a)) (sSf s (sH s - 1)) (sKd (s_make s x a) (sSf s (sH s - 1)) ++ [sN s])) (sN s) = []
  cases plT (sNm (s_make s x a)) (sSf (s_make s x a)) (sH s) with
  | some j =>
    show insB _ _ (up (sKd s) (sN s) [] (sN s)) = []
    rw [up_e]
    rfl
  | none =>
    have := hb (sH s - 1) (by omega)
    show up (sKd (s_make s x a)) (sSf s (sH s - 1)) _ (sN s) = []
    rw [up_n (by omega)]
    show up (sKd s) (sN s) [] (sN s) = []
    rw [up_e]
theorem no_pth {kd : Nat → List Nat} {i y : Nat} (h : kd i = []) : ¬ dsc kd i y := fun ⟨m, z, hz, _⟩ => by
  rw [h] at hz
  cases hz
theorem W_np {s : aT} (w : Wf s) (hn : sN s < 24) {x : Nat} {a : Int32} (h1 : 97 ≤ x) (h2 : x ≤ 122) (hr : x ≠ 114) : Wf (s_push (s_new s x a) (sN s)) := by
  have hb : ∀ k, k < sH s → sSf s k < sN s := w.1.2.2.2.1
  have hh : 1 ≤ sH s ∧ sH s ≤ sN s := w.1.2.2.1
  have e : sNm (s_new s x a) (sN s) = x := up_e (sNm s) (sN s) x
  refine W_push (W_new w hn (Or.inr ⟨h1, h2⟩)) (Nat.lt_succ_self _) (fun k hk => ?_) (show sH s < sN s + 1 by omega) (by rw [e]; exact h1) (fun q => absurd (e.symm.trans q) hr) fun b _ => no_pth (sNew_kn w x a)
  have : sSf s k < sN s := hb k hk
  show sSf s k ≠ sN s
  omega
theorem inS7 {x : Nat} (h : inS 7 x = true) (hx : x < 200) : x = 98 ∨ x = 105 ∨ x = 115 := by
  have : ∀ y, y < 200 → inS 7 y = true → y = 98 ∨ y = 105 ∨ y = 115 := by decide +kernel
  exact this x hx h
theorem W_rn {s : aT} (w : Wf s) (hn : sN s < 24) {e o : Nat} (he : (e, o) ∈ sEn s) : Wf (s_rn s e) := by
  have hl := w.2.1
  have he' := (hl.1 _ he).1
  have h7 := inS7 (w.2.2.2.2.2.2.2.2.1 _ he) (w.1.2.1 e he')
  have hx : 97 ≤ sNm s e ∧ sNm s e ≤ 122 ∧ sNm s e ≠ 114 := by
    have h7' : sNm s e = 98 ∨ sNm s e = 105 ∨ sNm s e = 115 := h7
    omega
  have w1 := W_np (a := sCs s e) w hn hx.1 hx.2.1 hx.2.2
  obtain ⟨X, Y, hX⟩ := List.append_of_mem he
  have hR := enR_s (n := sN s) hX hl.2.2.1
  have nd := hl.2.2.1
  refine W_en w1 (fun q hq => ?_) (fun i => ?_) ?_ ?_
  · have hq' : q ∈ X ++ (sN s, o) :: Y := by
      rw [← hR]
      exact hq
    rcases List.mem_append.mp hq' with m | m
    · have m' : q ∈ sEn s := by rw [hX]; simp [m]
      have := hl.1 q m'
      refine ⟨Nat.lt_succ_of_lt this.1, Nat.lt_succ_of_lt this.2, ?_⟩
      show inS 7 (up (sNm s) (sN s) _ q.1) = true
      rw [up_lt this.1]
      exact w.2.2.2.2.2.2.2.2.1 q m'
    · rcases List.mem_cons.mp m with m | m
      · subst m
        refine ⟨Nat.lt_succ_self _, Nat.lt_succ_of_lt (hl.1 _ he).2, ?_⟩
        show inS 7 (up (sNm s) (sN s) _ (sN s)) = true
        rw [up_e]
        exact w.2.2.2.2.2.2.2.2.1 _ he
      · have m' : q ∈ sEn s := by rw [hX]; simp [m]
        have := hl.1 q m'
        refine ⟨Nat.lt_succ_of_lt this.1, Nat.lt_succ_of_lt this.2, ?_⟩
        show inS 7 (up (sNm s) (sN s) _ q.1) = true
        rw [up_lt this.1]
        exact w.2.2.2.2.2.2.2.2.1 q m'
  · have h4 := hl.2.1 i
    rw [hX, flO_app] at h4
    rw [hR, flO_app]
    by_cases q : i = o
    · subst q
      rw [flO_e] at h4 ⊢
      simpa using h4
    · rw [flO_n q] at h4 ⊢
      exact h4
  · rw [hR]
    rw [hX] at nd
    rw [List.map_append, List.map_cons] at nd ⊢
    have a := List.nodup_append.mp nd
    have fr : ∀ q ∈ sEn s, q.1 ≠ sN s := fun q hq h => by have := (hl.1 q hq).1; omega
    refine List.nodup_append.mpr ⟨a.1, List.nodup_cons.mpr ⟨fun m => ?_, (List.nodup_cons.mp a.2.1).2⟩, fun y hy z hz => ?_⟩
    · obtain ⟨q, hq, h⟩ := List.mem_map.mp m
      exact fr q (by rw [hX]; simp [hq]) h
    · rcases List.mem_cons.mp hz with h | h
      · obtain ⟨q, hq, h'⟩ := List.mem_map.mp hy
        have := fr q (by rw [hX]; simp [hq])
        rw [h, ← h']
        exact this
      · exact a.2.2 y hy z (by simp [h])
  · have : (enR (sEn s) e (sN s)).length = (sEn s).length := List.length_map _
    rw [this]
    exact Nat.lt_succ_of_lt hl.2.2.2
theorem t_ren {o : Nat} : ∀ (es P : List Nat) (s : aT) (M : qM) (f : Nat), C M s → Wf s → o < sN s → flO (sEn s) o = P ++ es → es.length < f → ∃ M', f_Tree_renew_10 (8 + 5 * o) f (fun (M22 : qM) => some M22) (nI P.length) M = some M' ∧ C M' (renL es s) ∧ tF M M' ∧ Wf (renL es s) := by
  intro es
  induction es with
  | nil =>
    intro P s M f c w ho hP hf
    obtain ⟨f, rfl⟩ : ∃ g, f = g + 1 := ⟨f - 1, by simp at hf; omega⟩
    have h4 := w.2.1.2.1 o
    rw [hP] at h4
    simp at h4
    refine ⟨M, ?_, c, tF_r M, w⟩
    rw [f_Tree_renew_10, (c.2.2.2.2.1 o ho).1, hP, List.append_nil, i_le (by omega) (by omega), if_pos (Nat.le_refl _)]
  | cons e es ih =>
    intro P s M f c w ho hP hf
    obtain ⟨f, rfl⟩ : ∃ g, f = g + 1 := ⟨f - 1, by simp at hf; omega⟩
    have h4 := w.2.1.2.1 o
    have hlen : (flO (sEn s) o).length = P.length + 1 + es.length := by rw [hP]; simp; omega
    obtain ⟨X, Y, hX, hX2, hX3⟩ := flO_split hP
    have hm : (e, o) ∈ sEn s := by rw [hX]; simp
    have he := (w.2.1.1 _ hm).1
    have hit : M.2 (8 + 5 * o + 1) P.length = some (7 + 5 * e) := (c.2.2.2.2.1 o ho).2 _ _ (by rw [hP]; simp)
    have hnm := (c.2.1 e he)
    have hw := w.1.2.1 e he
    unfold renL
    rw [f_Tree_renew_10, (c.2.2.2.2.1 o ho).1, i_le (by omega) (by omega), if_neg (by omega), g_ix (by omega) (by omega), g_cl (by omega), hit]
    simp only [q_lt, q_nn]
    rw [g_ix (by omega) (by omega)]
    simp only [q_lt, q_nn, hnm.1, hnm.2]
    by_cases hn : sN s < 24
    · obtain ⟨M1, M2, e1, e2, e3, e4, e5⟩ := s_mkput c w hn hw (sCs s e)
      have hh : 1 ≤ sH s ∧ sH s ≤ sN s := w.1.2.2.1
      obtain ⟨M3, p1, p2, p3⟩ := s_pushT (i := sN s) e4 (Nat.lt_succ_self _) (show sN s + 1 ≤ 24 by omega) (show sH s < 24 by omega)
      have hR := enR_s (n := sN s) hX w.2.1.2.2.1
      have hfl : cFl (qsR M3 (8 + 5 * o + 1) P.length (some (7 + 5 * sN s))) (sN s + 1) (enR (sEn s) e (sN s)) := by
        have cf : cFl M3 (sN s + 1) (sEn s) := p2.2.2.2.2.1
        refine cFl_one (o := o) cf (fun i hi => ?_) ?_ (fun k z hz => ?_) (fun i _ hi => rfl) fun i _ hi k => g_Rn (by omega)
        · rw [hR, hX, flO_app, flO_app, flO_n hi, flO_n hi]
        · have := (cf o (Nat.lt_succ_of_lt ho)).1
          rw [g_R1, this, hR, hX, flO_app, flO_app, flO_e, flO_e]
          simp
        · rw [hR, flO_app, flO_e, hX2, hX3, List.getElem?_append] at hz
          by_cases hk : k < P.length
          · rw [if_pos hk] at hz
            rw [g_Rn (by omega)]
            refine (cf o (Nat.lt_succ_of_lt ho)).2 k z ?_
            rw [hP, List.getElem?_append, if_pos hk]
            exact hz
          · rw [if_neg hk] at hz
            by_cases hk2 : k = P.length
            · rw [hk2, Nat.sub_self] at hz
              have : sN s = z := by simpa using hz
              rw [hk2, g_Re ⟨rfl, rfl⟩, this]
            · rw [g_Rn (by omega)]
              refine (cf o (Nat.lt_succ_of_lt ho)).2 k z ?_
              rw [hP, List.getElem?_append, if_neg hk]
              obtain ⟨j, hj⟩ : ∃ j, k - P.length = j + 1 := ⟨k - P.length - 1, by omega⟩
              rw [hj] at hz ⊢
              exact hz
      obtain ⟨c4, t4⟩ := C_fl (o := o) (s := s_push (s_new s (sNm s e) (sCs s e)) (sN s)) (M' := qsR M3 (8 + 5 * o + 1) P.length (some (7 + 5 * sN s))) p2 (show sN s + 1 ≤ 24 by omega) hfl (fun p j _ => rfl) (fun p j hp => g_Rn (by omega)) (Nat.lt_succ_of_lt ho)
      have hfl2 : flO (sEn (s_rn s e)) o = (P ++ [sN s]) ++ es := by
        show flO (enR (sEn s) e (sN s)) o = _
        rw [hR, flO_app, flO_e, hX2, hX3]
        simp
      obtain ⟨M', r1, r2, r3, r4⟩ := ih (P ++ [sN s]) (s_rn s e) (qsR M3 (8 + 5 * o + 1) P.length (some (7 + 5 * sN s))) f c4 (W_rn w hn hm) (Nat.lt_succ_of_lt ho) hfl2 (by simp at hf; omega)
      refine ⟨M', ?_, by rw [if_pos hn]; exact r2, tF_t e5 (tF_t p3 (tF_t t4 r3)), by rw [if_pos hn]; exact r4⟩
      rw [e1]
      have h5 : M1.1 5 1 = nI (sH s) := e3.2.2.2.1.1
      simp only [q_cl, q_on, h5, e2, q_cv, p1]
      rw [g_ix (by omega) (by omega), g_inc]
      have : P.length + 1 = (P ++ [sN s]).length := by simp
      rw [this]
      exact r1
    · obtain ⟨M1, e1, e2, e3⟩ := s_brkT c hn w.1.1.2 (nI (sNm s e)) (sCs s e)
      refine ⟨M1, ?_, by rw [if_neg hn]; exact e2, e3, by rw [if_neg hn]; exact W_brk w⟩
      rw [e1]
      simp only [q_cl, q_on]
theorem bLO_le (s : aT) : bLO s ≤ (flO (sEn s) (ow s)).length := by
  unfold bLO
  cases h : lastI (fun j => opn (sSf s) (sH s) ((flO (sEn s) (ow s)).getD j 0)) (flO (sEn s) (ow s)).length with
  | none => exact Nat.zero_le _
  | some j => exact (lastI_lt h).1
theorem t_renew {M : qM} {s : aT} (c : C M s) (w : Wf s) : ∃ M', f_Tree_renew M = some M' ∧ C M' (s_renew s) ∧ tF M M' ∧ Wf (s_renew s) := by
  have hb := bLO_le s
  have h4 := w.2.1.2.1 (ow s)
  obtain ⟨M', e1, e2⟩ := t_ren ((flO (sEn s) (ow s)).drop (bLO s)) ((flO (sEn s) (ow s)).take (bLO s)) s M 1000 c w (ow_lt w.1) (List.take_append_drop _ _).symm (by simp; omega)
  refine ⟨M', ?_, e2⟩
  unfold f_Tree_renew
  rw [t_list c w.1]
  simp only [q_bp, q_nn]
  rw [t_blo c w.1 w.2.1]
  rw [List.length_take, Nat.min_eq_left hb] at e1
  exact e1
/-! letters -/
theorem nxL_ext {cf : Nat → Nat × Nat} {v : Nat × Nat} {i nc : Nat} : ∀ {m a : Nat}, a + m = nc → nxL (up cf nc v) i (m + 1) a = match nxL cf i m a with
    | some q => some q
    | none => if v.2 = i then some nc else none
  | 0, a, h => by
    have : a = nc := by omega
    subst this
    unfold nxL
    rw [up_e]
    simp [nxL]
  | m + 1, a, h => by
    rw [nxL, up_n (show a ≠ nc by omega)]
    by_cases e : (cf a).2 = i
    · rw [if_pos e]
      conv => rhs; rw [nxL, if_pos e]
    · rw [if_neg e, nxL_ext (show a + 1 + m = nc by omega)]
      conv => rhs; rw [nxL, if_neg e]
theorem nxL_last {cf : Nat → Nat × Nat} {i : Nat} : ∀ {m a q : Nat}, nxL cf i m a = some q → a ≤ q ∧ q < a + m ∧ (cf q).2 = i
  | 0, _, _, h => by cases h
  | m + 1, a, q, h => by
    unfold nxL at h
    split at h
    · cases h
      exact ⟨Nat.le_refl _, by omega, by assumption⟩
    · have := nxL_last h
      exact ⟨by omega, by omega, this.2.2⟩
theorem nxL_none {cf : Nat → Nat × Nat} {i : Nat} : ∀ {m a : Nat}, nxL cf i m a = none → ∀ q, a ≤ q → q < a + m → (cf q).2 ≠ i
  | 0, _, _, q, h1, h2 => by omega
  | m + 1, a, h, q, h1, h2 => by
    unfold nxL at h
    split at h
    · cases h
    · by_cases e : q = a
      · rw [e]; assumption
      · exact nxL_none h q (by omega) (by omega)
def s_let (s : aT) (t c : Nat) : aT := if sNc s < 160 then (sB s, sN s, sNm s, sCs s, sKd s, sSf s, sH s, sEn s, up (sCf s) (sNc s) (c, t), sNc s + 1) else s
theorem s_letT {M : qM} {s : aT} (c : C M s) (hn : sN s ≤ 24) (hnc : sNc s < 160) {t : Nat} (ht : t < sN s) (code : Nat) : ∃ M', f_Node_addLetter (7 + 5 * t) (127 + sNc s) (qsR (qsI (qsI M 1 6 (nI (sNc s + 1))) (127 + sNc s) 0 (nI code)) (127 + sNc s) 1 none) = some M' ∧ C M' (s_let s t code) ∧ tF M M' := by
  obtain ⟨⟨cB, cN⟩, c1, c2, c3, c4, c5⟩ := c
  have hl := (c5.2.1 t ht).2
  unfold s_let
  rw [if_pos hnc]
  cases hq : lastI (fun q => (sCf s q).2 == t) (sNc s) with
  | none =>
    have hno : ∀ q, q < sNc s → (sCf s q).2 ≠ t := fun q h => by simpa using lastI_no hq q h
    have hf : nxL (sCf s) t (sNc s) 0 = none := nxL_no fun q _ h => hno q (by omega)
    rw [hq] at hl
    refine ⟨qsR (qsR (qsR (qsI (qsI M 1 6 (nI (sNc s + 1))) (127 + sNc s) 0 (nI code)) (127 + sNc s) 1 none) (7 + 5 * t) 9 (some (127 + sNc s))) (7 + 5 * t) 10 (some (127 + sNc s)), ?_, ⟨⟨?_, ?_⟩, ?_, ?_, ?_, ?_, ⟨?_, fun i hi => ?_, fun q hqn => ?_⟩⟩, fun p j hp => ⟨?_, ?_⟩⟩
    · unfold f_Node_addLetter
      simp (disch := omega) only [q_lt, q_on, g_Rn, g_I2, hl, Option.map]
    · simp (disch := omega) only [g_R1, g_In]; exact cB
    · simp (disch := omega) only [g_R1, g_In]; exact cN
    · exact cNm_cg c1 fun i hi j hj => by have hi' : i < sN s := hi; simp (disch := omega) only [g_R1, g_In]
    · exact cLk_cg c2 fun i hi j h1 h2 => by have hi' : i < sN s := hi; simp (disch := omega) only [g_Rn, g_I2]
    · exact cSt_cg c3 (by simp (disch := omega) only [g_R1, g_In]) (fun k hk => by simp (disch := omega) only [g_Rn, g_I2]) fun i hi => by have hi' : i < sN s := hi; simp (disch := omega) only [g_R1, g_In]
    · exact cFl_cg c4 (fun i hi => by have hi' : i < sN s := hi; simp (disch := omega) only [g_R1, g_In]) fun i hi k => by have hi' : i < sN s := hi; simp (disch := omega) only [g_Rn, g_I2]
    · simp (disch := omega) only [g_R1, g_In, g_Ie]; rfl
    · show _ = (nxL (up (sCf s) (sNc s) (code, t)) i (sNc s + 1) 0).map (127 + ·) ∧ _ = (lastI (fun q => (up (sCf s) (sNc s) (code, t) q).2 == i) (sNc s + 1)).map (127 + ·)
      rw [nxL_ext (Nat.zero_add _)]
      by_cases e : i = t
      · subst e
        rw [hf]
        unfold lastI
        rw [up_e]
        simp (disch := omega) only [g_Rn, g_Re, g_I2]
        simp
      · have hi' : i < sN s := hi
        have := c5.2.1 i hi'
        have eL : lastI (fun q => (up (sCf s) (sNc s) (code, t) q).2 == i) (sNc s + 1) = lastI (fun q => (sCf s q).2 == i) (sNc s) := by
          rw [lastI, up_e, if_neg (by simpa using fun q => e q.symm), lastI_congr (Q := fun q => (sCf s q).2 == i) fun q hq => by rw [up_lt hq]]
        rw [eL]
        simp (disch := omega) only [g_Rn, g_I2]
        rw [this.1, this.2]
        refine ⟨?_, rfl⟩
        cases nxL (sCf s) i (sNc s) 0 with
        | none =>
          show Option.map _ none = Option.map _ (if t = i then some (sNc s) else none)
          rw [if_neg fun q => e q.symm]
        | some q => rfl
    · have hqn' : q < sNc s + 1 := hqn
      show _ = nI (up (sCf s) (sNc s) (code, t) q).1 ∧ _ = (nxL (up (sCf s) (sNc s) (code, t)) (up (sCf s) (sNc s) (code, t) q).2 (sNc s + 1 - (q + 1)) (q + 1)).map (127 + ·)
      by_cases e : q = sNc s
      · subst e
        rw [up_e, Nat.sub_self]
        simp (disch := omega) only [g_Rn, g_Re, g_R1, g_Ie, g_I2]
        exact ⟨trivial, rfl⟩
      · have := c5.2.2 q (by omega)
        rw [up_n e, show sNc s + 1 - (q + 1) = (sNc s - (q + 1)) + 1 by omega, nxL_ext (by omega)]
        simp (disch := omega) only [g_Rn, g_R1, g_In, g_I2]
        rw [this.1, this.2]
        refine ⟨rfl, ?_⟩
        cases nxL (sCf s) (sCf s q).2 (sNc s - (q + 1)) (q + 1) with
        | none =>
          show Option.map _ none = Option.map _ (if t = (sCf s q).2 then some (sNc s) else none)
          rw [if_neg fun z => hno q (by omega) z.symm]
        | some q => rfl
    · simp (disch := omega) only [g_R1, g_In]
    · simp (disch := omega) only [g_Rn, g_I2]
  | some l =>
    have hl2 := lastI_lt hq
    have hlt : (sCf s l).2 = t := by simpa using hl2.2
    have hmax : ∀ q, l < q → q < sNc s → (sCf s q).2 ≠ t := fun q h1 h2 => by simpa using lastI_max hq q h1 h2
    rw [hq] at hl
    refine ⟨qsR (qsR (qsR (qsI (qsI M 1 6 (nI (sNc s + 1))) (127 + sNc s) 0 (nI code)) (127 + sNc s) 1 none) (127 + l) 1 (some (127 + sNc s))) (7 + 5 * t) 10 (some (127 + sNc s)), ?_, ⟨⟨?_, ?_⟩, ?_, ?_, ?_, ?_, ⟨?_, fun i hi => ?_, fun q hqn => ?_⟩⟩, fun p j hp => ⟨?_, ?_⟩⟩
    · unfold f_Node_addLetter
      simp (disch := omega) only [q_lt, q_on, q_nn, g_Rn, g_I2, hl, Option.map]
    · simp (disch := omega) only [g_R1, g_In]; exact cB
    · simp (disch := omega) only [g_R1, g_In]; exact cN
    · exact cNm_cg c1 fun i hi j hj => by have hi' : i < sN s := hi; simp (disch := omega) only [g_R1, g_In]
    · exact cLk_cg c2 fun i hi j h1 h2 => by have hi' : i < sN s := hi; simp (disch := omega) only [g_Rn, g_I2]
    · exact cSt_cg c3 (by simp (disch := omega) only [g_R1, g_In]) (fun k hk => by simp (disch := omega) only [g_Rn, g_I2]) fun i hi => by have hi' : i < sN s := hi; simp (disch := omega) only [g_R1, g_In]
    · exact cFl_cg c4 (fun i hi => by have hi' : i < sN s := hi; simp (disch := omega) only [g_R1, g_In]) fun i hi k => by have hi' : i < sN s := hi; simp (disch := omega) only [g_Rn, g_I2]
    · simp (disch := omega) only [g_R1, g_In, g_Ie]; rfl
    · have hi' : i < sN s := hi
      have := c5.2.1 i hi'
      show _ = (nxL (up (sCf s) (sNc s) (code, t)) i (sNc s + 1) 0).map (127 + ·) ∧ _ = (lastI (fun q => (up (sCf s) (sNc s) (code, t) q).2 == i) (sNc s + 1)).map (127 + ·)
      rw [nxL_ext (Nat.zero_add _)]
      by_cases e : i = t
      · subst e
        unfold lastI
        rw [up_e]
        simp (disch := omega) only [g_Rn, g_Re, g_I2]
        rw [this.1]
        cases hx : nxL (sCf s) i (sNc s) 0 with
        | none => exact absurd hlt (nxL_none hx l (Nat.zero_le _) (by omega))
        | some q => simp
      · have eL : lastI (fun q => (up (sCf s) (sNc s) (code, t) q).2 == i) (sNc s + 1) = lastI (fun q => (sCf s q).2 == i) (sNc s) := by
          rw [lastI, up_e, if_neg (by simpa using fun q => e q.symm), lastI_congr (Q := fun q => (sCf s q).2 == i) fun q hq => by rw [up_lt hq]]
        rw [eL]
        simp (disch := omega) only [g_Rn, g_I2]
        rw [this.1, this.2]
        refine ⟨?_, rfl⟩
        cases nxL (sCf s) i (sNc s) 0 with
        | none =>
          show Option.map _ none = Option.map _ (if t = i then some (sNc s) else none)
          rw [if_neg fun q => e q.symm]
        | some q => rfl
    · have hqn' : q < sNc s + 1 := hqn
      show _ = nI (up (sCf s) (sNc s) (code, t) q).1 ∧ _ = (nxL (up (sCf s) (sNc s) (code, t)) (up (sCf s) (sNc s) (code, t) q).2 (sNc s + 1 - (q + 1)) (q + 1)).map (127 + ·)
      by_cases e : q = sNc s
      · subst e
        rw [up_e, Nat.sub_self]
        simp (disch := omega) only [g_Rn, g_Re, g_R1, g_Ie, g_I2]
        exact ⟨trivial, rfl⟩
      · have := c5.2.2 q (by omega)
        rw [up_n e, show sNc s + 1 - (q + 1) = (sNc s - (q + 1)) + 1 by omega, nxL_ext (by omega)]
        by_cases eq : q = l
        · subst eq
          simp (disch := omega) only [g_Rn, g_Re, g_R1, g_In, g_I2]
          rw [this.1]
          refine ⟨rfl, ?_⟩
          rw [nxL_no fun z h1 h2 => by rw [hlt]; exact hmax z (by omega) (by omega)]
          simp [hlt]
        · simp (disch := omega) only [g_Rn, g_R1, g_In, g_I2]
          rw [this.1, this.2]
          refine ⟨rfl, ?_⟩
          cases hx : nxL (sCf s) (sCf s q).2 (sNc s - (q + 1)) (q + 1) with
          | none =>
            have : ¬ t = (sCf s q).2 := fun z => by
              by_cases h1 : q < l
              · exact nxL_none hx l (by omega) (by omega) (by rw [hlt, z])
              · exact hmax q (by omega) (by omega) z.symm
            show Option.map _ none = Option.map _ (if t = (sCf s q).2 then some (sNc s) else none)
            rw [if_neg this]
          | some q => rfl
    · simp (disch := omega) only [g_R1, g_In]
    · simp (disch := omega) only [g_Rn, g_I2]
