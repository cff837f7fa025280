/-! rows, cells, and an element taken over, on the class's side -/
theorem W_op {s : aT} (w : Wf s) {x : Nat} {a : Int32} (h1 : 97 ≤ x) (h2 : x ≤ 122) (hr : x = 114 → sNm s (sSf s (sH s - 1)) = 116) : Wf (s_op s x a) := by
  unfold s_op
  by_cases hn : sN s < 24
  · rw [if_pos hn]
    have hb : ∀ k, k < sH s → sSf s k < sN s := w.1.2.2.2.1
    have hh : 1 ≤ sH s ∧ sH s ≤ sN s := w.1.2.2.1
    have hk : ∀ q, q < sN s → sN s ∉ sKd s q := fun q hq m => by
      have := W_ks w hq m
      omega
    obtain ⟨pre, ht⟩ := W_pre w
    have htop := hb (sH s - 1) (by omega)
    obtain ⟨A, S, B, e, _, _, _, g4, g5, g6, g7⟩ := pre_leaf ht hk htop
    have w1 : Wf (s_kd (s_make s x a) (up (up (sKd s) (sN s) []) (sSf s (sH s - 1)) (sKd s (sSf s (sH s - 1)) ++ [sN s]))) := by
      refine W_ext w hn (Or.inr ⟨h1, h2⟩) ⟨_, g4, g5, g6, g7⟩ (fun i z hz => ?_) ?_ (fun i hi h1 => ?_)
      · by_cases q : i = sSf s (sH s - 1)
        · rw [q, up_e] at hz
          rw [q]
          rcases List.mem_append.mp hz with h | h
          · exact Or.inl h
          · exact Or.inr (List.mem_singleton.mp h)
        · rw [up_n q] at hz
          by_cases q2 : i = sN s
          · rw [q2, up_e] at hz
            cases hz
          · rw [up_n q2] at hz
            exact Or.inl hz
      · rw [up_n (by omega), up_e]
      · have hne : i ≠ sSf s (sH s - 1) := fun q => by
          by_cases q0 : sH s - 1 = 0
          · rw [q, q0, w.2.2.2.2.1.1, w.2.2.2.1.1] at h1
            omega
          · have := w.2.2.2.2.1.2 (sH s - 1) (by omega) (by omega)
            rw [← q] at this
            omega
        rw [up_n hne, up_lt hi]
        exact w.2.2.2.2.2.2.1 i hi h1
    refine W_push w1 (Nat.lt_succ_self _) (fun k hk => ?_) (show sH s < sN s + 1 by omega) ?_ (fun q => ?_) fun b _ => no_pth ?_
    · have : sSf s k < sN s := hb k hk
      show sSf s k ≠ sN s
      omega
    · show 97 ≤ up (sNm s) (sN s) x (sN s)
      rw [up_e]
      exact h1
    · show up (sNm s) (sN s) x (sSf s (sH s - 1)) = 116
      rw [up_lt htop]
      refine hr ?_
      have : up (sNm s) (sN s) x (sN s) = 114 := q
      rwa [up_e] at this
    · show up (up (sKd s) (sN s) []) (sSf s (sH s - 1)) _ (sN s) = []
      rw [up_n (by omega), up_e]
  · rw [if_neg hn]
    exact W_brk w
def s_roc (s : aT) (x : Nat) (a : Int32) : aT := match s_tm s 116 with
  | none => s
  | some t => match (if x = 99 then s_rch s 114 2 else none) with
    | some r => s_op (s_h s (r + 1)) x a
    | none => if x = 99 then s_op (s_op (s_h s (t + 1)) 114 0) x a else s_op (s_h s (t + 1)) x a
theorem t_roc {M : qM} {s : aT} (c : C M s) (w : Wf s) {x : Nat} {a : Int32} (hx : x = 114 ∨ x = 99) : ∃ M', f_Tree_startRowOrCell (nI x) a M = some M' ∧ C M' (s_roc s x a) ∧ tF M M' ∧ Wf (s_roc s x a) := by
  have hh : 1 ≤ sH s ∧ sH s ≤ sN s := w.1.2.2.1
  have h24 : sH s ≤ 24 := by have := w.1.1.2; omega
  unfold f_Tree_startRowOrCell s_roc
  rw [show (116 : Int32) = nI 116 from rfl, t_top c.2.1 c.2.2.2.1 w.1.2.2.2.1 h24 w.1.2.1 (by omega)]
  cases ht : s_tm s 116 with
  | none =>
    have ht' : lastI (fun j => sNm s (sSf s j) == 116) (sH s) = none := ht
    rw [ht']
    exact ⟨M, rfl, c, tF_r M, w⟩
  | some t =>
    have ht' : lastI (fun j => sNm s (sSf s j) == 116) (sH s) = some t := ht
    have ti := lastI_lt ht'
    have tn : sNm s (sSf s t) = 116 := by simpa using ti.2
    rw [ht']
    simp only [Option.map, q_bp, q_on, q_lt]
    rw [show (99 : Int32) = nI 99 from rfl, i_eq (by omega) (by omega)]
    by_cases h99 : x = 99
    · subst h99
      simp only [if_true]
      unfold f_OpenStack_rowOfTable
      rw [show (114 : Int32) = nI 114 from rfl, t_rch c.2.1 c.2.2.2.1 w.1.2.2.2.1 h24 w.1.2.1 (by omega) (by omega)]
      cases hr : s_rch s 114 2 with
      | none =>
        have hr' : rchI (fun j => sNm s (sSf s j) == 114) (fun j => inS 2 (sNm s (sSf s j))) (sH s) = none := hr
        rw [hr']
        obtain ⟨M1, a1, a2, a3⟩ := s_closeAb c w.1 ti.1
        have w1 := W_h w (k := t + 1) (by omega) ti.1
        obtain ⟨M2, b1, b2', b3⟩ := s_opT a2 w1 (x := 114) (by omega) 0
        have w2 := W_op (x := 114) (a := 0) w1 (by omega) (by omega) (fun _ => by show sNm s (sSf s (t + 1 - 1)) = 116; rw [Nat.add_sub_cancel]; exact tn)
        obtain ⟨M3, d1, d2, d3⟩ := s_opT b2' w2 (x := 99) (by omega) a
        have w3 := W_op (x := 99) (a := a) w2 (by omega) (by omega) (fun q => by omega)
        refine ⟨M3, ?_, d2, tF_t a3 (tF_t b3 d3), w3⟩
        simp only [Option.map, q_bp, q_on, a1, q_cv, b1, d1]
      | some r =>
        have hr' : rchI (fun j => sNm s (sSf s j) == 114) (fun j => inS 2 (sNm s (sSf s j))) (sH s) = some r := hr
        rw [hr']
        have ri := rchI_lt hr'
        obtain ⟨M1, a1, a2, a3⟩ := s_closeAb c w.1 ri.1
        have w1 := W_h w (k := r + 1) (by omega) ri.1
        obtain ⟨M3, d1, d2, d3⟩ := s_opT a2 w1 (x := 99) (by omega) a
        have w3 := W_op (x := 99) (a := a) w1 (by omega) (by omega) (fun q => by omega)
        refine ⟨M3, ?_, d2, tF_t a3 d3, w3⟩
        simp only [Option.map, q_bp, q_on, a1, q_cv, d1]
    · simp only [if_neg h99]
      obtain ⟨M1, a1, a2, a3⟩ := s_closeAb c w.1 ti.1
      have w1 := W_h w (k := t + 1) (by omega) ti.1
      obtain ⟨M3, d1, d2, d3⟩ := s_opT a2 w1 (x := x) (by omega) a
      have w3 := W_op (x := x) (a := a) w1 (by omega) (by omega) (fun _ => by show sNm s (sSf s (t + 1 - 1)) = 116; rw [Nat.add_sub_cancel]; exact tn)
      refine ⟨M3, ?_, d2, tF_t a3 d3, w3⟩
      have hne : ¬ nI x = nI 99 := by rw [g_eq (by omega) (by omega)]; exact h99
      simp only [q_on, a1, q_cv, if_neg hne, d1]
def s_st1 (s : aT) (x : Nat) : aT := if inS 3 x = true then s_clR s 112 4 else s_renew s
def s_stt (s : aT) (x : Nat) (a : Int32) : aT := if inS 1 x = true then s_roc s x a else if x = 108 then s_st2 (s_clR (s_st1 s x) 108 5) x a else s_st2 (s_st1 s x) x a
theorem inS1 {x : Nat} (hx : x < 200) : inS 1 x = true ↔ x = 114 ∨ x = 99 := by
  have : ∀ y, y < 200 → (inS 1 y = true ↔ y = 114 ∨ y = 99) := by decide +kernel
  exact this x hx
def st_K2 (x a : Int32) : qM → Option qM := fun M => q_cl (f_Tree_putNew x a M) fun r6 M7 => q_on r6 (some M7) fun o8 => (q_bp (f_Pg_isOneOf x 6 M7) fun x9 => q_lt (fun (M10 : qM) => q_bp (f_Pg_isOneOf x 7 M10) fun x11 => if x11 = 0 then (some M10) else (q_bp (f_Tree_theList M10) fun r13 => q_nn r13 fun o14 => q_cv (f_FormattingList_add o14 o8 M10) fun M15 => some M15)) fun (j16 : qM → Option qM) => if x9 = 0 then (q_cv (f_OpenStack_push o8 M7) fun M18 => j16 M18) else (j16 M7))
def st_K1 (x a : Int32) : qM → Option qM := fun M4 => if x = 108 then (q_bp (f_OpenStack_inReach 108 5 M4) fun r22 => q_cv (f_OpenStack_closeTo r22 M4) fun M23 => st_K2 x a M23) else (st_K2 x a M4)
theorem st_eq (x a : Int32) (M : qM) : f_Tree_startTag x a M = q_bp (f_Pg_isOneOf x 1 M) fun x1 => if x1 = 0 then (q_bp (f_Pg_isOneOf x 3 M) fun x3 => if x3 = 0 then (q_cv (f_Tree_renew M) fun M26 => st_K1 x a M26) else (q_bp (f_OpenStack_inReach 112 4 M) fun r27 => q_cv (f_OpenStack_closeTo r27 M) fun M28 => st_K1 x a M28)) else (q_cv (f_Tree_startRowOrCell x a M) fun M29 => some M29) := rfl
theorem q_bpv {α β : Type} {o : Option α} {f : α → Option qM} {M1 : qM} {K : qM → Option β} (h : q_bp o f = some M1) : (q_bp o fun r => q_cv (f r) fun M2 => K M2) = K M1 := by
  cases o with
  | none => cases h
  | some r =>
    have h' : f r = some M1 := h
    show q_cv (f r) _ = _
    rw [h']
    rfl
theorem t_stt {M : qM} {s : aT} (c : C M s) (w : Wf s) {x : Nat} {a : Int32} (h1 : 97 ≤ x) (h2 : x ≤ 122) : ∃ M', f_Tree_startTag (nI x) a M = some M' ∧ C M' (s_stt s x a) ∧ tF M M' ∧ Wf (s_stt s x a) := by
  rw [st_eq]
  unfold s_stt
  rw [g_one M (by omega) (show x < 65536 by omega)]
  show ∃ M', (if b2 (inS 1 x) = 0 then _ else _) = _ ∧ _
  rw [i_b2]
  by_cases i1 : inS 1 x = true
  · rw [if_neg (by simp [i1]), if_pos i1]
    obtain ⟨M', e⟩ := t_roc (a := a) c w ((inS1 (by omega)).mp i1)
    refine ⟨M', ?_, e.2⟩
    rw [e.1]
    rfl
  · rw [if_pos (by simpa using i1), if_neg i1]
    have hr : x ≠ 114 := fun q => i1 ((inS1 (by omega)).mpr (Or.inl q))
    rw [g_one M (by omega) (show x < 65536 by omega)]
    show ∃ M', (if b2 (inS 3 x) = 0 then _ else _) = _ ∧ _
    rw [i_b2]
    -- the way is cleared
    have key : ∃ M1, (if inS 3 x = false then (q_cv (f_Tree_renew M) fun M26 => st_K1 (nI x) a M26) else (q_bp (f_OpenStack_inReach 112 4 M) fun r27 => q_cv (f_OpenStack_closeTo r27 M) fun M28 => st_K1 (nI x) a M28)) = st_K1 (nI x) a M1 ∧ C M1 (s_st1 s x) ∧ tF M M1 ∧ Wf (s_st1 s x) := by
      unfold s_st1
      by_cases i3 : inS 3 x = true
      · obtain ⟨M1, e1, e2, e3, e4⟩ := t_clR c w (y := 112) (z := 4) (by omega) (by omega) (by omega)
        refine ⟨M1, ?_, by rw [if_pos i3]; exact e2, e3, by rw [if_pos i3]; exact e4⟩
        rw [if_neg (by simp [i3])]
        exact q_bpv (f := fun r => f_OpenStack_closeTo r M) e1
      · obtain ⟨M1, e1, e2, e3, e4⟩ := t_renew c w
        refine ⟨M1, ?_, by rw [if_neg i3]; exact e2, e3, by rw [if_neg i3]; exact e4⟩
        rw [if_pos (by simpa using i3), e1]
        rfl
    obtain ⟨M1, k1, k2, k3, k4⟩ := key
    rw [k1]
    unfold st_K1
    rw [show (108 : Int32) = nI 108 from rfl, i_eq (by omega) (by omega)]
    by_cases h108 : x = 108
    · rw [if_pos h108]
      obtain ⟨M2, e1, e2, e3, e4⟩ := t_clR k2 k4 (y := 108) (z := 5) (by omega) (by omega) (by omega)
      obtain ⟨M3, f1, f2, f3, f4⟩ := t_st2 (a := a) e2 e4 h1 h2 hr
      refine ⟨M3, ?_, by rw [if_pos h108]; exact f2, tF_t k3 (tF_t e3 f3), by rw [if_pos h108]; exact f4⟩
      rw [q_bpv (f := fun r => f_OpenStack_closeTo r M1) e1]
      exact f1
    · rw [if_neg h108]
      obtain ⟨M3, f1, f2, f3, f4⟩ := t_st2 (a := a) k2 k4 h1 h2 hr
      exact ⟨M3, f1, by rw [if_neg h108]; exact f2, tF_t k3 f3, by rw [if_neg h108]; exact f4⟩
