/-! characters and start tags, on the class's side -/
def befL (t : Nat) (L : List Nat) : Option Nat := (L.takeWhile fun x => x != t).getLast?
def s_bef (s : aT) (t : Nat) : Option Nat := match (List.range (sN s)).find? (fun p => (sKd s p).contains t) with
  | some p => befL t (sKd s p)
  | none => none
def s_nbp (s : aT) : Option Nat := match plT (sNm s) (sSf s) (sH s) with
  | some j => s_bef s (sSf s j)
  | none => (sKd s (sSf s (sH s - 1))).getLast?
theorem befL_s {t : Nat} {A B : List Nat} (h : t ∉ A) : befL t (A ++ t :: B) = A.getLast? := by
  unfold befL
  have : (A ++ t :: B).takeWhile (fun x => x != t) = A := by
    rw [List.takeWhile_append_of_pos (fun x hx => by simpa using fun q => h (by rw [← q]; exact hx)), List.takeWhile_cons, if_neg (by simp), List.append_nil]
  rw [this]
theorem W_one {s : aT} (w : Wf s) {p q t : Nat} (hp : p < sN s) (hq : q < sN s) (h1 : t ∈ sKd s p) (h2 : t ∈ sKd s q) : p = q := by
  obtain ⟨pre, t1, t2, t3, _⟩ := w.2.2.1
  exact Fo_one t1 t2 ((t3 p).mpr hp) ((t3 q).mpr hq) h1 h2
theorem s_bef_s {s : aT} (w : Wf s) {p t : Nat} {A B : List Nat} (hp : p < sN s) (hk : sKd s p = A ++ t :: B) : s_bef s t = A.getLast? := by
  have hdd := List.nodup_append.mp (hk ▸ W_nd w hp)
  have htA : t ∉ A := fun m => hdd.2.2 t m t (by simp) rfl
  unfold s_bef
  cases h : (List.range (sN s)).find? (fun p => (sKd s p).contains t) with
  | none =>
    have := List.find?_eq_none.mp h p (List.mem_range.mpr hp)
    rw [hk] at this
    simp at this
  | some q =>
    have h1 := List.find?_some h
    have h2 := List.mem_range.mp (List.mem_of_find?_eq_some h)
    have : q = p := W_one w h2 hp (by simpa using h1) (by rw [hk]; simp)
    rw [this]
    show befL t (sKd s p) = _
    rw [hk]
    exact befL_s htA
theorem W_tab {s : aT} (w : Wf s) {g j : Nat} (hg : g ≤ sH s) (h : plT (sNm s) (sSf s) g = some j) : ∃ p A B, p < sN s ∧ sSf s j ≠ p ∧ sKd s p = A ++ sSf s j :: B := by
  have h2 := plT_lt h
  have h3 := w.1.2.2.2.1 j (by omega)
  have h0 : sSf s j ≠ 0 := fun e => by
    rw [e, w.2.2.2.1.1] at h2
    omega
  exact W_par w h3 h0
theorem t_nbp {M : qM} {s : aT} (c : C M s) (w : Wf s) : f_Tree_nodeBeforePlace M = some (oP (s_nbp s)) := by
  have hh : 1 ≤ sH s ∧ sH s ≤ sN s := w.1.2.2.1
  have h24 := w.1.1.2
  unfold f_Tree_nodeBeforePlace s_nbp
  rw [c.2.2.2.1.1, t_tut c.2.1 c.2.2.2.1 w.1.2.2.2.1 (by omega) w.1.2.1 hh.1 (Nat.le_refl _)]
  cases h : plT (sNm s) (sSf s) (sH s) with
  | none =>
    simp only [Option.map, q_bp, q_on, s_top c w.1, q_nn, q_lt]
    rw [(c.2.2.1.1 _ (w.1.2.2.2.1 _ (by omega))).2]
  | some j =>
    obtain ⟨p, A, B, h1, h2, h3⟩ := W_tab w (Nat.le_refl _) h
    simp only [Option.map, q_bp, q_on, q_lt]
    rw [(c.2.2.1.2 p h1 A _ B h3).2.2.1, s_bef_s w h1 h3]
theorem s_nbp_lt {s : aT} (w : Wf s) {t : Nat} (h : s_nbp s = some t) : t < sN s := by
  have hh : 1 ≤ sH s ∧ sH s ≤ sN s := w.1.2.2.1
  unfold s_nbp at h
  cases hp : plT (sNm s) (sSf s) (sH s) with
  | none =>
    rw [hp] at h
    exact W_ks w (w.1.2.2.2.1 (sH s - 1) (by omega)) (List.mem_of_getLast? h)
  | some j =>
    rw [hp] at h
    obtain ⟨p, A, B, h1, h2, h3⟩ := W_tab w (Nat.le_refl _) hp
    have h' : s_bef s (sSf s j) = some t := h
    rw [s_bef_s w h1 h3] at h'
    exact W_ks w h1 (by rw [h3]; simp [List.mem_of_getLast? h'])
theorem W_let {s : aT} (w : Wf s) {t c : Nat} (ht : t < sN s) (h1 : sNm s t = 1) (hc : c < 200) : Wf (s_let s t c) := by
  unfold s_let
  by_cases h : sNc s < 160
  · rw [if_pos h]
    obtain ⟨a, l, tt, ⟨x1, x2, x3, x4, x5, x6, x7⟩⟩ := w
    refine ⟨a, l, tt, x1, x2, x3, x4, ⟨fun q hq => ?_, h⟩, x6, x7⟩
    have hq' : q < sNc s + 1 := hq
    show (up (sCf s) (sNc s) (c, t) q).2 < sN s ∧ sNm s (up (sCf s) (sNc s) (c, t) q).2 = 1 ∧ (up (sCf s) (sNc s) (c, t) q).1 < 200
    by_cases e : q = sNc s
    · rw [e, up_e]
      exact ⟨ht, h1, hc⟩
    · rw [up_n e]
      exact x5.1 q (by omega)
  · rw [if_neg h]
    exact w
def s_chr3 (s : aT) (c : Nat) : aT := if sN s < 24 then s_let (s_new s 1 0) (sN s) c else s_brk s
def s_chr2 (s : aT) (c : Nat) : aT := match s_nbp s with
  | none => s_chr3 s c
  | some t => if sNm s t = 1 then s_let s t c else s_chr3 s c
def s_chr (s : aT) (c : Nat) : aT := if c = 32 ∧ (plT (sNm s) (sSf s) (sH s)).isSome = true then s else s_chr2 (s_renew s) c
theorem W_chr3 {s : aT} (w : Wf s) {c : Nat} (hc : c < 200) : Wf (s_chr3 s c) := by
  unfold s_chr3
  by_cases hn : sN s < 24
  · rw [if_pos hn]
    exact W_let (W_new w hn (Or.inl rfl)) (Nat.lt_succ_self _) (up_e _ _ _) hc
  · rw [if_neg hn]
    exact W_brk w
theorem W_chr2 {s : aT} (w : Wf s) {c : Nat} (hc : c < 200) : Wf (s_chr2 s c) := by
  unfold s_chr2
  cases h : s_nbp s with
  | none => exact W_chr3 w hc
  | some t =>
    show Wf (if sNm s t = 1 then s_let s t c else s_chr3 s c)
    by_cases h1 : sNm s t = 1
    · rw [if_pos h1]
      exact W_let w (s_nbp_lt w h) h1 hc
    · rw [if_neg h1]
      exact W_chr3 w hc
/-- the end of a character's way: a letter for a text -/
theorem t_chrL {M : qM} {s : aT} (c : C M s) (w : Wf s) {t code : Nat} (ht : t < sN s) : ∃ M', (if (M.1 1 6) < 160 then (q_ix (M.1 1 6) 160 <| q_lt (127 + (M.1 1 6).toNatClampNeg) fun o8 => q_lt (qsI M 1 6 ((M.1 1 6) + 1)) fun M9 => q_lt (qsI M9 o8 0 (nI code)) fun M10 => q_lt (qsR M10 o8 1 none) fun M11 => q_cv (f_Node_addLetter (7 + 5 * t) o8 M11) fun M12 => some M12) else (some M)) = some M' ∧ C M' (s_let s t code) ∧ tF M M' := by
  have hnc := w.2.2.2.2.2.2.2.1.2
  have e6 := c.2.2.2.2.2.1
  rw [e6, show (160 : Int32) = nI 160 from rfl, i_lt (by omega) (by omega)]
  by_cases h : sNc s < 160
  · obtain ⟨M', e1, e2⟩ := s_letT c w.1.1.2 h ht code
    refine ⟨M', ?_, e2⟩
    rw [if_pos h, g_ix (by omega) (by omega), g_cl (by omega), g_inc]
    simp only [q_lt, e1, q_cv]
  · refine ⟨M, by rw [if_neg h], ?_, tF_r M⟩
    unfold s_let
    rw [if_neg h]
    exact c
theorem t_chr3 {M : qM} {s : aT} (c : C M s) (w : Wf s) {code : Nat} : ∃ M', (q_cl (f_Tree_putNew 1 0 M) fun r3 M4 => q_on r3 (some M4) fun o5 => (if (M4.1 1 6) < 160 then (q_ix (M4.1 1 6) 160 <| q_lt (127 + (M4.1 1 6).toNatClampNeg) fun o8 => q_lt (qsI M4 1 6 ((M4.1 1 6) + 1)) fun M9 => q_lt (qsI M9 o8 0 (nI code)) fun M10 => q_lt (qsR M10 o8 1 none) fun M11 => q_cv (f_Node_addLetter o5 o8 M11) fun M12 => some M12) else (some M4))) = some M' ∧ C M' (s_chr3 s code) ∧ tF M M' := by
  obtain ⟨M1, e1, e2, e3⟩ := s_newT c w (x := 1) (by omega) 0
  unfold s_chr3
  unfold s_newB at e2
  have e1' : f_Tree_putNew 1 0 M = some ((if sN s < 24 then some (7 + 5 * sN s) else none), M1) := e1
  rw [e1']
  by_cases hn : sN s < 24
  · rw [if_pos hn] at e2 ⊢
    rw [if_pos hn]
    obtain ⟨M', a1, a2, a3⟩ := t_chrL (code := code) e2 (W_new w hn (Or.inl rfl)) (Nat.lt_succ_self (sN s))
    exact ⟨M', a1, a2, tF_t e3 a3⟩
  · rw [if_neg hn] at e2 ⊢
    rw [if_neg hn]
    exact ⟨M1, rfl, e2, e3⟩
theorem t_chr {M : qM} {s : aT} (c : C M s) (w : Wf s) {code : Nat} (hc : code < 200) : ∃ M', f_Tree_character (nI code) M = some M' ∧ C M' (s_chr s code) ∧ tF M M' ∧ Wf (s_chr s code) := by
  have hh : 1 ≤ sH s ∧ sH s ≤ sN s := w.1.2.2.1
  have h24 := w.1.1.2
  obtain ⟨M1, r1, r2, r3, r4⟩ := t_renew c w
  have key : ∃ M', (q_cv (f_Tree_renew M) fun M1 => q_bp (f_Tree_nodeBeforePlace M1) fun r2 => q_lt (fun (r3 : Option Nat) (M4 : qM) => q_on r3 (some M4) fun o5 => (if (M4.1 1 6) < 160 then (q_ix (M4.1 1 6) 160 <| q_lt (127 + (M4.1 1 6).toNatClampNeg) fun o8 => q_lt (qsI M4 1 6 ((M4.1 1 6) + 1)) fun M9 => q_lt (qsI M9 o8 0 (nI code)) fun M10 => q_lt (qsR M10 o8 1 none) fun M11 => q_cv (f_Node_addLetter o5 o8 M11) fun M12 => some M12) else (some M4))) fun (j14 : Option Nat → qM → Option qM) => q_lt (q_cl (f_Tree_putNew 1 0 M1) fun r15 M16 => j14 r15 M16) fun (j17 : Option qM) => q_on r2 (j17) fun o18 => (if (M1.1 o18 0) = 1 then (j14 (some o18) M1) else (j17))) = some M' ∧ C M' (s_chr2 (s_renew s) code) ∧ tF M1 M' := by
    rw [r1]
    simp only [q_cv, t_nbp r2 r4, q_bp, q_lt]
    unfold s_chr2
    cases h : s_nbp (s_renew s) with
    | none => exact t_chr3 r2 r4
    | some t =>
      have ht := s_nbp_lt r4 h
      have hnm := (r2.2.1 t ht).1
      have h200 := r4.1.2.1 t ht
      simp only [oP_s, q_on]
      rw [hnm, show (1 : Int32) = nI 1 from rfl, i_eq (by omega) (by omega)]
      by_cases h1 : sNm (s_renew s) t = 1
      · rw [if_pos h1, if_pos h1]
        exact t_chrL r2 r4 ht
      · rw [if_neg h1, if_neg h1]
        exact t_chr3 r2 r4
  obtain ⟨M', k1, k2, k3⟩ := key
  have wz : Wf (s_chr2 (s_renew s) code) := W_chr2 r4 hc
  have hX : f_Tree_character (nI code) M = if nI code = nI 32 then (q_bp (f_OpenStack_tableUnderTop (M.1 5 1) M) fun r23 => q_on r23 (some M') fun _ => (some M)) else (some M') := by
    rw [← k1]
    rfl
  unfold s_chr
  rw [hX, i_eq (by omega) (by omega), c.2.2.2.1.1, t_tut c.2.1 c.2.2.2.1 w.1.2.2.2.1 (by omega) w.1.2.1 hh.1 (Nat.le_refl _)]
  by_cases h32 : code = 32
  · cases hp : plT (sNm s) (sSf s) (sH s) with
    | none =>
      refine ⟨M', ?_, by simpa using k2, tF_t r3 k3, by simpa using wz⟩
      rw [if_pos h32]
      rfl
    | some j =>
      refine ⟨M, ?_, by simpa [h32] using c, tF_r M, by simpa [h32] using w⟩
      rw [if_pos h32]
      rfl
  · refine ⟨M', ?_, by simpa [h32] using k2, tF_t r3 k3, by simpa [h32] using wz⟩
    rw [if_neg h32]
/-! start tags -/
def s_rch (s : aT) (y z : Nat) : Option Nat := rchI (fun j => sNm s (sSf s j) == y) (fun j => inS z (sNm s (sSf s j))) (sH s)
def s_tm (s : aT) (y : Nat) : Option Nat := lastI (fun j => sNm s (sSf s j) == y) (sH s)
def s_clR (s : aT) (y z : Nat) : aT := s_clT s (s_rch s y z)
theorem W_clT {s : aT} (w : Wf s) {r : Option Nat} (hr : ∀ k, r = some k → 1 ≤ k ∧ k < sH s) : Wf (s_clT s r) := by
  cases r with
  | none => exact w
  | some k => exact W_h w (hr k rfl).1 (Nat.le_of_lt (hr k rfl).2)
theorem W_ix {s : aT} (w : Wf s) {y k : Nat} (hy : 97 ≤ y) (hk : k < sH s) (e : sNm s (sSf s k) = y) : 1 ≤ k := by
  refine Nat.pos_of_ne_zero fun h => ?_
  rw [h, w.2.2.2.2.1.1, w.2.2.2.1.1] at e
  omega
theorem s_rch_i {s : aT} (w : Wf s) {y z : Nat} (hy : 97 ≤ y) : ∀ k, s_rch s y z = some k → 1 ≤ k ∧ k < sH s := fun k h => by
  have := rchI_lt h
  exact ⟨W_ix w hy this.1 (by simpa using this.2), this.1⟩
theorem s_tm_i {s : aT} (w : Wf s) {y : Nat} (hy : 97 ≤ y) : ∀ k, s_tm s y = some k → 1 ≤ k ∧ k < sH s := fun k h => by
  have := lastI_lt h
  exact ⟨W_ix w hy this.1 (by simpa using this.2), this.1⟩
theorem t_clR {M : qM} {s : aT} (c : C M s) (w : Wf s) {y z : Nat} (hy : 97 ≤ y) (hy2 : y < 200) (hz : z < 12) : ∃ M', (q_bp (f_OpenStack_inReach (nI y) z M) fun r => f_OpenStack_closeTo r M) = some M' ∧ C M' (s_clR s y z) ∧ tF M M' ∧ Wf (s_clR s y z) := by
  have hh : sH s ≤ 24 := by have := w.1.2.2.1.2; have := w.1.1.2; omega
  obtain ⟨M', e1, e2, e3⟩ := s_closeTo c w.1 (s_rch_i (z := z) w hy)
  refine ⟨M', ?_, e2, e3, W_clT w (s_rch_i w hy)⟩
  rw [t_rch c.2.1 c.2.2.2.1 w.1.2.2.2.1 hh w.1.2.1 hy2 hz]
  exact e1
/-- what is put in: a new element, opened, listed -/
def s_st2 (s : aT) (x : Nat) (a : Int32) : aT := if sN s < 24 then (if inS 7 x = true then s_en (if inS 6 x = true then s_new s x a else s_push (s_new s x a) (sN s)) (en1 (sEn s) (ow (if inS 6 x = true then s_new s x a else s_push (s_new s x a) (sN s))) ++ [(sN s, ow (if inS 6 x = true then s_new s x a else s_push (s_new s x a) (sN s)))]) else (if inS 6 x = true then s_new s x a else s_push (s_new s x a) (sN s))) else s_brk s
def s_st3 (s : aT) (x : Nat) (a : Int32) : aT := if inS 6 x = true then s_new s x a else s_push (s_new s x a) (sN s)
theorem W_st3 {s : aT} (w : Wf s) (hn : sN s < 24) {x : Nat} {a : Int32} (h1 : 97 ≤ x) (h2 : x ≤ 122) (hr : x ≠ 114) : Wf (s_st3 s x a) := by
  unfold s_st3
  split
  · exact W_new w hn (Or.inr ⟨h1, h2⟩)
  · exact W_np w hn h1 h2 hr
theorem st3_N (s : aT) (x : Nat) (a : Int32) : sN (s_st3 s x a) = sN s + 1 ∧ sEn (s_st3 s x a) = sEn s ∧ sNm (s_st3 s x a) = up (sNm s) (sN s) x := by
  unfold s_st3
  split <;> exact ⟨rfl, rfl, rfl⟩
theorem en1_sub {en : List (Nat × Nat)} {o : Nat} : (en1 en o).Sublist en := by
  unfold en1
  split
  · exact List.eraseP_sublist
  · exact List.Sublist.refl _
theorem flO_sub {en en' : List (Nat × Nat)} (h : en'.Sublist en) (o : Nat) : (flO en' o).Sublist (flO en o) := (h.filter _).map _
theorem W_add {s : aT} (w : Wf s) {o e : Nat} (ho : o < sN s) (he : e < sN s) (h7 : inS 7 (sNm s e) = true) (hf : ∀ q ∈ sEn s, q.1 ≠ e) (hl : (sEn s).length + 1 < sN s) : Wf (s_en s (en1 (sEn s) o ++ [(e, o)])) := by
  have l := w.2.1
  have sub := en1_sub (en := sEn s) (o := o)
  refine W_en w (fun q hq => ?_) (fun i => ?_) ?_ ?_
  · rcases List.mem_append.mp hq with m | m
    · have := sub.subset m
      exact ⟨(l.1 q this).1, (l.1 q this).2, w.2.2.2.2.2.2.2.2.1 q this⟩
    · rw [List.mem_singleton.mp m]
      exact ⟨he, ho, h7⟩
  · rw [flO_app]
    by_cases q : i = o
    · subst q
      rw [flO_e, List.length_append]
      have h0 : flO ([] : List (Nat × Nat)) i = [] := rfl
      rw [h0]
      rcases en1_c (l.2.1 i) with ⟨h1, h2⟩ | ⟨X, d, Y, h1, h2, h3⟩
      · rw [h1]
        simp
        omega
      · rw [h2]
        have := l.2.1 i
        rw [h1, flO_app, flO_e] at this
        rw [flO_app]
        simp at this ⊢
        omega
    · rw [flO_n q]
      have h0 : flO ([] : List (Nat × Nat)) i = [] := rfl
      rw [h0, List.append_nil]
      exact Nat.le_trans (flO_sub sub i).length_le (l.2.1 i)
  · rw [List.map_append]
    refine List.nodup_append.mpr ⟨(sub.map Prod.fst).nodup l.2.2.1, by simp, fun y hy z hz => ?_⟩
    obtain ⟨q, hq, rfl⟩ := List.mem_map.mp hy
    have : z = e := by simpa using hz
    rw [this]
    exact hf q (sub.subset hq)
  · rw [List.length_append]
    have := sub.length_le
    simp
    omega
theorem t_st2 {M : qM} {s : aT} (c : C M s) (w : Wf s) {x : Nat} {a : Int32} (h1 : 97 ≤ x) (h2 : x ≤ 122) (hr : x ≠ 114) : ∃ M', (q_cl (f_Tree_putNew (nI x) a M) fun r6 M7 => q_on r6 (some M7) fun o8 => (q_bp (f_Pg_isOneOf (nI x) 6 M7) fun x9 => q_lt (fun (M10 : qM) => q_bp (f_Pg_isOneOf (nI x) 7 M10) fun x11 => if x11 = 0 then (some M10) else (q_bp (f_Tree_theList M10) fun r13 => q_nn r13 fun o14 => q_cv (f_FormattingList_add o14 o8 M10) fun M15 => some M15)) fun (j16 : qM → Option qM) => if x9 = 0 then (q_cv (f_OpenStack_push o8 M7) fun M18 => j16 M18) else (j16 M7))) = some M' ∧ C M' (s_st2 s x a) ∧ tF M M' ∧ Wf (s_st2 s x a) := by
  have hh : 1 ≤ sH s ∧ sH s ≤ sN s := w.1.2.2.1
  obtain ⟨M1, e1, e2, e3⟩ := s_newT c w (x := x) (by omega) a
  unfold s_newB at e2
  rw [e1]
  show ∃ M', _ ∧ C M' (if sN s < 24 then (if inS 7 x = true then s_en (s_st3 s x a) (en1 (sEn s) (ow (s_st3 s x a)) ++ [(sN s, ow (s_st3 s x a))]) else s_st3 s x a) else s_brk s) ∧ _ ∧ Wf (if sN s < 24 then (if inS 7 x = true then s_en (s_st3 s x a) (en1 (sEn s) (ow (s_st3 s x a)) ++ [(sN s, ow (s_st3 s x a))]) else s_st3 s x a) else s_brk s)
  by_cases hn : sN s < 24
  · rw [if_pos hn] at e2
    rw [if_pos hn, if_pos hn]
    simp only [q_cl, q_on]
    rw [g_one M1 (by omega) (show x < 65536 by omega)]
    have w3 := W_st3 (a := a) w hn h1 h2 hr
    -- the memory behind the push
    have key : ∃ M2, (∀ K : qM → Option qM, (if b2 (inS 6 x) = 0 then (q_cv (f_OpenStack_push (7 + 5 * sN s) M1) fun M18 => K M18) else (K M1)) = K M2) ∧ C M2 (s_st3 s x a) ∧ tF M M2 := by
      unfold s_st3
      by_cases h6 : inS 6 x = true
      · refine ⟨M1, fun K => ?_, by rw [if_pos h6]; exact e2, e3⟩
        rw [h6]
        rfl
      · obtain ⟨M2, p1, p2, p3⟩ := s_pushT (i := sN s) e2 (Nat.lt_succ_self _) (show sN s + 1 ≤ 24 by omega) (show sH s < 24 by omega)
        refine ⟨M2, fun K => ?_, by rw [if_neg h6]; exact p2, tF_t e3 p3⟩
        rw [i_b2, if_pos (by simpa using h6), p1]
        rfl
    obtain ⟨M2, k1, k2, k3⟩ := key
    simp only [q_bp, q_lt]
    rw [k1, g_one M2 (by omega) (show x < 65536 by omega)]
    simp only [b2_0]
    by_cases h7 : inS 7 x = true
    · have ho := ow_lt w3.1
      obtain ⟨M3, a1, a2, a3⟩ := s_addT (e := sN s) k2 w3.1.1.2 w3.2.1 ho
      refine ⟨M3, ?_, ?_, tF_t k3 a3, ?_⟩
      · rw [if_neg (by simp [h7]), t_list k2 w3.1]
        simp only [q_nn, a1, q_cv]
      · rw [if_pos h7, ← (st3_N s x a).2.1]
        exact a2
      · rw [if_pos h7]
        have hN := st3_N s x a
        have := W_add (e := sN s) w3 ho (by rw [hN.1]; omega) (by rw [hN.2.2, up_e]; exact h7) (fun q hq => by
          rw [hN.2.1] at hq
          have := (w.2.1.1 q hq).1
          omega) (by rw [hN.1, hN.2.1]; have := w.2.1.2.2.2; omega)
        rw [hN.2.1] at this
        exact this
    · refine ⟨M2, ?_, by rw [if_neg h7]; exact k2, k3, by rw [if_neg h7]; exact w3⟩
      rw [if_pos (by simpa using h7)]
  · rw [if_neg hn] at e2
    rw [if_neg hn, if_neg hn]
    exact ⟨M1, rfl, e2, e3, W_brk w⟩
