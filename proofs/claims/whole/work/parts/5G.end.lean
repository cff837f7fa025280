/-! end tags, on the class's side -/
theorem fstI_lt {P : Nat → Bool} : ∀ {m a j : Nat}, fstI P m a = some j → a ≤ j ∧ j < a + m ∧ P j = true
  | 0, _, _, h => by cases h
  | m + 1, a, j, h => by
    unfold fstI at h
    split at h
    · cases h
      exact ⟨Nat.le_refl _, by omega, by assumption⟩
    · have := fstI_lt h
      exact ⟨by omega, by omega, this.2.2⟩
/-- the entry that an end tag means, by its place in the list -/
def s_ent (s : aT) (x : Nat) : Option Nat := if inS 7 x = true then lastI (fun j => sNm s ((flO (sEn s) (ow s)).getD j 0) == x) (flO (sEn s) (ow s)).length else none
def enD (en : List (Nat × Nat)) (e : Nat) : List (Nat × Nat) := en.filter fun q => q.1 != e
theorem enD_s {en X Y : List (Nat × Nat)} {e o : Nat} (h : en = X ++ (e, o) :: Y) (nd : (en.map Prod.fst).Nodup) : enD en e = X ++ Y := by
  rw [h, List.map_append, List.map_cons] at nd
  have a := List.nodup_append.mp nd
  unfold enD
  rw [h, List.filter_append, List.filter_cons, if_neg (by simp)]
  rw [List.filter_eq_self.mpr fun q hq => ?_, List.filter_eq_self.mpr fun q hq => ?_]
  · simpa using fun h2 => (List.nodup_cons.mp a.2.1).1 (List.mem_map.mpr ⟨q, hq, h2⟩)
  · simpa using a.2.2 q.1 (List.mem_map.mpr ⟨q, hq, rfl⟩) e (by simp)
theorem W_enD {s : aT} (w : Wf s) (e : Nat) : Wf (s_en s (enD (sEn s) e)) := by
  have l := w.2.1
  have sub : (enD (sEn s) e).Sublist (sEn s) := List.filter_sublist
  refine W_en w (fun q hq => ⟨(l.1 q (sub.subset hq)).1, (l.1 q (sub.subset hq)).2, w.2.2.2.2.2.2.2.2.1 q (sub.subset hq)⟩) (fun o => Nat.le_trans (flO_sub sub o).length_le (l.2.1 o)) ((sub.map Prod.fst).nodup l.2.2.1) (Nat.lt_of_le_of_lt sub.length_le l.2.2.2)
def s_eo2 (s : aT) (e k : Nat) : aT := match fstI (fun j => inS 3 (sNm s (sSf s j))) (sH s - (k + 1)) (k + 1) with
  | none => s_h (s_en s (enD (sEn s) e)) k
  | some b => s_adp (s_en s (enD (sEn s) e)) k b
def s_eo (s : aT) (x : Nat) : aT := match s_ent s x with
  | none => s_clR s x 8
  | some j => match lastI (fun k => sSf s k == (flO (sEn s) (ow s)).getD j 0) (sH s) with
    | none => s_en s (enD (sEn s) ((flO (sEn s) (ow s)).getD j 0))
    | some k => match fstI (fun j => inS 2 (sNm s (sSf s j))) (sH s - (k + 1)) (k + 1) with
      | some _ => s
      | none => s_eo2 s ((flO (sEn s) (ow s)).getD j 0) k
def eo_K (a1 : Int32) (M : qM) (r1 : Option Nat) : Option Nat → Option qM := fun r3 => q_on r3 (q_bp (f_OpenStack_inReach a1 8 M) fun r5 => q_cv (f_OpenStack_closeTo r5 M) fun M6 => some M6) fun o4 => (if (M.1 o4 3) = 0 then (q_nn r1 fun o18 => q_cv (f_FormattingList_remove o18 o4 M) fun M19 => some M19) else (q_bp (f_OpenStack_lowestAbove o4 2 M) fun r8 => q_on r8 (q_nn r1 fun o10 => q_cv (f_FormattingList_remove o10 o4 M) fun M11 => q_bp (f_OpenStack_lowestAbove o4 3 M11) fun r12 => q_on r12 (q_cv (f_OpenStack_closeTo (some o4) M11) fun M14 => some M14) fun o13 => (q_cv (f_Tree_adopt o4 o13 M11) fun M15 => some M15)) fun o9 => (some M)))
theorem eo_eq (a1 : Int32) (M : qM) : f_Tree_endOther a1 M = q_bp (f_Tree_theList M) fun r1 => q_bp (f_Pg_isOneOf a1 7 M) fun x2 => if x2 = 0 then (eo_K a1 M r1 none) else (q_nn r1 fun o23 => q_bp (f_FormattingList_lastNamed o23 a1 M) fun r24 => eo_K a1 M r1 r24) := rfl
theorem t_eo {M : qM} {s : aT} (c : C M s) (w : Wf s) {x : Nat} (h1 : 97 ≤ x) (h2 : x ≤ 122) : ∃ M', f_Tree_endOther (nI x) M = some M' ∧ C M' (s_eo s x) ∧ tF M M' ∧ Wf (s_eo s x) := by
  have hb : ∀ k, k < sH s → sSf s k < sN s := w.1.2.2.2.1
  have hh : 1 ≤ sH s ∧ sH s ≤ sN s := w.1.2.2.1
  have h24 := w.1.1.2
  have ho := ow_lt w.1
  have hK : f_Tree_endOther (nI x) M = eo_K (nI x) M (some (8 + 5 * ow s)) ((s_ent s x).map (fun j => 7 + 5 * (flO (sEn s) (ow s)).getD j 0)) := by
    rw [eo_eq, t_list c w.1]
    show (q_bp (f_Pg_isOneOf (nI x) 7 M) fun x2 => _) = _
    rw [g_one M (by omega) (show x < 65536 by omega)]
    show (if b2 (inS 7 x) = 0 then _ else _) = _
    rw [i_b2]
    unfold s_ent
    by_cases i7 : inS 7 x = true
    · rw [if_neg (by simp [i7]), if_pos i7]
      show (q_bp (f_FormattingList_lastNamed (8 + 5 * ow s) (nI x) M) fun r24 => _) = _
      rw [t_ln c w.1 w.2.1 (show x < 200 by omega)]
      rfl
    · rw [if_pos (by simpa using i7), if_neg i7]
      rfl
  rw [hK]
  unfold eo_K
  unfold s_eo
  cases he : s_ent s x with
  | none =>
    obtain ⟨M', e1, e2, e3, e4⟩ := t_clR c w (y := x) (z := 8) h1 (by omega) (by omega)
    refine ⟨M', ?_, e2, e3, e4⟩
    simp only [Option.map, q_on]
    exact q_bpv (f := fun r => f_OpenStack_closeTo r M) (K := fun M6 => some M6) e1
  | some j =>
    have hj : j < (flO (sEn s) (ow s)).length ∧ inS 7 x = true ∧ sNm s ((flO (sEn s) (ow s)).getD j 0) = x := by
      unfold s_ent at he
      split at he
      · have := lastI_lt he
        exact ⟨this.1, by assumption, by simpa using this.2⟩
      · cases he
    have hm : (flO (sEn s) (ow s)).getD j 0 ∈ flO (sEn s) (ow s) := by
      rw [List.getD_eq_getElem?_getD, List.getElem?_eq_getElem hj.1]
      exact List.getElem_mem _
    generalize hE : (flO (sEn s) (ow s)).getD j 0 = E at hj hm ⊢
    have hen := flO_m hm
    have hEn := (w.2.1.1 _ hen).1
    obtain ⟨X, Y, hX⟩ := List.append_of_mem hen
    have hD := enD_s hX w.2.1.2.2.1
    obtain ⟨M1, r1, r2, r3⟩ := s_rem c h24 w.2.1 ho hX
    rw [← hD] at r2
    have wD := W_enD w E
    have hop := c.2.2.2.1.2.2 E hEn
    simp only [Option.map, q_on, hE, hop, b2_0]
    cases hk : lastI (fun k => sSf s k == E) (sH s) with
    | none =>
      have : opn (sSf s) (sH s) E = false := by unfold opn; rw [hk]; rfl
      rw [if_pos this]
      simp only [q_nn, r1, q_cv]
      exact ⟨M1, rfl, r2, r3, wD⟩
    | some k =>
      have : opn (sSf s) (sH s) E = true := by unfold opn; rw [hk]; rfl
      rw [if_neg (by simp [this])]
      have hkl := lastI_lt hk
      have hkE : sSf s k = E := by simpa using hkl.2
      have hk1 : 1 ≤ k := W_ix w (y := x) h1 hkl.1 (by rw [hkE]; exact hj.2.2)
      have tl := t_low c w.1 (z := 2) (by omega) hkl.1
      rw [hkE] at tl
      rw [tl]
      show ∃ M', _ ∧ C M' (match fstI (fun j => inS 2 (sNm s (sSf s j))) (sH s - (k + 1)) (k + 1) with
        | some _ => s
        | none => s_eo2 s E k) ∧ tF M M' ∧ Wf (match fstI (fun j => inS 2 (sNm s (sSf s j))) (sH s - (k + 1)) (k + 1) with
        | some _ => s
        | none => s_eo2 s E k)
      cases ht : fstI (fun j => inS 2 (sNm s (sSf s j))) (sH s - (k + 1)) (k + 1) with
      | some t =>
        exact ⟨M, rfl, c, tF_r M, w⟩
      | none =>
        simp only [Option.map, q_on, q_nn, r1, q_cv]
        have tl3 := t_low r2 wD.1 (z := 3) (by omega) hkl.1
        have tl3' : f_OpenStack_lowestAbove (7 + 5 * E) 3 M1 = some ((fstI (fun j => inS 3 (sNm s (sSf s j))) (sH s - (k + 1)) (k + 1)).map fun j => 7 + 5 * sSf s j) := by
          rw [← hkE]
          exact tl3
        rw [tl3']
        show ∃ M', _ ∧ C M' (s_eo2 s E k) ∧ tF M M' ∧ Wf (s_eo2 s E k)
        unfold s_eo2
        cases hbk : fstI (fun j => inS 3 (sNm s (sSf s j))) (sH s - (k + 1)) (k + 1) with
        | none =>
          obtain ⟨M2, a1, a2, a3⟩ := s_closeTo r2 wD.1 (r := some k) (fun k' e => by cases e; exact ⟨hk1, hkl.1⟩)
          refine ⟨M2, ?_, a2, tF_t r3 a3, W_h wD hk1 (Nat.le_of_lt hkl.1)⟩
          have a1' : f_OpenStack_closeTo (some (7 + 5 * E)) M1 = some M2 := by
            rw [← hkE]
            exact a1
          simp only [Option.map, q_bp, q_on, a1', q_cv]
        | some b =>
          have hb3 := fstI_lt hbk
          obtain ⟨M2, a1, a2, a3⟩ := t_adp r2 wD hk1 (show k < b by omega) (show b < sH s by omega)
          refine ⟨M2, ?_, a2, tF_t r3 a3, W_adp wD hk1 (show k < b by omega) (show b < sH s by omega) ?_ hb3.2.2⟩
          · have a1' : f_Tree_adopt (7 + 5 * E) (7 + 5 * sSf s b) M1 = some M2 := by
              rw [← hkE]
              exact a1
            simp only [Option.map, q_bp, q_on, a1', q_cv]
          · show inS 7 (sNm s (sSf s k)) = true
            rw [hkE, hj.2.2]
            exact hj.2.1
def s_ep (s : aT) : aT := match s_rch s 112 4 with
  | none => s_newB s 112 0
  | some k => s_h s k
def s_end (s : aT) (x : Nat) : aT := if x = 112 then s_ep s else if x = 100 ∨ x = 117 then s_clR s x 4 else if x = 108 then s_clR s 108 5 else if x = 116 then s_clT s (s_tm s 116) else if x = 114 then s_clR s 114 2 else if x = 99 then s_clR s 99 2 else if x = 104 ∨ x = 107 then s else s_eo s x
theorem W_newB {s : aT} (w : Wf s) {x : Nat} {a : Int32} (hx : x = 1 ∨ (97 ≤ x ∧ x ≤ 122)) : Wf (s_newB s x a) := by
  unfold s_newB
  split
  · exact W_new w (by assumption) hx
  · exact W_brk w
theorem t_ep {M : qM} {s : aT} (c : C M s) (w : Wf s) : ∃ M', f_Tree_endParagraph M = some M' ∧ C M' (s_ep s) ∧ tF M M' ∧ Wf (s_ep s) := by
  have hh : sH s ≤ 24 := by have := w.1.2.2.1.2; have := w.1.1.2; omega
  unfold f_Tree_endParagraph s_ep
  rw [show (112 : Int32) = nI 112 from rfl, t_rch c.2.1 c.2.2.2.1 w.1.2.2.2.1 hh w.1.2.1 (by omega) (by omega)]
  cases hr : s_rch s 112 4 with
  | none =>
    have hr' : rchI (fun j => sNm s (sSf s j) == 112) (fun j => inS 4 (sNm s (sSf s j))) (sH s) = none := hr
    rw [hr']
    obtain ⟨M', e1, e2, e3⟩ := s_newT c w (x := 112) (by omega) 0
    refine ⟨M', ?_, e2, e3, W_newB w (Or.inr ⟨by omega, by omega⟩)⟩
    simp only [Option.map, q_bp, q_on, e1, q_cl]
  | some k =>
    have hr' : rchI (fun j => sNm s (sSf s j) == 112) (fun j => inS 4 (sNm s (sSf s j))) (sH s) = some k := hr
    rw [hr']
    have hk := s_rch_i w (y := 112) (by omega) k hr
    obtain ⟨M', e1, e2, e3⟩ := s_closeTo c w.1 (r := some k) (fun k' e => by cases e; exact hk)
    refine ⟨M', ?_, e2, e3, W_h w hk.1 (Nat.le_of_lt hk.2)⟩
    have e1' : f_OpenStack_closeTo (some (7 + 5 * sSf s k)) M = some M' := e1
    simp only [Option.map, q_bp, q_on, e1', q_cv]
theorem q_cvs (o : Option qM) : (q_cv o fun M3 => some M3) = o := by cases o <;> rfl
theorem q_bpc {α : Type} (o : Option α) (f : α → Option qM) : (q_bp o fun r => q_cv (f r) fun M3 => some M3) = q_bp o f := by
  cases o
  · rfl
  · exact q_cvs _
theorem t_end {M : qM} {s : aT} (c : C M s) (w : Wf s) {x : Nat} (h1 : 97 ≤ x) (h2 : x ≤ 122) : ∃ M', f_Tree_endTag (nI x) M = some M' ∧ C M' (s_end s x) ∧ tF M M' ∧ Wf (s_end s x) := by
  have hh : sH s ≤ 24 := by have := w.1.2.2.1.2; have := w.1.1.2; omega
  have eo := t_eo c w h1 h2
  have cl : ∀ y z, 97 ≤ y → y < 200 → z < 12 → ∃ M', (q_bp (f_OpenStack_inReach (nI y) z M) fun r => f_OpenStack_closeTo r M) = some M' ∧ C M' (s_clR s y z) ∧ tF M M' ∧ Wf (s_clR s y z) := fun y z a1 a2 a3 => t_clR c w a1 a2 a3
  have tb : ∃ M', (q_bp (f_OpenStack_topmost 116 M) fun r => f_OpenStack_closeTo r M) = some M' ∧ C M' (s_clT s (s_tm s 116)) ∧ tF M M' ∧ Wf (s_clT s (s_tm s 116)) := by
    obtain ⟨M', e1, e2, e3⟩ := s_closeTo c w.1 (s_tm_i w (y := 116) (by omega))
    refine ⟨M', ?_, e2, e3, W_clT w (s_tm_i w (by omega))⟩
    rw [show (116 : Int32) = nI 116 from rfl, t_top c.2.1 c.2.2.2.1 w.1.2.2.2.1 hh w.1.2.1 (by omega)]
    exact e1
  have rw' : (q_bp (f_OpenStack_rowOfTable M) fun r => f_OpenStack_closeTo r M) = (q_bp (f_OpenStack_inReach 114 2 M) fun r => f_OpenStack_closeTo r M) := by
    unfold f_OpenStack_rowOfTable
    cases f_OpenStack_inReach 114 2 M <;> rfl
  unfold f_Tree_endTag s_end
  simp only [q_bpc, q_cvs, rw']
  rcases (show x = 97 ∨ x = 98 ∨ x = 99 ∨ x = 100 ∨ x = 101 ∨ x = 102 ∨ x = 103 ∨ x = 104 ∨ x = 105 ∨ x = 106 ∨ x = 107 ∨ x = 108 ∨ x = 109 ∨ x = 110 ∨ x = 111 ∨ x = 112 ∨ x = 113 ∨ x = 114 ∨ x = 115 ∨ x = 116 ∨ x = 117 ∨ x = 118 ∨ x = 119 ∨ x = 120 ∨ x = 121 ∨ x = 122 by omega) with rfl | rfl | rfl | rfl | rfl | rfl | rfl | rfl | rfl | rfl | rfl | rfl | rfl | rfl | rfl | rfl | rfl | rfl | rfl | rfl | rfl | rfl | rfl | rfl | rfl | rfl
  · exact eo
  · exact eo
  · exact cl 99 2 (by omega) (by omega) (by omega)
  · exact cl 100 4 (by omega) (by omega) (by omega)
  · exact eo
  · exact eo
  · exact eo
  · exact ⟨M, rfl, c, tF_r M, w⟩
  · exact eo
  · exact eo
  · exact ⟨M, rfl, c, tF_r M, w⟩
  · exact cl 108 5 (by omega) (by omega) (by omega)
  · exact eo
  · exact eo
  · exact eo
  · exact t_ep c w
  · exact eo
  · exact cl 114 2 (by omega) (by omega) (by omega)
  · exact eo
  · exact tb
  · exact cl 117 4 (by omega) (by omega) (by omega)
  · exact eo
  · exact eo
  · exact eo
  · exact eo
  · exact eo
