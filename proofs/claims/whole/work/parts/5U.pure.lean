/-! the abstract steps alone: what must hold is kept; a broken page stays broken -/
theorem W_renL : ∀ (es : List Nat) (s : aT), Wf s → es.Nodup → (∀ e ∈ es, e ∈ (sEn s).map Prod.fst) → Wf (renL es s)
  | [], _, w, _, _ => w
  | e :: es, s, w, nd, h => by
    unfold renL
    by_cases hn : sN s < 24
    · rw [if_pos hn]
      obtain ⟨q, hq, he⟩ := List.mem_map.mp (h e (by simp))
      obtain ⟨e', o⟩ := q
      have he' : e' = e := he
      subst he'
      have nd' := List.nodup_cons.mp nd
      refine W_renL es _ (W_rn w hn hq) nd'.2 fun x hx => ?_
      have hne : x ≠ e' := fun z => nd'.1 (z ▸ hx)
      obtain ⟨⟨x', o'⟩, hm, hx'⟩ := List.mem_map.mp (h x (by simp [hx]))
      have hx'' : x' = x := hx'
      subst hx''
      show x' ∈ (enR (sEn s) e' (sN s)).map Prod.fst
      refine List.mem_map.mpr ⟨(x', o'), List.mem_map.mpr ⟨(x', o'), hm, ?_⟩, rfl⟩
      rw [if_neg hne]
    · rw [if_neg hn]
      exact W_brk w
theorem W_renew {s : aT} (w : Wf s) : Wf (s_renew s) := by
  have sub : (flO (sEn s) (ow s)).Sublist ((sEn s).map Prod.fst) := List.filter_sublist.map _
  refine W_renL _ _ w ((List.drop_sublist _ _).trans sub |>.nodup w.2.1.2.2.1) fun e he => ?_
  exact ((List.drop_sublist _ _).trans sub).subset he
theorem W_chr {s : aT} (w : Wf s) {c : Nat} (hc : c < 200) : Wf (s_chr s c) := by
  unfold s_chr
  split
  · exact w
  · exact W_chr2 (W_renew w) hc
theorem W_st2 {s : aT} (w : Wf s) {x : Nat} {a : Int32} (h1 : 97 ≤ x) (h2 : x ≤ 122) (hr : x ≠ 114) : Wf (s_st2 s x a) := by
  show Wf (if sN s < 24 then (if inS 7 x = true then s_en (s_st3 s x a) (en1 (sEn s) (ow (s_st3 s x a)) ++ [(sN s, ow (s_st3 s x a))]) else s_st3 s x a) else s_brk s)
  by_cases hn : sN s < 24
  · rw [if_pos hn]
    have w3 := W_st3 (a := a) w hn h1 h2 hr
    by_cases h7 : inS 7 x = true
    · rw [if_pos h7]
      have ho := ow_lt w3.1
      have hN := st3_N s x a
      have := W_add (e := sN s) w3 ho (by rw [hN.1]; omega) (by rw [hN.2.2, up_e]; exact h7) (fun q hq => by
        rw [hN.2.1] at hq
        have := (w.2.1.1 q hq).1
        omega) (by rw [hN.1, hN.2.1]; have := w.2.1.2.2.2; omega)
      rw [hN.2.1] at this
      exact this
    · rw [if_neg h7]
      exact w3
  · rw [if_neg hn]
    exact W_brk w
theorem W_roc {s : aT} (w : Wf s) {x : Nat} {a : Int32} (hx : x = 114 ∨ x = 99) : Wf (s_roc s x a) := by
  unfold s_roc
  cases ht : s_tm s 116 with
  | none => exact w
  | some t =>
    have htl := s_tm_lt ht
    have w1 := W_h w (k := t + 1) (by omega) htl.1
    have tt : sNm (s_h s (t + 1)) (sSf (s_h s (t + 1)) (sH (s_h s (t + 1)) - 1)) = 116 := by
      show sNm s (sSf s (t + 1 - 1)) = 116
      rw [Nat.add_sub_cancel]
      exact htl.2
    show Wf (match (if x = 99 then s_rch s 114 2 else none) with
      | some r => s_op (s_h s (r + 1)) x a
      | none => if x = 99 then s_op (s_op (s_h s (t + 1)) 114 0) x a else s_op (s_h s (t + 1)) x a)
    by_cases h99 : x = 99
    · simp only [if_pos h99]
      cases hr : s_rch s 114 2 with
      | some r =>
        have ri := rchI_lt hr
        exact W_op (W_h w (k := r + 1) (by omega) ri.1) (by omega) (by omega) (fun q => by omega)
      | none => exact W_op (W_op (x := 114) w1 (by omega) (by omega) (fun _ => tt)) (by omega) (by omega) (fun q => by omega)
    · simp only [if_neg h99]
      exact W_op w1 (by omega) (by omega) (fun _ => tt)
theorem W_stt {s : aT} (w : Wf s) {x : Nat} {a : Int32} (h1 : 97 ≤ x) (h2 : x ≤ 122) : Wf (s_stt s x a) := by
  have es : s_stt s x a = if inS 1 x = true then s_roc s x a else s_st2 (s_cw s x) x a := by
    unfold s_stt s_cw
    by_cases h : x = 108
    · rw [if_pos h, if_pos h]
    · rw [if_neg h, if_neg h]
  rw [es]
  by_cases i1 : inS 1 x = true
  · rw [if_pos i1]
    exact W_roc w ((inS1 (by omega)).mp i1)
  · rw [if_neg i1]
    exact W_st2 (W_cw w (W_renew w) x) h1 h2 fun q => i1 ((inS1 (by omega)).mpr (Or.inl q))
theorem W_eo {s : aT} (w : Wf s) {x : Nat} (h1 : 97 ≤ x) (h2 : x ≤ 122) : Wf (s_eo s x) := by
  unfold s_eo
  cases he : s_ent s x with
  | none => exact W_clR w h1
  | some j =>
    have hj : j < (flO (sEn s) (ow s)).length ∧ inS 7 x = true ∧ sNm s ((flO (sEn s) (ow s)).getD j 0) = x := by
      unfold s_ent at he
      split at he
      · have := lastI_lt he
        exact ⟨this.1, by assumption, by simpa using this.2⟩
      · cases he
    show Wf (match lastI (fun k => sSf s k == (flO (sEn s) (ow s)).getD j 0) (sH s) with
      | none => s_en s (enD (sEn s) ((flO (sEn s) (ow s)).getD j 0))
      | some k => match fstI (fun j => inS 2 (sNm s (sSf s j))) (sH s - (k + 1)) (k + 1) with
        | some _ => s
        | none => s_eo2 s ((flO (sEn s) (ow s)).getD j 0) k)
    generalize (flO (sEn s) (ow s)).getD j 0 = E at hj
    have wD := W_enD w E
    cases hk : lastI (fun k => sSf s k == E) (sH s) with
    | none => exact wD
    | some k =>
      have hkl := lastI_lt hk
      have hkE : sSf s k = E := by simpa using hkl.2
      have hk1 : 1 ≤ k := W_ix w (y := x) h1 hkl.1 (by rw [hkE]; exact hj.2.2)
      show Wf (match fstI (fun j => inS 2 (sNm s (sSf s j))) (sH s - (k + 1)) (k + 1) with
        | some _ => s
        | none => s_eo2 s E k)
      cases fstI (fun j => inS 2 (sNm s (sSf s j))) (sH s - (k + 1)) (k + 1) with
      | some t => exact w
      | none =>
        show Wf (s_eo2 s E k)
        unfold s_eo2
        cases hbk : fstI (fun j => inS 3 (sNm s (sSf s j))) (sH s - (k + 1)) (k + 1) with
        | none => exact W_h wD hk1 (Nat.le_of_lt hkl.1)
        | some b =>
          have hb3 := fstI_lt hbk
          refine W_adp wD hk1 (show k < b by omega) (show b < sH s by omega) ?_ hb3.2.2
          show inS 7 (sNm s (sSf s k)) = true
          rw [hkE, hj.2.2]
          exact hj.2.1
theorem W_end {s : aT} (w : Wf s) {x : Nat} (h1 : 97 ≤ x) (h2 : x ≤ 122) : Wf (s_end s x) := by
  unfold s_end
  split
  · unfold s_ep
    cases hr : s_rch s 112 4 with
    | none => exact W_newB w (Or.inr ⟨by omega, by omega⟩)
    | some k =>
      have hk := s_rch_i w (y := 112) (by omega) k hr
      exact W_h w hk.1 (Nat.le_of_lt hk.2)
  · split
    · exact W_clR w h1
    · split
      · exact W_clR w (by omega)
      · split
        · exact W_clT w (s_tm_i w (by omega))
        · split
          · exact W_clR w (by omega)
          · split
            · exact W_clR w (by omega)
            · split
              · exact w
              · exact W_eo w h1 h2
/-! broken -/
theorem sB_let {s : aT} (h : sB s = true) (t c : Nat) : sB (s_let s t c) = true := by unfold s_let; split <;> exact h
theorem sB_chr3 {s : aT} (h : sB s = true) (c : Nat) : sB (s_chr3 s c) = true := by
  unfold s_chr3
  split
  · exact sB_let (s := s_new s 1 0) h _ _
  · rfl
theorem sB_chr {s : aT} (h : sB s = true) (c : Nat) : sB (s_chr s c) = true := by
  unfold s_chr
  split
  · exact h
  · have hr : sB (s_renew s) = true := sB_ren _ _ h
    unfold s_chr2
    cases s_nbp (s_renew s) with
    | none => exact sB_chr3 hr c
    | some t =>
      show sB (if sNm (s_renew s) t = 1 then s_let (s_renew s) t c else s_chr3 (s_renew s) c) = true
      split
      · exact sB_let hr _ _
      · exact sB_chr3 hr c
theorem sB_clR {s : aT} (h : sB s = true) (y z : Nat) : sB (s_clR s y z) = true := by
  unfold s_clR s_clT
  split <;> exact h
theorem sB_stt {s : aT} (h : sB s = true) (x : Nat) (a : Int32) : sB (s_stt s x a) = true := by
  unfold s_stt
  split
  · unfold s_roc
    cases s_tm s 116 with
    | none => exact h
    | some t =>
      show sB (match (if x = 99 then s_rch s 114 2 else none) with
        | some r => s_op (s_h s (r + 1)) x a
        | none => if x = 99 then s_op (s_op (s_h s (t + 1)) 114 0) x a else s_op (s_h s (t + 1)) x a) = true
      cases (if x = 99 then s_rch s 114 2 else none) with
      | some r =>
        show sB (s_op (s_h s (r + 1)) x a) = true
        exact sB_op (s := s_h s (r + 1)) h _ _
      | none =>
        show sB (if x = 99 then s_op (s_op (s_h s (t + 1)) 114 0) x a else s_op (s_h s (t + 1)) x a) = true
        split
        · exact sB_op (sB_op (s := s_h s (t + 1)) h _ _) _ _
        · exact sB_op (s := s_h s (t + 1)) h _ _
  · have h1 : sB (s_st1 s x) = true := by
      unfold s_st1
      split
      · exact sB_clR h _ _
      · exact sB_ren _ _ h
    split
    · exact sB_st2 (sB_clR h1 _ _) _ _
    · exact sB_st2 h1 _ _
theorem sB_newB {s : aT} (h : sB s = true) (x : Nat) (a : Int32) : sB (s_newB s x a) = true := by
  unfold s_newB
  split
  · exact h
  · rfl
theorem sB_adp {s : aT} (h : sB s = true) (e b : Nat) : sB (s_adp s e b) = true := by
  unfold s_adp
  split
  · exact h
  · rfl
theorem sB_end {s : aT} (h : sB s = true) (x : Nat) : sB (s_end s x) = true := by
  unfold s_end
  split
  · unfold s_ep
    cases s_rch s 112 4 with
    | none => exact sB_newB h _ _
    | some k => exact h
  · split
    · exact sB_clR h _ _
    · split
      · exact sB_clR h _ _
      · split
        · unfold s_clT
          split <;> exact h
        · split
          · exact sB_clR h _ _
          · split
            · exact sB_clR h _ _
            · split
              · exact h
              · unfold s_eo
                cases s_ent s x with
                | none => exact sB_clR h _ _
                | some j =>
                  show sB (match lastI (fun k => sSf s k == (flO (sEn s) (ow s)).getD j 0) (sH s) with
                    | none => s_en s (enD (sEn s) ((flO (sEn s) (ow s)).getD j 0))
                    | some k => match fstI (fun j => inS 2 (sNm s (sSf s j))) (sH s - (k + 1)) (k + 1) with
                      | some _ => s
                      | none => s_eo2 s ((flO (sEn s) (ow s)).getD j 0) k) = true
                  cases lastI (fun k => sSf s k == (flO (sEn s) (ow s)).getD j 0) (sH s) with
                  | none => exact h
                  | some k =>
                    show sB (match fstI (fun j => inS 2 (sNm s (sSf s j))) (sH s - (k + 1)) (k + 1) with
                      | some _ => s
                      | none => s_eo2 s ((flO (sEn s) (ow s)).getD j 0) k) = true
                    cases fstI (fun j => inS 2 (sNm s (sSf s j))) (sH s - (k + 1)) (k + 1) with
                    | some t => exact h
                    | none =>
                      show sB (s_eo2 s _ k) = true
                      unfold s_eo2
                      cases fstI (fun j => inS 3 (sNm s (sSf s j))) (sH s - (k + 1)) (k + 1) with
                      | none => exact h
                      | some b => exact sB_adp (s := s_en s (enD (sEn s) ((flO (sEn s) (ow s)).getD j 0))) h _ _
/-! letters are at most one a character, and only characters make them -/
theorem nc_let (s : aT) (t c : Nat) : sNc (s_let s t c) ≤ sNc s + 1 := by
  unfold s_let
  split
  · exact Nat.le_refl _
  · omega
theorem nc_chr (s : aT) (c : Nat) : sNc (s_chr s c) ≤ sNc s + 1 := by
  unfold s_chr
  split
  · omega
  · have hr : sNc (s_renew s) = sNc s := renL_nc _ _
    have h3 : sNc (s_chr3 (s_renew s) c) ≤ sNc s + 1 := by
      unfold s_chr3
      split
      · have := nc_let (s_new (s_renew s) 1 0) (sN (s_renew s)) c
        have e : sNc (s_new (s_renew s) 1 0) = sNc (s_renew s) := rfl
        omega
      · show sNc (s_renew s) ≤ _
        omega
    unfold s_chr2
    cases s_nbp (s_renew s) with
    | none => exact h3
    | some t =>
      show sNc (if sNm (s_renew s) t = 1 then s_let (s_renew s) t c else s_chr3 (s_renew s) c) ≤ _
      split
      · have := nc_let (s_renew s) t c
        omega
      · exact h3
theorem nc_clR (s : aT) (y z : Nat) : sNc (s_clR s y z) = sNc s := by
  unfold s_clR s_clT
  split <;> rfl
theorem nc_op (s : aT) (x : Nat) (a : Int32) : sNc (s_op s x a) = sNc s := by
  unfold s_op
  split <;> rfl
theorem nc_st2 (s : aT) (x : Nat) (a : Int32) : sNc (s_st2 s x a) = sNc s := by
  unfold s_st2
  by_cases h1 : sN s < 24
  · rw [if_pos h1]
    by_cases h2 : inS 7 x = true
    · rw [if_pos h2]
      by_cases h3 : inS 6 x = true
      · rw [if_pos h3]; rfl
      · rw [if_neg h3]; rfl
    · rw [if_neg h2]
      by_cases h3 : inS 6 x = true
      · rw [if_pos h3]; rfl
      · rw [if_neg h3]; rfl
  · rw [if_neg h1]
    rfl
theorem nc_stt (s : aT) (x : Nat) (a : Int32) : sNc (s_stt s x a) = sNc s := by
  unfold s_stt
  split
  · unfold s_roc
    cases s_tm s 116 with
    | none => rfl
    | some t =>
      show sNc (match (if x = 99 then s_rch s 114 2 else none) with
        | some r => s_op (s_h s (r + 1)) x a
        | none => if x = 99 then s_op (s_op (s_h s (t + 1)) 114 0) x a else s_op (s_h s (t + 1)) x a) = _
      cases (if x = 99 then s_rch s 114 2 else none) with
      | some r => exact nc_op (s_h s (r + 1)) x a
      | none =>
        show sNc (if x = 99 then s_op (s_op (s_h s (t + 1)) 114 0) x a else s_op (s_h s (t + 1)) x a) = _
        split
        · rw [nc_op, nc_op]; rfl
        · rw [nc_op]; rfl
  · have h1 : sNc (s_st1 s x) = sNc s := by
      unfold s_st1
      split
      · exact nc_clR _ _ _
      · exact renL_nc _ _
    split
    · rw [nc_st2, nc_clR, h1]
    · rw [nc_st2, h1]
theorem nc_end (s : aT) (x : Nat) : sNc (s_end s x) = sNc s := by
  unfold s_end
  split
  · unfold s_ep
    cases s_rch s 112 4 with
    | none =>
      show sNc (s_newB s 112 0) = _
      unfold s_newB
      split <;> rfl
    | some k => rfl
  · split
    · exact nc_clR _ _ _
    · split
      · exact nc_clR _ _ _
      · split
        · unfold s_clT
          split <;> rfl
        · split
          · exact nc_clR _ _ _
          · split
            · exact nc_clR _ _ _
            · split
              · rfl
              · unfold s_eo
                cases s_ent s x with
                | none => exact nc_clR _ _ _
                | some j =>
                  show sNc (match lastI (fun k => sSf s k == (flO (sEn s) (ow s)).getD j 0) (sH s) with
                    | none => s_en s (enD (sEn s) ((flO (sEn s) (ow s)).getD j 0))
                    | some k => match fstI (fun j => inS 2 (sNm s (sSf s j))) (sH s - (k + 1)) (k + 1) with
                      | some _ => s
                      | none => s_eo2 s ((flO (sEn s) (ow s)).getD j 0) k) = _
                  cases lastI (fun k => sSf s k == (flO (sEn s) (ow s)).getD j 0) (sH s) with
                  | none => rfl
                  | some k =>
                    show sNc (match fstI (fun j => inS 2 (sNm s (sSf s j))) (sH s - (k + 1)) (k + 1) with
                      | some _ => s
                      | none => s_eo2 s ((flO (sEn s) (ow s)).getD j 0) k) = _
                    cases fstI (fun j => inS 2 (sNm s (sSf s j))) (sH s - (k + 1)) (k + 1) with
                    | some t => rfl
                    | none =>
                      show sNc (s_eo2 s _ k) = _
                      unfold s_eo2
                      cases fstI (fun j => inS 3 (sNm s (sSf s j))) (sH s - (k + 1)) (k + 1) with
                      | none => rfl
                      | some b =>
                        show sNc (s_adp _ k b) = _
                        unfold s_adp
                        split <;> rfl
