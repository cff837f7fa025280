/-! html; what is asked of the tree -/
theorem C_0 {M : qM} {s : aT} (c : C M s) (j : Nat) (v : Int32) : C (qsI M 0 j v) s := by
  obtain ⟨⟨cB, cN⟩, c1, c2, c3, c4, c5⟩ := c
  refine ⟨⟨?_, ?_⟩, ?_, ?_, ?_, ?_, ?_⟩
  · rw [g_In (by omega)]; exact cB
  · rw [g_In (by omega)]; exact cN
  · exact cNm_cg c1 fun x hx j hj => g_In (by omega)
  · exact cLk_cg c2 fun x hx j h1 h2 => rfl
  · exact cSt_cg c3 (g_In (by omega)) (fun k hk => rfl) fun x hx => g_In (by omega)
  · exact cFl_cg c4 (fun x hx => g_In (by omega)) fun x hx k => rfl
  · exact cCh_cg c5 (g_In (by omega)) (fun x hx j h1 h2 => rfl) fun q hq => ⟨g_In (by omega), rfl⟩
theorem cT_0 {M : qM} {y : yT} (h : cT M y) (j : Nat) (v : Int32) : cT (qsI M 0 j v) y := by
  refine ⟨⟨by rw [g_In (by omega)]; exact h.1.1, h.1.2⟩, fun q => ?_, fun q => ?_⟩
  · rw [g_In (by omega)]
    exact h.2.1 q
  · rw [g_In (by omega), g_In (by omega)]
    exact h.2.2 q
theorem f_can {c : Nat} (M : qM) (h1 : 32 ≤ c) (h2 : c < 127) : f_Pg_canBeTyped (nI c) M = some 1 := by
  unfold f_Pg_canBeTyped
  rw [show (32 : Int32) = nI 32 from rfl, show (126 : Int32) = nI 126 from rfl, i_lt (by omega) (by omega), i_lt (by omega) (by omega), if_neg (by omega), if_neg (by omega)]
theorem tS_s (txt : List Nat) (r : Nat × Nat × Int32) (c : Nat) : tS (txt ++ [c]) r = y_type (tS txt r).1 (tS txt r).2 c := by
  unfold tS
  rw [yF_app, yF_c, yF_nil]
theorem ti_html {Mx Mm : qM} {txt : List Nat} (h : TI Mx Mm txt) {c : Nat} (h1 : 32 ≤ c) (h2 : c < 127) : ∃ r Mx1 Mm1, f_Pg_html (nI c) Mx = some (r, Mx1) ∧ f_Md_html (nI c) Mm = some (r, Mm1) ∧ ((Mx1 = Mx ∧ Mm1 = Mm) ∨ (TI Mx1 Mm1 (txt ++ [c]) ∧ (Mx1.1 0 6 = 0 ∧ Mx1.1 0 7 = 0 ∧ Mx1.1 0 5 = Mx.1 0 5 ∧ ∀ p j, 288 ≤ p → Mx1.1 p j = Mx.1 p j ∧ Mx1.2 p j = Mx.2 p j) ∧ (Mm1.1 0 37 = 0 ∧ ∀ p j, ((p = 0 ∧ j ≠ 0 ∧ j ≠ 4 ∧ j ≠ 5 ∧ j ≠ 7 ∧ j ≠ 13 ∧ j ≠ 16 ∧ j ≠ 17 ∧ j ≠ 20 ∧ j ≠ 21 ∧ j ≠ 37) ∨ p = 2 ∨ 13 ≤ p) → Mm1.1 p j = Mm.1 p j))) := by
  obtain ⟨⟨hl, ht⟩, hX, h4, r, pre, c0, w, hT, rt, hwT, hO, hR⟩ := h
  have lo : ¬ nI c < (32 : Int32) := by rw [show (32 : Int32) = nI 32 from rfl, g_lt (by omega) (by omega)]; omega
  have hi : ¬ (126 : Int32) < nI c := by rw [show (126 : Int32) = nI 126 from rfl, g_lt (by omega) (by omega)]; omega
  by_cases hful : txt.length = 160
  · refine ⟨0, Mx, Mm, ?_, ?_, Or.inl ⟨rfl, rfl⟩⟩
    · unfold f_Pg_html
      rw [f_can Mx h1 h2, q_bpE, if_neg (show ¬ (1 : Int32) = 0 by decide), h4, hful, if_pos (show (160 : Int32) ≤ nI 160 by decide)]
    · unfold f_Md_html
      rw [if_neg lo, if_neg hi, hX.1, hful, if_pos (show nI 160 = (160 : Int32) from rfl)]
  · have n160 : ¬ (160 : Int32) ≤ nI txt.length := by rw [show (160 : Int32) = nI 160 from rfl, g_le (by omega) (by omega)]; omega
    have e160 : ¬ nI txt.length = (160 : Int32) := by rw [show (160 : Int32) = nI 160 from rfl, g_eq (by omega) (by omega)]; exact hful
    rcases hR with ⟨hB, hR⟩ | ⟨hB, hR⟩
    · -- the class
      have cB0 : Mx.1 1 7 = 0 := by rw [c0.1.1, hB]; rfl
      obtain ⟨M7, a1, a2, a3, a4, a5⟩ := t_type (c := c) (C_0 (C_0 (C_0 c0 4 (nI (txt.length + 1))) 7 0) 6 0) w (cT_0 (cT_0 (cT_0 hT 4 (nI (txt.length + 1))) 7 0) 6 0) h1 h2
      rw [← tS_s] at a2 a3 a4
      have rt7 : cRt M7 := ⟨by rw [(a5 7 4 (by omega)).2]; exact rt.1, by rw [(a5 7 8 (by omega)).2]; exact rt.2⟩
      obtain ⟨pre', hp'⟩ := a3.2.2.1
      obtain ⟨M8, b1, b2', b3, b4, b5⟩ := t_number a2 a3 rt7 hp'
      have k8 : ∀ p j, (p = 0 ∨ 288 ≤ p) → M8.1 p j = (qsI (qsI (qsI Mx 0 4 (nI (txt.length + 1))) 0 7 0) 0 6 0).1 p j ∧ M8.2 p j = Mx.2 p j := fun p j hp => by
        rw [(b5 p j (by omega)).1, (b5 p j (by omega)).2]
        exact a5 p j (by omega)
      have hT8 : cT M8 (tS (txt ++ [c]) r).2 := by
        have k : ∀ j, M8.1 287 j = M7.1 287 j := fun j => (b5 287 j (by omega)).1
        refine ⟨⟨by rw [k]; exact a4.1.1, a4.1.2⟩, fun q => ?_, fun q => ?_⟩
        · rw [k]
          exact a4.2.1 q
        · rw [k, k]
          exact a4.2.2 q
      have ecl : f_Pg_html (nI c) Mx = if (M8.1 1 7) = 0 then (some (1, M8)) else (some (0, M8)) := by
        unfold f_Pg_html
        rw [f_can Mx h1 h2, q_bpE, if_neg (show ¬ (1 : Int32) = 0 by decide), h4, if_neg n160, if_pos cB0, g_inc, q_ltE]
        have ef : f_Pg_forgetLayout (qsI Mx 0 4 (nI (txt.length + 1))) = some (qsI (qsI (qsI Mx 0 4 (nI (txt.length + 1))) 0 7 0) 0 6 0) := rfl
        rw [ef, q_cvE, a1, q_cvE, b1, q_cvE]
      -- the reference
      have hl' : (txt ++ [c]).length ≤ 160 := by simp; omega
      have ht' : ∀ x ∈ txt ++ [c], 32 ≤ x ∧ x < 127 := fun x hx => by
        rcases List.mem_append.mp hx with m | m
        · exact ht x m
        · rw [List.mem_singleton.mp m]; exact ⟨h1, h2⟩
      obtain ⟨M1, r1, r2, r3⟩ := r_reset (qsI (qsI (qsI Mm 1 txt.length (nI c)) 0 0 (nI (txt.length + 1))) 0 37 0)
      have hX1 : rX M1 (txt ++ [c]) := by
        refine ⟨?_, fun k x hk => ?_⟩
        · rw [r3 0 0 (by omega), g_In (by omega), g_Ie ⟨rfl, rfl⟩]
          simp
        · rw [r3 1 k (by omega), g_In (by omega), g_In (by omega)]
          rw [List.getElem?_append] at hk
          split at hk
          · rename_i hlt
            rw [g_In (by omega)]
            exact hX.2 k x hk
          · have hz : k - txt.length = 0 := by
              have := (List.getElem?_eq_some_iff.mp hk).1
              simp at this
              omega
            rw [hz] at hk
            have hk' : c = x := by simpa using hk
            rw [g_Ie ⟨rfl, by omega⟩, hk']
      obtain ⟨M', d1, d2, d3⟩ := rd hl' ht' (txt ++ [c]).length 0 M1 s00 [(0, 0)] r 1000 (by omega) (Nat.zero_le _) r2 hX1 W_00 wT_00 (Nat.zero_le _) (by omega)
      rw [List.drop_zero] at d2
      have erf : f_Md_html (nI c) Mm = if (M'.1 0 4) = 0 then (some (1, M')) else (some (0, M')) := by
        unfold f_Md_html f_Md_read
        rw [if_neg lo, if_neg hi, hX.1, if_neg e160, if_pos hR.1.1, g_ix (by omega) (by omega), g_cl (by omega), q_ltE, g_In (by omega), hX.1, g_inc, q_ltE, q_ltE, r1, q_cvE]
        have d1' : f_Md_read_6 1000 (fun (M30 : qM) => some M30) 0 M1 = some M' := d1
        rw [d1', q_cvE]
      have fX : M8.1 0 6 = 0 ∧ M8.1 0 7 = 0 ∧ M8.1 0 5 = Mx.1 0 5 ∧ ∀ p j, 288 ≤ p → M8.1 p j = Mx.1 p j ∧ M8.2 p j = Mx.2 p j := by
        refine ⟨?_, ?_, ?_, fun p j hp => ⟨?_, (k8 p j (by omega)).2⟩⟩
        · rw [(k8 0 6 (by omega)).1, g_Ie ⟨rfl, rfl⟩]
        · rw [(k8 0 7 (by omega)).1, g_In (by omega), g_Ie ⟨rfl, rfl⟩]
        · rw [(k8 0 5 (by omega)).1, g_In (by omega), g_In (by omega), g_In (by omega)]
        · rw [(k8 p j (by omega)).1, g_In (by omega), g_In (by omega), g_In (by omega)]
      have fM : M'.1 0 37 = 0 ∧ ∀ p j, ((p = 0 ∧ j ≠ 0 ∧ j ≠ 4 ∧ j ≠ 5 ∧ j ≠ 7 ∧ j ≠ 13 ∧ j ≠ 16 ∧ j ≠ 17 ∧ j ≠ 20 ∧ j ≠ 21 ∧ j ≠ 37) ∨ p = 2 ∨ 13 ≤ p) → M'.1 p j = Mm.1 p j := by
        refine ⟨?_, fun p j hp => ?_⟩
        · rw [d3 0 37 (by omega), r3 0 37 (by omega), g_Ie ⟨rfl, rfl⟩]
        · rw [d3 p j (by omega), r3 p j (by omega), g_In (by omega), g_In (by omega), g_In (by omega)]
      have h48 : M8.1 0 4 = nI (txt ++ [c]).length := by
        rw [(k8 0 4 (by omega)).1, g_In (by omega), g_In (by omega), g_Ie ⟨rfl, rfl⟩]
        simp
      rcases d2 with ⟨z1, pre2, z2, z3⟩ | ⟨z1, z2⟩
      · have z1' : sB (tS (txt ++ [c]) r).1 = false := z1
        obtain ⟨M9, y1, y2, y3, y4, y5⟩ := t_number a2 a3 rt7 z3
        have e89 : M9 = M8 := Option.some.inj (y1.symm.trans b1)
        rw [e89] at y4
        refine ⟨1, M8, M', ?_, ?_, Or.inr ⟨⟨⟨hl', ht'⟩, rX_F hX1 d3, h48, r, pre2, b2', a3, hT8, b3, z3, y4, Or.inl ⟨z1', z2⟩⟩, fX, fM⟩⟩
        · rw [ecl, if_pos (by rw [b2'.1.1, z1']; rfl)]
        · rw [erf, if_pos z2.1.1]
      · have z1' : sB (tS (txt ++ [c]) r).1 = true := z1
        refine ⟨0, M8, M', ?_, ?_, Or.inr ⟨⟨⟨hl', ht'⟩, rX_F hX1 d3, h48, r, pre', b2', a3, hT8, b3, hp', b4, Or.inr ⟨z1', z2⟩⟩, fX, fM⟩⟩
        · rw [ecl, if_neg (by rw [b2'.1.1, z1']; decide)]
        · rw [erf, if_neg (by rw [z2]; decide)]
    · refine ⟨0, Mx, Mm, ?_, ?_, Or.inl ⟨rfl, rfl⟩⟩
      · unfold f_Pg_html
        rw [f_can Mx h1 h2, q_bpE, if_neg (show ¬ (1 : Int32) = 0 by decide), h4, if_neg n160, if_neg (by rw [c0.1.1, hB]; decide)]
      · unfold f_Md_html
        rw [if_neg lo, if_neg hi, hX.1, if_neg e160, if_neg (by rw [hR]; decide)]
/-! the queries -/
theorem g_of {x : Int32} {n : Nat} (hn : n < 2147483648) (h0 : ¬ x < 0) (h1 : x < nI n) : ∃ k, k < n ∧ x = nI k := by
  rw [Int32.lt_iff_toInt_lt, nI_toInt hn] at h1
  have h0' : 0 ≤ x.toInt := by
    rw [Int32.lt_iff_toInt_lt] at h0
    have : (0 : Int32).toInt = 0 := by decide
    omega
  refine ⟨x.toInt.toNat, by omega, ?_⟩
  rw [← Int32.toInt_inj, nI_toInt (by omega)]
  omega
/-- a node by its number, on both sides: none, or the same -/
theorem ti_at {Mx Mm : qM} {txt : List Nat} (h : TI Mx Mm txt) (a : Int32) : (f_Tree_nodeAt a Mx = some none ∧ f_Md_none a Mm = some 1) ∨ ∃ r pre k i e, C Mx (tS txt r).1 ∧ Wf (tS txt r).1 ∧ cRt Mx ∧ wT (tS txt r).1 pre ∧ cO Mx pre ∧ sB (tS txt r).1 = false ∧ R Mm (tS txt r).1 pre ∧ a = nI k ∧ pre[k]? = some (i, e) ∧ f_Tree_nodeAt a Mx = some (some (7 + 5 * i)) ∧ f_Md_none a Mm = some 0 := by
  obtain ⟨⟨hl, ht⟩, hX, h4, r, pre, c0, w, hT, rt, hwT, hO, hR⟩ := h
  unfold f_Tree_nodeAt f_Md_none
  rcases hR with ⟨hB, hR⟩ | ⟨hB, hR⟩
  · have h24 := w.1.1.2
    have hlen : pre.length = sN (tS txt r).1 := hwT.2.2.2
    have e0 : Mx.1 1 7 = 0 := by rw [c0.1.1, hB]; rfl
    have ec : Mm.1 0 5 = nI (sN (tS txt r).1) := by rw [hR.2.2.1.1, hlen]
    rw [if_pos e0, if_pos hR.1.1, c0.1.2, ec]
    by_cases q0 : a < 0
    · left
      rw [if_pos q0, if_pos q0]
      exact ⟨rfl, rfl⟩
    · by_cases q1 : a < nI (sN (tS txt r).1)
      · right
        obtain ⟨k, hk, rfl⟩ := g_of (by omega) q0 q1
        have hk0 : pre[k]? = some (pre[k].1, pre[k].2) := List.getElem?_eq_getElem (by omega)
        refine ⟨r, pre, k, _, _, c0, w, rt, hwT, hO, hB, hR, rfl, hk0, ?_, ?_⟩
        · rw [if_neg q0, if_pos q1, g_ix (by omega) (by omega), g_cl (by omega), (hO k _ _ hk0).1]
          rfl
        · rw [if_neg q0, if_pos q1]
      · left
        rw [if_neg q0, if_neg q1, if_neg q0, if_neg q1]
        exact ⟨rfl, rfl⟩
  · left
    rw [if_neg (by rw [c0.1.1, hB]; decide), if_neg (by rw [hR]; decide)]
    exact ⟨rfl, rfl⟩
theorem ti_nodes {Mx Mm : qM} {txt : List Nat} (h : TI Mx Mm txt) : ∃ x, f_Pg_nodes Mx = some x ∧ f_Md_nodes Mm = some x := by
  obtain ⟨⟨hl, ht⟩, hX, h4, r, pre, c0, w, hT, rt, hwT, hO, hR⟩ := h
  unfold f_Pg_nodes f_Md_nodes
  rcases hR with ⟨hB, hR⟩ | ⟨hB, hR⟩
  · rw [if_pos (by rw [c0.1.1, hB]; rfl), if_pos hR.1.1, c0.1.2, hR.2.2.1.1, hwT.2.2.2]
    exact ⟨_, rfl, rfl⟩
  · rw [if_neg (by rw [c0.1.1, hB]; decide), if_neg (by rw [hR]; decide)]
    exact ⟨_, rfl, rfl⟩
theorem ti_open {Mx Mm : qM} {txt : List Nat} (h : TI Mx Mm txt) : ∃ x, f_Pg_open Mx = some x ∧ f_Md_open Mm = some x := by
  obtain ⟨⟨hl, ht⟩, hX, h4, r, pre, c0, w, hT, rt, hwT, hO, hR⟩ := h
  unfold f_Pg_open f_Md_open
  rcases hR with ⟨hB, hR⟩ | ⟨hB, hR⟩
  · rw [if_pos (by rw [c0.1.1, hB]; rfl), if_pos hR.1.1, c0.2.2.2.1.1, hR.2.2.2.1.1]
    exact ⟨_, rfl, rfl⟩
  · rw [if_neg (by rw [c0.1.1, hB]; decide), if_neg (by rw [hR]; decide)]
    exact ⟨_, rfl, rfl⟩
theorem ti_name {Mx Mm : qM} {txt : List Nat} (h : TI Mx Mm txt) (a : Int32) : ∃ x, f_Pg_name a Mx = some x ∧ f_Md_name a Mm = some x := by
  unfold f_Pg_name f_Md_name
  rcases ti_at h a with ⟨e1, e2⟩ | ⟨r, pre, k, i, e, c0, w, rt, hwT, hO, hB, hR, rfl, hk, e1, e2⟩
  · rw [e1, e2]
    exact ⟨-1, rfl, rfl⟩
  · have hid := wT_id w hwT _ (List.mem_of_getElem? hk)
    have hi : i < sN (tS txt r).1 := hid.1
    have h24 := w.1.1.2
    have hlk := (List.getElem?_eq_some_iff.mp hk).1
    have hlen : pre.length = sN (tS txt r).1 := hwT.2.2.2
    rw [e1, e2, q_bpE, q_bpE, if_pos rfl, g_ix (by omega) (by omega), g_cl (by omega), (hR.2.2.1.2 k i e hk).1, g_ix (by omega) (by omega), g_cl (by omega), (hR.2.1.2 i hi).1]
    refine ⟨_, ?_, rfl⟩
    show some (Mx.1 (7 + 5 * i) 0) = _
    rw [(c0.2.1 i hi).1]
theorem ti_classes {Mx Mm : qM} {txt : List Nat} (h : TI Mx Mm txt) (a : Int32) : ∃ x, f_Pg_classes a Mx = some x ∧ f_Md_classes a Mm = some x := by
  unfold f_Pg_classes f_Md_classes
  rcases ti_at h a with ⟨e1, e2⟩ | ⟨r, pre, k, i, e, c0, w, rt, hwT, hO, hB, hR, rfl, hk, e1, e2⟩
  · rw [e1, e2]
    exact ⟨-1, rfl, rfl⟩
  · have hid := wT_id w hwT _ (List.mem_of_getElem? hk)
    have hi : i < sN (tS txt r).1 := hid.1
    have h24 := w.1.1.2
    have hlk := (List.getElem?_eq_some_iff.mp hk).1
    have hlen : pre.length = sN (tS txt r).1 := hwT.2.2.2
    rw [e1, e2, q_bpE, q_bpE, if_pos rfl, g_ix (by omega) (by omega), g_cl (by omega), (hR.2.2.1.2 k i e hk).1, g_ix (by omega) (by omega), g_cl (by omega), (hR.2.1.2 i hi).2]
    refine ⟨_, ?_, rfl⟩
    show some (Mx.1 (7 + 5 * i) 1) = _
    rw [(c0.2.1 i hi).2]
