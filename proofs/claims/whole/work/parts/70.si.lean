/-! what the tree's part and the sheet's part hang on; css, rules -/
def kT (M M' : qM) : Prop := (∀ p j, ¬ ((p = 0 ∧ j ≠ 4) ∨ (7 ≤ p ∧ p ≤ 126 ∧ (p % 5 = 0 ∨ p % 5 = 1)) ∨ (127 ≤ p ∧ p ≤ 286 ∧ 2 ≤ j) ∨ 288 ≤ p) → M'.1 p j = M.1 p j) ∧ ∀ p j, p < 288 → M'.2 p j = M.2 p j
def kR (M M' : qM) : Prop := ∀ p j, ((p = 0 ∧ (j = 0 ∨ j = 4 ∨ j = 5 ∨ j = 7 ∨ j = 13 ∨ j = 16 ∨ j = 17)) ∨ (1 ≤ p ∧ p ≤ 12 ∧ p ≠ 2)) → M'.1 p j = M.1 p j
theorem kT_r (M : qM) : kT M M := ⟨fun _ _ _ => rfl, fun _ _ _ => rfl⟩
theorem kR_r (M : qM) : kR M M := fun _ _ _ => rfl
theorem kT_t {M M' M'' : qM} (h : kT M M') (h' : kT M' M'') : kT M M'' := ⟨fun p j q => by rw [h'.1 p j q, h.1 p j q], fun p j q => by rw [h'.2 p j q, h.2 p j q]⟩
theorem kR_t {M M' M'' : qM} (h : kR M M') (h' : kR M' M'') : kR M M'' := fun p j q => by rw [h' p j q, h p j q]
theorem C_k {M M' : qM} {s : aT} (c : C M s) (w : Wf s) (k : kT M M') : C M' s := by
  obtain ⟨⟨cB, cN⟩, c1, c2, c3, c4, c5⟩ := c
  have hn : sN s ≤ 24 := w.1.1.2
  have hc : sNc s ≤ 160 := w.2.2.2.2.2.2.2.1.2
  refine ⟨⟨?_, ?_⟩, ?_, ?_, ?_, ?_, ?_⟩
  · rw [k.1 _ _ (by omega)]; exact cB
  · rw [k.1 _ _ (by omega)]; exact cN
  · exact cNm_cg c1 fun x hx j hj => k.1 _ _ (by omega)
  · exact cLk_cg c2 fun x hx j h1 h2 => k.2 _ _ (by omega)
  · exact cSt_cg c3 (k.1 _ _ (by omega)) (fun x hx => k.2 _ _ (by omega)) fun x hx => k.1 _ _ (by omega)
  · exact cFl_cg c4 (fun x hx => k.1 _ _ (by omega)) fun x hx j => k.2 _ _ (by omega)
  · exact cCh_cg c5 (k.1 _ _ (by omega)) (fun x hx j h1 h2 => k.2 _ _ (by omega)) fun q hq => ⟨k.1 _ _ (by omega), k.2 _ _ (by omega)⟩
theorem cT_k {M M' : qM} {y : yT} (h : cT M y) (k : kT M M') : cT M' y := by
  refine ⟨⟨by rw [k.1 _ _ (by omega)]; exact h.1.1, h.1.2⟩, fun q => ?_, fun q => ?_⟩
  · rw [k.1 _ _ (by omega)]
    exact h.2.1 q
  · rw [k.1 _ _ (by omega), k.1 _ _ (by omega)]
    exact h.2.2 q
theorem cO_k {M M' : qM} {pre : List (Nat × Nat)} (h : cO M pre) (hp : ∀ i ∈ fI pre, i < 24) (k : kT M M') : cO M' pre := fun x i e hx => by
  have hi : i < 24 := hp i (List.mem_map.mpr ⟨(i, e), List.mem_of_getElem? hx, rfl⟩)
  rw [k.2 _ _ (by omega), k.1 _ _ (by omega)]
  exact h x i e hx
theorem R_k {M M' : qM} {s : aT} {pre : List (Nat × Nat)} (h : R M s pre) (k : kR M M') : R M' s pre := by
  obtain ⟨⟨r0, r1⟩, ⟨n1, n2⟩, ⟨o1, o2⟩, ⟨s1, s2⟩, ⟨e1, e2⟩, ⟨c1, c2⟩⟩ := h
  refine ⟨⟨by rw [k _ _ (by omega)]; exact r0, r1⟩, ⟨by rw [k _ _ (by omega)]; exact n1, fun i hi => ?_⟩, ⟨by rw [k _ _ (by omega)]; exact o1, fun x i e hx => ?_⟩, ⟨by rw [k _ _ (by omega)]; exact s1, fun i hi => ?_⟩, ⟨by rw [k _ _ (by omega)]; exact e1, fun x e o hx => ?_⟩, ⟨by rw [k _ _ (by omega)]; exact c1, fun q hq => ?_⟩⟩
  · rw [k _ _ (by omega), k _ _ (by omega)]; exact n2 i hi
  · rw [k _ _ (by omega), k _ _ (by omega)]; exact o2 x i e hx
  · rw [k _ _ (by omega)]; exact s2 i hi
  · rw [k _ _ (by omega), k _ _ (by omega)]; exact e2 x e o hx
  · rw [k _ _ (by omega), k _ _ (by omega)]; exact c2 q hq
theorem ti_k {Mx Mm Mx' Mm' : qM} {txt : List Nat} (h : TI Mx Mm txt) (k : kT Mx Mx') (k' : kR Mm Mm') : TI Mx' Mm' txt := by
  obtain ⟨hl, hX, h4, r, pre, c0, w, hT, rt, hwT, hO, hR⟩ := h
  have hn : sN (tS txt r).1 ≤ 24 := w.1.1.2
  refine ⟨hl, ⟨by rw [k' _ _ (by omega)]; exact hX.1, fun x c hx => by rw [k' _ _ (by omega)]; exact hX.2 x c hx⟩, by rw [k.1 _ _ (by omega)]; exact h4, r, pre, C_k c0 w k, w, cT_k hT k, ⟨by rw [k.2 _ _ (by omega)]; exact rt.1, by rw [k.2 _ _ (by omega)]; exact rt.2⟩, hwT, cO_k hO (fun i hi => by have := (hwT.2.2.1 i).mp hi; omega) k, ?_⟩
  rcases hR with ⟨a, b⟩ | ⟨a, b⟩
  · exact Or.inl ⟨a, R_k b k'⟩
  · exact Or.inr ⟨a, by rw [k' _ _ (by omega)]; exact b⟩
/-- the same for the sheet -/
theorem cZ_k {M M' : qM} {z : zT} (h : cZ M z) (w : wZ z) (k : ∀ p j, 288 ≤ p → p < 364 → p ≠ 290 → M'.1 p j = M.1 p j) : cZ M' z := by
  obtain ⟨⟨h3, h4, h6, h12⟩, hH, hR, hB⟩ := h
  refine ⟨⟨by rw [k _ _ (by omega) (by omega) (by omega)]; exact h3, by rw [k _ _ (by omega) (by omega) (by omega)]; exact h4, by rw [k _ _ (by omega) (by omega) (by omega)]; exact h6, h12⟩, fun j x hj => by rw [k _ _ (by omega) (by omega) (by omega)]; exact hH j x hj, fun i r hi => ?_, fun hb => ?_⟩
  · have hil := (List.getElem?_eq_some_iff.mp hi).1
    exact ⟨cSl_cg (hR i r hi).1 (w.1 i r hi) (fun j q1 q2 => k _ _ (by omega) (by omega) (by omega)) (fun p j hp hj => k _ _ (by omega) (by omega) (by omega)), cDt_cg (hR i r hi).2 fun p j hp => k _ _ (by omega) (by omega) (by omega)⟩
  · have := hB hb
    refine ⟨by rw [k _ _ (by omega) (by omega) (by omega)]; exact this.1, fun s hs => ⟨(this.2 s hs).1, ?_⟩⟩
    have h12' := (this.2 s hs).1
    exact cSl_cg (this.2 s hs).2 (w.2.1 s hs) (fun j q1 q2 => k _ _ (by omega) (by omega) (by omega)) fun p j hp hj => k _ _ (by omega) (by omega) (by omega)
theorem si_k {Mx Mm Mx' Mm' : qM} {T : List Nat} (h : SI Mx Mm T) (k0 : Mx'.1 0 5 = Mx.1 0 5) (k : ∀ p j, 288 ≤ p → p < 364 → p ≠ 290 → Mx'.1 p j = Mx.1 p j) (k' : ∀ p j, ((p = 0 ∧ j = 2) ∨ p = 2) → Mm'.1 p j = Mm.1 p j) : SI Mx' Mm' T := by
  obtain ⟨hl, ⟨y1, y2⟩, h5, hZ, hW⟩ := h
  exact ⟨hl, ⟨by rw [k' _ _ (by omega)]; exact y1, fun j x hj => by rw [k' _ _ (by omega)]; exact y2 j x hj⟩, by rw [k0]; exact h5, cZ_k hZ hW k, hW⟩
theorem z_held (z : zT) (c : Nat) : (z_type z c).2.2.2.length ≤ z.2.2.2.length + 1 := by
  unfold z_type
  split
  · split
    · exact Nat.zero_le _
    · show (z.2.2.2 ++ [c]).length ≤ _
      simp
  · split
    · exact Nat.zero_le _
    · split
      · omega
      · show (z.2.2.2 ++ [c]).length ≤ _
        simp
theorem zF_held : ∀ (L : List Nat) (z : zT), (zF z L).2.2.2.length ≤ z.2.2.2.length + L.length
  | [], z => Nat.le_refl _
  | c :: L, z => by
    rw [zF_c]
    have h1 := zF_held L (z_type z c)
    have h2 := z_held z c
    simp only [List.length_cons]
    omega
theorem zF_s (z : zT) (T : List Nat) (c : Nat) : zF z (T ++ [c]) = z_type (zF z T) c := by
  rw [zF_app]
  rfl
theorem si_css {Mx Mm : qM} {T : List Nat} (h : SI Mx Mm T) {c : Nat} (h1 : 32 ≤ c) (h2 : c < 127) : ∃ r Mx1 Mm1, f_Pg_css (nI c) Mx = some (r, Mx1) ∧ f_Md_css (nI c) Mm = some (r, Mm1) ∧ ((Mx1 = Mx ∧ Mm1 = Mm) ∨ (SI Mx1 Mm1 (T ++ [c]) ∧ (Mx1.1 0 6 = 0 ∧ Mx1.1 0 7 = 0 ∧ kT Mx Mx1) ∧ (Mm1.1 0 37 = 0 ∧ kR Mm Mm1))) := by
  obtain ⟨⟨hl, ht⟩, ⟨y1, y2⟩, h5, hZ, hW⟩ := h
  have lo : ¬ nI c < (32 : Int32) := by rw [show (32 : Int32) = nI 32 from rfl, g_lt (by omega) (by omega)]; omega
  have hi : ¬ (126 : Int32) < nI c := by rw [show (126 : Int32) = nI 126 from rfl, g_lt (by omega) (by omega)]; omega
  by_cases hful : T.length = 120
  · refine ⟨0, Mx, Mm, ?_, ?_, Or.inl ⟨rfl, rfl⟩⟩
    · unfold f_Pg_css
      rw [f_can Mx h1 h2, q_bpE, if_neg (show ¬ (1 : Int32) = 0 by decide), h5, hful, if_neg (show ¬ nI 120 < (120 : Int32) by decide)]
    · unfold f_Md_css
      rw [if_neg lo, if_neg hi, y1, hful, if_pos (show nI 120 = (120 : Int32) from rfl)]
  · have l120 : nI T.length < (120 : Int32) := by rw [show (120 : Int32) = nI 120 from rfl, g_lt (by omega) (by omega)]; omega
    have e120 : ¬ nI T.length = (120 : Int32) := by rw [show (120 : Int32) = nI 120 from rfl, g_eq (by omega) (by omega)]; exact hful
    have hheld : (zF z00 T).2.2.2.length < 120 := by
      have := zF_held T z00
      have e : z00.2.2.2.length = 0 := rfl
      omega
    have hZ5 : cZ (qsI (qsI (qsI Mx 0 5 (nI (T.length + 1))) 0 7 0) 0 6 0) (zF z00 T) := cZ_k hZ hW fun p j q1 q2 q3 => by rw [g_In (by omega), g_In (by omega), g_In (by omega)]
    obtain ⟨M6, a1, a2, a3, a4⟩ := t_css hZ5 hW h1 h2 hheld
    refine ⟨1, M6, qsI (qsI (qsI Mm 2 T.length (nI c)) 0 2 (nI (T.length + 1))) 0 37 0, ?_, ?_, Or.inr ⟨⟨⟨by simp; omega, fun x hx => ?_⟩, ⟨?_, fun j x hj => ?_⟩, ?_, ?_, ?_⟩, ⟨?_, ?_, ⟨fun p j q => ?_, fun p j q => by rw [a4]; rfl⟩⟩, ⟨g_Ie ⟨rfl, rfl⟩, fun p j q => by rw [g_In (by omega), g_In (by omega), g_In (by omega)]⟩⟩⟩
    · unfold f_Pg_css
      rw [f_can Mx h1 h2, q_bpE, if_neg (show ¬ (1 : Int32) = 0 by decide), h5, if_pos l120, g_inc, q_ltE]
      have ef : f_Pg_forgetLayout (qsI Mx 0 5 (nI (T.length + 1))) = some (qsI (qsI (qsI Mx 0 5 (nI (T.length + 1))) 0 7 0) 0 6 0) := rfl
      rw [ef, q_cvE, a1, q_cvE]
    · unfold f_Md_css
      rw [if_neg lo, if_neg hi, y1, if_neg e120, g_ix (by omega) (by omega), g_cl (by omega), q_ltE, g_In (by omega), y1, g_inc, q_ltE]
      rfl
    · rcases List.mem_append.mp hx with m | m
      · exact ht x m
      · rw [List.mem_singleton.mp m]; exact ⟨h1, h2⟩
    · rw [g_In (by omega), g_Ie ⟨rfl, rfl⟩]
      simp
    · rw [g_In (by omega), g_In (by omega)]
      rw [List.getElem?_append] at hj
      split at hj
      · rename_i hlt
        rw [g_In (by omega)]
        exact y2 j x hj
      · have hz : j - T.length = 0 := by
          have := (List.getElem?_eq_some_iff.mp hj).1
          simp at this
          omega
        rw [hz] at hj
        have hx : c = x := by simpa using hj
        rw [g_Ie ⟨rfl, by omega⟩, hx]
    · rw [a3 _ _ (by omega), g_In (by omega), g_In (by omega), g_Ie ⟨rfl, rfl⟩]
      simp
    · rw [zF_s]; exact a2
    · rw [zF_s]; exact wZ_type hW h2 hheld
    · rw [a3 _ _ (by omega), g_Ie ⟨rfl, rfl⟩]
    · rw [a3 _ _ (by omega), g_In (by omega), g_Ie ⟨rfl, rfl⟩]
    · rw [a3 _ _ (by omega), g_In (by omega), g_In (by omega), g_In (by omega)]
theorem si_rules {Mx Mm : qM} {T : List Nat} (h : SI Mx Mm T) : ∃ r Mm1, f_Pg_rules Mx = some r ∧ f_Md_rules Mm = some (r, Mm1) ∧ rRs Mm1 T (zF z00 T).1 ∧ ∀ p j, ¬ (p = 0 ∧ j = 22) → (p < 13 ∨ 20 < p) → Mm1.1 p j = Mm.1 p j := by
  obtain ⟨⟨hl, ht⟩, hY, h5, hZ, hW⟩ := h
  obtain ⟨Mm1, a1, a2, a3⟩ := r_sheet hl (fun c hc => (ht c hc).2) hY
  refine ⟨nI (zF z00 T).1.length, Mm1, ?_, ?_, a2, a3⟩
  · unfold f_Pg_rules
    rw [hZ.1.2.2.1]
  · unfold f_Md_rules
    rw [a1, q_cvE, a2.1.1]
