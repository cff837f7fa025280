/-! value -/
theorem pI_of {c : Int32} (M : qM) : ∃ x, f_indexOf 9 c = some x ∧ f_Md_propertyIndex c M = some x ∧ ((x < 0 ∧ ¬ 0 ≤ x) ∨ ∃ p, p < 7 ∧ x = nI p) := by
  have hb : bytS.getD 9 [] = [99, 98, 115, 100, 109, 112, 119] := by decide +kernel
  have e : f_indexOf 9 c = some (f_ixF c [99, 98, 115, 100, 109, 112, 119] 0) := by
    unfold f_indexOf
    rw [if_pos (by decide), hb]
  rw [e]
  unfold f_Md_propertyIndex
  by_cases h0 : c = 99
  · rw [if_pos h0, h0]; exact ⟨0, rfl, rfl, Or.inr ⟨0, by omega, rfl⟩⟩
  · rw [if_neg h0]
    by_cases h1 : c = 98
    · rw [if_pos h1, h1]; exact ⟨1, rfl, rfl, Or.inr ⟨1, by omega, rfl⟩⟩
    · rw [if_neg h1]
      by_cases h2 : c = 115
      · rw [if_pos h2, h2]; exact ⟨2, rfl, rfl, Or.inr ⟨2, by omega, rfl⟩⟩
      · rw [if_neg h2]
        by_cases h3 : c = 100
        · rw [if_pos h3, h3]; exact ⟨3, rfl, rfl, Or.inr ⟨3, by omega, rfl⟩⟩
        · rw [if_neg h3]
          by_cases h4 : c = 109
          · rw [if_pos h4, h4]; exact ⟨4, rfl, rfl, Or.inr ⟨4, by omega, rfl⟩⟩
          · rw [if_neg h4]
            by_cases h5 : c = 112
            · rw [if_pos h5, h5]; exact ⟨5, rfl, rfl, Or.inr ⟨5, by omega, rfl⟩⟩
            · rw [if_neg h5]
              by_cases h6 : c = 119
              · rw [if_pos h6, h6]; exact ⟨6, rfl, rfl, Or.inr ⟨6, by omega, rfl⟩⟩
              · rw [if_neg h6]
                refine ⟨-1, ?_, rfl, Or.inl ⟨by decide, by decide⟩⟩
                show some (if 99 = c then nI 0 else if 98 = c then nI 1 else if 115 = c then nI 2 else if 100 = c then nI 3 else if 109 = c then nI 4 else if 112 = c then nI 5 else if 119 = c then nI 6 else -1) = some (-1)
                rw [if_neg (fun h => h0 h.symm), if_neg (fun h => h1 h.symm), if_neg (fun h => h2 h.symm), if_neg (fun h => h3 h.symm), if_neg (fun h => h4 h.symm), if_neg (fun h => h5 h.symm), if_neg (fun h => h6 h.symm)]
theorem b2_i {a b : Bool} (h : b2 a = b2 b) : a = b := by
  cases a <;> cases b <;> first | rfl | (exact absurd h (by decide))
theorem tj_at {Mx Mm : qM} {txt : List Nat} {r : Nat × Nat × Int32} {pre : List (Nat × Nat)} (tj : TJ Mx Mm txt r pre) (a : Int32) : (f_Tree_nodeAt a Mx = some none ∧ f_Md_none a Mm = some 1) ∨ ∃ k, a = nI k ∧ k < sN (tS txt r).1 ∧ sB (tS txt r).1 = false ∧ R Mm (tS txt r).1 pre ∧ f_Tree_nodeAt a Mx = some (some (7 + 5 * kI pre k)) ∧ f_Md_none a Mm = some 0 := by
  rcases ti_at (ti_of tj) a with h | ⟨r', pre', k, i, e, c', w', rt', hT', hO', hB', hR', ha, hk, h1, h2⟩
  · exact Or.inl h
  · obtain ⟨hl, hX, h4, c, w, hT, rt, hwT, hO, hR⟩ := tj
    have hlen : pre.length = sN (tS txt r).1 := hwT.2.2.2
    have hlen' : pre'.length = sN (tS txt r').1 := hT'.2.2.2
    have hn : sN (tS txt r').1 = sN (tS txt r).1 := by
      have := c'.1.2.symm.trans c.1.2
      rwa [g_eq (by have := w'.1.1.2; omega) (by have := w.1.1.2; omega)] at this
    have hB : sB (tS txt r).1 = false := by
      have := c'.1.1.symm.trans c.1.1
      rw [← b2_i this]
      exact hB'
    have hkl := (List.getElem?_eq_some_iff.mp hk).1
    have hkn : k < sN (tS txt r).1 := by omega
    have g1 := (hO k _ _ (pre_get (pre := pre) (k := k) (by omega))).1
    have g2 := (hO' k i e hk).1
    have hi : i = kI pre k := by
      have := Option.some.inj (g2.symm.trans g1)
      omega
    refine Or.inr ⟨k, ha, hkn, hB, ?_, by rw [h1, hi], h2⟩
    rcases hR with ⟨_, q⟩ | ⟨q, _⟩
    · exact q
    · rw [hB] at q
      cases q
/-- the class dressed -/
theorem j_dress {Mx Mm : qM} {txt T : List Nat} {r : Nat × Nat × Int32} {pre : List (Nat × Nat)} (tj : TJ Mx Mm txt r pre) (si : SI Mx Mm T) (dj : DJ Mx (tS txt r).1 pre T) : ∃ Mx1, f_Pg_dress Mx = some Mx1 ∧ Mx1.1 0 6 = 1 ∧ cV Mx1 (sN (tS txt r).1) (kI pre) (kE (tS txt r).1 pre) (vJ (tS txt r).1 pre T) ∧ (∀ p j, p ≠ 290 → ¬ (7 ≤ p ∧ p ≤ 126 ∧ p % 5 = 0) → ¬ (p = 0 ∧ j = 6) → Mx1.1 p j = Mx.1 p j) ∧ Mx1.2 = Mx.2 := by
  obtain ⟨hl, hX, h4, c, w, hT, rt, hwT, hO, hR⟩ := tj
  unfold f_Pg_dress
  rcases dj with h | ⟨h, h'⟩
  · rw [if_pos h]
    obtain ⟨⟨s1, s2⟩, s3, s4, s5, s6⟩ := si
    have hE := env_of w hwT
    obtain ⟨M1, a1, a2, a3, a4⟩ := t_dress hE.1 (rs := (zF z00 T).1) (M := Mx) ⟨s5.1.2.2.1, s5.1.2.2.2, fun i r hr => ⟨s5.2.2.1 i r hr, wRs_of s1 (fun c hc => (s2 c hc).2) r (List.mem_of_getElem? hr)⟩⟩ (hE.2.1 Mx c rt hO)
    refine ⟨qsI M1 0 6 1, by rw [a1, q_cvE, q_ltE], g_Ie ⟨rfl, rfl⟩, fun k hk hm p hp => ?_, fun p j q1 q2 q3 => by rw [g_In q3, a3 p j q1 q2], by show M1.2 = _; exact a4⟩
    rw [g_In (by omega)]
    exact a2 k hk hm p hp
  · rw [if_neg (by rw [h]; decide)]
    exact ⟨Mx, rfl, h, h', fun _ _ _ _ _ => rfl, rfl⟩
/-- the reference styled -/
theorem j_style {Mx Mm : qM} {txt T : List Nat} {r : Nat × Nat × Int32} {pre : List (Nat × Nat)} (tj : TJ Mx Mm txt r pre) (si : SI Mx Mm T) (hB : sB (tS txt r).1 = false) : ∃ Mm1, f_Md_style Mm = some Mm1 ∧ rV Mm1 (sN (tS txt r).1) (vJ (tS txt r).1 pre T) ∧ eS Mm1 (sN (tS txt r).1) (kI pre) (kE (tS txt r).1 pre) ∧ ∀ p j, ¬ (p = 0 ∧ (j = 22 ∨ j = 32)) → (p < 13 ∨ 25 < p) → Mm1.1 p j = Mm.1 p j := by
  obtain ⟨hl, hX, h4, c, w, hT, rt, hwT, hO, hR⟩ := tj
  have hR' : R Mm (tS txt r).1 pre := by
    rcases hR with ⟨_, q⟩ | ⟨q, _⟩
    · exact q
    · rw [hB] at q
      cases q
  obtain ⟨⟨s1, s2⟩, s3, s4, s5, s6⟩ := si
  have hE := env_of w hwT
  exact r_style hE.1 s1 (fun c hc => (s2 c hc).2) (hE.2.2 Mm hR') s3
theorem cLd_k {M M' : qM} {n nc : Nat} {I : Nat → Nat} {Z : lT} {Ta : Nat → Int32} (h : cLd M n nc I Z Ta) (hI : ∀ i, i < n → I i < 24) (hnc : nc ≤ 160) (k : ∀ p j, (p = 365 ∨ (7 ≤ p ∧ p ≤ 126 ∧ p % 5 = 1) ∨ (127 ≤ p ∧ p < 287)) → M'.1 p j = M.1 p j) : cLd M' n nc I Z Ta := by
  obtain ⟨h1, h2, h3⟩ := h
  refine ⟨by rw [k _ _ (Or.inl rfl)]; exact h1, fun i hi => ⟨fun q => cBf_k ((h2 i hi).1 q) (fun x _ => k _ _ (by have := hI i hi; omega)), fun q => ?_⟩, fun q hq => cLf_k (h3 q hq) (fun x _ _ => k _ _ (by omega))⟩
  rw [k _ _ (by have := hI i hi; omega)]
  exact (h2 i hi).2 q
theorem lj_x {Mx Mx' Mm : qM} {s : aT} {pre : List (Nat × Nat)} {T : List Nat} (w : Wf s) (hT : wT s pre) (h : LJ Mx Mm s pre T) (hv : cV Mx' (sN s) (kI pre) (kE s pre) (vJ s pre T)) (k : ∀ p j, p ≠ 290 → ¬ (7 ≤ p ∧ p ≤ 126 ∧ p % 5 = 0) → ¬ (p = 0 ∧ j = 6) → Mx'.1 p j = Mx.1 p j) : LJ Mx' Mm s pre T := by
  have hlen : pre.length = sN s := hT.2.2.2
  rcases h with ⟨h1, h2⟩ | ⟨h1, h2, a1, a2, a3, a4, Z, Ta, wn, a5, a6, a7, a8, a9, a10, a11⟩
  · exact Or.inl ⟨by rw [k _ _ (by omega) (by omega) (by omega)]; exact h1, h2⟩
  · exact Or.inr ⟨by rw [k _ _ (by omega) (by omega) (by omega)]; exact h1, h2, a1, hv, a3, a4, Z, Ta, wn, a5, a6, a7, cLd_k a8 (fun i hi => (a6.1.2.1 i hi).1) a6.1.1.2.2 (fun p j q => k p j (by omega) (by omega) (by omega)), a9, by rw [k _ _ (by omega) (by omega) (by omega)]; exact a10, a11⟩
theorem op_value {Mx Mm : qM} (h : Inv Mx Mm) (a c : Int32) : ∃ r Mx1 Mm1, f_Pg_value a c Mx = some (r, Mx1) ∧ f_Md_value a c Mm = some (r, Mm1) ∧ Inv Mx1 Mm1 := by
  have h' := h
  obtain ⟨txt, T, r, pre, tj, si, dj, lj⟩ := h
  obtain ⟨x, p1, p2, p3⟩ := pI_of (c := c) Mm
  unfold f_Pg_value f_Md_value
  rw [p1, p2, q_bpE]
  rcases tj_at tj a with ⟨e1, e2⟩ | ⟨k, ha, hk, hB, hR, e1, e2⟩
  · refine ⟨-1, Mx, Mm, ?_, ?_, h'⟩
    · rw [e1, q_bpE, q_bpE, q_onN]
    · rw [e2, q_bpE, if_neg (by decide)]
  · have tj' := tj
    obtain ⟨hl, hX, h4, c0, w, hT, rt, hwT, hO, hR0⟩ := tj
    have hlen : pre.length = sN (tS txt r).1 := hwT.2.2.2
    have h24 := w.1.1.2
    obtain ⟨⟨w1, w2⟩, w3, w4, w5, w6⟩ := (env_of w hwT).1
    have hid : kI pre k < sN (tS txt r).1 := (wT_id w hwT _ (List.mem_of_getElem? (pre_get (pre := pre) (k := k) (by omega)))).1
    have nmx := (c0.2.1 _ hid).1
    have nlt : sNm (tS txt r).1 (kI pre k) < 123 := (w4 k hk).2.1
    have er := (env_of w hwT).2.2 Mm hR
    obtain ⟨r3, r4, _, _⟩ := er.2 k hk
    have r4' : Mm.1 4 (kI pre k) = nI (sNm (tS txt r).1 (kI pre k)) := r4
    rw [e1, e2, q_bpE, q_bpE, q_bpE, q_onS, t_el nmx (by omega), q_bpE, i_b2, if_pos rfl, ha, g_ix (by omega) (by omega), g_cl (by omega), r3, g_ix (by omega) (by omega), g_cl (by omega), r4', show (2 : Int32) = nI 2 from rfl, i_le (by omega) (by omega)]
    by_cases hnm : 2 ≤ sNm (tS txt r).1 (kI pre k)
    · rw [if_neg (by simpa using hnm), if_pos hnm]
      rcases p3 with ⟨x1, x2⟩ | ⟨p, x1, x2⟩
      · rw [if_neg x2, if_pos x1]
        exact ⟨-1, Mx, Mm, rfl, rfl, h'⟩
      · rw [x2, i_p0 (by omega), i_n0 (by omega)]
        obtain ⟨Mx1, d1, d2, d3, d4, d5⟩ := j_dress tj' si dj
        obtain ⟨Mm1, s1, s2, s3, s4⟩ := j_style tj' si hB
        have v1 : Mx1.1 (7 + 5 * kI pre k + 3) p = vJ (tS txt r).1 pre T k p := d3 k hk (by show sNm (tS txt r).1 (kI pre k) ≠ 1; omega) p x1
        refine ⟨vJ (tS txt r).1 pre T k p, Mx1, Mm1, ?_, ?_, txt, T, r, pre, tj_k tj' ⟨fun p j q => d4 p j (by omega) (by omega) (by omega), fun p j _ => by rw [d5]⟩ (fun p j q => s4 p j (by omega) (by omega)), si_k si (d4 _ _ (by omega) (by omega) (by omega)) (fun p j q1 q2 q3 => d4 p j (by omega) (by omega) (by omega)) (fun p j q => s4 p j (by omega) (by omega)), Or.inr ⟨d2, d3⟩, lj_m (lj_x w hwT lj d3 d4) (fun p j q => s4 p j (by omega) (by omega)) (fun _ => s2) (fun _ k hk => (s3.2 k hk).2.2.2)⟩
        · rw [d1, q_cvE, g_ix (by omega) (by omega), g_cl (by omega), v1]
        · rw [s1, q_cvE, g_40, g_ix (by omega) (by omega), g_cl (by omega), s2 k hk p x1]
    · rw [if_pos (by simpa using hnm), if_neg hnm]
      refine ⟨-1, Mx, Mm, rfl, ?_, h'⟩
      by_cases q : x < 0
      · rw [if_pos q]
      · rw [if_neg q]
