/-! layout, box, place, lines -/
theorem cZs_st {M : qM} {n nc : Nat} {I pj : Nat → Nat} {Z Z' : lT} (s : stE Z Z') (h : cZs M n nc I pj Z) : cZs M n nc I pj Z' := by
  obtain ⟨⟨a1, a2, a3, a4, a5⟩, a6, a7⟩ := s
  unfold cZs cLs at h ⊢
  rw [a1, a2, a4, a5, a6]
  exact h
theorem wT3_st {n nc : Nat} {pj dp : Nat → Nat} {Z Z' : lT} (s : stE Z Z') (h : wT3 n nc pj dp Z) : wT3 n nc pj dp Z' := by
  obtain ⟨⟨a1, a2, a3, a4, a5⟩, a6, a7⟩ := s
  unfold wT3 at h ⊢
  rw [a1, a6, a7]
  exact h
theorem op_layout {Mx Mm : qM} (h : Inv Mx Mm) (a : Int32) : ∃ r Mx1 Mm1, f_Pg_layout a Mx = some (r, Mx1) ∧ f_Md_layout a Mm = some (r, Mm1) ∧ Inv Mx1 Mm1 := by
  have h' := h
  obtain ⟨txt, T, r, pre, tj, si, dj, lj⟩ := h
  by_cases h1 : a < 1
  · refine ⟨-1, Mx, Mm, ?_, ?_, h'⟩
    · unfold f_Pg_layout
      rw [if_pos h1]
    · unfold f_Md_layout
      rw [if_pos h1]
  · by_cases h2 : 64 < a
    · refine ⟨-1, Mx, Mm, ?_, ?_, h'⟩
      · unfold f_Pg_layout
        rw [if_neg h1, if_pos h2]
      · unfold f_Md_layout
        rw [if_neg h1, if_pos h2]
    · obtain ⟨wn, hw1, hw2, rfl⟩ : ∃ wn, 1 ≤ wn ∧ wn ≤ 64 ∧ a = nI wn := by
        rw [Int32.lt_iff_toInt_lt] at h1 h2
        have e0 : (1 : Int32).toInt = 1 := by decide
        have e1 : (64 : Int32).toInt = 64 := by decide
        obtain ⟨j, hj, rfl⟩ := nI_of2 (n := 64) (M := 64) (x := a) (by decide) (by
          rw [Int32.lt_iff_toInt_lt]
          have e2 : (0 : Int32).toInt = 0 := by decide
          omega) (by
          rw [← Int32.not_lt, Int32.lt_iff_toInt_lt]
          omega)
        rw [nI_toInt (by omega)] at h1
        exact ⟨j, by omega, by omega, rfl⟩
      have tj' := tj
      obtain ⟨hl, hX, h4, c0, w, hT, rt, hwT, hO, hR0⟩ := tj
      rcases hR0 with ⟨hB, hR⟩ | ⟨hB, hR⟩
      · have hlen : pre.length = sN (tS txt r).1 := hwT.2.2.2
        have h24 := w.1.1.2
        have hK : wK (tS txt r).1 := K_tS (fun c hc => (hl.2 c hc).2) r
        obtain ⟨Mx1, d1, d2, d3, d4, d5⟩ := j_dress tj' si dj
        obtain ⟨Mm1, s1, s2, s3, s4⟩ := j_style tj' si hB
        have hkr : kR Mm Mm1 := fun p j q => s4 p j (by omega) (by omega)
        have hR1 := R_k hR hkr
        have hkt : kT Mx Mx1 := ⟨fun p j q => d4 p j (by omega) (by omega) (by omega), fun p j _ => by rw [d5]⟩
        have c1 := C_k c0 w hkt
        have hZ := st_rZ (rs := (zF z00 T).1) w hwT hR1.2.2.1 hR1.2.2.2.2.2 s3 s2
        have hW := st_W (rs := (zF z00 T).1) w hwT
        have hP := st_P (rs := (zF z00 T).1) w hwT hK
        obtain ⟨Mm2, Z, Ta, l1, l2, l3, l4, l5, l6, l7⟩ := r_lyo hW hP hw1 hw2 hR.1.1 s1 hZ
        have hV : EV (sN (tS txt r).1) (sNc (tS txt r).1) (kI pre) (kP pre) (kD pre) Z Ta (nI wn) := ⟨wZ2_st l2 hW, wP2_st l2 hP, l3, wT3_st l2 (st_T w hwT hK)⟩
        have hcz := cZs_st l2 (st_cZ (rs := (zF z00 T).1) w hwT c1 d3)
        obtain ⟨⟨z1, z2, z3, z4, z5⟩, z6, z7⟩ := l2
        obtain ⟨y1, y2, y3, y4, y5, y6, y7⟩ := zS_e (tS txt r).1 pre (zF z00 T).1
        have hE0 := (env_of w hwT).1.2.1
        obtain ⟨Mx2, m1, m2, m3, m4, m5⟩ := t_layW hV (kd_0 hwT).1 (by rw [z6, y6]; exact (pl_all w hwT).2.2.2.2.2) (by rw [z2, y2]; exact (vF_0 hE0).2.1) (by rw [z2, y2]; exact (vF_0 hE0).2.2.2) (nI_pos' (by omega)) hcz (fun k hk => by rw [d5]; exact (hO k _ _ (pre_get (pre := pre) (k := k) (by omega))).1)
        have hI24 : ∀ i, i < sN (tS txt r).1 → kI pre i < 24 := fun i hi => (hV.1.2.1 i hi).1
        have hn1 : 1 ≤ sN (tS txt r).1 := w.1.1.1
        have hnc : sNc (tS txt r).1 ≤ 160 := hV.1.1.2.2
        have k7 : ∀ p j, ¬ (p = 0 ∧ j = 7) → (qsI Mx2 0 7 1).1 p j = Mx2.1 p j := fun p j q => g_In q
        have h11 : Mx2.1 11 4 = zH Z 0 := by
          have := ((m2.2.1 0 (by omega)).1 (ib_0 hV.1 hV.2.1 (hV.2.2.1.1 0 (by omega)))).2.2.2.2
          rw [(kd_0 hwT).1] at this
          exact this
        have kx : ∀ p j, ¬ (p = 0 ∧ (j = 6 ∨ j = 7)) → ¬ (7 ≤ p ∧ p ≤ 126 ∧ (p % 5 = 0 ∨ p % 5 = 1)) → ¬ (127 ≤ p ∧ p < 287 ∧ 2 ≤ j) → ¬ (p = 290 ∨ 364 ≤ p) → (qsI Mx2 0 7 1).1 p j = Mx.1 p j := fun p j q1 q2 q3 q4 => by
          rw [k7 _ _ (by omega), m4 p j (by omega) (by omega) (fun ⟨i, hi, e⟩ => by have := hI24 i hi; omega) (by omega), d4 p j (by omega) (by omega) (by omega)]
        refine ⟨zH Z 0, qsI Mx2 0 7 1, Mm2, ?_, l1, txt, T, r, pre, tj_k tj' ⟨fun p j q => kx p j (by omega) (by omega) (by omega) (by omega), fun p j q => by show Mx2.2 p j = _; rw [m5 p j (by omega), d5]⟩ (fun p j q => by rw [l7 p j (by omega) (by omega), s4 p j (by omega) (by omega)]), si_k si (kx _ _ (by omega) (by omega) (by omega) (by omega)) (fun p j q1 q2 q3 => kx p j (by omega) (by omega) (by omega) (by omega)) (fun p j q => by rw [l7 p j (by omega) (by omega), s4 p j (by omega) (by omega)]), Or.inr ⟨?_, fun k hk hm p hp => ?_⟩, Or.inr ⟨g_Ie ⟨rfl, rfl⟩, l5, hB, fun k hk hm p hp => ?_, fun k hk p hp => ?_, fun k hk => ?_, Z, Ta, wn, ⟨hw1, hw2⟩, hV, ⟨⟨z1, z2, z3, z4, z5⟩, z6, z7⟩, cLd_k m2 hI24 hnc (fun p j q => k7 p j (by omega)), l4, by rw [k7 _ _ (by omega)]; exact m3, l6⟩⟩
        · unfold f_Pg_layout
          rw [if_neg h1, if_neg h2, if_pos (by rw [c0.1.1, hB]; rfl), d1, q_cvE, m1, q_cvE, q_ltE, k7 _ _ (by omega), h11]
        · rw [k7 _ _ (by omega), m4 _ _ (by omega) (by omega) (fun ⟨i, hi, e⟩ => (by omega)) (by omega)]
          exact d2
        · have := hI24 k hk
          rw [k7 _ _ (by omega), m4 _ _ (by omega) (by omega) (fun ⟨i, hi, e⟩ => by have := hI24 i hi; omega) (by omega)]
          exact d3 k hk hm p hp
        · have := hI24 k hk
          rw [k7 _ _ (by omega), m4 _ _ (by omega) (by omega) (fun ⟨i, hi, e⟩ => by have := hI24 i hi; omega) (by omega)]
          exact d3 k hk hm p hp
        · rw [l7 _ _ (by omega) (by omega)]
          exact s2 k hk p hp
        · rw [l7 _ _ (by omega) (by omega)]
          exact (s3.2 k hk).2.2.2
      · refine ⟨-1, Mx, Mm, ?_, ?_, h'⟩
        · unfold f_Pg_layout
          rw [if_neg h1, if_neg h2, if_neg (by rw [c0.1.1, hB]; decide)]
        · unfold f_Md_layout
          rw [if_neg h1, if_neg h2, if_neg (by rw [hR]; decide)]
theorem op_lines {Mx Mm : qM} (h : Inv Mx Mm) : ∃ r, f_Pg_lines Mx = some r ∧ f_Md_lines Mm = some r := by
  obtain ⟨txt, T, r, pre, tj, si, dj, lj⟩ := h
  unfold f_Pg_lines f_Md_lines
  rcases lj with ⟨h1, h2⟩ | ⟨h1, h2, a1, a2, a3, a4, Z, Ta, wn, a5, a6, a7, a8, a9, a10, a11⟩
  · rw [if_pos h1, if_pos h2]
    exact ⟨_, rfl, rfl⟩
  · rw [if_neg (by rw [h1]; decide), if_neg (by rw [h2]; decide), a8.1, a9.1]
    exact ⟨_, rfl, rfl⟩
theorem op_box {Mx Mm : qM} (h : Inv Mx Mm) (a b : Int32) : ∃ r, f_Pg_box a b Mx = some r ∧ f_Md_box a b Mm = some r := by
  obtain ⟨txt, T, r, pre, tj, si, dj, lj⟩ := h
  unfold f_Pg_box f_Md_box
  rcases lj with ⟨h1, h2⟩ | ⟨h1, h2, a1, a2, a3, a4, Z, Ta, wn, a5, a6, a7, a8, a9, a10, a11⟩
  · rw [if_pos h2]
    refine ⟨-1, ?_, rfl⟩
    rcases tj_at tj a with ⟨e1, e2⟩ | ⟨k, ha, hk, hB, hR, e1, e2⟩
    · rw [e1, q_bpE, if_pos h1]
    · rw [e1, q_bpE, if_pos h1]
  · rw [if_neg (by rw [h2]; decide)]
    rcases tj_at tj a with ⟨e1, e2⟩ | ⟨k, ha, hk, hB, hR, e1, e2⟩
    · rw [e1, e2, q_bpE, q_bpE, if_neg (by rw [h1]; decide), q_onN, if_neg (by decide)]
      exact ⟨-1, rfl, rfl⟩
    · have hn : sN (tS txt r).1 ≤ 24 := a6.1.1.2.1
      obtain ⟨g1, g2⟩ := a9.2.1 k hk
      rw [e1, e2, q_bpE, q_bpE, if_neg (by rw [h1]; decide), q_onS, if_pos rfl, ha, g_ix (by omega) (by omega), g_cl (by omega), g1, i_b2]
      by_cases hi : zIb Z k = true
      · obtain ⟨b0, b1, b2', b3, b4⟩ := (a8.2.1 k hk).1 hi
        obtain ⟨g3, g4, g5, g6⟩ := g2 hi
        have hv : Mm.1 25 (40 * 5 + k) = zV Z k 5 := by
          rw [a3 k hk 5 (by omega), a7.1.2.1, (zS_e (tS txt r).1 pre (zF z00 T).1).2.1]
          rfl
        have hbd : f_Md_border (nI k) 5 Mm = some (zV Z k 5) := r_bor (p := 5) (by omega) (by omega) hv (fun e => by rw [e]; exact a6.2.1.2.2.1.1)
        rw [if_neg (show ¬ Mx.1 (7 + 5 * kI pre k + 4) 0 = 0 by rw [b0]; decide), if_neg (show ¬ zIb Z k = false by rw [hi]; simp), b1, b2', b3, b4, g_ix (by omega) (by omega), g_ix (by omega) (by omega), g_ix (by omega) (by omega), g_ix (by omega) (by omega), hbd, q_bpE, g3, g4, g5, g6]
        by_cases q0 : b = 0
        · rw [if_pos q0, if_neg (show ¬ b < 0 by rw [q0]; decide), if_pos (show b ≤ 3 by rw [q0]; decide), if_pos q0]
          exact ⟨_, rfl, rfl⟩
        · rw [if_neg q0, if_neg q0]
          by_cases q1 : b = 1
          · rw [if_pos q1, if_neg (show ¬ b < 0 by rw [q1]; decide), if_pos (show b ≤ 3 by rw [q1]; decide), if_pos q1]
            exact ⟨_, rfl, rfl⟩
          · rw [if_neg q1, if_neg q1]
            by_cases q2 : b = 2
            · rw [if_pos q2, if_neg (show ¬ b < 0 by rw [q2]; decide), if_pos (show b ≤ 3 by rw [q2]; decide), if_pos q2]
              exact ⟨_, rfl, rfl⟩
            · rw [if_neg q2, if_neg q2]
              by_cases q3 : b = 3
              · rw [if_pos q3, if_neg (show ¬ b < 0 by rw [q3]; decide), if_pos (show b ≤ 3 by rw [q3]; decide)]
                exact ⟨_, rfl, rfl⟩
              · rw [if_neg q3]
                by_cases n0 : b < 0
                · rw [if_pos n0]
                  exact ⟨-1, rfl, rfl⟩
                · rw [if_neg n0]
                  by_cases n3 : b ≤ 3
                  · exfalso
                    obtain ⟨j, hj, rfl⟩ := nI_of2 (n := 3) (M := 3) (x := b) (by decide) n0 n3
                    rcases (show j = 0 ∨ j = 1 ∨ j = 2 ∨ j = 3 by omega) with e | e | e | e
                    · rw [e] at q0; exact q0 rfl
                    · rw [e] at q1; exact q1 rfl
                    · rw [e] at q2; exact q2 rfl
                    · rw [e] at q3; exact q3 rfl
                  · rw [if_neg n3]
                    exact ⟨-1, rfl, rfl⟩
      · have hi' : zIb Z k = false := Bool.eq_false_iff.mpr hi
        rw [(a8.2.1 k hk).2 hi', if_pos (show (0 : Int32) = 0 from rfl), if_pos hi']
        exact ⟨-1, rfl, rfl⟩
theorem tj_find {Mx Mm : qM} {txt : List Nat} {r : Nat × Nat × Int32} {pre : List (Nat × Nat)} (tj : TJ Mx Mm txt r pre) (a b : Int32) : (f_Tree_letterAt a b Mx = some none ∧ f_Md_find a b Mm = some (-1)) ∨ ∃ q, q < sNc (tS txt r).1 ∧ f_Tree_letterAt a b Mx = some (some (127 + q)) ∧ f_Md_find a b Mm = some (nI q) := by
  rcases ti_find (ti_of tj) a b with h | ⟨r', pre', q, c', w', hT', hB', hR', hq, h1, h2⟩
  · exact Or.inl h
  · obtain ⟨hl, hX, h4, c, w, hT, rt, hwT, hO, hR⟩ := tj
    have hn : sNc (tS txt r').1 = sNc (tS txt r).1 := by
      have := c'.2.2.2.2.2.1.symm.trans c.2.2.2.2.2.1
      rwa [g_eq (by have := w'.2.2.2.2.2.2.2.1.2; omega) (by have := w.2.2.2.2.2.2.2.1.2; omega)] at this
    exact Or.inr ⟨q, by omega, h1, h2⟩
theorem op_place {Mx Mm : qM} (h : Inv Mx Mm) (a b : Int32) : ∃ r, f_Pg_place a b Mx = some r ∧ f_Md_place a b Mm = some r := by
  obtain ⟨txt, T, r, pre, tj, si, dj, lj⟩ := h
  unfold f_Pg_place f_Md_place
  rcases lj with ⟨h1, h2⟩ | ⟨h1, h2, a1, a2, a3, a4, Z, Ta, wn, a5, a6, a7, a8, a9, a10, a11⟩
  · refine ⟨-1, ?_, ?_⟩
    · rcases tj_find tj a b with ⟨e1, e2⟩ | ⟨q, hq, e1, e2⟩
      · rw [e1, q_bpE, if_pos h1]
      · rw [e1, q_bpE, if_pos h1]
    · rcases tj_find tj a b with ⟨e1, e2⟩ | ⟨q, hq, e1, e2⟩
      · rw [e2, q_bpE, if_pos h2]
      · rw [e2, q_bpE, if_pos h2]
  · rcases tj_find tj a b with ⟨e1, e2⟩ | ⟨q, hq, e1, e2⟩
    · rw [e1, e2, q_bpE, q_bpE, if_neg (by rw [h1]; decide), if_neg (by rw [h2]; decide), q_onN, if_pos (by decide)]
      exact ⟨-1, rfl, rfl⟩
    · have hnc : sNc (tS txt r).1 ≤ 160 := a6.1.1.2.2
      obtain ⟨l1, l2⟩ := a8.2.2 q hq
      obtain ⟨g1, g2⟩ := a9.2.2 q hq
      rw [e1, e2, q_bpE, q_bpE, if_neg (by rw [h1]; decide), if_neg (by rw [h2]; decide), q_onS, i_n0 (by omega), g_ix (by omega) (by omega), g_ix (by omega) (by omega), g_ix (by omega) (by omega), g_cl (by omega), l1, g1, i_b2, i_b2]
      cases hx : zPx Z q with
      | none =>
        rw [if_pos (show (none : Option Int32).isSome = false from rfl), if_pos (show (none : Option Int32).isSome = false from rfl)]
        exact ⟨-1, rfl, rfl⟩
      | some x =>
        obtain ⟨l3, l4, l5⟩ := l2 x hx
        obtain ⟨g3, g4⟩ := g2 x hx
        rw [if_neg (by simp), if_neg (by simp), l3, l5, g3, g4]
        refine ⟨_, rfl, ?_⟩
        rw [Int32.add_comm (zPy Z q)]
        rfl
