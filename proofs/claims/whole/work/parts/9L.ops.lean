/-! pixel, and all sixteen calls -/
theorem op_pixel {Mx Mm : qM} (h : Inv Mx Mm) (a b : Int32) : ∃ r, f_Pg_pixel a b Mx = some r ∧ f_Md_pixel a b Mm = some r := by
  obtain ⟨txt, T, r, pre, tj, si, dj, lj⟩ := h
  unfold f_Pg_pixel f_Md_pixel
  rcases lj with ⟨h1, h2⟩ | ⟨h1, h2, a1, a2, a3, a4, Z, Ta, wn, a5, a6, a7, a8, a9, a10, a11⟩
  · rw [if_pos h1, if_pos h2]
    exact ⟨_, rfl, rfl⟩
  · rw [if_neg (show ¬ Mx.1 0 7 = 0 by rw [h1]; decide), if_neg (show ¬ Mm.1 0 37 = 0 by rw [h2]; decide), a10, a11]
    by_cases q1 : a < 0
    · rw [if_pos q1, if_pos q1]
      exact ⟨_, rfl, rfl⟩
    · rw [if_neg q1, if_neg q1]
      by_cases q2 : nI wn ≤ a
      · rw [if_pos q2, if_pos q2]
        exact ⟨_, rfl, rfl⟩
      · rw [if_neg q2, if_neg q2]
        by_cases q3 : b < 0
        · rw [if_pos q3, if_pos q3]
          exact ⟨_, rfl, rfl⟩
        · rw [if_neg q3, if_neg q3]
          have e63 : (b < 64) ↔ (b ≤ 63) := by
            rw [Int32.lt_iff_toInt_lt, Int32.le_iff_toInt_le]
            have e1 : (64 : Int32).toInt = 64 := by decide
            have e2 : (63 : Int32).toInt = 63 := by decide
            omega
          by_cases q4 : b < 64
          · rw [if_pos q4, if_pos (e63.mp q4)]
            obtain ⟨hl, hX, h4, c0, w, hT, rt, hwT, hO, hR0⟩ := tj
            have hR : R Mm (tS txt r).1 pre := by
              rcases hR0 with ⟨_, q⟩ | ⟨q, _⟩
              · exact q
              · rw [a1] at q
                cases q
            have hlen : pre.length = sN (tS txt r).1 := hwT.2.2.2
            have hn : sN (tS txt r).1 ≤ 24 := a6.1.1.2.1
            have hn1 : 1 ≤ sN (tS txt r).1 := a6.1.1.1
            have hE := env_of w hwT
            have er := hE.2.2 Mm hR
            have ec := hE.2.1 Mx c0 rt hO
            have es : eS Mm (sN (tS txt r).1) (kI pre) (kE (tS txt r).1 pre) := ⟨er.1, fun k hk => ⟨(er.2 k hk).1, (er.2 k hk).2.1, (er.2 k hk).2.2.1, a4 k hk⟩⟩
            have hZ := rZ_st a7 (st_rZ (rs := (zF z00 T).1) w hwT hR.2.2.1 hR.2.2.2.2.2 es a3)
            have hS := cZs_st a7 (st_cZ (rs := (zF z00 T).1) w hwT c0 a2)
            have h3 : ∀ k, k < sN (tS txt r).1 → Mx.2 3 k = some (7 + 5 * kI pre k) := fun k hk => (ec.2 k hk).1
            have hp4 : ∀ k, 0 < k → k < sN (tS txt r).1 → Mx.2 (7 + 5 * kI pre k) 4 = some (7 + 5 * kI pre (kP pre k)) ∧ zNm Z (kP pre k) ≠ 1 := fun k h0 hk => by
              refine ⟨?_, ?_⟩
              · have := (ec.2 k hk).2.2.2
                rw [if_neg (by omega)] at this
                exact this
              · rw [a7.1.1]
                exact (hE.1.2.2.2.1 k h0 hk).2.2
            have hv : ∀ k, k < sN (tS txt r).1 → zNm Z k ≠ 1 → ∀ p, p < 7 → Mx.1 (7 + 5 * kI pre k + 3) p = zV Z k p := fun k hk hm p hp => (hS.2 k hk).2.1 hm p hp
            have hvr : ∀ k, k < sN (tS txt r).1 → ∀ p, p < 7 → Mm.1 25 (40 * p + k) = zV Z k p := fun k hk p hp => (hZ.2.1 k hk).2.2.2.1 p hp
            have v01 : zV Z 0 1 = 0 := by
              rw [a7.1.2.1, (zS_e (tS txt r).1 pre (zF z00 T).1).2.1]
              exact vF_01 hE.1.2.1
            have erg : rgF 0 (sN (tS txt r).1) = 0 :: rgF 1 (sN (tS txt r).1 - 1) := by
              obtain ⟨m, hm⟩ : ∃ m, sN (tS txt r).1 = m + 1 := ⟨sN (tS txt r).1 - 1, by omega⟩
              rw [hm]
              rfl
            have hl0 : zLt Z 0 = [] := by
              rw [a6.1.2.2.2.2.2.1 0 (by omega)]
              refine List.filter_eq_nil_iff.mpr fun q hq h => ?_
              have hq' := rgF_mem.mp hq
              have h5 : zNq Z q = 0 := by simpa using h
              have := (a6.1.2.2.2.1 q (by omega)).2.1
              omega
            have c6 := t_p6 (x := a) (y := b) a6 hS.1.1 h3 hv a8 (fun (x15 : Int32) => f_Layout_paintedAt_76 Mx a b 1000 (fun (x44 : Int32) => some x44) x15 0) (sN (tS txt r).1) 0 1000 0 (by omega) (by omega)
            have c76 := t_p76 (x := a) (y := b) a6 hS h3 hp4 a8 (fun (x44 : Int32) => some x44) (sN (tS txt r).1) 0 1000 ((rgF 0 (sN (tS txt r).1)).foldl (pB Z Ta a b) 0) (by omega) (by omega)
            have d36 := r_p36 (x := a) (y := b) hn hZ.1.1 hvr a9 (fun (x31 : Int32) => f_Md_pixel_174 Mm a b 1000 (fun (x56 : Int32) => some x56) x31 1) (sN (tS txt r).1 - 1) 1 1000 0 (by omega) (by omega)
            have d174 := r_p174 (x := a) (y := b) a6 hZ a9 (fun (x56 : Int32) => some x56) (sN (tS txt r).1 - 1) 1 1000 ((rgF 1 (sN (tS txt r).1 - 1)).foldl (pB Z Ta a b) 0) (by omega) (by omega) (by omega)
            have eB : (rgF 0 (sN (tS txt r).1)).foldl (pB Z Ta a b) 0 = (rgF 1 (sN (tS txt r).1 - 1)).foldl (pB Z Ta a b) 0 := by
              rw [erg]
              show (rgF 1 (sN (tS txt r).1 - 1)).foldl (pB Z Ta a b) (pB Z Ta a b 0 0) = _
              rw [show pB Z Ta a b 0 0 = 0 from if_neg (fun h => h.2.2 v01)]
            have eN : ∀ c, (rgF 0 (sN (tS txt r).1)).foldl (pN (kP pre) Z Ta a b) c = (rgF 1 (sN (tS txt r).1 - 1)).foldl (pN (kP pre) Z Ta a b) c := fun c => by
              rw [erg]
              show (rgF 1 (sN (tS txt r).1 - 1)).foldl (pN (kP pre) Z Ta a b) (pN (kP pre) Z Ta a b c 0) = _
              have : pN (kP pre) Z Ta a b c 0 = c := by
                unfold pN
                rw [hl0]
                rfl
              rw [this]
            refine ⟨(rgF 1 (sN (tS txt r).1 - 1)).foldl (pN (kP pre) Z Ta a b) ((rgF 1 (sN (tS txt r).1 - 1)).foldl (pB Z Ta a b) 0), ?_, ?_⟩
            · have e : f_Layout_paintedAt a b Mx = some ((rgF 1 (sN (tS txt r).1 - 1)).foldl (pN (kP pre) Z Ta a b) ((rgF 1 (sN (tS txt r).1 - 1)).foldl (pB Z Ta a b) 0)) := by
                unfold f_Layout_paintedAt
                refine Eq.trans c6 ?_
                refine Eq.trans c76 ?_
                rw [eN, eB]
              rw [e, q_bpE]
            · refine Eq.trans d36 ?_
              exact d174
          · rw [if_neg q4, if_neg (fun h => q4 (e63.mpr h))]
            exact ⟨_, rfl, rfl⟩
theorem all_op {Mx Mm : qM} (h : Inv Mx Mm) (a1 a2 : Int32) : ∀ j, j < 16 → qOp j a1 a2 Mx Mm Inv := by
  intro j hj
  have h' := h
  obtain ⟨txt, T, r, pre, tj, si, dj, lj⟩ := h
  have ti := ti_of tj
  rcases (show j = 0 ∨ j = 1 ∨ j = 2 ∨ j = 3 ∨ j = 4 ∨ j = 5 ∨ j = 6 ∨ j = 7 ∨ j = 8 ∨ j = 9 ∨ j = 10 ∨ j = 11 ∨ j = 12 ∨ j = 13 ∨ j = 14 ∨ j = 15 by omega) with rfl | rfl | rfl | rfl | rfl | rfl | rfl | rfl | rfl | rfl | rfl | rfl | rfl | rfl | rfl | rfl
  · exact op_html h' _
  · exact op_css h' _
  · exact op_clear Mx Mm
  · obtain ⟨x, e1, e2⟩ := ti_nodes ti
    exact ⟨x, e1, e2, h'⟩
  · obtain ⟨x, e1, e2⟩ := ti_name ti a1
    exact ⟨x, e1, e2, h'⟩
  · obtain ⟨x, e1, e2⟩ := ti_parent ti a1
    exact ⟨x, e1, e2, h'⟩
  · obtain ⟨x, e1, e2⟩ := ti_classes ti a1
    exact ⟨x, e1, e2, h'⟩
  · obtain ⟨x, e1, e2⟩ := ti_letter ti a1 a2
    exact ⟨x, e1, e2, h'⟩
  · obtain ⟨x, e1, e2⟩ := ti_open ti
    exact ⟨x, e1, e2, h'⟩
  · exact op_rules h'
  · exact op_value h' a1 _
  · exact op_layout h' a1
  · obtain ⟨x, e1, e2⟩ := op_box h' a1 a2
    exact ⟨x, e1, e2, h'⟩
  · obtain ⟨x, e1, e2⟩ := op_place h' a1 a2
    exact ⟨x, e1, e2, h'⟩
  · obtain ⟨x, e1, e2⟩ := op_lines h'
    exact ⟨x, e1, e2, h'⟩
  · obtain ⟨x, e1, e2⟩ := op_pixel h' a1 a2
    exact ⟨x, e1, e2, h'⟩
