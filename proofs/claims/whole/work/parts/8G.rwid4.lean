/-! layout on the reference's side: widths, step and loop -/
section RWd4
variable {n nc : Nat} {I pj : Nat → Nat} {Z Z' : lT}
theorem wd_Ee {M : qM} (hn : n ≤ 24) {j : Nat} (h0 : 0 < j) (hj : j < n) (hp : pj j < j) (h22 : M.1 22 j = nI (pj j)) (hD : M.1 27 (pj j) = b2 (zIb Z (pj j))) (h28 : ¬ zIb Z (pj j) = true → M.1 28 (pj j) = nI (zBo Z (pj j))) (a2 : Int32) (ib : Bool) : wd_E (nI j) a2 M (b2 ib) = wd_D (nI j) a2 (qsI M 27 j (b2 ib)) (nI (if zIb Z (pj j) = true then pj j else zBo Z (pj j))) := by
  have e22 : (qsI M 27 j (b2 ib)).1 22 j = nI (pj j) := by rw [g_In (by omega)]; exact h22
  have e27 : (qsI M 27 j (b2 ib)).1 27 (pj j) = b2 (zIb Z (pj j)) := by rw [g_In (by omega)]; exact hD
  unfold wd_E
  rw [g_ix (by omega) (by omega), q_zkb, g_cl (by omega), q_ltE, ← l_0, i_eq (by omega) (by omega), if_neg (by omega), g_ix (by omega) (by omega), e22, g_ix (by omega) (by omega), g_cl (by omega), e27, l_0, i_b2, g_ix (by omega) (by omega), g_ix (by omega) (by omega), g_ix (by omega) (by omega)]
  by_cases q : zIb Z (pj j) = true
  · rw [if_neg (by rw [q]; simp), if_pos q]
  · rw [if_pos (Bool.eq_false_iff.mpr q), if_neg q, g_In (by omega), h28 q]
theorem wd_E0 {M : qM} (a2 : Int32) (ib : Bool) : wd_E (nI 0) a2 M (b2 ib) = wd_D (nI 0) a2 (qsI M 27 0 (b2 ib)) (-1) := by
  unfold wd_E
  rw [g_ix (by omega) (by omega), q_zkb, g_cl (by omega), q_ltE, if_pos l_0]
theorem r_wd1 (hW : wZ2 n nc I pj Z) (hP : wP2 n pj Z) {M : qM} (hZ : rZ M n nc I pj Z) {j : Nat} (hj : j < n) (hD : rWd M j Z) {w : Int32} (hE : ∀ i, i < j → eWj pj Z w i) : ∃ M' Z', f_Md_widths (nI j) w M = some M' ∧ stE Z Z' ∧ rWd M' (j + 1) Z' ∧ (∀ i, i < j + 1 → eWj pj Z' w i) ∧ (∀ p i, ¬ (26 ≤ p ∧ p ≤ 30) → M'.1 p i = M.1 p i) := by
  have hn : n ≤ 24 := hW.1.2.1
  obtain ⟨hI, hnm, _, _, hnm0⟩ := hW.2.1 j hj
  obtain ⟨z1, z2, z3, z4, z5⟩ := hZ.2.1 j hj
  obtain ⟨hd, ehd⟩ : ∃ hd, hd = (if j = 0 then false else (zHd Z (pj j) || (!(zNm Z j == 1) && (zV Z j 3 == 110)))) := ⟨_, rfl⟩
  obtain ⟨ib, eib⟩ : ∃ ib, ib = (!(zNm Z j == 1) && !hd && (zV Z j 3 == 98)) := ⟨_, rfl⟩
  have code : f_Md_widths (nI j) w M = wd_E (nI j) w (qsI M 26 j (b2 hd)) (b2 ib) := by
    rw [wd_eq, g_ix (by omega) (by omega), g_cl (by omega), z1, g_ix (by omega) (by omega), g_cl (by omega), z2, i_eq1 (by omega)]
    have e : (if zNm Z j = 1 then wd_G (nI j) w M 0 else wd_G (nI j) w M 1) = wd_G (nI j) w M (b2 (!(zNm Z j == 1))) := by
      by_cases q : zNm Z j = 1
      · rw [if_pos q, q]; rfl
      · rw [if_neg q, show (zNm Z j == 1) = false by simpa using q]; rfl
    rw [e, wd_Ge hW hZ hj hD, ← ehd, wd_Fe hn hZ hj, ← eib]
  have same : ∀ (b : Nat), (∀ x, x ≠ j → True) := fun _ _ _ => trivial
  by_cases h0 : j = 0
  · subst h0
    obtain ⟨Z', s, ⟨c1, c2, c3, c4, c5⟩, c6⟩ := zUp_ex Z 0 hd ib 40 0 w
    refine ⟨qsI (qsI (qsI (qsI (qsI M 26 0 (b2 hd)) 27 0 (b2 ib)) 28 0 (-1)) 29 0 0) 30 0 w, Z', by rw [code, wd_E0, wd_D0], s, fun i hi => ?_, fun i hi => ?_, fun p i h => ?_⟩
    · have : i = 0 := by omega
      subst this
      rw [c1, c2, c4, c5]
      refine ⟨?_, ?_, fun h => absurd h (by omega), fun _ => ⟨?_, ?_⟩⟩
      · simp (disch := omega) only [g_In, g_Ie]
      · simp (disch := omega) only [g_In, g_Ie]
      · simp (disch := omega) only [g_In, g_Ie]
      · simp (disch := omega) only [g_In, g_Ie]
    · have : i = 0 := by omega
      subst this
      have s' := s
      obtain ⟨⟨a1, a2, a3, a4, a5⟩, a6, a7⟩ := s'
      refine ⟨?_, ?_, fun h => absurd h (by omega), fun _ => ⟨c4, c5⟩, fun h => absurd h (by omega)⟩
      · rw [c1, ehd, if_pos rfl, if_pos rfl]
      · rw [c2, c1, a1, a2]
        exact eib
    · rw [g_In (by omega), g_In (by omega), g_In (by omega), g_In (by omega), g_In (by omega)]
  · have hp := hW.2.2.1 j (by omega) hj
    rw [if_neg h0] at z3
    have hib0 : ¬ zIb Z (pj j) = true → 0 < pj j := fun q => by
      rcases Nat.eq_zero_or_pos (pj j) with e | e
      · rw [e] at q
        exact absurd (ib_0 hW hP (hE 0 (by omega))) q
      · exact e
    obtain ⟨bo, ebo⟩ : ∃ bo, bo = if zIb Z (pj j) = true then pj j else zBo Z (pj j) := ⟨_, rfl⟩
    obtain ⟨Z', s, ⟨c1, c2, c3, c4, c5⟩, c6⟩ := zUp_ex Z j hd ib bo ((cWb pj Z bo j).1 + zV Z j 4) (wdF (cWb pj Z bo j).2 (zV Z j 4) (zV Z j 5) (zV Z j 6))
    have s' := s
    obtain ⟨⟨a1, a2, a3, a4, a5⟩, a6, a7⟩ := s'
    have hW' := wZ2_st s hW
    have hP' := wP2_st s hP
    have hboz := bo_ok hW hP (by omega) hE
    have hboj : bo < j := by
      rw [ebo]
      by_cases q : zIb Z (pj j) = true
      · rw [if_pos q]; exact hp
      · rw [if_neg q]
        have := (hboz (pj j) (pj j) (Nat.le_refl _) (hib0 q) hp).1
        omega
    have ecw : cWb pj Z' bo j = cWb pj Z bo j := cW_cg s (c6 bo (by omega)).2.2.2.1 (c6 bo (by omega)).2.2.2.2 j
    have hE' : ∀ i, i < j + 1 → eWj pj Z' w i := fun i hi => by
      by_cases e : i = j
      · rw [e]
        refine ⟨?_, ?_, fun _ => ?_, fun h => absurd h h0, fun _ _ => ?_⟩
        · rw [c1, ehd, if_neg h0, if_neg h0, (c6 (pj j) (by omega)).1, a1, a2]
        · rw [c2, c1, a1, a2]
          exact eib
        · rw [c3, ebo, (c6 (pj j) (by omega)).2.1, (c6 (pj j) (by omega)).2.2.1]
        · rw [c3, c4, c5, ecw, a2]
          exact ⟨rfl, rfl⟩
      · refine eW_cg s (fun x hx => c6 x (by omega)) (fun h => hW.2.2.1 i h (by omega)) (fun h => (hboz i i (Nat.le_refl _) h (by omega)).1) (hE i (by omega))
    obtain ⟨o1, o2, o3, o4⟩ := bo_ok hW' hP' (j := j + 1) (by omega) hE' j j (Nat.le_refl _) (by omega) (by omega)
    rw [c3] at o1 o2 o3 o4
    rw [(c6 bo (by omega)).2.1] at o2
    rw [a6] at o3
    have f7 : ∀ p i, ¬ p = 26 → (qsI M 26 j (b2 hd)).1 p i = M.1 p i := fun p i h => g_In (by omega)
    have code2 : f_Md_widths (nI j) w M = wd_D (nI j) w (qsI (qsI M 26 j (b2 hd)) 27 j (b2 ib)) (nI bo) := by
      rw [code, wd_Ee hn (by omega) hj hp (by rw [f7 _ _ (by omega)]; exact z3) (by rw [f7 _ _ (by omega)]; exact (hD (pj j) hp).2.1) (fun q => by rw [f7 _ _ (by omega)]; exact (hD (pj j) hp).2.2.1 (hib0 q)), ← ebo]
    rw [wd_De (by omega) (by omega) (b := ib) (g_Ie ⟨rfl, rfl⟩)] at code2
    have fr : ∀ p i, ¬ ((p = 26 ∨ p = 27 ∨ p = 28) ∧ i = j) → (qsI (qsI (qsI M 26 j (b2 hd)) 27 j (b2 ib)) 28 j (nI bo)).1 p i = M.1 p i := fun p i h => by rw [g_In (by omega), g_In (by omega), g_In (by omega)]
    have old : ∀ M' : qM, (∀ p i, ¬ (26 ≤ p ∧ p ≤ 30 ∧ i = j) → M'.1 p i = M.1 p i) → ∀ i, i < j → M'.1 26 i = b2 (zHd Z' i) ∧ M'.1 27 i = b2 (zIb Z' i) ∧ (0 < i → M'.1 28 i = nI (zBo Z' i)) ∧ (zIb Z' i = true → M'.1 29 i = zL Z' i ∧ M'.1 30 i = zW Z' i) := fun M' k i hi => by
      obtain ⟨b1, b2', b3, b4, b5⟩ := c6 i (by omega)
      rw [b1, b2', b3, b4, b5, k _ _ (by omega), k _ _ (by omega), k _ _ (by omega), k _ _ (by omega), k _ _ (by omega)]
      exact hD i hi
    cases hib : ib with
    | false =>
      rw [hib, if_pos rfl] at code2
      rw [hib] at fr c2
      refine ⟨_, Z', code2, s, fun i hi => ?_, hE', fun p i h => fr p i (by omega)⟩
      by_cases e : i = j
      · rw [e, c1, c2, c3]
        refine ⟨?_, ?_, fun _ => ?_, fun h => (by cases h)⟩
        · simp (disch := omega) only [g_In, g_Ie]
        · simp (disch := omega) only [g_In, g_Ie]
        · simp (disch := omega) only [g_In, g_Ie]
      · exact old _ (fun p i h => fr p i (by omega)) i (by omega)
    | true =>
      rw [hib, if_neg (by simp)] at code2
      rw [hib] at fr c2
      have hZ' : rZ (qsI (qsI (qsI M 26 j (b2 hd)) 27 j (b2 true)) 28 j (nI bo)) n nc I pj Z := rZ_k hZ ⟨⟨fr _ _ (by omega), fr _ _ (by omega)⟩, fun p i hp => fr _ _ (by omega)⟩
      have hhd : hd = false := by
        rw [hib] at eib
        have e := eib.symm
        rw [Bool.and_eq_true, Bool.and_eq_true] at e
        simpa using e.1.2
      have hwc := wd_Ce hW hP.1 hP.2.2.1.1 hZ' (b := bo) hj hboj o3 (g_Ie ⟨rfl, rfl⟩) (by rw [fr _ _ (by omega)]; exact ((hD bo hboj).2.2.2 o2).1) (by rw [fr _ _ (by omega)]; exact ((hD bo hboj).2.2.2 o2).2) (fun hr => by
        have e1 := o4 (by rw [a1]; exact hr) (by rw [c1]; exact hhd)
        rw [hib] at eib
        have e := eib.symm
        rw [Bool.and_eq_true, Bool.and_eq_true] at e
        unfold inC
        rw [e.1.1, e.2, e1]
        simp)
      rw [hwc] at code2
      have fr2 : ∀ p i, ¬ (26 ≤ p ∧ p ≤ 30 ∧ i = j) → (qsI (qsI (qsI (qsI (qsI M 26 j (b2 hd)) 27 j (b2 true)) 28 j (nI bo)) 29 j ((cWb pj Z bo j).1 + zV Z j 4)) 30 j (wdF (cWb pj Z bo j).2 (zV Z j 4) (zV Z j 5) (zV Z j 6))).1 p i = M.1 p i := fun p i h => by rw [g_In (by omega), g_In (by omega), fr p i (by omega)]
      refine ⟨_, Z', code2, s, fun i hi => ?_, hE', fun p i h => fr2 p i (by omega)⟩
      by_cases e : i = j
      · rw [e, c1, c2, c3, c4, c5]
        refine ⟨?_, ?_, fun _ => ?_, fun _ => ⟨?_, ?_⟩⟩
        · simp (disch := omega) only [g_In, g_Ie]
        · simp (disch := omega) only [g_In, g_Ie]
        · simp (disch := omega) only [g_In, g_Ie]
        · simp (disch := omega) only [g_In, g_Ie]
        · simp (disch := omega) only [g_In, g_Ie]
      · exact old _ fr2 i (by omega)
theorem r_64 (w : Int32) (K : qM → Option (Int32 × qM)) : ∀ (m j f : Nat) (M : qM) (Z : lT), j + m = n → m < f → wZ2 n nc I pj Z → wP2 n pj Z → rZ M n nc I pj Z → rWd M j Z → (∀ i, i < j → eWj pj Z w i) → ∃ M' Z', f_Md_layout_64 w f K (nI j) M = K M' ∧ stE Z Z' ∧ rWd M' n Z' ∧ (∀ i, i < n → eWj pj Z' w i) ∧ (∀ p i, ¬ (26 ≤ p ∧ p ≤ 30) → M'.1 p i = M.1 p i) := by
  intro m
  induction m with
  | zero =>
    intro j f M Z hj hf hW hP hZ hD hE
    obtain ⟨f, rfl⟩ : ∃ g, f = g + 1 := ⟨f - 1, by omega⟩
    have hn : n ≤ 24 := hW.1.2.1
    have e : j = n := hj
    refine ⟨M, Z, ?_, ⟨⟨rfl, rfl, rfl, rfl, rfl⟩, rfl, rfl⟩, by rw [← e]; exact hD, by rw [← e]; exact hE, fun _ _ _ => rfl⟩
    rw [f_Md_layout_64, hZ.1.1, i_le (by omega) (by omega), if_pos (by omega)]
  | succ m ih =>
    intro j f M Z hj hf hW hP hZ hD hE
    obtain ⟨f, rfl⟩ : ∃ g, f = g + 1 := ⟨f - 1, by omega⟩
    have hn : n ≤ 24 := hW.1.2.1
    obtain ⟨M1, Z1, e1, e2, e3, e4, e5⟩ := r_wd1 hW hP hZ (j := j) (by omega) hD hE
    obtain ⟨M2, Z2, g1, g2, g3, g4, g5⟩ := ih (j + 1) f M1 Z1 (by omega) (by omega) (wZ2_st e2 hW) (wP2_st e2 hP) (rZ_st e2 (rZ_k hZ ⟨⟨e5 _ _ (by omega), e5 _ _ (by omega)⟩, fun p i hp => e5 _ _ (by omega)⟩)) e3 e4
    refine ⟨M2, Z2, ?_, stE_t e2 g2, g3, g4, fun p i h => by rw [g5 p i h, e5 p i h]⟩
    rw [f_Md_layout_64, hZ.1.1, i_le (by omega) (by omega), if_neg (by omega), e1, q_cvE, g_inc]
    exact g1
end RWd4
