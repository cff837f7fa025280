/-! layout on the class's side: items of a box -/
section CL5
variable {n nc : Nat} {I pj dp : Nat → Nat} {Z : lT} {Ta : Nat → Int32} {w : Int32}
def LIp (n nc : Nat) (I pj dp : Nat → Nat) (Z : lT) (Ta : Nat → Int32) (m : Nat) : Prop := ∀ (p a k db di f : Nat) (L0 : Int32) (M : qM) (K : qM → Option qM), p < n → k < n → zIb Z k = true → zNm Z k ≠ 114 → (p = k ∨ (k < p ∧ zIb Z p = false ∧ zBo Z p = k ∧ zHd Z p = false ∧ zBh Z p ≤ zBh Z k)) → p < a → a ≤ zBh Z p → (a < zBh Z p → pj a = p) → zBh Z p - a ≤ m → 26 ≤ db + dp p → 26 ≤ di + dp p → zNm Z p ≠ 1 → zBh Z p - a < f → cZs M n nc I pj Z → SG M nc I Z Ta k a L0 → (∀ q, q < nc → a ≤ zNq Z q → zNq Z q < zBh Z p → zBo Z (zNq Z q) ≠ k → M.1 (127 + q) 2 = 0) → ∃ M', f_Layout_layItems_13 (7 + 5 * I p) (f_Layout_layBox db) (7 + 5 * I k + 4) (nI (dp p)) (f_Layout_layItems (f_Layout_layBox db) di) f K (if a < zBh Z p then some (7 + 5 * I a) else none) M = K M' ∧ SG M' nc I Z Ta k (zBh Z p) L0 ∧ (∀ j, a ≤ j → j < zBh Z p → zIb Z j = true → cBf M' I Z Ta j) ∧ (∀ q, q < nc → a ≤ zNq Z q → zNq Z q < zBh Z p → zBo Z (zNq Z q) ≠ k → cLf M' Z Ta q) ∧ fK n nc I Z k a (zBh Z p) M M'
theorem t_lis (hV : EV n nc I pj dp Z Ta w) {m m0 : Nat} (hB : LBp n nc I pj dp Z Ta m) (hL : LIp n nc I pj dp Z Ta m0) {p a k db di f : Nat} {L0 : Int32} {M : qM} (K : qM → Option qM) (hp : p < n) (hk : k < n) (hib : zIb Z k = true) (hr : zNm Z k ≠ 114) (hpk : p = k ∨ (k < p ∧ zIb Z p = false ∧ zBo Z p = k ∧ zHd Z p = false ∧ zBh Z p ≤ zBh Z k)) (hpa : p < a) (hap : a < zBh Z p) (hpj : pj a = p) (hm : zBh Z p - a ≤ m) (hm0 : zBh Z p - (a + 1) ≤ m0) (hdb : 26 ≤ db + dp p) (hdi : 26 ≤ di + dp p) (hnp : zNm Z p ≠ 1) (hS : cZs M n nc I pj Z) (hG : SG M nc I Z Ta k a L0) (hz : ∀ q, q < nc → a ≤ zNq Z q → zNq Z q < zBh Z p → zBo Z (zNq Z q) ≠ k → M.1 (127 + q) 2 = 0) : ∃ M', f_Layout_layItems_13 (7 + 5 * I p) (f_Layout_layBox db) (7 + 5 * I k + 4) (nI (dp p)) (f_Layout_layItems (f_Layout_layBox db) di) (f + 1) K (some (7 + 5 * I a)) M = f_Layout_layItems_13 (7 + 5 * I p) (f_Layout_layBox db) (7 + 5 * I k + 4) (nI (dp p)) (f_Layout_layItems (f_Layout_layBox db) di) f K (if zBh Z a < zBh Z p then some (7 + 5 * I (zBh Z a)) else none) M' ∧ SG M' nc I Z Ta k (zBh Z a) L0 ∧ (∀ j, a ≤ j → j < zBh Z a → zIb Z j = true → cBf M' I Z Ta j) ∧ (∀ q, q < nc → a ≤ zNq Z q → zNq Z q < zBh Z a → zBo Z (zNq Z q) ≠ k → cLf M' Z Ta q) ∧ fK n nc I Z k a (zBh Z a) M M' := by
  have hV' := hV
  obtain ⟨hW, hP, hQ, hT⟩ := hV
  have hn : n ≤ 24 := hW.1.2.1
  have hnc : nc ≤ 160 := hW.1.2.2
  obtain ⟨_, _, hbp1, hbp2, _⟩ := hW.2.1 p hp
  have ha : a < n := by omega
  obtain ⟨hIk, _, _, hbhk, _⟩ := hW.2.1 k hk
  obtain ⟨hIa, hnma, hba1, hba2, _⟩ := hW.2.1 a ha
  have hbap : zBh Z a ≤ zBh Z p := hP.2.1 p a hp hpa hap
  have hpk2 : k ≤ p ∧ zBh Z p ≤ zBh Z k := by
    rcases hpk with h | h
    · rw [h]; omega
    · omega
  have hhp : zHd Z p = false := by
    rcases hpk with h | h
    · rw [h]; exact (ib_h hQ.1 hk hib).1
    · exact h.2.2.2.1
  obtain ⟨hbo, hha⟩ := kid_of hQ.1 (k := k) ha (by omega) hpj (by
    rcases hpk with h | h
    · exact Or.inl ⟨h, hib⟩
    · exact Or.inr ⟨h.2.1, h.2.2.1⟩) hhp
  obtain ⟨s1, s2, s3, s4, s5, s6⟩ := hS.2 a ha
  have s5 := s5 (by omega)
  rw [hpj] at s5
  have vp := (hS.2 p hp).2.1 hnp 2 (by omega)
  have hG' := hG
  obtain ⟨_, hU⟩ := hG
  have e2 : k + 1 + (a - (k + 1)) = a := by omega
  have rest : ∀ M1 : qM, (∀ q j, ¬ q = 366 → M1.2 q j = M.2 q j) → (q_lt (M1.2 (7 + 5 * I a) 8) fun r26 => f_Layout_layItems_13 (7 + 5 * I p) (f_Layout_layBox db) (7 + 5 * I k + 4) (nI (dp p)) (f_Layout_layItems (f_Layout_layBox db) di) f K r26 M1) = f_Layout_layItems_13 (7 + 5 * I p) (f_Layout_layBox db) (7 + 5 * I k + 4) (nI (dp p)) (f_Layout_layItems (f_Layout_layBox db) di) f K (if zBh Z a < zBh Z p then some (7 + 5 * I (zBh Z a)) else none) M1 := fun M1 h => by
    rw [h _ _ (by omega), s5, q_ltE]
  rw [li_eq, s1, i_eq1 (by omega)]
  by_cases h1 : zNm Z a = 1
  · rw [if_pos h1, show (2 : Int32) = nI 2 from rfl, g_ix (by omega) (by omega), g_cl (by omega), vp]
    have hbh : zBh Z a = a + 1 := hT.2.2.2.2.1 a ha (Or.inl h1)
    have hia : zIb Z a = false := by
      rw [(hQ.1 a ha).2.1, h1]
      rfl
    have hha' : zHd Z a = false := by
      rw [hha, h1]
      rfl
    have etk : tkR Z k a (zBh Z a - a) = (zLt Z a).map (kLet Z) := by
      rw [hbh, show a + 1 - a = 0 + 1 by omega, tkR_s]
      show tkF Z k a ++ [] = _
      unfold tkF
      rw [List.append_nil, if_pos hbo, if_neg (by rw [hia]; simp), if_neg (by rw [hha']; simp), if_neg (by omega), if_pos h1]
      rfl
    have h3 : ∀ t ∈ (zLt Z a).map (kLet Z), t.1 ≠ 3 := fun t ht => by
      rw [List.mem_map] at ht
      obtain ⟨q, _, e⟩ := ht
      rw [← e]
      unfold kLet
      by_cases h5 : zCd Z q = 32
      · rw [if_pos h5]; show (1 : Nat) ≠ 3; omega
      · rw [if_neg h5]; show (0 : Nat) ≠ 3; omega
    have hs0 : sumF (zNl Z) a (zBh Z a - a) = 0 := sum_0 fun i h1 h2 => by
      have : i = a := by omega
      rw [this]
      exact if_neg (by rw [hia]; simp)
    have hlen : (zLt Z a).length ≤ 160 := by
      rw [hW.2.2.2.2.2.1 a ha]
      have := List.length_filter_le (fun q => zNq Z q == a) (rgF 0 nc)
      rw [rg_len] at this
      omega
    have h160 : (iL (tkR Z k (k + 1) (a - (k + 1)))).length + (iL ((zLt Z a).map (kLet Z))).length ≤ 160 := by
      have := iL_160 hW k (m := (a - (k + 1)) + (zBh Z a - a)) (a := k + 1) (by omega)
      rw [tkR_add, e2, etk, iL_app, List.length_append] at this
      exact this
    obtain ⟨z, z1, z2, z3⟩ := hW.2.2.2.2.2.2 p hp
    have hz2 : zV Z p 2 ≠ 0 ∧ zV Z p 2 ≠ -1 := by
      rw [z3]
      have : ∀ z, z < 10 → 1 ≤ z → nI z ≠ 0 ∧ nI z ≠ -1 := by decide
      exact this z (by omega) z1
    obtain ⟨M1, c1, c2, c3⟩ := t_at5 hnc (k := k) hz2 (fun M22 => some M22) (zLt Z a) 1000 M _ _ (by omega) s6 (fun q hq => by
      obtain ⟨q1, q2⟩ := lt_pl hW ha q hq
      obtain ⟨r1, r2, r3, r4⟩ := hW.2.2.2.1 q q1
      rw [q2, hpj] at r4
      exact ⟨q1, ⟨q1, by rw [q2]; exact hbo⟩, r4, r1⟩) hU h160
    have fk : fK n nc I Z k a (zBh Z a) M M1 := fK_1 c3
    refine ⟨M1, ?_, SG_adv (by omega) (by omega) hG' _ etk h3 hs0 (fun j => c3.1 _ _ (by omega) (fun ⟨q, _, _, e, _⟩ => (by omega))) c2, fun j j1 j2 j3 => ?_, fun q q1 q2 q3 q4 => ?_, fk⟩
    · have ea : f_Run_addText (7 + 5 * I a) (zV Z p 2) M = some M1 := by
        unfold f_Run_addText
        rw [q_ltE, s4]
        exact c1
      rw [ea, q_cvE]
      exact rest M1 fk.2
    · have : j = a := by omega
      rw [this, hia] at j3
      cases j3
    · have : zNq Z q = a := by omega
      rw [this] at q4
      exact absurd hbo q4
  · have v3 := s2 h1 3 (by omega)
    have v2 := s2 h1 2 (by omega)
    rw [if_neg h1, show (3 : Int32) = nI 3 from rfl, g_ix (by omega) (by omega), g_cl (by omega), v3]
    have hnm1 : (!(zNm Z a == 1)) = true := by simpa using h1
    rw [hnm1, Bool.true_and] at hha
    have hia := (hQ.1 a ha).2.1
    rw [hnm1, Bool.true_and] at hia
    rcases hP.2.2.2 a ha h1 with v | v | v
    · rw [if_pos v]
      have hiat : zIb Z a = true := by
        rw [hia, hha, v]
        rfl
      obtain ⟨M1, c1, c2, c3, c4, c5⟩ := t_below hV' hB hk ha (by omega) (by omega) hiat hbo hpj hr (by omega) hdb hS hG' (fun q q1 q2 q3 => hz q q1 q2 (by omega) (by
        have := (in_box hV' ha hiat q1 q2 q3).2
        omega))
      refine ⟨M1, ?_, c2, c3, fun q q1 q2 q3 _ => c4 q q1 q2 q3, c5⟩
      rw [c1, q_cvE]
      exact rest M1 c5.2
    · have hiaf : zIb Z a = false := by
        rw [hia, v]
        simp
      have hhaf : zHd Z a = false := by
        rw [hha, v]
        rfl
      rw [if_neg (by rw [v]; decide), g_ix (by omega) (by omega), if_pos v, show (107 : Int32) = nI 107 from rfl, i_eq (by omega) (by omega)]
      by_cases h7 : zNm Z a = 107
      · rw [if_pos h7, show (2 : Int32) = nI 2 from rfl, g_ix (by omega) (by omega), g_cl (by omega), v2]
        have hbh : zBh Z a = a + 1 := hT.2.2.2.2.1 a ha (Or.inr (Or.inr h7))
        have etk : tkR Z k a (zBh Z a - a) = [(2, a)] := by
          rw [hbh, show a + 1 - a = 0 + 1 by omega, tkR_s]
          show tkF Z k a ++ [] = _
          unfold tkF
          rw [List.append_nil, if_pos hbo, if_neg (by rw [hiaf]; simp), if_neg (by rw [hhaf]; simp), if_pos h7, if_neg h1]
          rfl
        have hs0 : sumF (zNl Z) a (zBh Z a - a) = 0 := sum_0 fun i h1 h2 => by
          have : i = a := by omega
          rw [this]
          exact if_neg (by rw [hiaf]; simp)
        obtain ⟨M1, c1, c2, c3⟩ := t_brk hnc (k := k) (iL_160 hW k (m := a - (k + 1)) (a := k + 1) (by omega)) (zV Z a 2) hU
        have fk : fK n nc I Z k a (zBh Z a) M M1 := fK_1 c3
        refine ⟨M1, ?_, SG_adv (by omega) (by omega) hG' _ etk (fun t ht => by rw [List.mem_singleton.mp ht]; show (2 : Nat) ≠ 3; omega) hs0 (fun j => c3.1 _ _ (by omega) (fun ⟨q, _, _, e, _⟩ => (by omega))) c2, fun j j1 j2 j3 => ?_, fun q q1 q2 q3 q4 => ?_, fk⟩
        · rw [c1, q_cvE]
          exact rest M1 fk.2
        · have : j = a := by omega
          rw [this, hiaf] at j3
          cases j3
        · have : zNq Z q = a := by omega
          rw [this] at q4
          exact absurd hbo q4
      · rw [if_neg h7]
        unfold li_J
        rw [show (3 : Int32) = nI 3 from rfl, g_ix (by omega) (by omega), g_cl (by omega), v3, if_pos v, g_inc]
        obtain ⟨di, rfl⟩ : ∃ g, di = g + 1 := ⟨di - 1, by have := hT.2.2.2.1 p hp; omega⟩
        have hdp : dp a = dp p + 1 := by rw [hT.2.2.1.2 a (by omega) ha, hpj]
        have hdp2 := hT.2.2.2.1 a ha
        have etk : tkF Z k a = [] := by
          unfold tkF
          rw [if_pos hbo, if_neg (by rw [hiaf]; simp), if_neg (by rw [hhaf]; simp), if_neg h7, if_neg h1]
          rfl
        have hGa : SG M nc I Z Ta k (a + 1) L0 := by
          refine SG_adv (by omega) (by omega) hG' [] ?_ (fun t ht => (by cases ht)) ?_ (fun _ => rfl) hU
          · rw [show a + 1 - a = 0 + 1 by omega, tkR_s, etk]
            rfl
          · exact sum_0 fun i h1 h2 => by
              have : i = a := by omega
              rw [this]
              exact if_neg (by rw [hiaf]; simp)
        obtain ⟨M1, c1, c2, c3, c4, c5⟩ := hL a (a + 1) k db di 1000 L0 M (fun M28 => some M28) ha hk hib hr (Or.inr ⟨by omega, hiaf, hbo, hhaf, by omega⟩) (by omega) (by omega) (fun h => hT.1 a ha h) (by omega) (by omega) (by omega) h1 (by omega) hS hGa (fun q q1 q2 q3 q4 => hz q q1 (by omega) (by omega) q4)
        have fk : fK n nc I Z k a (zBh Z a) M M1 := fK_w c5 (by omega) (Nat.le_refl _)
        refine ⟨M1, ?_, c2, fun j j1 j2 j3 => ?_, fun q q1 q2 q3 q4 => ?_, fk⟩
        · have ea : f_Layout_layItems (f_Layout_layBox db) (di + 1) (7 + 5 * I a) (7 + 5 * I k + 4) (nI (dp p + 1)) M = some M1 := by
            rw [f_Layout_layItems, q_ltE, show (24 : Int32) = nI 24 from rfl, i_le (by omega) (by omega), if_pos (by omega), s3, q_ltE, ← hdp]
            exact c1
          rw [ea, q_cvE]
          exact rest M1 fk.2
        · by_cases e : j = a
          · rw [e, hiaf] at j3
            cases j3
          · exact c3 j (by omega) j2 j3
        · have : zNq Z q ≠ a := fun e => q4 (by rw [e]; exact hbo)
          exact c4 q q1 (by omega) q3 q4
    · rw [if_neg (by rw [v]; decide), g_ix (by omega) (by omega), if_neg (by rw [v]; decide)]
      unfold li_J
      rw [show (3 : Int32) = nI 3 from rfl, g_ix (by omega) (by omega), g_cl (by omega), v3, if_neg (by rw [v]; decide)]
      have hhat : zHd Z a = true := by
        rw [hha, v]
        rfl
      have hst := hd_st hW hP hQ.1 ha hhat
      refine ⟨M, rest M (fun _ _ _ => rfl), SG_adv (by omega) (by omega) hG' [] ?_ (fun t ht => (by cases ht)) ?_ (fun _ => rfl) hU, fun j j1 j2 j3 => ?_, fun q q1 q2 q3 q4 => ?_, fK_r _ _ _ _⟩
      · exact tkR_0 fun i h1 h2 => tk_h (hst i i (Nat.le_refl _) h1 (by omega)).1 (hst i i (Nat.le_refl _) h1 (by omega)).2
      · exact sum_0 fun i h1 h2 => if_neg (by rw [(hst i i (Nat.le_refl _) h1 (by omega)).2]; simp)
      · rw [(hst j j (Nat.le_refl _) j1 j2).2] at j3
        cases j3
      · exfalso
        have hbb : ∀ (m i : Nat), i ≤ m → a ≤ i → i < zBh Z a → zBo Z i = k := by
          intro m
          induction m with
          | zero =>
            intro i h1 h2 h3
            have : i = a := by omega
            rw [this]; exact hbo
          | succ m ih =>
            intro i h1 h2 h3
            by_cases e : i = a
            · rw [e]; exact hbo
            · have hpi := hW.2.2.1 i (by omega) (by omega)
              have hpi2 := hP.1.1 a i (by omega) h3 ha
              rw [(hQ.1 i (by omega)).2.2.1 (by omega), if_neg (by rw [(hst (pj i) (pj i) (Nat.le_refl _) hpi2 (by omega)).2]; simp)]
              exact ih (pj i) (by omega) hpi2 (by omega)
        exact q4 (hbb _ _ (Nat.le_refl _) q2 q3)
end CL5
