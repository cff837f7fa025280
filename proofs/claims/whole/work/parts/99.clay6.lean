/-! layout on the class's side: items to their end; cells of a row -/
section CL6
variable {n nc : Nat} {I pj dp : Nat → Nat} {Z : lT} {Ta : Nat → Int32} {w : Int32}
theorem t_li (hV : EV n nc I pj dp Z Ta w) {m : Nat} (hB : LBp n nc I pj dp Z Ta (m + 1)) (hL : LIp n nc I pj dp Z Ta m) : LIp n nc I pj dp Z Ta (m + 1) := by
  intro p a k db di f L0 M K hp hk hib hr hpk hpa hap hpj hm hdb hdi hnp hf hS hG hz
  have hV' := hV
  obtain ⟨hW, hP, hQ, hT⟩ := hV
  obtain ⟨f, rfl⟩ : ∃ g, f = g + 1 := ⟨f - 1, by omega⟩
  by_cases e : a < zBh Z p
  · obtain ⟨_, _, hbp1, hbp2, _⟩ := hW.2.1 p hp
    have ha : a < n := by omega
    obtain ⟨_, _, hba1, hba2, _⟩ := hW.2.1 a ha
    have hbap : zBh Z a ≤ zBh Z p := hP.2.1 p a hp hpa e
    have hkp : k ≤ p := by
      rcases hpk with h | h <;> omega
    obtain ⟨M1, c1, c2, c3, c4, c5⟩ := t_lis (f := f) hV' hB hL K hp hk hib hr hpk hpa e (hpj e) hm (by omega) hdb hdi hnp hS hG hz
    have pq : ∀ q, q < nc → ∀ i, i < n → 127 + q ≠ 7 + 5 * I i + 4 := fun q _ i hi => by
      have := (hW.2.1 i hi).1
      omega
    have hnc : nc ≤ 160 := hW.1.2.2
    obtain ⟨M2, d1, d2, d3, d4, d5⟩ := hL p (zBh Z a) k db di f L0 M1 K hp hk hib hr hpk (by omega) hbap (fun h => by
      have := hT.2.1 a (by omega) ha (by rw [hpj e]; exact h)
      rw [this]; exact hpj e) (by omega) hdb hdi hnp (by omega) (cZs_K hW hk hS c5) c2 (fun q q1 q2 q3 q4 => by
      rw [c5.1 _ _ (by omega) (fun ⟨i, _, _, hi, _, h⟩ => pq q q1 i hi h) (fun ⟨q', _, _, h3, h4, _⟩ => by
        have : q' = q := by omega
        rw [this] at h3
        omega) (fun ⟨q', hs, h4, _⟩ => by
        have : q' = q := by omega
        rw [this] at hs
        exact q4 hs.2) (by have := (hW.2.1 k hk).1; omega)]
      exact hz q q1 (by omega) q3 q4)
    refine ⟨M2, ?_, d2, fun j j1 j2 j3 => ?_, fun q q1 q2 q3 q4 => ?_, fK_t (fK_w c5 (Nat.le_refl _) hbap) (fK_w d5 (by omega) (Nat.le_refl _))⟩
    · rw [if_pos e, c1, d1]
    · by_cases h : j < zBh Z a
      · refine cBf_k (c3 j j1 h j3) (fun x hx => d5.1 _ _ (by have := (hW.2.1 j (by omega)).1; omega) (fun ⟨i, i1, _, i3, _, i5⟩ => ?_) (fun ⟨q, _, _, _, h4, _⟩ => by have := (hW.2.1 j (by omega)).1; omega) (fun ⟨q, _, h4, _⟩ => by have := (hW.2.1 j (by omega)).1; omega) (by omega))
        have := hW.2.2.2.2.1 i j i3 (by omega) (by omega)
        omega
      · exact d3 j (by omega) j2 j3
    · by_cases h : zNq Z q < zBh Z a
      · refine cLf_k (c4 q q1 q2 h q4) (fun x _ _ => d5.1 _ _ (by omega) (fun ⟨i, _, _, hi, _, h⟩ => pq q q1 i hi h) (fun ⟨q', _, h2, _, h4, _⟩ => ?_) (fun ⟨q', hs, h4, _⟩ => ?_) (by have := (hW.2.1 k hk).1; omega))
        · have : q' = q := by omega
          rw [this] at h2
          omega
        · have : q' = q := by omega
          rw [this] at hs
          exact q4 hs.2
      · exact d4 q q1 (by omega) q3 q4
  · have e' : a = zBh Z p := by omega
    rw [if_neg e]
    refine ⟨M, ?_, by rw [← e']; exact hG, fun j j1 j2 => (by omega), fun q q1 q2 q3 => (by omega), fK_r _ _ _ _⟩
    rw [f_Layout_layItems_13]
    rfl
theorem t_li0 : LIp n nc I pj dp Z Ta 0 := by
  intro p a k db di f L0 M K hp hk hib hr hpk hpa hap hpj hm hdb hdi hnp hf hS hG hz
  obtain ⟨f, rfl⟩ : ∃ g, f = g + 1 := ⟨f - 1, by omega⟩
  have e' : a = zBh Z p := by omega
  rw [if_neg (by omega)]
  refine ⟨M, ?_, by rw [← e']; exact hG, fun j j1 j2 => (by omega), fun q q1 q2 q3 => (by omega), fK_r _ _ _ _⟩
  rw [f_Layout_layItems_13]
  rfl
/-- a child of a row -/
theorem cell_of (hV : EV n nc I pj dp Z Ta w) {k a : Nat} (ha0 : 0 < a) (ha : a < n) (hk : k < n) (hib : zIb Z k = true) (hr : zNm Z k = 114) (hpj : pj a = k) : zNm Z a ≠ 1 ∧ 2 ≤ zNm Z a ∧ zBo Z a = k ∧ ((zV Z a 3 = 98 ∧ zIb Z a = true) ∨ (zV Z a 3 = 110 ∧ zHd Z a = true)) := by
  obtain ⟨hW, hP, hQ, hT⟩ := hV
  obtain ⟨k1, k2⟩ := hP.1.2.2 a ha0 ha (by rw [hpj]; exact hr)
  obtain ⟨hbo, hha⟩ := kid_of hQ.1 (k := k) ha ha0 hpj (Or.inl ⟨rfl, hib⟩) (ib_h hQ.1 hk hib).1
  have hnm1 : (!(zNm Z a == 1)) = true := by simpa using k1
  rw [hnm1, Bool.true_and] at hha
  have hia := (hQ.1 a ha).2.1
  rw [hnm1, Bool.true_and] at hia
  have h0 : zNm Z a ≠ 0 := fun h => by
    have := (hW.2.1 a ha).2.2.2.2.mp h
    omega
  refine ⟨k1, by omega, hbo, ?_⟩
  rcases hP.2.2.2 a ha k1 with v | v | v
  · refine Or.inl ⟨v, ?_⟩
    rw [hia, hha, v]
    rfl
  · exact absurd v k2
  · refine Or.inr ⟨v, ?_⟩
    rw [hha, v]
    rfl
theorem t_isb {M : qM} {k : Nat} (hS : cZs M n nc I pj Z) (hk : k < n) (h1 : zNm Z k ≠ 1) (h2 : 2 ≤ zNm Z k) (h3 : zNm Z k < 200) : f_Layout_isBox (7 + 5 * I k) M = some (b2 (zV Z k 3 == 98)) := by
  obtain ⟨s1, s2, _⟩ := hS.2 k hk
  unfold f_Layout_isBox
  rw [t_el s1 h3, q_bpE, show decide (2 ≤ zNm Z k) = true by simpa using h2, i_b2, if_neg (by simp), show (3 : Int32) = nI 3 from rfl, g_ix (by omega) (by omega), g_cl (by omega), s2 h1 3 (by omega)]
  by_cases q : zV Z k 3 = 98
  · rw [if_pos q, q]; rfl
  · rw [if_neg q, show (zV Z k 3 == 98) = false by simpa using q]; rfl
theorem cn_kid (hV : EV n nc I pj dp Z Ta w) {k a : Nat} (ha0 : 0 < a) (ha : a < n) (hk : k < n) (hib : zIb Z k = true) (hr : zNm Z k = 114) (hpj : pj a = k) : cnC pj Z k a (zBh Z a - a) = if zV Z a 3 = 98 then 1 else 0 := by
  obtain ⟨k1, k2, k3, k4⟩ := cell_of hV ha0 ha hk hib hr hpj
  obtain ⟨hW, hP, hQ, hT⟩ := hV
  obtain ⟨_, _, hba1, hba2, _⟩ := hW.2.1 a ha
  have hp := hW.2.2.1 a ha0 ha
  rw [show zBh Z a - a = (zBh Z a - (a + 1)) + 1 by omega, cnC_s, cn_0 fun i h1 h2 => ?_]
  · unfold inC
    rw [hpj, show (!(zNm Z a == 1)) = true by simpa using k1]
    by_cases q : zV Z a 3 = 98
    · rw [if_pos q, if_pos (by rw [q]; simp)]
    · rw [if_neg q, if_neg (by simpa using q)]
  · have := hP.1.1 a i (by omega) (by omega) ha
    unfold inC
    rw [show (pj i == k) = false by simp; omega, Bool.and_false]
theorem t_c14 (hV : EV n nc I pj dp Z Ta w) {k : Nat} (hk : k < n) (hib : zIb Z k = true) (hr : zNm Z k = 114) {M : qM} (hS : cZs M n nc I pj Z) (K : Int32 → Option (Int32 × qM)) : ∀ (m a x f : Nat), zBh Z k - a ≤ m → k < a → a ≤ zBh Z k → (a < zBh Z k → pj a = k) → m < f → f_Layout_layCells_14 M f K (nI x) (if a < zBh Z k then some (7 + 5 * I a) else none) = K (nI (x + cnC pj Z k a (zBh Z k - a))) := by
  have hV' := hV
  obtain ⟨hW, hP, hQ, hT⟩ := hV
  obtain ⟨_, _, hbk1, hbk2, _⟩ := hW.2.1 k hk
  intro m
  induction m with
  | zero =>
    intro a x f hm hka hak hpj hf
    obtain ⟨f, rfl⟩ : ∃ g, f = g + 1 := ⟨f - 1, by omega⟩
    rw [if_neg (by omega), f_Layout_layCells_14, show zBh Z k - a = 0 by omega]
    rfl
  | succ m ih =>
    intro a x f hm hka hak hpj hf
    obtain ⟨f, rfl⟩ : ∃ g, f = g + 1 := ⟨f - 1, by omega⟩
    by_cases e : a < zBh Z k
    · have hpj := hpj e
      have ha : a < n := by omega
      obtain ⟨k1, k2, k3, k4⟩ := cell_of hV' (by omega) ha hk hib hr hpj
      obtain ⟨hIa, hnma, hba1, hba2, _⟩ := hW.2.1 a ha
      have hbap : zBh Z a ≤ zBh Z k := hP.2.1 k a hk hka e
      have s5 := (hS.2 a ha).2.2.2.2.1 (by omega)
      rw [hpj] at s5
      have ec : cnC pj Z k a (zBh Z k - a) = (if zV Z a 3 = 98 then 1 else 0) + cnC pj Z k (zBh Z a) (zBh Z k - zBh Z a) := by
        rw [show zBh Z k - a = (zBh Z a - a) + (zBh Z k - zBh Z a) by omega, cnC_a, cn_kid hV' (by omega) ha hk hib hr hpj, show a + (zBh Z a - a) = zBh Z a by omega]
      rw [if_pos e, f_Layout_layCells_14, q_onS, t_isb hS ha k1 k2 (by omega), q_bpE, i_b2, s5, q_ltE, q_ltE, ec, g_inc]
      have hpj2 : zBh Z a < zBh Z k → pj (zBh Z a) = k := fun h => by
        have := hT.2.1 a (by omega) ha (by rw [hpj]; exact h)
        rw [this]; exact hpj
      by_cases q : zV Z a 3 = 98
      · rw [if_neg (by rw [q]; simp), if_pos q, ih (zBh Z a) (x + 1) f (by omega) (by omega) hbap hpj2 (by omega), Nat.add_assoc]
      · rw [if_pos (by simpa using q), if_neg q, ih (zBh Z a) x f (by omega) (by omega) hbap hpj2 (by omega), Nat.zero_add]
    · rw [if_neg e, f_Layout_layCells_14, show zBh Z k - a = 0 by omega]
      rfl
def LCp (n nc : Nat) (I pj dp : Nat → Nat) (Z : lT) (Ta : Nat → Int32) (m : Nat) : Prop := ∀ (a k db f : Nat) (L0 x12 : Int32) (M : qM) (K : Int32 → qM → Option (Int32 × qM)), k < n → zIb Z k = true → zNm Z k = 114 → k < a → a ≤ zBh Z k → (a < zBh Z k → pj a = k) → zBh Z k - a ≤ m → 26 ≤ db + dp k → zBh Z k - a < f → (cnC pj Z k (k + 1) (zBh Z k - (k + 1)) ≠ 0 → x12 = zW Z k / nI (cnC pj Z k (k + 1) (zBh Z k - (k + 1)))) → cZs M n nc I pj Z → M.1 (7 + 5 * I k + 4) 6 = oF Z Ta k → M.1 365 12 = L0 + sumF (zNl Z) (k + 1) (a - (k + 1)) → (∀ q, q < nc → a ≤ zNq Z q → zNq Z q < zBh Z k → zBo Z (zNq Z q) ≠ k → M.1 (127 + q) 2 = 0) → ∃ M', f_Layout_layCells_73 (f_Layout_layBox db) (7 + 5 * I k) x12 (nI (dp k)) f K (zCl Z k + nI (cnC pj Z k (k + 1) (a - (k + 1))) * x12) (gAt Z k (a - (k + 1))).1.2.2 (if a < zBh Z k then some (7 + 5 * I a) else none) M = K (gAt Z k (zBh Z k - (k + 1))).1.2.2 M' ∧ M'.1 365 12 = L0 + sumF (zNl Z) (k + 1) (zBh Z k - (k + 1)) ∧ (∀ j, a ≤ j → j < zBh Z k → zIb Z j = true → cBf M' I Z Ta j) ∧ (∀ q, q < nc → a ≤ zNq Z q → zNq Z q < zBh Z k → zBo Z (zNq Z q) ≠ k → cLf M' Z Ta q) ∧ (∀ q, q < nc → zBo Z (zNq Z q) = k → ∀ x, M'.1 (127 + q) x = M.1 (127 + q) x) ∧ fR n nc I Z a (zBh Z k) M M'
theorem t_lc0 : LCp n nc I pj dp Z Ta 0 := by
  intro a k db f L0 x12 M K hk hib hr hka hak hpj hm hdb hf hx hS h6 h12 hz
  obtain ⟨f, rfl⟩ : ∃ g, f = g + 1 := ⟨f - 1, by omega⟩
  have e' : a = zBh Z k := by omega
  rw [if_neg (by omega), f_Layout_layCells_73]
  refine ⟨M, by rw [← e']; rfl, by rw [← e']; exact h12, fun j j1 j2 => (by omega), fun q q1 q2 q3 => (by omega), fun _ _ _ _ => rfl, fR_r _ _ _⟩
theorem t_lcs (hV : EV n nc I pj dp Z Ta w) {m : Nat} (hB : LBp n nc I pj dp Z Ta (m + 1)) (hL : LCp n nc I pj dp Z Ta m) : LCp n nc I pj dp Z Ta (m + 1) := by
  intro a k db f L0 x12 M K hk hib hr hka hak hpj hm hdb hf hx hS h6 h12 hz
  have hV' := hV
  obtain ⟨hW, hP, hQ, hT⟩ := hV
  obtain ⟨hIk, _, hbk1, hbk2, _⟩ := hW.2.1 k hk
  have hnc : nc ≤ 160 := hW.1.2.2
  obtain ⟨f, rfl⟩ : ∃ g, f = g + 1 := ⟨f - 1, by omega⟩
  by_cases e : a < zBh Z k
  · have hpj := hpj e
    have ha : a < n := by omega
    obtain ⟨k1, k2, k3, k4⟩ := cell_of hV' (by omega) ha hk hib hr hpj
    obtain ⟨hIa, hnma, hba1, hba2, _⟩ := hW.2.1 a ha
    have hbap : zBh Z a ≤ zBh Z k := hP.2.1 k a hk hka e
    have s5 := (hS.2 a ha).2.2.2.2.1 (by omega)
    rw [hpj] at s5
    have hpj2 : zBh Z a < zBh Z k → pj (zBh Z a) = k := fun h => by
      have := hT.2.1 a (by omega) ha (by rw [hpj]; exact h)
      rw [this]; exact hpj
    have e1 : zBh Z a - (k + 1) = (a - (k + 1)) + (zBh Z a - a) := by omega
    have e2 : k + 1 + (a - (k + 1)) = a := by omega
    have ecn : cnC pj Z k (k + 1) (zBh Z a - (k + 1)) = cnC pj Z k (k + 1) (a - (k + 1)) + if zV Z a 3 = 98 then 1 else 0 := by
      rw [e1, cnC_a, e2, cn_kid hV' (by omega) ha hk hib hr hpj]
    rw [if_pos e, f_Layout_layCells_73, q_onS, t_isb hS ha k1 k2 (by omega), q_bpE, i_b2]
    rcases k4 with ⟨v, hia⟩ | ⟨v, hha⟩
    · rw [if_neg (by rw [v]; simp)]
      have v4 := (hS.2 a ha).2.1 k1 4 (by omega)
      have hdp : dp a = dp k + 1 := by rw [hT.2.2.1.2 a (by omega) ha, hpj]
      have tTa : Ta a = oF Z Ta k + zV Z a 4 := by
        rw [ta_of hQ ha hka e k3 hia]
        congr 1
        exact if_pos hr
      have hcn : cnC pj Z k (k + 1) (zBh Z k - (k + 1)) ≠ 0 := by
        rw [show zBh Z k - (k + 1) = (zBh Z a - (k + 1)) + (zBh Z k - zBh Z a) by omega, cnC_a, ecn, if_pos v]
        omega
      have hx := hx hcn
      obtain ⟨w1, w2⟩ := (hQ.1 a ha).2.2.2.2 (by omega) hia
      have ecw : cWb pj Z (zBo Z a) a = (zCl Z k + nI (cnC pj Z k (k + 1) (a - (k + 1))) * x12, x12) := by
        rw [k3, hx]
        exact if_pos hr
      rw [ecw] at w1 w2
      obtain ⟨M1, c1, c2, c3, c4, c5⟩ := hB a db (zCl Z k + nI (cnC pj Z k (k + 1) (a - (k + 1))) * x12) x12 M ha hia (by omega) (by omega) w1 w2 hS (fun q q1 q2 q3 => hz q q1 q2 (by omega) (by
        have := (in_box hV' ha hia q1 q2 q3).2
        omega))
      have h4 : M1.1 (7 + 5 * I a + 4) 4 = zH Z a := (c2 a (Nat.le_refl _) hba1 hia).2.2.2.2
      have nB : ¬ (∃ i, a ≤ i ∧ i < zBh Z a ∧ i < n ∧ zIb Z i = true ∧ 7 + 5 * I k + 4 = 7 + 5 * I i + 4) := fun ⟨i, h1, h2, h3, _, h5⟩ => by
        have := hW.2.2.2.2.1 i k h3 hk (by omega)
        omega
      have etk : tkR Z k a (zBh Z a - a) = [(3, a)] := by
        rw [show zBh Z a - a = (zBh Z a - (a + 1)) + 1 by omega, tkR_s, tkR_0 (fun i h1 h2 => tk_n (by
          have := bo_st hW hP hQ.1 ha hia i i (Nat.le_refl _) (by omega) (by omega)
          omega))]
        unfold tkF
        rw [if_pos k3, if_pos hia]
        rfl
      have eg : (gAt Z k (zBh Z a - (k + 1))).1.2.2 = mx (gAt Z k (a - (k + 1))).1.2.2 (2 * zV Z a 4 + zH Z a) := by
        rw [e1, gAt_a, e2, etk]
        show mx (gFl Z k (gAt Z k (a - (k + 1)))).1.2.2 _ = _
        rw [gFl_rh]
      have lq : ∀ q, q < nc → zBo Z (zNq Z q) = k → ∀ x, M1.1 (127 + q) x = M.1 (127 + q) x := fun q hq hs x => c5.1 _ _ (by omega) (fun ⟨i, _, _, hi, _, h⟩ => by have := (hW.2.1 i hi).1; omega) (fun ⟨q', h1, h2, h3, h4, _⟩ => by
        have e : q' = q := by omega
        rw [e] at h2 h3
        have := (in_box hV' ha hia hq h2 h3).2
        omega)
      obtain ⟨M2, d1, d2, d3, d4, d5, d6⟩ := hL (zBh Z a) k db f L0 x12 M1 K hk hib hr (by omega) hbap hpj2 (by omega) hdb (by omega) (fun _ => hx) (cZs_k hW hS c5) (by
        rw [c5.1 _ _ (by omega) nB (fun ⟨q, _, _, _, h4, _⟩ => (by omega))]
        exact h6) (by rw [c4, h12, e1, sum_add, e2, Int32.add_assoc]) (fun q q1 q2 q3 q4 => by
        rw [c5.1 _ _ (by omega) (fun ⟨i, _, _, hi, _, h⟩ => by have := (hW.2.1 i hi).1; omega) (fun ⟨q', _, h2, h3, h4, _⟩ => by
          have : q' = q := by omega
          rw [this] at h3
          omega)]
        exact hz q q1 (by omega) q3 q4)
      refine ⟨M2, ?_, d2, fun j j1 j2 j3 => ?_, fun q q1 q2 q3 q4 => ?_, fun q q1 q2 x => by rw [d5 q q1 q2 x, lq q q1 q2 x], fR_t (fR_w c5 (Nat.le_refl _) hbap) (fR_w d6 (by omega) (Nat.le_refl _))⟩
      · have em : (if (gAt Z k (a - (k + 1))).1.2.2 < 2 * zV Z a 4 + zH Z a then 2 * zV Z a 4 + zH Z a else (gAt Z k (a - (k + 1))).1.2.2) = (gAt Z k (zBh Z a - (k + 1))).1.2.2 := by
          rw [eg]
          rfl
        have ex : zCl Z k + nI (cnC pj Z k (k + 1) (a - (k + 1))) * x12 + x12 = zCl Z k + nI (cnC pj Z k (k + 1) (zBh Z a - (k + 1))) * x12 := by
          rw [ecn, if_pos v, ← g_inc, Int32.add_mul, Int32.one_mul, Int32.add_assoc]
        rw [show (4 : Int32) = nI 4 from rfl, g_ix (by omega) (by omega), g_cl (by omega), v4, q_ltE, h6, ← tTa, g_inc, ← hdp, c1, q_cvE, h4, em, q_ltE, c5.2 _ _ (by omega), s5, q_ltE, ex]
        exact d1
      · by_cases h : j < zBh Z a
        · refine cBf_k (c2 j j1 h j3) (fun x hx => d6.1 _ _ (by have := (hW.2.1 j (by omega)).1; omega) (fun ⟨i, i1, _, i3, _, i5⟩ => ?_) (fun ⟨q, _, _, _, h4, _⟩ => by have := (hW.2.1 j (by omega)).1; omega))
          have := hW.2.2.2.2.1 i j i3 (by omega) (by omega)
          omega
        · exact d3 j (by omega) j2 j3
      · by_cases h : zNq Z q < zBh Z a
        · refine cLf_k (c3 q q1 q2 h) (fun x _ _ => d6.1 _ _ (by omega) (fun ⟨i, _, _, hi, _, h⟩ => by have := (hW.2.1 i hi).1; omega) (fun ⟨q', _, h2, _, h4, _⟩ => ?_))
          have : q' = q := by omega
          rw [this] at h2
          omega
        · exact d4 q q1 (by omega) q3 q4
    · rw [if_pos (by rw [v]; decide), s5, q_ltE]
      have hst := hd_st hW hP hQ.1 ha hha
      have eg : gAt Z k (zBh Z a - (k + 1)) = gAt Z k (a - (k + 1)) := by
        rw [e1, gAt_a, e2, tkR_0 fun i h1 h2 => tk_h (hst i i (Nat.le_refl _) h1 (by omega)).1 (hst i i (Nat.le_refl _) h1 (by omega)).2]
        rfl
      have es : sumF (zNl Z) (k + 1) (zBh Z a - (k + 1)) = sumF (zNl Z) (k + 1) (a - (k + 1)) := by
        have z0 : sumF (zNl Z) a (zBh Z a - a) = 0 := sum_0 fun i h1 h2 => if_neg (by rw [(hst i i (Nat.le_refl _) h1 (by omega)).2]; simp)
        rw [e1, sum_add, e2, z0, Int32.add_zero]
      have ecn' : cnC pj Z k (k + 1) (zBh Z a - (k + 1)) = cnC pj Z k (k + 1) (a - (k + 1)) := by
        rw [ecn, if_neg (by rw [v]; decide)]
        rfl
      obtain ⟨M2, d1, d2, d3, d4, d5, d6⟩ := hL (zBh Z a) k db f L0 x12 M K hk hib hr (by omega) hbap hpj2 (by omega) hdb (by omega) hx hS h6 (by rw [es]; exact h12) (fun q q1 q2 q3 q4 => hz q q1 (by omega) q3 q4)
      rw [eg, ecn'] at d1
      refine ⟨M2, d1, d2, fun j j1 j2 j3 => ?_, fun q q1 q2 q3 q4 => ?_, d5, fR_w d6 (by omega) (Nat.le_refl _)⟩
      · by_cases h : j < zBh Z a
        · rw [(hst j j (Nat.le_refl _) j1 h).2] at j3
          cases j3
        · exact d3 j (by omega) j2 j3
      · by_cases h : zNq Z q < zBh Z a
        · exfalso
          have hbb : ∀ (m i : Nat), i ≤ m → a ≤ i → i < zBh Z a → zBo Z i = k := by
            intro m
            induction m with
            | zero =>
              intro i h1 h2 h3
              have : i = a := by omega
              rw [this]; exact k3
            | succ m ih =>
              intro i h1 h2 h3
              by_cases e : i = a
              · rw [e]; exact k3
              · have hpi := hW.2.2.1 i (by omega) (by omega)
                have hpi2 := hP.1.1 a i (by omega) h3 ha
                rw [(hQ.1 i (by omega)).2.2.1 (by omega), if_neg (by rw [(hst (pj i) (pj i) (Nat.le_refl _) hpi2 (by omega)).2]; simp)]
                exact ih (pj i) (by omega) hpi2 (by omega)
          exact q4 (hbb _ _ (Nat.le_refl _) q2 h)
        · exact d4 q q1 (by omega) q3 q4
  · have e' : a = zBh Z k := by omega
    rw [if_neg e, f_Layout_layCells_73]
    exact ⟨M, by rw [← e']; rfl, by rw [← e']; exact h12, fun j j1 j2 => (by omega), fun q q1 q2 q3 => (by omega), fun _ _ _ _ => rfl, fR_r _ _ _⟩
end CL6
