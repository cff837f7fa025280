/-! layout on the reference's side: all heights, then places -/
section RP
variable {n nc : Nat} {I pj : Nat → Nat} {Z : lT}
def rDn (M : qM) (n nc : Nat) (Z : lT) (m : Nat) : Prop := (∀ i, m ≤ i → i < n → zIb Z i = true → (M.1 31 i = zH Z i ∧ zH Z i = 2 * zV Z i 5 + hCt Z i) ∧ (∀ q, q < nc → Sk Z i q → rLt M i (gOf Z i).2.1 q) ∧ ∀ j, i < j → j < zBh Z i → zBo Z j = i → zIb Z j = true → M.1 32 j = (gOf Z i).2.2 j) ∧ (∀ q, q < nc → zBo Z (zNq Z q) < m → M.1 33 q = 0) ∧ M.1 0 39 = sumF (zNl Z) m (n - m)
def rF7 (M M' : qM) : Prop := ∀ p i, ¬ (p = 0 ∧ (i = 39 ∨ (52 ≤ i ∧ i ≤ 57))) → ¬ (31 ≤ p ∧ p ≤ 37) → M'.1 p i = M.1 p i
theorem rF7_t {M M' M'' : qM} (h : rF7 M M') (h' : rF7 M' M'') : rF7 M M'' := fun p j q1 q2 => by rw [h' p j q1 q2, h p j q1 q2]
theorem rF7_6 {k : Nat} {M M' : qM} (h : rF6 Z k M M') : rF7 M M' := fun p i q1 q2 => h p i q1 (by omega) (by omega) (by omega) (by omega)
theorem rF7_Z {M M' : qM} (h : rF7 M M') : kZ M M' := ⟨⟨h _ _ (by omega) (by omega), h _ _ (by omega) (by omega)⟩, fun p j hp => h _ _ (by omega) (by omega)⟩
theorem rWd_7 {M M' : qM} (h : rWd M n Z) (f : rF7 M M') : rWd M' n Z := fun j hj => by
  obtain ⟨h1, h2, h3, h4⟩ := h j hj
  refine ⟨by rw [f _ _ (by omega) (by omega)]; exact h1, by rw [f _ _ (by omega) (by omega)]; exact h2, fun a => by rw [f _ _ (by omega) (by omega)]; exact h3 a, fun a => ?_⟩
  rw [f _ _ (by omega) (by omega), f _ _ (by omega) (by omega)]
  exact h4 a
theorem sum_cg {f g : Nat → Int32} : ∀ (m a : Nat), (∀ i, a ≤ i → f i = g i) → sumF f a m = sumF g a m
  | 0, _, _ => rfl
  | m + 1, a, h => by rw [sumF, sumF, h a (Nat.le_refl _), sum_cg m (a + 1) fun i hi => h i (by omega)]
theorem hCt_cg {Z Z' : lT} {k : Nat} (h : gOf Z' k = gOf Z k) (h' : zNm Z' k = zNm Z k) : hCt Z' k = hCt Z k := by
  unfold hCt
  rw [h, h']
theorem zNl_cg {Z Z' : lT} {k : Nat} (h : gOf Z' k = gOf Z k) (h' : zIb Z' k = zIb Z k) : zNl Z' k = zNl Z k := by
  unfold zNl
  rw [h, h']
/-- one box more -/
theorem rDn_s {Z Z' : lT} {M M1 : qM} {m : Nat} (hm : m < n) {v : Int32} (hi : zIb Z m = true) (hV : zV Z' = zV Z) (hNm : zNm Z' = zNm Z) (hIb : zIb Z' = zIb Z) (hBo : zBo Z' = zBo Z) (hBh : zBh Z' = zBh Z) (hNq : zNq Z' = zNq Z) (hHm : zH Z' m = v) (hHn : ∀ i, i ≠ m → zH Z' i = zH Z i) (eg : ∀ i, m ≤ i → gOf Z' i = gOf Z i) (h : rDn M n nc Z (m + 1)) (hv : v = 2 * zV Z m 5 + hCt Z m) (c2 : M1.1 31 m = v) (c3 : M1.1 0 39 = sumF (zNl Z) (m + 1) (n - (m + 1)) + uNl (gOf Z m).2.1) (c4 : ∀ q, q < nc → Sk Z m q → rLt M1 m (gOf Z m).2.1 q) (c5 : ∀ i, m < i → i < zBh Z m → zBo Z i = m → zIb Z i = true → M1.1 32 i = (gOf Z m).2.2 i) (c6 : rF6 Z m M M1) : rDn M1 n nc Z' m := by
  obtain ⟨d1, d2, d3⟩ := h
  have ec : ∀ i, m ≤ i → hCt Z' i = hCt Z i := fun i hi => hCt_cg (eg i hi) (by rw [hNm])
  have en : ∀ i, m ≤ i → zNl Z' i = zNl Z i := fun i hi => zNl_cg (eg i hi) (by rw [hIb])
  have hns : n - m = n - (m + 1) + 1 := by omega
  have eSk : ∀ k q, Sk Z' k q ↔ Sk Z k q := fun k q => by
    unfold Sk
    rw [hBo, hNq]
  refine ⟨fun i h1 h2 h3 => ?_, fun q hq hs => ?_, ?_⟩
  · rw [eg i h1, ec i h1, hV, hBo, hIb, hBh]
    rw [hIb] at h3
    by_cases e : i = m
    · rw [e, hHm]
      exact ⟨⟨c2, hv⟩, fun q hq hs => c4 q hq ((eSk m q).mp hs), c5⟩
    · obtain ⟨⟨a1, a2⟩, a3, a4⟩ := d1 i (by omega) h2 h3
      rw [hHn i e]
      refine ⟨⟨?_, a2⟩, fun q hq hs => ?_, fun j j1 j2 j3 j4 => ?_⟩
      · rw [c6 _ _ (by omega) (by omega) (by omega) (by omega) (by omega)]
        exact a1
      · have r := a3 q hq ((eSk i q).mp hs)
        have hne : ¬ Sk Z m q := fun h => e (((eSk i q).mp hs).symm.trans h)
        unfold rLt at r ⊢
        rw [c6 _ _ (by omega) (by omega) (fun h => hne h.2.2) (by omega) (by omega), c6 _ _ (by omega) (by omega) (fun h => hne h.2.2) (by omega) (by omega), c6 _ _ (by omega) (by omega) (fun h => hne h.2.2) (by omega) (by omega), c6 _ _ (by omega) (by omega) (fun h => hne h.2.2) (by omega) (by omega)]
        exact r
      · rw [c6 _ _ (by omega) (by omega) (by omega) (fun h => e (j3.symm.trans h.2.2.1)) (by omega)]
        exact a4 j j1 j2 j3 j4
  · rw [hBo, hNq] at hs
    have hne : ¬ Sk Z m q := fun h => by
      have : zBo Z (zNq Z q) = m := h
      omega
    rw [c6 _ _ (by omega) (by omega) (fun h => hne h.2.2) (by omega) (by omega)]
    exact d2 q hq (by omega)
  · rw [c3, hns, sumF, sum_cg _ (m + 1) (fun i hi => en i (by omega)), en m (Nat.le_refl _), Int32.add_comm, show zNl Z m = uNl (gOf Z m).2.1 from if_pos hi]
theorem l91_0 (K : qM → Option (Int32 × qM)) (f : Nat) (M : qM) : f_Md_layout_91 (f + 1) K (nI 0 - 1) M = K M := by
  rw [f_Md_layout_91, if_pos (by decide)]
/-- other heights, all else the same -/
def zE (Z Z1 : lT) : Prop := (zNm Z1 = zNm Z ∧ zV Z1 = zV Z ∧ zSz Z1 = zSz Z ∧ zLt Z1 = zLt Z ∧ zCd Z1 = zCd Z) ∧ (zIb Z1 = zIb Z ∧ zHd Z1 = zHd Z ∧ zBo Z1 = zBo Z ∧ zL Z1 = zL Z ∧ zW Z1 = zW Z) ∧ zBh Z1 = zBh Z ∧ zNq Z1 = zNq Z
theorem zE_s (Z : lT) (H : Nat → Int32) : zE Z (zsH Z H) ∧ zH (zsH Z H) = H := ⟨⟨⟨rfl, rfl, rfl, rfl, rfl⟩, ⟨rfl, rfl, rfl, rfl, rfl⟩, rfl, rfl⟩, rfl⟩
theorem zsH_t (Z : lT) (H H' : Nat → Int32) : zsH (zsH Z H) H' = zsH Z H' := rfl
theorem zE_W {Z Z1 : lT} (e : zE Z Z1) (h : wZ2 n nc I pj Z) : wZ2 n nc I pj Z1 := by
  obtain ⟨⟨a1, a2, a3, a4, a5⟩, _, a6, a7⟩ := e
  unfold wZ2 at h ⊢
  rw [a1, a2, a3, a4, a5, a6, a7]
  exact h
theorem zE_Z {Z Z1 : lT} {M : qM} (e : zE Z Z1) (h : rZ M n nc I pj Z) : rZ M n nc I pj Z1 := by
  obtain ⟨⟨a1, a2, a3, a4, a5⟩, _, a6, a7⟩ := e
  unfold rZ at h ⊢
  rw [a1, a2, a5, a6, a7]
  exact h
theorem zE_D {Z Z1 : lT} {M : qM} (e : zE Z Z1) (h : rWd M n Z) : rWd M n Z1 := by
  obtain ⟨_, ⟨b1, b2, b3, b4, b5⟩, _, _⟩ := e
  unfold rWd at h ⊢
  rw [b1, b2, b3, b4, b5]
  exact h
/-- a step, all heights but one kept -/
theorem r_91s {Z1 Z2 : lT} (e1 : zE Z Z1) (e2 : zE Z Z2) (hW : wZ2 n nc I pj Z) (hbo : ∀ j, 0 < j → j < n → zBo Z j < j) (h05 : zV Z 0 5 = 0) {m : Nat} (hm : m < n) {M : qM} (hZ : rZ M n nc I pj Z) (hD : rWd M n Z) (hi : zIb Z m = true) (h : rDn M n nc Z1 (m + 1)) (eg : ∀ i, m ≤ i → gOf Z2 i = gOf Z1 i) (hHm : zH Z2 m = 2 * zV Z m 5 + hCt Z1 m) (hHn : ∀ i, i ≠ m → zH Z2 i = zH Z1 i) : ∃ M1, f_Md_heights (nI m) M = some M1 ∧ rDn M1 n nc Z2 m ∧ rF7 M M1 := by
  obtain ⟨⟨a1, a2, a3, a4, a5⟩, ⟨b1, b2, b3, b4, b5⟩, a6, a7⟩ := e1
  obtain ⟨⟨c1, c2, c3, c4, c5⟩, ⟨d1, d2, d3, d4, d5⟩, c6, c7⟩ := e2
  have h' := h
  obtain ⟨q1, q2, q3⟩ := h
  obtain ⟨M1, g1, g2, g3, g4, g5, g6⟩ := r_hts (Z := Z1) (I := I) (pj := pj) (zE_W ⟨⟨a1, a2, a3, a4, a5⟩, ⟨b1, b2, b3, b4, b5⟩, a6, a7⟩ hW) (by rw [b3]; exact hbo) (k := m) hm (by rw [b1]; exact hi) (by rw [a2]; exact h05) (lb := sumF (zNl Z1) (m + 1) (n - (m + 1))) (M := M) ⟨zE_Z ⟨⟨a1, a2, a3, a4, a5⟩, ⟨b1, b2, b3, b4, b5⟩, a6, a7⟩ hZ, zE_D ⟨⟨a1, a2, a3, a4, a5⟩, ⟨b1, b2, b3, b4, b5⟩, a6, a7⟩ hD, fun i h1 h2 h3 => (q1 i (by omega) h2 h3).1.1⟩ q3 (fun q hq hs => q2 q hq (by
    have : zBo Z1 (zNq Z1 q) = m := hs
    omega))
  refine ⟨M1, g1, ?_, rF7_6 g6⟩
  refine rDn_s (Z := Z1) (Z' := Z2) (v := zH Z2 m) hm (by rw [b1]; exact hi) (c2.trans a2.symm) (c1.trans a1.symm) (d1.trans b1.symm) (d3.trans b3.symm) (c6.trans a6.symm) (c7.trans a7.symm) rfl hHn eg h' ?_ ?_ g3 g4 g5 g6
  · rw [hHm, a2]
  · rw [g2, hHm, a2]
theorem r_91 (hW : wZ2 n nc I pj Z) (hbo : ∀ j, 0 < j → j < n → zBo Z j < j) (h05 : zV Z 0 5 = 0) (K : qM → Option (Int32 × qM)) : ∀ (m : Nat) (H : Nat → Int32) (M : qM) (f : Nat), m ≤ n → m < f → rZ M n nc I pj Z → rWd M n Z → rDn M n nc (zsH Z H) m → ∃ M' H', f_Md_layout_91 f K (nI m - 1) M = K M' ∧ rDn M' n nc (zsH Z H') 0 ∧ rF7 M M' := by
  have hn : n ≤ 24 := hW.1.2.1
  intro m
  induction m with
  | zero =>
    intro H M f hm hf hZ hD h
    obtain ⟨f, rfl⟩ : ∃ g, f = g + 1 := ⟨f - 1, by omega⟩
    exact ⟨M, H, l91_0 K f M, h, fun _ _ _ _ => rfl⟩
  | succ m ih =>
    intro H M f hm hf hZ hD h
    obtain ⟨f, rfl⟩ : ∃ g, f = g + 1 := ⟨f - 1, by omega⟩
    have e1 : nI (m + 1) - 1 = nI m := by
      rw [show (1 : Int32) = nI 1 from rfl, g_sub (by omega)]
      rfl
    have e2 : nI m + (-1) = nI m - 1 := (Int32.sub_eq_add_neg _ _).symm
    have hns : n - m = n - (m + 1) + 1 := by omega
    obtain ⟨w1, w2, w3, w4⟩ := hD m (by omega)
    rw [f_Md_layout_91, e1, i_n0 (by omega), g_ix (by omega) (by omega), g_cl (by omega), w2, i_b2, e2]
    by_cases hi : zIb Z m = true
    · rw [if_neg (by rw [hi]; simp)]
      obtain ⟨v, hv⟩ : ∃ v, v = 2 * zV Z m 5 + hCt (zsH Z H) m := ⟨_, rfl⟩
      obtain ⟨x1, y1⟩ := zE_s Z H
      obtain ⟨x2, y2⟩ := zE_s Z (up H m v)
      obtain ⟨Z1, hZ1⟩ : ∃ Z1, Z1 = zsH Z H := ⟨_, rfl⟩
      have eg : ∀ i, m ≤ i → gOf (zsH Z (up H m v)) i = gOf Z1 i := fun i hi => by
        have := gOf_cg Z1 (up H m v) (k := i) (fun j hj => by rw [up_n (by omega), hZ1, y1])
        rw [hZ1, zsH_t] at this
        rw [hZ1]
        exact this
      rw [← hZ1] at h hv x1 y1
      obtain ⟨Z2, hZ2⟩ : ∃ Z2, Z2 = zsH Z (up H m v) := ⟨_, rfl⟩
      rw [← hZ2] at x2 y2 eg
      obtain ⟨M1, c1, c2, c3⟩ := r_91s x1 x2 hW hbo h05 (by omega) hZ hD hi h eg (by rw [y2, up_e]; exact hv) (fun i hi => by rw [y2, up_n hi, y1])
      rw [hZ2] at c2
      obtain ⟨M2, H2, g1, g2, g3⟩ := ih (up H m v) M1 f (by omega) (by omega) (rZ_k hZ (rF7_Z c3)) (rWd_7 hD c3) c2
      refine ⟨M2, H2, ?_, g2, rF7_t c3 g3⟩
      rw [c1, q_cvE, g1]
    · have hi' : zIb Z m = false := Bool.eq_false_iff.mpr hi
      rw [if_pos hi']
      obtain ⟨x1, y1⟩ := zE_s Z H
      obtain ⟨Z1, hZ1⟩ : ∃ Z1, Z1 = zsH Z H := ⟨_, rfl⟩
      refine ih H M f (by omega) (by omega) hZ hD ?_
      rw [← hZ1] at h x1 y1 ⊢
      obtain ⟨d1, d2, d3⟩ := h
      have hib : zIb Z1 m = false := by rw [x1.2.1.1]; exact hi'
      refine ⟨fun i h1 h2 h3 => ?_, fun q hq hs => d2 q hq (Nat.lt_succ_of_lt hs), ?_⟩
      · by_cases e : i = m
        · rw [e, hib] at h3
          cases h3
        · exact d1 i (by omega) h2 h3
      · rw [d3, hns, sumF, show zNl Z1 m = 0 from if_neg (by rw [hib]; simp), Int32.zero_add]
/-! places -/
theorem r_p9 (hW : wZ2 n nc I pj Z) (hbo : ∀ j, 0 < j → j < n → zBo Z j < j) (h05 : zV Z 0 5 = 0) (K : qM → Option qM) (Tr : Nat → Int32) : ∀ (m j f : Nat) (M : qM), j + m = n → 0 < j → m < f → rZ M n nc I pj Z → rWd M n Z → (∀ i, 0 < i → i < j → zIb Z i = true → M.1 32 i = Tr i + (M.1 32 (zBo Z i) + zV Z (zBo Z i) 5)) → (∀ i, j ≤ i → i < n → zIb Z i = true → M.1 32 i = Tr i) → ∃ M', f_Md_places_9 f K (nI j) M = K M' ∧ (∀ i, 0 < i → i < n → zIb Z i = true → M'.1 32 i = Tr i + (M'.1 32 (zBo Z i) + zV Z (zBo Z i) 5)) ∧ (∀ p i, ¬ (p = 32 ∧ j ≤ i) → M'.1 p i = M.1 p i) := by
  have hn : n ≤ 24 := hW.1.2.1
  intro m
  induction m with
  | zero =>
    intro j f M hj h0 hf hZ hD ha hb
    obtain ⟨f, rfl⟩ : ∃ g, f = g + 1 := ⟨f - 1, by omega⟩
    refine ⟨M, ?_, fun i h1 h2 h3 => ha i h1 (by omega) h3, fun _ _ _ => rfl⟩
    rw [f_Md_places_9, hZ.1.1, i_le (by omega) (by omega), if_pos (by omega)]
  | succ m ih =>
    intro j f M hj h0 hf hZ hD ha hb
    obtain ⟨f, rfl⟩ : ∃ g, f = g + 1 := ⟨f - 1, by omega⟩
    obtain ⟨w1, w2, w3, w4⟩ := hD j (by omega)
    have w3 := w3 h0
    have hbj := hbo j h0 (by omega)
    rw [f_Md_places_9, hZ.1.1, i_le (by omega) (by omega), if_neg (by omega), g_ix (by omega) (by omega), g_cl (by omega), w2, i_b2, g_inc]
    by_cases hi : zIb Z j = true
    · rw [if_neg (by rw [hi]; simp)]
      have hbd : f_Md_border (nI (zBo Z j)) 5 M = some (zV Z (zBo Z j) 5) := r_bor (p := 5) (by omega) (by omega) ((hZ.2.1 (zBo Z j) (by omega)).2.2.2.1 5 (by omega)) (fun h => by rw [h]; exact h05)
      rw [g_ix (by omega) (by omega), g_ix (by omega) (by omega), w3, g_ix (by omega) (by omega), g_ix (by omega) (by omega), hbd, q_bpE, g_ix (by omega) (by omega), g_cl (by omega), hb j (Nat.le_refl _) (by omega) hi, q_ltE]
      have kk : ∀ p i, ¬ (p = 32 ∧ i = j) → (qsI M 32 j (Tr j + (M.1 32 (zBo Z j) + zV Z (zBo Z j) 5))).1 p i = M.1 p i := fun p i h => g_In h
      obtain ⟨M', e1, e2, e3⟩ := ih (j + 1) f _ (by omega) (by omega) (by omega) (rZ_k hZ ⟨⟨kk _ _ (by omega), kk _ _ (by omega)⟩, fun p i hp => kk _ _ (by omega)⟩) (fun i hi => by
          rw [kk _ _ (by omega), kk _ _ (by omega), kk _ _ (by omega), kk _ _ (by omega), kk _ _ (by omega)]
          exact hD i hi) (fun i h1 h2 h3 => by
          have := hbo i h1 (by omega)
          by_cases e : i = j
          · rw [e, g_Ie ⟨rfl, rfl⟩, kk _ _ (by omega)]
          · rw [kk _ _ (by omega), kk _ _ (by omega)]
            exact ha i h1 (by omega) h3) (fun i h1 h2 h3 => by rw [kk _ _ (by omega)]; exact hb i (by omega) h2 h3)
      exact ⟨M', e1, e2, fun p i h => by rw [e3 p i (by omega), kk p i (by omega)]⟩
    · have hi' : zIb Z j = false := Bool.eq_false_iff.mpr hi
      rw [if_pos hi']
      obtain ⟨M', e1, e2, e3⟩ := ih (j + 1) f M (by omega) (by omega) (by omega) hZ hD (fun i h1 h2 h3 => by
          by_cases e : i = j
          · rw [e] at h3; exact absurd h3 hi
          · exact ha i h1 (by omega) h3) (fun i h1 h2 h3 => hb i (by omega) h2 h3)
      exact ⟨M', e1, e2, fun p i h => e3 p i (by omega)⟩
theorem r_p66 (hW : wZ2 n nc I pj Z) (hbo : ∀ j, 0 < j → j < n → zBo Z j < j) (h05 : zV Z 0 5 = 0) (K : qM → Option qM) (Px : Nat → Option Int32) (Py Ta : Nat → Int32) : ∀ (m x f : Nat) (M : qM), x + m = nc → m < f → rZ M n nc I pj Z → (∀ i, i < n → M.1 32 i = Ta i) → (∀ q, q < nc → M.1 33 q = b2 (Px q).isSome ∧ ∀ v, Px q = some v → M.1 34 q = v ∧ M.1 36 q = nI (zBo Z (zNq Z q)) ∧ M.1 35 q = if q < x then Py q + (Ta (zBo Z (zNq Z q)) + zV Z (zBo Z (zNq Z q)) 5) else Py q) → ∃ M', f_Md_places_66 f K (nI x) M = K M' ∧ (∀ q, q < nc → M'.1 33 q = b2 (Px q).isSome ∧ ∀ v, Px q = some v → M'.1 34 q = v ∧ M'.1 35 q = Py q + (Ta (zBo Z (zNq Z q)) + zV Z (zBo Z (zNq Z q)) 5)) ∧ (∀ p i, ¬ p = 35 → M'.1 p i = M.1 p i) := by
  have hn : n ≤ 24 := hW.1.2.1
  have hnc : nc ≤ 160 := hW.1.2.2
  intro m
  induction m with
  | zero =>
    intro x f M hx hf hZ hT hq
    obtain ⟨f, rfl⟩ : ∃ g, f = g + 1 := ⟨f - 1, by omega⟩
    refine ⟨M, ?_, fun q h => ⟨(hq q h).1, fun v hv => ?_⟩, fun _ _ _ => rfl⟩
    · rw [f_Md_places_66, hZ.1.2, i_le (by omega) (by omega), if_pos (by omega)]
    · obtain ⟨a1, a2, a3⟩ := (hq q h).2 v hv
      rw [if_pos (by omega)] at a3
      exact ⟨a1, a3⟩
  | succ m ih =>
    intro x f M hx hf hZ hT hq
    obtain ⟨f, rfl⟩ : ∃ g, f = g + 1 := ⟨f - 1, by omega⟩
    have b1 := (hq x (by omega)).1
    rw [f_Md_places_66, hZ.1.2, i_le (by omega) (by omega), if_neg (by omega), g_ix (by omega) (by omega), g_cl (by omega), b1, i_b2, g_inc]
    cases hp : Px x with
    | none =>
      rw [if_pos (show (none : Option Int32).isSome = false from rfl)]
      refine ih (x + 1) f M (by omega) (by omega) hZ hT fun q h => ⟨(hq q h).1, fun v hv => ?_⟩
      obtain ⟨a1, a2, a3⟩ := (hq q h).2 v hv
      refine ⟨a1, a2, ?_⟩
      rw [a3]
      by_cases e : q = x
      · rw [e, hp] at hv; cases hv
      · by_cases e2 : q < x
        · rw [if_pos e2, if_pos (by omega)]
        · rw [if_neg e2, if_neg (by omega)]
    | some v =>
      rw [if_neg (by simp)]
      obtain ⟨a1, a2, a3⟩ := (hq x (by omega)).2 v hp
      rw [if_neg (by omega)] at a3
      obtain ⟨_, c2, c3, _⟩ := hW.2.2.2.1 x (by omega)
      have hbj := hbo _ c2 c3
      have hbd : f_Md_border (nI (zBo Z (zNq Z x))) 5 M = some (zV Z (zBo Z (zNq Z x)) 5) := r_bor (p := 5) (by omega) (by omega) ((hZ.2.1 (zBo Z (zNq Z x)) (by omega)).2.2.2.1 5 (by omega)) (fun h => by rw [h]; exact h05)
      rw [g_ix (by omega) (by omega), g_ix (by omega) (by omega), a2, g_ix (by omega) (by omega), g_ix (by omega) (by omega), hbd, q_bpE, g_ix (by omega) (by omega), g_cl (by omega), hT _ (by omega), a3, q_ltE]
      have kk : ∀ p i, ¬ (p = 35 ∧ i = x) → (qsI M 35 x (Py x + (Ta (zBo Z (zNq Z x)) + zV Z (zBo Z (zNq Z x)) 5))).1 p i = M.1 p i := fun p i h => g_In h
      obtain ⟨M', e1, e2, e3⟩ := ih (x + 1) f _ (by omega) (by omega) (rZ_k hZ ⟨⟨kk _ _ (by omega), kk _ _ (by omega)⟩, fun p i hp => kk _ _ (by omega)⟩) (fun i hi => by rw [kk _ _ (by omega)]; exact hT i hi) (fun q h => by
        refine ⟨by rw [kk _ _ (by omega)]; exact (hq q h).1, fun w hw => ?_⟩
        obtain ⟨d1, d2, d3⟩ := (hq q h).2 w hw
        refine ⟨by rw [kk _ _ (by omega)]; exact d1, by rw [kk _ _ (by omega)]; exact d2, ?_⟩
        by_cases e : q = x
        · rw [e, g_Ie ⟨rfl, rfl⟩, if_pos (by omega)]
        · rw [kk _ _ (by omega), d3]
          by_cases e2 : q < x
          · rw [if_pos e2, if_pos (by omega)]
          · rw [if_neg e2, if_neg (by omega)])
      exact ⟨M', e1, e2, fun p i h => by rw [e3 p i h, kk p i (by omega)]⟩
end RP
