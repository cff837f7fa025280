/-! layout on the class's side, whole -/
section CLW
variable {n nc : Nat} {I pj dp : Nat → Nat} {Z : lT} {Ta : Nat → Int32} {w : Int32}
theorem t_l15 (hn : n ≤ 24) (hI : ∀ k, k < n → I k < 24) (K : qM → Option qM) : ∀ (m x f : Nat) (M : qM), x + m = n → m < f → M.1 1 5 = nI n → (∀ k, k < n → M.2 3 k = some (7 + 5 * I k)) → (∀ k, k < x → M.1 (7 + 5 * I k + 4) 0 = 0) → ∃ M', f_Layout_lay_15 f K (nI x) M = K M' ∧ (∀ k, k < n → M'.1 (7 + 5 * I k + 4) 0 = 0) ∧ (∀ p j, ¬ (∃ i, i < n ∧ p = 7 + 5 * I i + 4 ∧ j = 0) → M'.1 p j = M.1 p j) ∧ M'.2 = M.2 := by
  intro m
  induction m with
  | zero =>
    intro x f M hx hf h5 h3 h
    obtain ⟨f, rfl⟩ : ∃ g, f = g + 1 := ⟨f - 1, by omega⟩
    refine ⟨M, ?_, fun k hk => h k (by omega), fun _ _ _ => rfl, rfl⟩
    rw [f_Layout_lay_15, h5, i_le (by omega) (by omega), if_pos (by omega)]
  | succ m ih =>
    intro x f M hx hf h5 h3 h
    obtain ⟨f, rfl⟩ : ∃ g, f = g + 1 := ⟨f - 1, by omega⟩
    have hIx := hI x (by omega)
    have kk : ∀ p j, ¬ (p = 7 + 5 * I x + 4 ∧ j = 0) → (qsI M (7 + 5 * I x + 4) 0 0).1 p j = M.1 p j := fun p j h => g_In h
    obtain ⟨M', e1, e2, e3, e4⟩ := ih (x + 1) f (qsI M (7 + 5 * I x + 4) 0 0) (by omega) (by omega) (by rw [kk _ _ (by omega)]; exact h5) h3 (fun k hk => by
      by_cases e : I k = I x
      · rw [e]; exact g_Ie ⟨rfl, rfl⟩
      · rw [kk _ _ (by omega)]
        exact h k (by
          by_cases q : k = x
          · rw [q] at e; exact absurd rfl e
          · omega))
    refine ⟨M', ?_, e2, fun p j hp => by rw [e3 p j hp, kk p j (fun h => hp ⟨x, by omega, h⟩)], by rw [e4]; rfl⟩
    rw [f_Layout_lay_15, h5, i_le (by omega) (by omega), if_neg (by omega), g_ix (by omega) (by omega), g_cl (by omega), h3 x (by omega), q_ltE, q_nnE, q_ltE, g_inc]
    exact e1
theorem t_l44 (hnc : nc ≤ 160) (K : qM → Option qM) : ∀ (m x f : Nat) (M : qM), x + m = nc → m < f → M.1 1 6 = nI nc → (∀ q, q < x → M.1 (127 + q) 2 = 0) → ∃ M', f_Layout_lay_44 f K (nI x) M = K M' ∧ (∀ q, q < nc → M'.1 (127 + q) 2 = 0) ∧ (∀ p j, ¬ (127 ≤ p ∧ p < 127 + nc ∧ j = 2) → M'.1 p j = M.1 p j) ∧ M'.2 = M.2 := by
  intro m
  induction m with
  | zero =>
    intro x f M hx hf h6 h
    obtain ⟨f, rfl⟩ : ∃ g, f = g + 1 := ⟨f - 1, by omega⟩
    refine ⟨M, ?_, fun k hk => h k (by omega), fun _ _ _ => rfl, rfl⟩
    rw [f_Layout_lay_44, h6, i_le (by omega) (by omega), if_pos (by omega)]
  | succ m ih =>
    intro x f M hx hf h6 h
    obtain ⟨f, rfl⟩ : ∃ g, f = g + 1 := ⟨f - 1, by omega⟩
    have kk : ∀ p j, ¬ (p = 127 + x ∧ j = 2) → (qsI M (127 + x) 2 0).1 p j = M.1 p j := fun p j h => g_In h
    obtain ⟨M', e1, e2, e3, e4⟩ := ih (x + 1) f (qsI M (127 + x) 2 0) (by omega) (by omega) (by rw [kk _ _ (by omega)]; exact h6) (fun q hq => by
      by_cases e : q = x
      · rw [e]; exact g_Ie ⟨rfl, rfl⟩
      · rw [kk _ _ (by omega)]
        exact h q (by omega))
    refine ⟨M', ?_, e2, fun p j hp => by rw [e3 p j hp, kk p j (by omega)], by rw [e4]; rfl⟩
    rw [f_Layout_lay_44, h6, i_le (by omega) (by omega), if_neg (by omega), g_ix (by omega) (by omega), g_cl (by omega), q_ltE, q_ltE, g_inc]
    exact e1
def cLd (M : qM) (n nc : Nat) (I : Nat → Nat) (Z : lT) (Ta : Nat → Int32) : Prop := M.1 365 12 = sumF (zNl Z) 0 n ∧ (∀ i, i < n → (zIb Z i = true → cBf M I Z Ta i) ∧ (zIb Z i = false → M.1 (7 + 5 * I i + 4) 0 = 0)) ∧ ∀ q, q < nc → cLf M Z Ta q
theorem t_layW (hV : EV n nc I pj dp Z Ta w) (hI0 : I 0 = 0) (hb0 : zBh Z 0 = n) (h4 : zV Z 0 4 = 0) (h6 : zV Z 0 6 = -1) (hw0 : 0 ≤ w) {M : qM} (hS : cZs M n nc I pj Z) (h3 : ∀ k, k < n → M.2 3 k = some (7 + 5 * I k)) : ∃ M', f_Layout_lay w M = some M' ∧ cLd M' n nc I Z Ta ∧ M'.1 364 1 = w ∧ (∀ p j, ¬ (p = 364 ∧ j = 1) → ¬ p = 365 → ¬ (∃ i, i < n ∧ p = 7 + 5 * I i + 4) → ¬ (127 ≤ p ∧ p < 287 ∧ 2 ≤ j ∧ j ≤ 5) → M'.1 p j = M.1 p j) ∧ ∀ p j, ¬ p = 366 → M'.2 p j = M.2 p j := by
  have hV' := hV
  obtain ⟨hW, hP, hQ, hT⟩ := hV
  have hn : n ≤ 24 := hW.1.2.1
  have hn1 : 1 ≤ n := hW.1.1
  have hnc : nc ≤ 160 := hW.1.2.2
  have hI : ∀ k, k < n → I k < 24 := fun k hk => (hW.2.1 k hk).1
  have k0 : ∀ p j, ¬ (p = 364 ∧ j = 1) → ¬ (p = 365 ∧ j = 12) → (qsI (qsI M 364 1 w) 365 12 0).1 p j = M.1 p j := fun p j h1 h2 => by rw [g_In h2, g_In h1]
  obtain ⟨M1, a1, a2, a3, a4⟩ := t_l15 (I := I) hn hI (fun (M11 : qM) => f_Layout_lay_44 1000 (fun (M19 : qM) => q_cv (f_Layout_layBox 27 7 0 0 w 0 M19) fun M20 => some M20) 0 M11) n 0 1000 (qsI (qsI M 364 1 w) 365 12 0) (by omega) (by omega) (by rw [k0 _ _ (by omega) (by omega)]; exact hS.1.1) h3 (fun k hk => (by omega))
  have k1 : ∀ p j, ¬ (p = 364 ∧ j = 1) → ¬ (p = 365 ∧ j = 12) → ¬ (∃ i, i < n ∧ p = 7 + 5 * I i + 4) → M1.1 p j = M.1 p j := fun p j q1 q2 q3 => by rw [a3 p j (fun ⟨i, h1, h2, _⟩ => q3 ⟨i, h1, h2⟩), k0 p j q1 q2]
  obtain ⟨M2, b1, b2', b3, b4⟩ := t_l44 hnc (fun (M19 : qM) => q_cv (f_Layout_layBox 27 7 0 0 w 0 M19) fun M20 => some M20) nc 0 1000 M1 (by omega) (by omega) (by rw [k1 _ _ (by omega) (by omega) (fun ⟨i, _, e⟩ => (by omega))]; exact hS.1.2) (fun q hq => (by omega))
  have k2 : ∀ p j, ¬ (p = 364 ∧ j = 1) → ¬ (p = 365 ∧ j = 12) → ¬ (∃ i, i < n ∧ p = 7 + 5 * I i + 4) → ¬ (127 ≤ p ∧ p < 127 + nc ∧ j = 2) → M2.1 p j = M.1 p j := fun p j q1 q2 q3 q4 => by rw [b3 p j q4, k1 p j q1 q2 q3]
  have r2 : M2.2 = M.2 := by rw [b4, a4]; rfl
  have hS2 : cZs M2 n nc I pj Z := by
    refine ⟨⟨by rw [k2 _ _ (by omega) (by omega) (fun ⟨i, _, e⟩ => (by omega)) (by omega)]; exact hS.1.1, by rw [k2 _ _ (by omega) (by omega) (fun ⟨i, _, e⟩ => (by omega)) (by omega)]; exact hS.1.2⟩, fun k hk => ?_⟩
    obtain ⟨c1, c2, c3, c4, c5, c6⟩ := hS.2 k hk
    have hIk := hI k hk
    refine ⟨by rw [k2 _ _ (by omega) (by omega) (fun ⟨i, _, e⟩ => (by omega)) (by omega)]; exact c1, fun hm p hp => by rw [k2 _ _ (by omega) (by omega) (fun ⟨i, _, e⟩ => (by omega)) (by omega)]; exact c2 hm p hp, by rw [r2]; exact c3, by rw [r2]; exact c4, fun h0 => by rw [r2]; exact c5 h0, fun A q B e => ?_⟩
    have hq := (lt_pl hW hk q (by rw [e]; simp)).1
    obtain ⟨d1, d2⟩ := c6 A q B e
    exact ⟨by rw [k2 _ _ (by omega) (by omega) (fun ⟨i, hi, e⟩ => by have := hI i hi; omega) (by omega)]; exact d1, by rw [r2]; exact d2⟩
  have hib0 := ib_0 hW hP (hQ.1 0 (by omega))
  obtain ⟨w1, w2⟩ := (hQ.1 0 (by omega)).2.2.2.1 rfl
  have hdp0 := hT.2.2.1.1
  have ew : wdF w (zV Z 0 4) (zV Z 0 5) (zV Z 0 6) = w := by
    unfold wdF
    have e : w - 2 * zV Z 0 4 - 2 * zV Z 0 5 = w := by
      rw [h4, hP.2.2.1.1]
      show w - 2 * 0 - 2 * 0 = w
      rw [Int32.mul_zero, Int32.sub_zero, Int32.sub_zero]
    rw [if_pos h6, e, if_pos hw0]
  obtain ⟨M', c1, c2, c3, c4, c5⟩ := t_box hV' (zBh Z 0) 0 27 0 w M2 (by omega) hib0 (by omega) (by omega) (by rw [w1, h4]; rfl) (by rw [w2, ew]) hS2 (fun q q1 q2 q3 => b2' q q1)
  rw [hI0, hQ.2.2.1, hdp0] at c1
  rw [hb0] at c2 c3 c4 c5
  refine ⟨M', ?_, ⟨?_, fun i hi => ⟨fun h => c2 i (by omega) hi h, fun h => ?_⟩, fun q hq => c3 q hq (by omega) (hW.2.2.2.1 q hq).2.2.1⟩, ?_, fun p j q1 q2 q3 q4 => ?_, fun p j q => by rw [c5.2 p j q, r2]⟩
  · unfold f_Layout_lay
    rw [q_ltE, q_ltE]
    refine Eq.trans a1 ?_
    refine Eq.trans b1 ?_
    have c1' : f_Layout_layBox 27 7 0 0 w 0 M2 = some M' := c1
    rw [c1', q_cvE]
  · rw [c4, b3 _ _ (by omega), a3 _ _ (fun ⟨i, hi, e, _⟩ => by have := hI i hi; omega), g_Ie ⟨rfl, rfl⟩, Int32.zero_add, Nat.sub_zero]
  · have hIi := hI i hi
    have nx : ¬ (∃ i', 0 ≤ i' ∧ i' < n ∧ i' < n ∧ zIb Z i' = true ∧ 7 + 5 * I i + 4 = 7 + 5 * I i' + 4) := fun ⟨i', _, _, h3, h4, h5⟩ => by
      have := hW.2.2.2.2.1 i' i h3 hi (by omega)
      rw [this, h] at h4
      cases h4
    rw [c5.1 _ _ (by omega) nx (fun ⟨q, hq, _, _, e, _⟩ => (by omega)), b3 _ _ (by omega)]
    exact a2 i hi
  · rw [c5.1 _ _ (by omega) (fun ⟨i, _, _, hi, _, e⟩ => by have := hI i hi; omega) (fun ⟨q, hq, _, _, e, _⟩ => (by omega)), b3 _ _ (by omega), a3 _ _ (fun ⟨i, hi, e, _⟩ => by have := hI i hi; omega), g_In (by omega), g_Ie ⟨rfl, rfl⟩]
  · rw [c5.1 _ _ q2 (fun ⟨i, _, _, hi, _, e⟩ => q3 ⟨i, hi, e⟩) (fun ⟨q, hq, _, _, e, e2, e3⟩ => q4 (by omega)), k2 _ _ q1 (by omega) q3 (by omega)]
end CLW
