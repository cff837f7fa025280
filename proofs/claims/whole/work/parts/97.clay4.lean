/-! layout on the class's side: a box below -/
section CL4
variable {n nc : Nat} {I pj dp : Nat → Nat} {Z : lT} {Ta : Nat → Int32} {w : Int32}
def LBp (n nc : Nat) (I pj dp : Nat → Nat) (Z : lT) (Ta : Nat → Int32) (m : Nat) : Prop := ∀ (i db : Nat) (x wd : Int32) (M : qM), i < n → zIb Z i = true → zBh Z i - i ≤ m → 27 ≤ db + dp i → zL Z i = x + zV Z i 4 → zW Z i = wdF wd (zV Z i 4) (zV Z i 5) (zV Z i 6) → cZs M n nc I pj Z → (∀ q, q < nc → i ≤ zNq Z q → zNq Z q < zBh Z i → M.1 (127 + q) 2 = 0) → ∃ M', f_Layout_layBox db (7 + 5 * I i) x (Ta i) wd (nI (dp i)) M = some M' ∧ (∀ j, i ≤ j → j < zBh Z i → zIb Z j = true → cBf M' I Z Ta j) ∧ (∀ q, q < nc → i ≤ zNq Z q → zNq Z q < zBh Z i → cLf M' Z Ta q) ∧ M'.1 365 12 = M.1 365 12 + sumF (zNl Z) i (zBh Z i - i) ∧ fR n nc I Z i (zBh Z i) M M'
theorem cUx_m {M : qM} {k : Nat} {off lb : Int32} {Sc : Nat → Prop} {u : uT} {b b' : Nat} (h : cUx M nc Z k off lb Sc u b) (hb : b ≤ b') : cUx M nc Z k off lb Sc u b' := by
  obtain ⟨rw, ls, ws, h1, h2, h3⟩ := h
  exact ⟨rw, ls, ws, h1, by omega, h3⟩
theorem in_box (hV : EV n nc I pj dp Z Ta w) {a q : Nat} (ha : a < n) (hib : zIb Z a = true) (hq : q < nc) (h1 : a ≤ zNq Z q) (h2 : zNq Z q < zBh Z a) : a < zNq Z q ∧ a ≤ zBo Z (zNq Z q) := by
  obtain ⟨hW, hP, hQ, hT⟩ := hV
  have hn1 : zNm Z (zNq Z q) = 1 := hT.2.2.2.2.2 q hq
  have hne : a ≠ zNq Z q := fun e => (ib_h hQ.1 ha hib).2.1 (by rw [e]; exact hn1)
  exact ⟨by omega, bo_st hW hP hQ.1 ha hib _ _ (Nat.le_refl _) (by omega) h2⟩
theorem t_below (hV : EV n nc I pj dp Z Ta w) {m k a p db : Nat} (hB : LBp n nc I pj dp Z Ta m) (hk : k < n) (ha : a < n) (hka : k < a) (hak : a < zBh Z k) (hib : zIb Z a = true) (hbo : zBo Z a = k) (hpj : pj a = p) (hr : zNm Z k ≠ 114) (hm : zBh Z a - a ≤ m) (hdb : 26 ≤ db + dp p) {L0 : Int32} {M : qM} (hS : cZs M n nc I pj Z) (hG : SG M nc I Z Ta k a L0) (hz : ∀ q, q < nc → a ≤ zNq Z q → zNq Z q < zBh Z a → M.1 (127 + q) 2 = 0) : ∃ M', f_Layout_layBelow (f_Layout_layBox db) (7 + 5 * I a) (7 + 5 * I k + 4) (nI (dp p)) M = some M' ∧ SG M' nc I Z Ta k (zBh Z a) L0 ∧ (∀ j, a ≤ j → j < zBh Z a → zIb Z j = true → cBf M' I Z Ta j) ∧ (∀ q, q < nc → a ≤ zNq Z q → zNq Z q < zBh Z a → cLf M' Z Ta q) ∧ fK n nc I Z k a (zBh Z a) M M' := by
  have hV' := hV
  obtain ⟨hW, hP, hQ, hT⟩ := hV
  have hnc : nc ≤ 160 := hW.1.2.2
  obtain ⟨hIk, hnmk, _, hbhk, _⟩ := hW.2.1 k hk
  obtain ⟨hIa, hnma, hbha, hbha2, _⟩ := hW.2.1 a ha
  obtain ⟨⟨b1, b2', b3, b4⟩, hU⟩ := hG
  have h160 := iL_160 hW k (m := a - (k + 1)) (a := k + 1) (by omega)
  obtain ⟨M1, e1, e2, e3, e4, e5⟩ := t_endI (B := 7 + 5 * I k + 4) hnc (by omega) h160 hU
  obtain ⟨gF, hgF⟩ : ∃ gF, gF = gFl Z k (gAt Z k (a - (k + 1))) := ⟨_, rfl⟩
  have u1 : gF.2.1 = uEnd (zSz Z) (zCl Z k) (zW Z k) (gAt Z k (a - (k + 1))).2.1 := by
    rw [hgF]
    unfold gFl
    by_cases q : uHs (uEnd (zSz Z) (zCl Z k) (zW Z k) (gAt Z k (a - (k + 1))).2.1) = true
    · rw [if_pos q]
    · rw [if_neg q]
  have u8 : M1.1 (7 + 5 * I k + 4) 8 = oF Z Ta k + gF.1.1 := by
    rw [e3, hgF]
    unfold gFl
    by_cases q : uHs (uEnd (zSz Z) (zCl Z k) (zW Z k) (gAt Z k (a - (k + 1))).2.1) = true
    · rw [if_pos q, if_pos q]
    · rw [if_neg q, if_neg q, b3]
  have u9 : M1.1 (7 + 5 * I k + 4) 9 = gF.1.2.1 := by
    rw [e4, hgF]
    unfold gFl
    by_cases q : uHs (uEnd (zSz Z) (zCl Z k) (zW Z k) (gAt Z k (a - (k + 1))).2.1) = true
    · rw [if_pos q, if_pos q]
    · rw [if_neg q, if_neg q, b4]
  rw [← u1] at e2
  have f1 : fK n nc I Z k a (zBh Z a) M M1 := fK_2 e5
  have hS1 := cZs_K hW hk hS f1
  have u5 : M1.1 (7 + 5 * I k + 4) 5 = zCl Z k := by rw [e5.1 _ _ (by omega) (fun ⟨q, _, _, e, _⟩ => (by omega)) (by omega)]; exact b1
  have u7 : M1.1 (7 + 5 * I k + 4) 7 = zW Z k := by rw [e5.1 _ _ (by omega) (fun ⟨q, _, _, e, _⟩ => (by omega)) (by omega)]; exact b2'
  have hnm1 := (ib_h hQ.1 ha hib).2.1
  have v4 : M1.1 (7 + 5 * I a + 3) 4 = zV Z a 4 := (hS1.2 a ha).2.1 hnm1 4 (by omega)
  have tTa : Ta a = oF Z Ta k + gTp Z k a gF := by rw [hgF]; exact ta_of hQ ha hka hak hbo hib
  have tp : gTp Z k a gF = gF.1.1 + mx gF.1.2.1 (zV Z a 4) := if_neg hr
  have ecw : cWb pj Z (zBo Z a) a = (zCl Z k, zW Z k) := by
    rw [hbo]
    exact if_neg hr
  obtain ⟨w1, w2⟩ := (hQ.1 a ha).2.2.2.2 (by omega) hib
  rw [ecw] at w1 w2
  have hdp : dp a = dp p + 1 := by rw [hT.2.2.1.2 a (by omega) ha, hpj]
  have nS : ∀ q, q < nc → a ≤ zNq Z q → zNq Z q < zBh Z a → zBo Z (zNq Z q) ≠ k := fun q h1 h2 h3 => by
    have := (in_box hV' ha hib h1 h2 h3).2
    omega
  obtain ⟨M5, c1, c2, c3, c4, c5⟩ := hB a db (zCl Z k) (zW Z k) M1 ha hib hm (by omega) w1 w2 hS1 (fun q h1 h2 h3 => by
    rw [e5.1 _ _ (by omega) (fun ⟨q', _, hs, e, _⟩ => by
      have : q' = q := by omega
      rw [this] at hs
      exact nS q h1 h2 h3 hs.2) (by omega)]
    exact hz q h1 h2 h3)
  have hinj : ∀ j, a ≤ j → j < zBh Z a → I j ≠ I k := fun j h1 h2 h => by
    have := hW.2.2.2.2.1 j k (by omega) hk h
    omega
  have nB : ¬ (∃ i, a ≤ i ∧ i < zBh Z a ∧ i < n ∧ zIb Z i = true ∧ 7 + 5 * I k + 4 = 7 + 5 * I i + 4) := fun ⟨i, h1, h2, _, _, e⟩ => hinj i h1 h2 (by omega)
  have k5 : ∀ j, M5.1 (7 + 5 * I k + 4) j = M1.1 (7 + 5 * I k + 4) j := fun j => c5.1 _ _ (by omega) nB (fun ⟨q, hq, _, _, e, _⟩ => (by omega))
  have h4 : M5.1 (7 + 5 * I a + 4) 4 = zH Z a := (c2 a (Nat.le_refl _) hbha hib).2.2.2.2
  have kk : ∀ p j, ¬ (p = 7 + 5 * I k + 4 ∧ (j = 8 ∨ j = 9)) → (qsI (qsI M5 (7 + 5 * I k + 4) 8 (Ta a + zH Z a)) (7 + 5 * I k + 4) 9 (zV Z a 4)).1 p j = M5.1 p j := fun p j h => by rw [g_In (by omega), g_In (by omega)]
  have lq : ∀ q, q < nc → Sn Z nc k q → ∀ x, M5.1 (127 + q) x = M1.1 (127 + q) x := fun q hq hs x => c5.1 _ _ (by omega) (fun ⟨i, _, _, hi, _, e⟩ => by have := (hW.2.1 i hi).1; omega) (fun ⟨q', h1, h2, h3, e, _⟩ => by
    have : q' = q := by omega
    rw [this] at h2 h3
    exact nS q hq h2 h3 hs.2)
  obtain ⟨M', d1, d2, d3, d4⟩ := t_beg (Z := Z) (k := k) (B := 7 + 5 * I k + 4) (off := oF Z Ta k) (lb := L0 + sumF (zNl Z) (k + 1) (zBh Z a - (k + 1))) (e := gTp Z k a gF + zH Z a) (l := zV Z a 4) (nl := uNl gF.2.1) (px := uPx gF.2.1) (py := uPy gF.2.1) (Sc := Sn Z nc k) (M := qsI (qsI M5 (7 + 5 * I k + 4) 8 (Ta a + zH Z a)) (7 + 5 * I k + 4) 9 (zV Z a 4)) hnc (by omega) (by rw [kk _ _ (by omega), k5]; exact u5) (by rw [kk _ _ (by omega), k5]; exact u7) (by rw [g_In (by omega), g_Ie ⟨rfl, rfl⟩, tTa, Int32.add_assoc]) (g_Ie ⟨rfl, rfl⟩) (by
      rw [kk _ _ (by omega), c4, e2.1, show zBh Z a - (k + 1) = (a - (k + 1)) + (zBh Z a - a) by omega, sum_add, show k + 1 + (a - (k + 1)) = a by omega, Int32.add_assoc, Int32.add_assoc, Int32.add_assoc, Int32.add_assoc, Int32.add_comm (uNl gF.2.1)]) (fun y q hq hs => by
      have l := e2.2 q hq hs
      have hl : uLn gF.2.1 = [] := by rw [hgF]; exact gFl_ln Z k _
      refine ⟨by rw [kk _ _ (by omega), lq q hq hs]; exact l.1, fun x hx => ?_⟩
      obtain ⟨l1, l2, l3⟩ := l.2 x hx
      exact ⟨by rw [kk _ _ (by omega), lq q hq hs]; exact l1, by rw [kk _ _ (by omega), lq q hq hs]; exact l2, fun _ => by rw [kk _ _ (by omega), lq q hq hs]; exact l3 (by rw [hl]; exact List.not_mem_nil)⟩)
  have kM : ∀ p j, ¬ p = 365 → ¬ (p = 7 + 5 * I k + 4 ∧ (j = 8 ∨ j = 9)) → M'.1 p j = M5.1 p j := fun p j h1 h2 => by rw [d3 p j h1, kk p j h2]
  have etk : tkR Z k a (zBh Z a - a) = [(3, a)] := by
    rw [show zBh Z a - a = (zBh Z a - (a + 1)) + 1 by omega, tkR_s, tkR_0 (fun i h1 h2 => tk_n (by
      have := bo_st hW hP hQ.1 ha hib i i (Nat.le_refl _) (by omega) (by omega)
      omega))]
    unfold tkF
    rw [if_pos hbo, if_pos hib]
    rfl
  have eg : gAt Z k (zBh Z a - (k + 1)) = gBx Z k a gF := by
    rw [show zBh Z a - (k + 1) = (a - (k + 1)) + (zBh Z a - a) by omega, gAt_a, show k + 1 + (a - (k + 1)) = a by omega, etk, hgF]
    rfl
  refine ⟨M', ?_, ⟨?_, ?_⟩, fun j h1 h2 h3 => ?_, fun q h1 h2 h3 => ?_, ?_⟩
  · unfold f_Layout_layBelow
    have m4 : (if M1.1 (7 + 5 * I k + 4) 9 < zV Z a 4 then zV Z a 4 else M1.1 (7 + 5 * I k + 4) 9) = mx gF.1.2.1 (zV Z a 4) := by rw [u9]; rfl
    rw [e1, q_cvE, show (4 : Int32) = nI 4 from rfl, g_ix (by omega) (by omega), g_cl (by omega), v4, q_ltE, m4, u8, Int32.add_assoc, ← tp, ← tTa, q_ltE, u5, u7, g_inc, ← hdp, c1, q_cvE, h4, q_ltE, q_ltE, d1, q_cvE]
  · rw [eg]
    refine ⟨?_, ?_, ?_, ?_⟩
    · rw [kM _ _ (by omega) (by omega), k5]; exact u5
    · rw [kM _ _ (by omega) (by omega), k5]; exact u7
    · rw [d3 _ _ (by omega), g_In (by omega), g_Ie ⟨rfl, rfl⟩, tTa, Int32.add_assoc]
      rfl
    · rw [d3 _ _ (by omega), g_Ie ⟨rfl, rfl⟩]
      rfl
  · rw [eg]
    exact cUx_m d2 (Nat.zero_le _)
  · have hne := hinj j h1 h2
    exact cBf_k (c2 j h1 h2 h3) (fun x hx => kM _ _ (by have := (hW.2.1 j (by omega)).1; omega) (by omega))
  · exact cLf_k (c3 q h1 h2 h3) (fun x _ _ => kM _ _ (by omega) (by omega))
  · refine fK_t f1 (fK_t (fK_R c5) ⟨fun p j q1 _ _ _ q5 => kM p j q1 q5, fun p j _ => by rw [d4]; rfl⟩)
end CL4
