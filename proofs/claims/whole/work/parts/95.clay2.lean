/-! layout: what follows from its equations -/
section CL2
variable {n nc : Nat} {I pj dp : Nat → Nat} {Z : lT} {Ta : Nat → Int32} {w : Int32}
theorem hd_st (hW : wZ2 n nc I pj Z) (hP : wP2 n pj Z) (hE : ∀ i, i < n → eWj pj Z w i) {a : Nat} (ha : a < n) (h : zHd Z a = true) : ∀ (m i : Nat), i ≤ m → a ≤ i → i < zBh Z a → zHd Z i = true ∧ zIb Z i = false := by
  have hib : ∀ i, i < n → zHd Z i = true → zIb Z i = false := fun i hi hh => by
    rw [(hE i hi).2.1, hh]
    simp
  obtain ⟨_, _, _, hbh, _⟩ := hW.2.1 a ha
  intro m
  induction m with
  | zero =>
    intro i h1 h2 h3
    have : a = i := by omega
    rw [← this]
    exact ⟨h, hib a ha h⟩
  | succ m ih =>
    intro i h1 h2 h3
    by_cases e : i = a
    · rw [e]; exact ⟨h, hib a ha h⟩
    · have hp := hW.2.2.1 i (by omega) (by omega)
      have hp2 := hP.1.1 a i (by omega) h3 ha
      have h4 := (ih (pj i) (by omega) hp2 (by omega)).1
      have h5 : zHd Z i = true := by
        rw [(hE i (by omega)).1, if_neg (by omega), h4]
        rfl
      exact ⟨h5, hib i (by omega) h5⟩
theorem bo_st (hW : wZ2 n nc I pj Z) (hP : wP2 n pj Z) (hE : ∀ i, i < n → eWj pj Z w i) {a : Nat} (ha : a < n) (h : zIb Z a = true) : ∀ (m i : Nat), i ≤ m → a < i → i < zBh Z a → a ≤ zBo Z i := by
  obtain ⟨_, _, _, hbh, _⟩ := hW.2.1 a ha
  intro m
  induction m with
  | zero => intro i h1 h2; omega
  | succ m ih =>
    intro i h1 h2 h3
    have hp := hW.2.2.1 i (by omega) (by omega)
    have hp2 := hP.1.1 a i (by omega) h3 ha
    rw [(hE i (by omega)).2.2.1 (by omega)]
    by_cases q : zIb Z (pj i) = true
    · rw [if_pos q]; exact hp2
    · rw [if_neg q]
      have : pj i ≠ a := fun e => q (by rw [e]; exact h)
      exact ih (pj i) (by omega) (by omega) (by omega)
theorem tk_h {k i : Nat} (h : zHd Z i = true) (h' : zIb Z i = false) : tkF Z k i = [] := by
  unfold tkF
  by_cases q : zBo Z i = k
  · rw [if_pos q, if_neg (by rw [h']; simp), if_pos h]
  · rw [if_neg q]
theorem tk_n {k i : Nat} (h : zBo Z i ≠ k) : tkF Z k i = [] := by
  unfold tkF
  rw [if_neg h]
theorem gFl_tp (k : Nat) (g : gT) : (gFl Z k g).2.2 = g.2.2 := by
  unfold gFl
  by_cases h : uHs (uEnd (zSz Z) (zCl Z k) (zW Z k) g.2.1) = true
  · rw [if_pos h]
  · rw [if_neg h]
theorem gFl_rh (k : Nat) (g : gT) : (gFl Z k g).1.2.2 = g.1.2.2 := by
  unfold gFl
  by_cases h : uHs (uEnd (zSz Z) (zCl Z k) (zW Z k) g.2.1) = true
  · rw [if_pos h]
  · rw [if_neg h]
theorem tp_keep {k j : Nat} : ∀ (L : List kT2) (g : gT), (∀ t ∈ L, t.1 = 3 → t.2 ≠ j) → (L.foldl (gTk Z k) g).2.2 j = g.2.2 j
  | [], _, _ => rfl
  | t :: L, g, h => by
    show (L.foldl (gTk Z k) (gTk Z k g t)).2.2 j = _
    rw [tp_keep L _ fun t' ht' => h t' (List.mem_cons_of_mem _ ht')]
    by_cases q : t.1 = 3
    · have e : gTk Z k g t = gBx Z k t.2 (gFl Z k g) := if_pos q
      rw [e]
      show up (gFl Z k g).2.2 t.2 _ j = _
      rw [up_n (fun e => h t List.mem_cons_self q e.symm), gFl_tp]
    · have e : gTk Z k g t = (g.1, uTk Z k g.2.1 t, g.2.2) := if_neg q
      rw [e]
theorem tp_of {k j : Nat} (h1 : k < j) (h2 : j < zBh Z k) (hb : zBo Z j = k) (hi : zIb Z j = true) : (gOf Z k).2.2 j = gTp Z k j (gFl Z k (gAt Z k (j - (k + 1)))) := by
  unfold gOf
  rw [gFl_tp]
  have e : zBh Z k - (k + 1) = (j - (k + 1) + 1) + (zBh Z k - (j + 1)) := by omega
  rw [e, gAt_a, tp_keep _ _ (fun t ht h3 => by
    have := (tkb3 ht h3).1
    omega), gAt_s, show k + 1 + (j - (k + 1)) = j by omega]
  have et : tkF Z k j = [(3, j)] := by
    unfold tkF
    rw [if_pos hb, if_pos hi]
  rw [et]
  show (gBx Z k j (gFl Z k (gAt Z k (j - (k + 1))))).2.2 j = _
  exact up_e _ _ _
theorem ta_of (hQ : eqZ n pj Z Ta w) {k j : Nat} (hj : j < n) (h1 : k < j) (h2 : j < zBh Z k) (hb : zBo Z j = k) (hi : zIb Z j = true) : Ta j = oF Z Ta k + gTp Z k j (gFl Z k (gAt Z k (j - (k + 1)))) := by
  rw [hQ.2.2.2 j (by omega) hj hi, hb, Int32.add_comm]
  unfold zTr oF
  rw [hb, tp_of h1 h2 hb hi]
/-- rows -/
theorem tk_row (hW : wZ2 n nc I pj Z) (hP : wP2 n pj Z) (hE : ∀ i, i < n → eWj pj Z w i) {k j : Nat} (hj0 : 0 < j) (hj : j < n) (hr : zNm Z k = 114) : tkF Z k j = if zBo Z j = k ∧ zIb Z j = true then [(3, j)] else [] := by
  by_cases hb : zBo Z j = k
  · by_cases hi : zIb Z j = true
    · rw [if_pos ⟨hb, hi⟩]
      unfold tkF
      rw [if_pos hb, if_pos hi]
    · rw [if_neg (fun h => hi h.2)]
      by_cases hh : zHd Z j = true
      · exact tk_h hh (Bool.eq_false_iff.mpr hi)
      · exfalso
        have hh' : zHd Z j = false := Bool.eq_false_iff.mpr hh
        obtain ⟨_, _, _, o4⟩ := bo_ok hW hP (Nat.le_refl n) hE j j (Nat.le_refl _) hj0 hj
        rw [hb] at o4
        have e := o4 hr hh'
        obtain ⟨k1, k2⟩ := hP.1.2.2 j hj0 hj (by rw [e]; exact hr)
        obtain ⟨f1, f2, _⟩ := hE j hj
        rcases hP.2.2.2 j hj k1 with v | v | v
        · refine hi ?_
          rw [f2, hh', v, show (zNm Z j == 1) = false by simpa using k1]
          rfl
        · exact k2 v
        · rw [if_neg (by omega), v, show (zNm Z j == 1) = false by simpa using k1, hh'] at f1
          have f1' := f1.symm
          rw [Bool.or_eq_false_iff] at f1'
          exact absurd f1'.2 (by decide)
  · rw [if_neg (fun h => hb h.1)]
    exact tk_n hb
def uN0 (y : Int32) : uT := uNew y 0 (fun _ => none) (fun _ => 0)
theorem uN0_end {sz : Nat → Int32} {cl W : Int32} (y : Int32) : uEnd sz cl W (uN0 y) = uN0 y := rfl
theorem row_fold {k : Nat} : ∀ (L : List kT2) (g : gT), (∀ t ∈ L, t.1 = 3) → (∃ y, g.2.1 = uN0 y) → ∃ y, (L.foldl (gTk Z k) g).2.1 = uN0 y
  | [], _, _, h => h
  | t :: L, g, hL, ⟨y, h⟩ => by
    refine row_fold L (gTk Z k g t) (fun t' ht' => hL t' (List.mem_cons_of_mem _ ht')) ?_
    have e : gTk Z k g t = gBx Z k t.2 (gFl Z k g) := if_pos (hL t List.mem_cons_self)
    have e2 : (gFl Z k g).2.1 = uN0 y := by
      unfold gFl
      by_cases q : uHs (uEnd (zSz Z) (zCl Z k) (zW Z k) g.2.1) = true
      · rw [if_pos q]; show uEnd (zSz Z) (zCl Z k) (zW Z k) g.2.1 = _; rw [h, uN0_end]
      · rw [if_neg q]; show uEnd (zSz Z) (zCl Z k) (zW Z k) g.2.1 = _; rw [h, uN0_end]
    rw [e]
    refine ⟨gTp Z k t.2 (gFl Z k g) + zH Z t.2 + zV Z t.2 4, ?_⟩
    show uNew _ (uNl (gFl Z k g).2.1) (uPx (gFl Z k g).2.1) (uPy (gFl Z k g).2.1) = _
    rw [e2]
    rfl
theorem row_tk (hW : wZ2 n nc I pj Z) (hP : wP2 n pj Z) (hE : ∀ i, i < n → eWj pj Z w i) {k : Nat} (hr : zNm Z k = 114) : ∀ {m a : Nat}, 0 < a → a + m ≤ n → ∀ t ∈ tkR Z k a m, t.1 = 3
  | 0, a, _, _, t, ht => by cases ht
  | m + 1, a, h0, h, t, ht => by
    rw [tkR_s, List.mem_append] at ht
    rcases ht with ht | ht
    · rw [tk_row hW hP hE h0 (by omega) hr] at ht
      by_cases q : zBo Z a = k ∧ zIb Z a = true
      · rw [if_pos q, List.mem_singleton] at ht
        rw [ht]
      · rw [if_neg q] at ht
        cases ht
    · exact row_tk hW hP hE hr (by omega) (by omega) t ht
theorem row_u (hW : wZ2 n nc I pj Z) (hP : wP2 n pj Z) (hE : ∀ i, i < n → eWj pj Z w i) {k m : Nat} (hr : zNm Z k = 114) (h : k + 1 + m ≤ n) : ∃ y, (gAt Z k m).2.1 = uN0 y := by
  refine row_fold _ _ (row_tk hW hP hE hr (by omega) h) ⟨0, rfl⟩
theorem row_of (hW : wZ2 n nc I pj Z) (hP : wP2 n pj Z) (hE : ∀ i, i < n → eWj pj Z w i) {k : Nat} (hk : k < n) (hr : zNm Z k = 114) : ∃ y, (gOf Z k).2.1 = uN0 y := by
  obtain ⟨_, _, h1, h2, _⟩ := hW.2.1 k hk
  obtain ⟨y, h⟩ := row_u hW hP hE hr (m := zBh Z k - (k + 1)) (by omega)
  refine ⟨y, ?_⟩
  unfold gOf gFl
  by_cases q : uHs (uEnd (zSz Z) (zCl Z k) (zW Z k) (gAt Z k (zBh Z k - (k + 1))).2.1) = true
  · rw [if_pos q]; show uEnd (zSz Z) (zCl Z k) (zW Z k) _ = _; rw [h, uN0_end]
  · rw [if_neg q]; show uEnd (zSz Z) (zCl Z k) (zW Z k) _ = _; rw [h, uN0_end]
/-- a child of what stands in a box -/
theorem kid_of (hE : ∀ i, i < n → eWj pj Z w i) {k p a : Nat} (ha : a < n) (h0 : 0 < a) (hp : pj a = p) (hpk : (p = k ∧ zIb Z k = true) ∨ (zIb Z p = false ∧ zBo Z p = k)) (hh : zHd Z p = false) : zBo Z a = k ∧ zHd Z a = (!(zNm Z a == 1) && (zV Z a 3 == 110)) := by
  obtain ⟨f1, f2, f3, _⟩ := hE a ha
  rw [f3 h0, f1, if_neg (show ¬ a = 0 by omega), hp, hh, Bool.false_or]
  refine ⟨?_, rfl⟩
  rcases hpk with ⟨h1, h2⟩ | ⟨h1, h2⟩
  · rw [h1, if_pos h2]
  · rw [if_neg (by rw [h1]; simp), h2]
theorem ib_h (hE : ∀ i, i < n → eWj pj Z w i) {k : Nat} (hk : k < n) (h : zIb Z k = true) : zHd Z k = false ∧ zNm Z k ≠ 1 ∧ zV Z k 3 = 98 := by
  have e := (hE k hk).2.1
  rw [h] at e
  have e' := e.symm
  rw [Bool.and_eq_true, Bool.and_eq_true] at e'
  refine ⟨by simpa using e'.1.2, by simpa using e'.1.1, by simpa using e'.2⟩
end CL2
