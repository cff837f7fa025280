/-! layout on the class's side: what it reads, what it changes -/
section CL
variable {n nc : Nat} {I pj dp : Nat → Nat} {Z : lT} {Ta : Nat → Int32} {w : Int32}
/-- the tree by places -/
def wT3 (n nc : Nat) (pj dp : Nat → Nat) (Z : lT) : Prop := (∀ p, p < n → p + 1 < zBh Z p → pj (p + 1) = p) ∧ (∀ a, 0 < a → a < n → zBh Z a < zBh Z (pj a) → pj (zBh Z a) = pj a) ∧ (dp 0 = 0 ∧ ∀ a, 0 < a → a < n → dp a = dp (pj a) + 1) ∧ (∀ a, a < n → dp a ≤ 23) ∧ (∀ a, a < n → zNm Z a = 1 ∨ zNm Z a = 104 ∨ zNm Z a = 107 → zBh Z a = a + 1) ∧ ∀ q, q < nc → zNm Z (zNq Z q) = 1
def EV (n nc : Nat) (I pj dp : Nat → Nat) (Z : lT) (Ta : Nat → Int32) (w : Int32) : Prop := wZ2 n nc I pj Z ∧ wP2 n pj Z ∧ eqZ n pj Z Ta w ∧ wT3 n nc pj dp Z
def cZs (M : qM) (n nc : Nat) (I pj : Nat → Nat) (Z : lT) : Prop := (M.1 1 5 = nI n ∧ M.1 1 6 = nI nc) ∧ ∀ k, k < n → M.1 (7 + 5 * I k) 0 = nI (zNm Z k) ∧ (zNm Z k ≠ 1 → ∀ p, p < 7 → M.1 (7 + 5 * I k + 3) p = zV Z k p) ∧ (M.2 (7 + 5 * I k) 5 = if k + 1 < zBh Z k then some (7 + 5 * I (k + 1)) else none) ∧ M.2 (7 + 5 * I k) 9 = (zLt Z k).head?.map (127 + ·) ∧ (0 < k → M.2 (7 + 5 * I k) 8 = if zBh Z k < zBh Z (pj k) then some (7 + 5 * I (zBh Z k)) else none) ∧ cLs M Z (zLt Z k)
/-- what the work on a stretch of places leaves alone -/
def fR (n nc : Nat) (I : Nat → Nat) (Z : lT) (lo hi : Nat) (M M' : qM) : Prop := (∀ p j, ¬ p = 365 → ¬ (∃ i, lo ≤ i ∧ i < hi ∧ i < n ∧ zIb Z i = true ∧ p = 7 + 5 * I i + 4) → ¬ (∃ q, q < nc ∧ lo ≤ zNq Z q ∧ zNq Z q < hi ∧ p = 127 + q ∧ 2 ≤ j ∧ j ≤ 5) → M'.1 p j = M.1 p j) ∧ ∀ p j, ¬ p = 366 → M'.2 p j = M.2 p j
theorem fR_r (lo hi : Nat) (M : qM) : fR n nc I Z lo hi M M := ⟨fun _ _ _ _ _ => rfl, fun _ _ _ => rfl⟩
theorem fR_t {lo hi : Nat} {M M' M'' : qM} (h : fR n nc I Z lo hi M M') (h' : fR n nc I Z lo hi M' M'') : fR n nc I Z lo hi M M'' := ⟨fun p j q1 q2 q3 => by rw [h'.1 p j q1 q2 q3, h.1 p j q1 q2 q3], fun p j q => by rw [h'.2 p j q, h.2 p j q]⟩
theorem fR_w {lo hi lo' hi' : Nat} {M M' : qM} (h : fR n nc I Z lo hi M M') (h1 : lo' ≤ lo) (h2 : hi ≤ hi') : fR n nc I Z lo' hi' M M' := ⟨fun p j q1 q2 q3 => h.1 p j q1 (fun ⟨i, a, b, c⟩ => q2 ⟨i, by omega, by omega, c⟩) (fun ⟨q, a, b, c, d⟩ => q3 ⟨q, a, by omega, by omega, d⟩), h.2⟩
theorem lt_pl (hW : wZ2 n nc I pj Z) {k : Nat} (hk : k < n) : ∀ q ∈ zLt Z k, q < nc ∧ zNq Z q = k := fun q hq => by
  rw [hW.2.2.2.2.2.1 k hk, List.mem_filter, rgF_mem] at hq
  exact ⟨by omega, by simpa using hq.2⟩
theorem cZs_k (hW : wZ2 n nc I pj Z) {lo hi : Nat} {M M' : qM} (h : cZs M n nc I pj Z) (f : fR n nc I Z lo hi M M') : cZs M' n nc I pj Z := by
  have hnc : nc ≤ 160 := hW.1.2.2
  have k1 : ∀ p j, p < 127 → (∀ i, i < n → p ≠ 7 + 5 * I i + 4) → M'.1 p j = M.1 p j := fun p j h1 h2 => f.1 p j (by omega) (fun ⟨i, _, _, hi, _, e⟩ => h2 i hi e) (fun ⟨q, _, _, _, e, _⟩ => (by omega))
  refine ⟨⟨by rw [k1 _ _ (by omega) (fun i _ => by omega)]; exact h.1.1, by rw [k1 _ _ (by omega) (fun i _ => by omega)]; exact h.1.2⟩, fun k hk => ?_⟩
  obtain ⟨a1, a2, a3, a4, a5, a6⟩ := h.2 k hk
  have hI := (hW.2.1 k hk).1
  refine ⟨by rw [k1 _ _ (by omega) (fun i _ => by omega)]; exact a1, fun hm p hp => by rw [k1 _ _ (by omega) (fun i _ => by omega)]; exact a2 hm p hp, by rw [f.2 _ _ (by omega)]; exact a3, by rw [f.2 _ _ (by omega)]; exact a4, fun h0 => by rw [f.2 _ _ (by omega)]; exact a5 h0, fun A q B e => ?_⟩
  have hq := (lt_pl hW hk q (by rw [e]; simp)).1
  obtain ⟨b1, b2'⟩ := a6 A q B e
  refine ⟨?_, by rw [f.2 _ _ (by omega)]; exact b2'⟩
  rw [f.1 _ _ (by omega) (fun ⟨i, _, _, hi, _, e⟩ => by have := (hW.2.1 i hi).1; omega) (fun ⟨_, _, _, _, _, h⟩ => (by omega))]
  exact b1
theorem fR_1 {lo hi : Nat} {Sc : Nat → Prop} (hS : ∀ q, Sc q → q < 160 → q < nc ∧ lo ≤ zNq Z q ∧ zNq Z q < hi) {M M' : qM} (h : cF1 Sc M M') : fR n nc I Z lo hi M M' := ⟨fun p j q1 _ q3 => h.1 p j q1 (fun ⟨q, h0, hs, e⟩ => by
  obtain ⟨c1, c2, c3⟩ := hS q hs h0
  exact q3 ⟨q, c1, c2, c3, e⟩), h.2⟩
/-- a box laid, a letter laid -/
def cBf (M : qM) (I : Nat → Nat) (Z : lT) (Ta : Nat → Int32) (j : Nat) : Prop := M.1 (7 + 5 * I j + 4) 0 = 1 ∧ M.1 (7 + 5 * I j + 4) 1 = zL Z j ∧ M.1 (7 + 5 * I j + 4) 2 = Ta j ∧ M.1 (7 + 5 * I j + 4) 3 = zW Z j + 2 * zV Z j 5 ∧ M.1 (7 + 5 * I j + 4) 4 = zH Z j
def oF (Z : lT) (Ta : Nat → Int32) (k : Nat) : Int32 := Ta k + zV Z k 5
def cLf (M : qM) (Z : lT) (Ta : Nat → Int32) (q : Nat) : Prop := M.1 (127 + q) 2 = b2 (zPx Z q).isSome ∧ ∀ x, zPx Z q = some x → M.1 (127 + q) 4 = x ∧ M.1 (127 + q) 3 = zSz Z q ∧ M.1 (127 + q) 5 = oF Z Ta (zBo Z (zNq Z q)) + zPy Z q
theorem cBf_k {M M' : qM} {j : Nat} (h : cBf M I Z Ta j) (k : ∀ x, x < 5 → M'.1 (7 + 5 * I j + 4) x = M.1 (7 + 5 * I j + 4) x) : cBf M' I Z Ta j := by
  obtain ⟨h0, h1, h2, h3, h4⟩ := h
  exact ⟨by rw [k _ (by omega)]; exact h0, by rw [k _ (by omega)]; exact h1, by rw [k _ (by omega)]; exact h2, by rw [k _ (by omega)]; exact h3, by rw [k _ (by omega)]; exact h4⟩
theorem cLf_k {M M' : qM} {q : Nat} (h : cLf M Z Ta q) (k : ∀ x, 2 ≤ x → x ≤ 5 → M'.1 (127 + q) x = M.1 (127 + q) x) : cLf M' Z Ta q := by
  unfold cLf at h ⊢
  rw [k _ (by omega) (by omega), k _ (by omega) (by omega), k _ (by omega) (by omega), k _ (by omega) (by omega)]
  exact h
/-! tokens -/
theorem iL_len1 (hW : wZ2 n nc I pj Z) (k : Nat) {j : Nat} (hj : j < n) : (iL (tkF Z k j)).length ≤ ((rgF 0 nc).filter fun q => zNq Z q == j).length := by
  unfold tkF
  by_cases h1 : zBo Z j = k
  · rw [if_pos h1]
    by_cases h2 : zIb Z j = true
    · rw [if_pos h2]; show 0 ≤ _; omega
    · rw [if_neg h2]
      by_cases h3 : zHd Z j = true
      · rw [if_pos h3]; show 0 ≤ _; omega
      · rw [if_neg h3, iL_app, List.length_append]
        have e0 : (iL (if zNm Z j = 107 then [(2, j)] else [])).length = 0 := by
          by_cases h4 : zNm Z j = 107
          · rw [if_pos h4]; rfl
          · rw [if_neg h4]; rfl
        rw [e0]
        by_cases h5 : zNm Z j = 1
        · rw [if_pos h5, hW.2.2.2.2.2.1 j hj]
          unfold iL
          rw [List.length_map]
          have := List.length_filter_le (fun t : kT2 => t.1 == 0) (((rgF 0 nc).filter fun q => zNq Z q == j).map (kLet Z))
          rw [List.length_map] at this
          omega
        · rw [if_neg h5]; show 0 + 0 ≤ _; omega
  · rw [if_neg h1]; show 0 ≤ _; omega
theorem iL_len (hW : wZ2 n nc I pj Z) (k : Nat) : ∀ (m a : Nat), a + m ≤ n → (iL (tkR Z k a m)).length ≤ ((rgF 0 nc).filter fun q => decide (a ≤ zNq Z q) && decide (zNq Z q < a + m)).length
  | 0, a, _ => by show 0 ≤ _; omega
  | m + 1, a, h => by
    rw [tkR_s, iL_app, List.length_append]
    have h1 := iL_len1 hW k (j := a) (by omega)
    have h2 := iL_len hW k m (a + 1) (by omega)
    have h3 := fl_le (rgF 0 nc) (fun q => zNq Z q == a) (fun q => decide (a + 1 ≤ zNq Z q) && decide (zNq Z q < a + 1 + m)) (fun q => decide (a ≤ zNq Z q) && decide (zNq Z q < a + (m + 1))) (fun q hq => by
      have : zNq Z q = a := by simpa using hq
      rw [this]
      refine ⟨by simp, by simp; omega⟩) (fun q hq => by
      simp only [Bool.and_eq_true, decide_eq_true_eq] at hq ⊢
      omega)
    omega
theorem iL_160 (hW : wZ2 n nc I pj Z) (k : Nat) {m a : Nat} (h : a + m ≤ n) : (iL (tkR Z k a m)).length ≤ 160 := by
  have h1 := iL_len hW k m a h
  have h2 := List.length_filter_le (fun q => decide (a ≤ zNq Z q) && decide (zNq Z q < a + m)) (rgF 0 nc)
  rw [rg_len] at h2
  have := hW.1
  omega
theorem tkR_0 {k : Nat} : ∀ {m a : Nat}, (∀ i, a ≤ i → i < a + m → tkF Z k i = []) → tkR Z k a m = []
  | 0, a, _ => rfl
  | m + 1, a, h => by
    rw [tkR_s, h a (by omega) (by omega), tkR_0 fun i h1 h2 => h i (by omega) (by omega)]
    rfl
theorem sum_0 {f : Nat → Int32} : ∀ {m a : Nat}, (∀ i, a ≤ i → i < a + m → f i = 0) → sumF f a m = 0
  | 0, a, _ => rfl
  | m + 1, a, h => by
    rw [sumF, h a (by omega) (by omega), sum_0 fun i h1 h2 => h i (by omega) (by omega), Int32.add_zero]
theorem cn_0 {k : Nat} : ∀ {m a : Nat}, (∀ i, a ≤ i → i < a + m → inC pj Z k i = false) → cnC pj Z k a m = 0
  | 0, a, _ => rfl
  | m + 1, a, h => by
    rw [cnC_s, h a (by omega) (by omega), cn_0 fun i h1 h2 => h i (by omega) (by omega)]
    rfl
theorem gAt_a (k m1 m2 : Nat) : gAt Z k (m1 + m2) = (tkR Z k (k + 1 + m1) m2).foldl (gTk Z k) (gAt Z k m1) := by
  unfold gAt
  rw [tkR_add, List.foldl_append]
end CL
