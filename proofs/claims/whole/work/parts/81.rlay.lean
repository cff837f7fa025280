/-! layout on the reference's side: what it reads -/
theorem seat_cg {M M' : qM} (h0 : M'.1 0 5 = M.1 0 5) (h3 : ∀ j, M'.1 3 j = M.1 3 j) (a : Int32) : ∀ (f : Nat) (K : Int32 → Option Int32) (x y : Int32), f_Md_seat_4 M' a f K x y = f_Md_seat_4 M a f K x y := by
  intro f
  induction f with
  | zero => intro K x y; rfl
  | succ f ih =>
    intro K x y
    rw [f_Md_seat_4, f_Md_seat_4, h0, h3, ih, ih]
theorem beh_cg {M M' : qM} (h0 : M'.1 0 5 = M.1 0 5) (h3 : ∀ j, M'.1 3 j = M.1 3 j) (h6 : ∀ j, M'.1 6 j = M.1 6 j) (a : Int32) : ∀ (f : Nat) (K : Int32 → Option Int32) (x : Int32), f_Md_behind_4 M' a f K x = f_Md_behind_4 M a f K x := by
  intro f
  induction f with
  | zero => intro K x; rfl
  | succ f ih =>
    intro K x
    rw [f_Md_behind_4, f_Md_behind_4, h0, h3, h3, h6, h6, ih]
/-- the tree, its values and letters, as layout reads them -/
def rZ (M : qM) (n nc : Nat) (I pj : Nat → Nat) (Z : lT) : Prop := (M.1 0 5 = nI n ∧ M.1 0 17 = nI nc) ∧ (∀ k, k < n → M.1 3 k = nI (I k) ∧ M.1 4 (I k) = nI (zNm Z k) ∧ M.1 22 k = (if k = 0 then -1 else nI (pj k)) ∧ (∀ p, p < 7 → M.1 25 (40 * p + k) = zV Z k p) ∧ f_Md_behind (nI k) M = some (nI (zBh Z k))) ∧ ∀ q, q < nc → M.1 11 q = nI (zCd Z q) ∧ M.1 12 q = nI (I (zNq Z q)) ∧ f_Md_seat (nI (I (zNq Z q))) M = some (nI (zNq Z q))
/-- what is so of them -/
def wZ2 (n nc : Nat) (I pj : Nat → Nat) (Z : lT) : Prop := (1 ≤ n ∧ n ≤ 24 ∧ nc ≤ 160) ∧ (∀ k, k < n → I k < 24 ∧ zNm Z k < 123 ∧ k < zBh Z k ∧ zBh Z k ≤ n ∧ (zNm Z k = 0 ↔ k = 0)) ∧ (∀ k, 0 < k → k < n → pj k < k) ∧ (∀ q, q < nc → zCd Z q < 200 ∧ 0 < zNq Z q ∧ zNq Z q < n ∧ zSz Z q = zV Z (pj (zNq Z q)) 2) ∧ (∀ j k, j < n → k < n → I j = I k → j = k) ∧ (∀ k, k < n → zLt Z k = (rgF 0 nc).filter fun q => zNq Z q == k) ∧ ∀ k, k < n → ∃ z, 1 ≤ z ∧ z ≤ 9 ∧ zV Z k 2 = nI z
def kZ (M M' : qM) : Prop := (M'.1 0 5 = M.1 0 5 ∧ M'.1 0 17 = M.1 0 17) ∧ ∀ p j, (p = 3 ∨ p = 4 ∨ p = 6 ∨ p = 11 ∨ p = 12 ∨ p = 22 ∨ p = 25) → M'.1 p j = M.1 p j
theorem kZ_t {M M' M'' : qM} (h : kZ M M') (h' : kZ M' M'') : kZ M M'' := ⟨⟨h'.1.1.trans h.1.1, h'.1.2.trans h.1.2⟩, fun p j hp => (h'.2 p j hp).trans (h.2 p j hp)⟩
theorem rZ_k {M M' : qM} {n nc : Nat} {I pj : Nat → Nat} {Z : lT} (h : rZ M n nc I pj Z) (k : kZ M M') : rZ M' n nc I pj Z := by
  obtain ⟨⟨h1, h2⟩, h3, h4⟩ := h
  refine ⟨⟨by rw [k.1.1]; exact h1, by rw [k.1.2]; exact h2⟩, fun j hj => ?_, fun q hq => ?_⟩
  · obtain ⟨a1, a2, a3, a4, a5⟩ := h3 j hj
    refine ⟨by rw [k.2 _ _ (by omega)]; exact a1, by rw [k.2 _ _ (by omega)]; exact a2, by rw [k.2 _ _ (by omega)]; exact a3, fun p hp => by rw [k.2 _ _ (by omega)]; exact a4 p hp, ?_⟩
    unfold f_Md_behind at a5 ⊢
    rw [beh_cg k.1.1 (fun j => k.2 _ _ (by omega)) (fun j => k.2 _ _ (by omega))]
    exact a5
  · obtain ⟨a1, a2, a3⟩ := h4 q hq
    refine ⟨by rw [k.2 _ _ (by omega)]; exact a1, by rw [k.2 _ _ (by omega)]; exact a2, ?_⟩
    unfold f_Md_seat at a3 ⊢
    rw [seat_cg k.1.1 (fun j => k.2 _ _ (by omega))]
    exact a3
/-- an item: a letter, a blank or a break -/
def iC (t : kT2) : Int32 := if t.1 = 2 then -1 - nI t.2 else nI t.2
def iW (n nc : Nat) (Z : lT) (t : kT2) : Prop := (t.1 = 2 ∧ t.2 < n) ∨ (t.1 < 2 ∧ t.2 < nc ∧ (t.1 = 1 ↔ zCd Z t.2 = 32))
def tSz (Z : lT) (t : kT2) : Int32 := if t.1 = 2 then zV Z t.2 2 else zSz Z t.2
def iX (M : qM) (it : List kT2) : Prop := M.1 0 52 = nI it.length ∧ ∀ x t, it[x]? = some t → M.1 37 x = iC t
theorem neg_lt {j : Nat} (h : j < 1000) : (-1 - nI j : Int32) < 0 := by
  have : ∀ j, j < 1000 → (-1 - nI j : Int32) < 0 := by decide +kernel
  exact this j h
theorem r_size {M : qM} {n nc : Nat} {I pj : Nat → Nat} {Z : lT} (hZ : rZ M n nc I pj Z) (hW : wZ2 n nc I pj Z) {x : Nat} (hx : x < 200) {t : kT2} (hM : M.1 37 x = iC t) (ht : iW n nc Z t) : f_Md_size (nI x) M = some (tSz Z t) := by
  obtain ⟨⟨w1, w2, w3⟩, w4, w5, w6, _⟩ := hW
  unfold f_Md_size
  rw [g_ix (by omega) (by omega), g_cl (by omega), hM]
  unfold iC tSz
  rcases ht with ⟨h1, h2⟩ | ⟨h1, h2, h3⟩
  · rw [if_pos h1, if_pos h1, if_neg (fun h => by
      have := neg_lt (j := t.2) (by omega)
      rw [Int32.le_iff_toInt_le] at h
      rw [Int32.lt_iff_toInt_lt] at this
      omega), g_ix (by omega) (by omega)]
    have e : (79 : Int32) - (-1 - nI t.2) = nI (40 * 2 + t.2) := by
      have : ∀ j, j < 24 → (79 : Int32) - (-1 - nI j) = nI (40 * 2 + j) := by decide +kernel
      exact this _ (by omega)
    rw [e, g_ix (by omega) (by omega), g_cl (by omega), (hZ.2.1 t.2 h2).2.2.2.1 2 (by omega)]
  · obtain ⟨b1, b2', b3⟩ := hZ.2.2 t.2 h2
    obtain ⟨c1, c2, c3, c4⟩ := w6 t.2 h2
    have hpj := w5 _ c2 c3
    rw [if_neg (show ¬ t.1 = 2 by omega), if_neg (show ¬ t.1 = 2 by omega), i_p0 (by omega), g_ix (by omega) (by omega), g_ix (by omega) (by omega), g_cl (by omega), b2', b3, q_bpE, g_ix (by omega) (by omega), g_cl (by omega), (hZ.2.1 _ c3).2.2.1, if_neg (by omega), show (80 : Int32) = nI 80 from rfl, g_add, g_ix (by omega) (by omega), g_cl (by omega), show 80 + pj (zNq Z t.2) = 40 * 2 + pj (zNq Z t.2) by omega, (hZ.2.1 _ (by omega)).2.2.2.1 2 (by omega), c4]
/-! maxima -/
theorem mx_le (a b : Int32) : (if b ≤ a then a else b) = mx a b := by
  unfold mx
  by_cases h : a < b
  · rw [if_pos h, if_neg]
    intro h2
    rw [Int32.lt_iff_toInt_lt] at h
    rw [Int32.le_iff_toInt_le] at h2
    omega
  · rw [if_neg h]
    by_cases h2 : b ≤ a
    · rw [if_pos h2]
    · exfalso
      rw [Int32.lt_iff_toInt_lt] at h
      rw [Int32.le_iff_toInt_le] at h2
      omega
theorem mx_as (a b c : Int32) : mx (mx a b) c = mx a (mx b c) := by
  unfold mx
  simp only [Int32.lt_iff_toInt_lt]
  by_cases h1 : a.toInt < b.toInt <;> by_cases h2 : b.toInt < c.toInt <;> by_cases h3 : a.toInt < c.toInt <;> simp only [h1, h2, h3, if_true, if_false] <;> first | rfl | omega
theorem mx_0 {a : Int32} (h : 0 ≤ a) : mx a 0 = a := by
  unfold mx
  rw [if_neg]
  intro h2
  rw [Int32.le_iff_toInt_le] at h
  rw [Int32.lt_iff_toInt_lt] at h2
  omega
theorem mx_0l {a : Int32} (h : 0 ≤ a) : mx 0 a = a := by
  unfold mx
  by_cases h2 : 0 < a
  · rw [if_pos h2]
  · rw [if_neg h2, ← Int32.toInt_inj]
    rw [Int32.le_iff_toInt_le] at h
    rw [Int32.lt_iff_toInt_lt] at h2
    have e : (0 : Int32).toInt = 0 := by decide
    omega
theorem mx_ge {a b : Int32} (h : 0 ≤ a) : 0 ≤ mx a b := by
  unfold mx
  split
  · rename_i h2
    rw [Int32.lt_iff_toInt_lt] at h2
    rw [Int32.le_iff_toInt_le] at h ⊢
    omega
  · exact h
theorem mx_fold (f : Nat → Int32) : ∀ (L : List Nat) (a b : Int32), L.foldl (fun x q => mx x (f q)) (mx a b) = mx a (L.foldl (fun x q => mx x (f q)) b)
  | [], a, b => rfl
  | q :: L, a, b => by
    show L.foldl (fun x q => mx x (f q)) (mx (mx a b) (f q)) = mx a (L.foldl (fun x q => mx x (f q)) (mx b (f q)))
    rw [mx_as]
    exact mx_fold f L a (mx b (f q))
/-- a word put, in parts -/
theorem pl_us (sz : Nat → Int32) (cl : Int32) : ∀ (L : List Nat) (s : ulT), (L.foldl (uPl sz cl) s).1 = L.foldl (fun a q => a + sz q) s.1
  | [], _ => rfl
  | q :: L, s => pl_us sz cl L (uPl sz cl s q)
theorem pl_lh (sz : Nat → Int32) (cl : Int32) : ∀ (L : List Nat) (s : ulT), (L.foldl (uPl sz cl) s).2.1 = L.foldl (fun a q => mx a (sz q)) s.2.1
  | [], _ => rfl
  | q :: L, s => pl_lh sz cl L (uPl sz cl s q)
theorem fold_ge (f : Nat → Int32) : ∀ (L : List Nat) (a : Int32), 0 ≤ a → 0 ≤ L.foldl (fun x q => mx x (f q)) a
  | [], a, h => h
  | q :: L, a, h => fold_ge f L (mx a (f q)) (mx_ge h)
/-- what a run keeps -/
def uI (sz : Nat → Int32) (u : uT) : Prop := (uLn u = [] → uUs u = 0) ∧ (uLn u ≠ [] → uGp u ≠ 0) ∧ 0 ≤ uLh u ∧ uWw u = (uWd u).foldl (fun a q => a + sz q) 0
