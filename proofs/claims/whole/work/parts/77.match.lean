/-! style on the reference's side: parents, and which rules fit -/
theorem bit_11 : ∀ x, x < 123 → nmK x = true → (bitv x &&& 655364 = 0 ↔ inS 11 x = false) := by decide +kernel
theorem r_nmd {M : qM} {i nm : Nat} (h : M.1 4 i = nI nm) (hi : i < 40) (h1 : nm < 123) (h2 : nmK nm = true) {mask : Int32} {P : Nat → Bool} (hb : ∀ x, x < 123 → nmK x = true → (bitv x &&& mask = 0 ↔ P x = false)) : f_Md_named (nI i) mask M = some (b2 (P nm)) := by
  unfold f_Md_named
  rw [g_ix (by omega) (by omega), g_cl (by omega), h, r_bit M h1]
  show (if bitv nm &&& mask = 0 then some 0 else some 1) = _
  by_cases h : P nm = true
  · rw [if_neg (fun q => by rw [(hb _ h1 h2).mp q] at h; cases h), h]
    rfl
  · have h' : P nm = false := by simpa using h
    rw [if_pos ((hb _ h1 h2).mpr h'), h']
    rfl
theorem par_cg {M M' : qM} (h3 : ∀ j, M'.1 3 j = M.1 3 j) (h6 : ∀ j, M'.1 6 j = M.1 6 j) (a : Int32) : ∀ (f : Nat) (K : Int32 → Option Int32) (x : Int32), f_Md_parentOf_4 M' a f K x = f_Md_parentOf_4 M a f K x := by
  intro f
  induction f with
  | zero => intro K x; rfl
  | succ f ih =>
    intro K x
    rw [f_Md_parentOf_4, f_Md_parentOf_4, h3, h3, h6, h6, ih]
def pI (E : eT) (k : Nat) : Int32 := if k = 0 then -1 else nI (E k).2.2
/-- the tree as style needs it, parents in their row -/
def eS (M : qM) (n : Nat) (I : Nat → Nat) (E : eT) : Prop := M.1 0 5 = nI n ∧ ∀ k, k < n → M.1 3 k = nI (I k) ∧ M.1 4 (I k) = nI (E k).1 ∧ M.1 5 (I k) = (E k).2.1 ∧ M.1 22 k = pI E k
theorem eS_k {M M' : qM} {n : Nat} {I : Nat → Nat} {E : eT} (h : eS M n I E) (k0 : M'.1 0 5 = M.1 0 5) (k : ∀ p j, (p = 3 ∨ p = 4 ∨ p = 5 ∨ p = 22) → M'.1 p j = M.1 p j) : eS M' n I E := by
  refine ⟨by rw [k0]; exact h.1, fun j hj => ?_⟩
  rw [k _ _ (by omega), k _ _ (by omega), k _ _ (by omega), k _ _ (by omega)]
  exact h.2 j hj
theorem r_st6 {n : Nat} {I : Nat → Nat} {E : eT} (hW : wE n I E) : ∀ (m k f : Nat) (M : qM) (K : qM → Option qM), k + m = n → eR M n I E → (∀ j, j < k → M.1 22 j = pI E j) → m < f → ∃ M', f_Md_style_6 f K (nI k) M = K M' ∧ eS M' n I E ∧ ∀ p j, p ≠ 22 → M'.1 p j = M.1 p j := by
  intro m
  induction m with
  | zero =>
    intro k f M K hk hR hV hf
    obtain ⟨f, rfl⟩ : ∃ g, f = g + 1 := ⟨f - 1, by omega⟩
    have h24 := hW.1.2
    refine ⟨M, ?_, ⟨hR.1, fun j hj => ?_⟩, fun _ _ _ => rfl⟩
    · rw [f_Md_style_6, hR.1, i_le (by omega) (by omega), if_pos (by omega)]
    · obtain ⟨a1, a2, a3, _⟩ := hR.2 j hj
      exact ⟨a1, a2, a3, hV j (by omega)⟩
  | succ m ih =>
    intro k f M K hk hR hV hf
    obtain ⟨f, rfl⟩ : ∃ g, f = g + 1 := ⟨f - 1, by omega⟩
    have h24 := hW.1.2
    have hR' : eR (qsI M 22 k (pI E k)) n I E := by
      refine ⟨by rw [g_In (by omega)]; exact hR.1, fun j hj => ?_⟩
      obtain ⟨a1, a2, a3, a4⟩ := hR.2 j hj
      rw [g_In (by omega), g_In (by omega), g_In (by omega)]
      refine ⟨a1, a2, a3, ?_⟩
      unfold f_Md_parentOf at a4 ⊢
      rw [par_cg (fun j => g_In (by omega)) (fun j => g_In (by omega))]
      exact a4
    obtain ⟨M', e1, e2, e3⟩ := ih (k + 1) f (qsI M 22 k (pI E k)) K (by omega) hR' (fun j hj => by
      by_cases q : j = k
      · rw [q, g_Ie ⟨rfl, rfl⟩]
      · rw [g_In (by omega)]
        exact hV j (by omega)) (by omega)
    refine ⟨M', ?_, e2, fun p j h => by rw [e3 p j h, g_In (by omega)]⟩
    rw [f_Md_style_6, hR.1, i_le (by omega) (by omega), if_neg (by omega), (hR.2 k (by omega)).2.2.2, q_bpE, g_ix (by omega) (by omega), g_cl (by omega), q_ltE, g_inc]
    exact e1
theorem r_st33 : ∀ (m k f : Nat) (M : qM) (K : qM → Option qM), k + m = 280 → (∀ j, j < k → M.1 24 j = -1) → m < f → ∃ M', f_Md_style_33 f K (nI k) M = K M' ∧ (∀ j, j < 280 → M'.1 24 j = -1) ∧ ∀ p j, p ≠ 24 → M'.1 p j = M.1 p j := by
  intro m
  induction m with
  | zero =>
    intro k f M K hk hV hf
    obtain ⟨f, rfl⟩ : ∃ g, f = g + 1 := ⟨f - 1, by omega⟩
    refine ⟨M, ?_, fun j hj => hV j (by omega), fun _ _ _ => rfl⟩
    rw [f_Md_style_33, show (280 : Int32) = nI 280 from rfl, i_le (by omega) (by omega), if_pos (by omega)]
  | succ m ih =>
    intro k f M K hk hV hf
    obtain ⟨f, rfl⟩ : ∃ g, f = g + 1 := ⟨f - 1, by omega⟩
    obtain ⟨M', e1, e2, e3⟩ := ih (k + 1) f (qsI M 24 k (-1)) K (by omega) (fun j hj => by
      by_cases q : j = k
      · rw [q, g_Ie ⟨rfl, rfl⟩]
      · rw [g_In (by omega)]
        exact hV j (by omega)) (by omega)
    refine ⟨M', ?_, e2, fun p j h => by rw [e3 p j h, g_In (by omega)]⟩
    rw [f_Md_style_33, show (280 : Int32) = nI 280 from rfl, i_le (by omega) (by omega), if_neg (by omega), g_ix (by omega) (by omega), g_cl (by omega), q_ltE, g_inc]
    exact e1
/-- the way up -/
def m1_J (x1 : Int32) (M7 : qM) (a1 : Int32) (n : Nat) (K18 : Int32 → Option qM) (x16 x17 x22 : Int32) : Option qM := q_ix x16 40 <| q_lt (M7.1 22 x16.toNatClampNeg) fun x24 => f_Md_match_131 x1 M7 a1 n K18 x22 x24 (x17 + 1)
theorem m1_eq (x1 : Int32) (M7 : qM) (a1 : Int32) (n : Nat) (K18 : Int32 → Option qM) (x15 x16 x17 : Int32) : f_Md_match_131 x1 M7 a1 (n + 1) K18 x15 x16 x17 = if 40 ≤ x17 then (K18 x15) else (if x16 < 0 then (K18 x15) else (if x1 ≤ 1 then (K18 x15) else (if x15 = 0 then (q_ix ((40 * (x1 - 1)) + x16) 200 <| if (M7.1 23 ((40 * (x1 - 1)) + x16).toNatClampNeg) = 0 then (m1_J x1 M7 a1 n K18 x16 x17 0) else (if x17 = 0 then (m1_J x1 M7 a1 n K18 x16 x17 1) else (q_ix (((4 * a1) + x1) - 1) 48 <| if (M7.1 15 (((4 * a1) + x1) - 1).toNatClampNeg) = 0 then (m1_J x1 M7 a1 n K18 x16 x17 1) else (m1_J x1 M7 a1 n K18 x16 x17 0)))) else (m1_J x1 M7 a1 n K18 x16 x17 1)))) := by
  rw [f_Md_match_131]
  rfl
theorem g_40 (a b : Nat) : 40 * nI a + nI b = nI (40 * a + b) := by
  rw [show (40 : Int32) = nI 40 from rfl, g_mul, g_add]
theorem r_131 {M : qM} {n : Nat} {I : Nat → Nat} {E : eT} (hS : eS M n I E) (hW : wE n I E) {i m : Nat} (hi : i < 12) (hm1 : 1 ≤ m) (hm : m < 4) {P : Nat → Bool} (hP : ∀ j, j < n → M.1 23 (40 * m + j) = b2 (P j)) {d : Bool} (hd : M.1 15 (4 * i + m) = b2 d) (K : Int32 → Option qM) : ∀ (g k t f : Nat) (ab : Bool), k < n → k ≤ g → t + g < 40 → g < f → f_Md_match_131 (nI (m + 1)) M (nI i) f K (b2 ab) (pI E k) (nI t) = K (b2 (ab || if d = true then (decide (t = 0) && (decide (k ≠ 0) && P (E k).2.2)) else ancF E P g k)) := by
  have base : ∀ (k t f : Nat) (ab : Bool), k = 0 → t < 40 → 0 < f → f_Md_match_131 (nI (m + 1)) M (nI i) f K (b2 ab) (pI E k) (nI t) = K (b2 ab) := fun k t f ab h0 ht hf => by
    obtain ⟨f, rfl⟩ : ∃ g, f = g + 1 := ⟨f - 1, by omega⟩
    unfold pI
    rw [m1_eq, show (40 : Int32) = nI 40 from rfl, i_le (by omega) (by omega), if_neg (by omega), if_pos h0, if_pos (by decide)]
  intro g
  induction g with
  | zero =>
    intro k t f ab hk hg ht hf
    rw [base k t f ab (by omega) (by omega) hf, ancF, show decide (k ≠ 0) = false from decide_eq_false (by omega)]
    congr 2
    cases ab <;> cases d <;> simp
  | succ g ih =>
    intro k t f ab hk hg ht hf
    by_cases h0 : k = 0
    · rw [base k t f ab h0 (by omega) (by omega), ancF, if_pos h0, show decide (k ≠ 0) = false from decide_eq_false (by omega)]
      congr 2
      cases ab <;> cases d <;> simp
    · obtain ⟨f, rfl⟩ : ∃ g, f = g + 1 := ⟨f - 1, by omega⟩
      have h24 := hW.1.2
      have hp := (hW.2.2.2.1 k (by omega) hk).1
      have eJ : ∀ x : Bool, m1_J (nI (m + 1)) M (nI i) f K (nI (E k).2.2) (nI t) (b2 x) = K (b2 (x || if d = true then false else ancF E P g (E k).2.2)) := fun x => by
        unfold m1_J
        rw [g_ix (by omega) (by omega), g_cl (by omega), (hS.2 _ (by omega)).2.2.2, q_ltE, g_inc, ih _ (t + 1) f x (by omega) (by omega) (by omega) (by omega), show decide (t + 1 = 0) = false from decide_eq_false (by omega), Bool.false_and]
      have eJ0 := eJ false
      have eJ1 := eJ true
      rw [show b2 false = 0 from rfl] at eJ0
      rw [show b2 true = 1 from rfl, Bool.true_or] at eJ1
      have ep : pI E k = nI (E k).2.2 := if_neg h0
      have n40 : ¬ (40 : Int32) ≤ nI t := by rw [show (40 : Int32) = nI 40 from rfl, g_le (by omega) (by omega)]; omega
      have n1 : ¬ nI (m + 1) ≤ (1 : Int32) := by rw [show (1 : Int32) = nI 1 from rfl, g_le (by omega) (by omega)]; omega
      rw [m1_eq, ep, if_neg n40, i_n0 (by omega), if_neg n1, i_b2, show nI (m + 1) - 1 = nI m by rw [← l_1, g_sub (by omega)]; rfl, g_40, g_ix (by omega) (by omega), g_cl (by omega), hP _ (by omega), i_b2, ← l_0, i_eq (by omega) (by omega), g_4n, l_0, show nI (4 * i + (m + 1)) - 1 = nI (4 * i + m) by rw [← l_1, g_sub (by omega)]; rfl, g_ix (by omega) (by omega), g_cl (by omega), hd, i_b2, eJ0, eJ1]
      rw [ancF, if_neg h0, show decide (k ≠ 0) = true from decide_eq_true h0, Bool.true_and]
      cases ab with
      | true => rw [if_neg (by decide), Bool.true_or]
      | false =>
        rw [if_pos rfl, Bool.false_or, Bool.false_or]
        cases hq : P (E k).2.2 with
        | false =>
          rw [if_pos rfl, Bool.and_false, Bool.false_or]
        | true =>
          rw [if_neg (by decide), Bool.and_true, Bool.true_or]
          by_cases ht0 : t = 0
          · rw [if_pos ht0, decide_eq_true ht0, ite_self]
          · rw [if_neg ht0, decide_eq_false ht0]
            cases d <;> rfl
