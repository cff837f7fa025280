/-! which rules fit, all nodes and all parts -/
def m2_S (x1 a1 : Int32) (n : Nat) (K8 : qM → Option qM) (x6 : Int32) (M7 : qM) (x34 : Int32) : Option qM := q_ix ((40 * x1) + x6) 200 <| q_zk x34 <| q_lt (qsI M7 23 ((40 * x1) + x6).toNatClampNeg x34) fun M37 => f_Md_match_23 x1 a1 n K8 (x6 + 1) M37
def m2_W (x1 a1 : Int32) (n : Nat) (K8 : qM → Option qM) (x6 : Int32) (M7 : qM) (x12 x33 : Int32) : Option qM := if x12 = 0 then (m2_S x1 a1 n K8 x6 M7 0) else (if x33 = 0 then (m2_S x1 a1 n K8 x6 M7 0) else (m2_S x1 a1 n K8 x6 M7 1))
def m2_B (x1 a1 : Int32) (n : Nat) (K8 : qM → Option qM) (x6 : Int32) (M7 : qM) (x12 x13 : Int32) : Option qM := q_ix x6 40 <| f_Md_match_131 x1 M7 a1 1000 (m2_W x1 a1 n K8 x6 M7 x12) x13 (M7.1 22 x6.toNatClampNeg) 0
def m2_H (x1 a1 : Int32) (n : Nat) (K8 : qM → Option qM) (x6 : Int32) (M7 : qM) (x12 : Int32) : Option qM := if x1 = 1 then (m2_B x1 a1 n K8 x6 M7 x12 1) else (m2_B x1 a1 n K8 x6 M7 x12 0)
def m2_C (x1 a1 : Int32) (n : Nat) (K8 : qM → Option qM) (x6 : Int32) (M7 : qM) : Option qM := q_ix (M7.1 3 x6.toNatClampNeg) 40 <| q_ix (((4 * a1) + x1) - 1) 48 <| q_ix (((4 * a1) + x1) - 1) 48 <| if ((M7.1 5 (M7.1 3 x6.toNatClampNeg).toNatClampNeg) &&& (M7.1 14 (((4 * a1) + x1) - 1).toNatClampNeg)) = (M7.1 14 (((4 * a1) + x1) - 1).toNatClampNeg) then (m2_H x1 a1 n K8 x6 M7 1) else (m2_H x1 a1 n K8 x6 M7 0)
theorem m2_eq (x1 a1 : Int32) (n : Nat) (K8 : qM → Option qM) (x6 : Int32) (M7 : qM) : f_Md_match_23 x1 a1 (n + 1) K8 x6 M7 = if (M7.1 0 5) ≤ x6 then (K8 M7) else (q_ix x6 40 <| q_ix (M7.1 3 x6.toNatClampNeg) 40 <| if (M7.1 4 (M7.1 3 x6.toNatClampNeg).toNatClampNeg) ≤ 1 then (m2_H x1 a1 n K8 x6 M7 0) else (q_ix (((4 * a1) + x1) - 1) 48 <| if (M7.1 13 (((4 * a1) + x1) - 1).toNatClampNeg) = 0 then (m2_C x1 a1 n K8 x6 M7) else (q_ix (((4 * a1) + x1) - 1) 48 <| q_ix (M7.1 3 x6.toNatClampNeg) 40 <| if (M7.1 13 (((4 * a1) + x1) - 1).toNatClampNeg) = (M7.1 4 (M7.1 3 x6.toNatClampNeg).toNatClampNeg) then (m2_C x1 a1 n K8 x6 M7) else (m2_H x1 a1 n K8 x6 M7 0)))) := by
  rw [f_Md_match_23]
  rfl
theorem r_131_1 {M : qM} {i : Nat} (E : eT) (k : Nat) (K : Int32 → Option qM) (f : Nat) : f_Md_match_131 1 M (nI i) (f + 1) K 1 (pI E k) 0 = K 1 := by
  rw [m1_eq, if_neg (by decide)]
  split
  · rfl
  · rw [if_pos (by decide)]
theorem r_m23 {n : Nat} {I : Nat → Nat} {E : eT} (hW : wE n I E) {i m : Nat} (hi : i < 12) (hm : m < 4) {ps : List pT} {x : pT} (hx : ps[m]? = some x) (hx1 : x.1 < 127) : ∀ (c k f : Nat) (M : qM) (K : qM → Option qM), k + c = n → eS M n I E → (M.1 13 (4 * i + m) = nI x.1 ∧ M.1 14 (4 * i + m) = x.2.1 ∧ M.1 15 (4 * i + m) = b2 x.2.2) → (1 ≤ m → ∀ j, j < n → M.1 23 (40 * m + j) = b2 (fitF E ps m j)) → c < f → ∃ M', f_Md_match_23 (nI (m + 1)) (nI i) f K (nI k) M = K M' ∧ (∀ j, k ≤ j → j < n → M'.1 23 (40 * (m + 1) + j) = b2 (fitF E ps (m + 1) j)) ∧ ∀ p j, ¬ (p = 23 ∧ 40 * (m + 1) + k ≤ j ∧ j < 40 * (m + 1) + n) → M'.1 p j = M.1 p j := by
  intro c
  induction c with
  | zero =>
    intro k f M K hk hS hx2 hL hf
    obtain ⟨f, rfl⟩ : ∃ g, f = g + 1 := ⟨f - 1, by omega⟩
    have h24 := hW.1.2
    refine ⟨M, ?_, fun j h1 h2 => by omega, fun _ _ _ => rfl⟩
    rw [m2_eq, hS.1, i_le (by omega) (by omega), if_pos (by omega)]
  | succ c ih =>
    intro k f M K hk hS hx2 hL hf
    obtain ⟨f, rfl⟩ : ∃ g, f = g + 1 := ⟨f - 1, by omega⟩
    have h24 := hW.1.2
    obtain ⟨s1, s2, s3, s4⟩ := hS.2 k (by omega)
    obtain ⟨w1, w2, w3⟩ := hW.2.2.1 k (by omega)
    -- the row written
    have eS2 : ∀ y : Bool, y = fitF E ps (m + 1) k → ∃ M', m2_S (nI (m + 1)) (nI i) f K (nI k) M (b2 y) = K M' ∧ (∀ j, k ≤ j → j < n → M'.1 23 (40 * (m + 1) + j) = b2 (fitF E ps (m + 1) j)) ∧ ∀ p j, ¬ (p = 23 ∧ 40 * (m + 1) + k ≤ j ∧ j < 40 * (m + 1) + n) → M'.1 p j = M.1 p j := fun y hy => by
      obtain ⟨M', e1, e2, e3⟩ := ih (k + 1) f (qsI M 23 (40 * (m + 1) + k) (b2 y)) K (by omega) (eS_k hS (g_In (by omega)) fun p j hp => g_In (by omega)) (by rw [g_In (by omega), g_In (by omega), g_In (by omega)]; exact hx2) (fun h1 j hj => by rw [g_In (by omega)]; exact hL h1 j hj) (by omega)
      refine ⟨M', ?_, fun j h1 h2 => ?_, fun p j h => by rw [e3 p j (by omega), g_In (by omega)]⟩
      · unfold m2_S
        rw [g_40, g_ix (by omega) (by omega), b2_zk, g_cl (by omega), q_ltE, g_inc]
        exact e1
      · by_cases q : j = k
        · rw [q, e3 _ _ (by omega), g_Ie ⟨rfl, rfl⟩, hy]
        · exact e2 j (by omega) h2
    -- above
    have eH : ∀ y : Bool, y = partF E x k → ∃ M', m2_H (nI (m + 1)) (nI i) f K (nI k) M (b2 y) = K M' ∧ (∀ j, k ≤ j → j < n → M'.1 23 (40 * (m + 1) + j) = b2 (fitF E ps (m + 1) j)) ∧ ∀ p j, ¬ (p = 23 ∧ 40 * (m + 1) + k ≤ j ∧ j < 40 * (m + 1) + n) → M'.1 p j = M.1 p j := fun y hy => by
      have eW : ∀ z : Bool, fitF E ps (m + 1) k = (partF E x k && z) → ∃ M', m2_W (nI (m + 1)) (nI i) f K (nI k) M (b2 y) (b2 z) = K M' ∧ (∀ j, k ≤ j → j < n → M'.1 23 (40 * (m + 1) + j) = b2 (fitF E ps (m + 1) j)) ∧ ∀ p j, ¬ (p = 23 ∧ 40 * (m + 1) + k ≤ j ∧ j < 40 * (m + 1) + n) → M'.1 p j = M.1 p j := fun z hz => by
        unfold m2_W
        rw [i_b2, i_b2]
        cases hyv : y with
        | false =>
          rw [if_pos rfl]
          exact eS2 false (by rw [hz, ← hy, hyv]; rfl)
        | true =>
          rw [if_neg (by decide)]
          cases hzv : z with
          | false =>
            rw [if_pos rfl]
            exact eS2 false (by rw [hz, hzv, Bool.and_false])
          | true =>
            rw [if_neg (by decide)]
            exact eS2 true (by rw [hz, hzv, ← hy, hyv]; rfl)
      unfold m2_H m2_B
      rw [i_eq1 (by omega), g_ix (by omega) (by omega), g_ix (by omega) (by omega), g_cl (by omega), s4]
      have eF : fitF E ps (m + 1) k = (partF E x k && (if m = 0 then true else if x.2.2 = true then (decide (k ≠ 0) && fitF E ps m (E k).2.2) else ancF E (fitF E ps m) 24 k)) := by
        rw [fitF, hx]
      by_cases h0 : m = 0
      · rw [if_pos (by omega), show nI (m + 1) = (1 : Int32) by rw [h0]; rfl, r_131_1 E k]
        have := eW true (by rw [eF, if_pos h0])
        rw [h0] at this
        rw [h0]
        exact this
      · rw [if_neg (by omega)]
        have := r_131 hS hW hi (show 1 ≤ m by omega) hm (hL (by omega)) hx2.2.2 (m2_W (nI (m + 1)) (nI i) f K (nI k) M (b2 y)) 24 k 0 1000 false (by omega) (by omega) (by omega) (by omega)
        rw [show b2 false = 0 from rfl, l_0] at this
        rw [this, Bool.false_or]
        refine eW _ ?_
        rw [eF, if_neg h0, show decide (0 = 0) = true from rfl, Bool.true_and]
    have n4 : nI (4 * i + (m + 1)) - 1 = nI (4 * i + m) := by rw [← l_1, g_sub (by omega)]; rfl
    have eC2 : (x.1 = 0 ∨ x.1 = (E k).1) → 2 ≤ (E k).1 → ∃ M', m2_C (nI (m + 1)) (nI i) f K (nI k) M = K M' ∧ (∀ j, k ≤ j → j < n → M'.1 23 (40 * (m + 1) + j) = b2 (fitF E ps (m + 1) j)) ∧ ∀ p j, ¬ (p = 23 ∧ 40 * (m + 1) + k ≤ j ∧ j < 40 * (m + 1) + n) → M'.1 p j = M.1 p j := fun ho h2 => by
      unfold m2_C
      rw [g_4n, n4, g_cl (by omega), s1, g_ix (by omega) (by omega), g_ix (by omega) (by omega), g_ix (by omega) (by omega), g_cl (by omega), g_cl (by omega), s3, hx2.2.1]
      have ho' : (decide (x.1 = 0) || decide (x.1 = (E k).1)) = true := by
        rcases ho with h | h
        · rw [decide_eq_true h, Bool.true_or]
        · rw [decide_eq_true h, Bool.or_true]
      by_cases q : (E k).2.1 &&& x.2.1 = x.2.1
      · rw [if_pos q]
        exact eH true (by unfold partF; rw [decide_eq_true h2, ho', decide_eq_true q]; rfl)
      · rw [if_neg q]
        exact eH false (by unfold partF; rw [decide_eq_true h2, ho', decide_eq_false q]; rfl)
    rw [m2_eq, hS.1, i_le (by omega) (by omega), if_neg (by omega), g_ix (by omega) (by omega), g_cl (by omega), s1, g_ix (by omega) (by omega), g_cl (by omega), s2]
    by_cases h2 : 2 ≤ (E k).1
    · have c1 : ¬ nI (E k).1 ≤ (1 : Int32) := by rw [show (1 : Int32) = nI 1 from rfl, g_le (by omega) (by omega)]; omega
      rw [if_neg c1, g_4n, n4, g_ix (by omega) (by omega), g_ix (by omega) (by omega), g_ix (by omega) (by omega), g_cl (by omega), hx2.1, i_eq (b := (E k).1) (by omega) (by omega), ← l_0, i_eq (by omega) (by omega), l_0]
      by_cases q0 : x.1 = 0
      · rw [if_pos q0]
        exact eC2 (Or.inl q0) h2
      · rw [if_neg q0]
        by_cases q1 : x.1 = (E k).1
        · rw [if_pos q1]
          exact eC2 (Or.inr q1) h2
        · rw [if_neg q1]
          exact eH false (by unfold partF; rw [decide_eq_true h2, decide_eq_false q0, decide_eq_false q1]; rfl)
    · have c1 : nI (E k).1 ≤ (1 : Int32) := by rw [show (1 : Int32) = nI 1 from rfl, g_le (by omega) (by omega)]; omega
      rw [if_pos c1]
      exact eH false (by unfold partF; rw [decide_eq_false h2]; rfl)
theorem r_mt2 {n : Nat} {I : Nat → Nat} {E : eT} (hW : wE n I E) {i : Nat} (hi : i < 12) {ps : List pT} (h4 : ps.length ≤ 4) (hx : ∀ x ∈ ps, x.1 < 127) : ∀ (c m f : Nat) (M : qM) (K : qM → Option qM), m + c = ps.length → eS M n I E → rSel M i 0 ps → M.1 16 i = nI ps.length → (1 ≤ m → ∀ j, j < n → M.1 23 (40 * m + j) = b2 (fitF E ps m j)) → c < f → ∃ M', f_Md_match_2 (nI i) f K (nI (m + 1)) M = K M' ∧ (1 ≤ ps.length → ∀ j, j < n → M'.1 23 (40 * ps.length + j) = b2 (fitF E ps ps.length j)) ∧ ∀ p j, p ≠ 23 → M'.1 p j = M.1 p j := by
  intro c
  induction c with
  | zero =>
    intro m f M K hm hS hSel h16 hL hf
    obtain ⟨f, rfl⟩ : ∃ g, f = g + 1 := ⟨f - 1, by omega⟩
    refine ⟨M, ?_, by rw [show ps.length = m by omega]; exact hL, fun _ _ _ => rfl⟩
    rw [f_Md_match_2, g_ix (by omega) (by omega), g_cl (by omega), h16, i_lt (by omega) (by omega), if_pos (by omega)]
  | succ c ih =>
    intro m f M K hm hS hSel h16 hL hf
    obtain ⟨f, rfl⟩ : ∃ g, f = g + 1 := ⟨f - 1, by omega⟩
    have h24 := hW.1.2
    obtain ⟨x, hxm⟩ : ∃ x, ps[m]? = some x := ⟨_, List.getElem?_eq_getElem (by omega)⟩
    have hs := hSel m x hxm
    rw [show 4 * i + 0 + m = 4 * i + m by omega] at hs
    obtain ⟨M1, a1, a2, a3⟩ := r_m23 hW hi (show m < 4 by omega) hxm (hx x (List.mem_of_getElem? hxm)) n 0 1000 M (fun (M57 : qM) => f_Md_match_2 (nI i) f K (nI (m + 1) + 1) M57) (by omega) hS hs hL (by omega)
    have k1 : ∀ p j, p ≠ 23 → M1.1 p j = M.1 p j := fun p j h => a3 p j (by omega)
    obtain ⟨M', e1, e2, e3⟩ := ih (m + 1) f M1 K (by omega) (eS_k hS (k1 _ _ (by omega)) fun p j hp => k1 _ _ (by omega)) (fun t y ht => by rw [k1 _ _ (by omega), k1 _ _ (by omega), k1 _ _ (by omega)]; exact hSel t y ht) (by rw [k1 _ _ (by omega)]; exact h16) (fun _ j hj => a2 j (Nat.zero_le _) hj) (by omega)
    refine ⟨M', ?_, e2, fun p j h => by rw [e3 p j h, k1 p j h]⟩
    rw [f_Md_match_2, g_ix (by omega) (by omega), g_cl (by omega), h16, i_lt (by omega) (by omega), if_neg (by omega)]
    rw [l_0] at a1
    rw [a1, g_inc]
    exact e1
theorem r_match {n : Nat} {I : Nat → Nat} {E : eT} (hW : wE n I E) {i : Nat} (hi : i < 12) {ps : List pT} (h1 : 1 ≤ ps.length) (h4 : ps.length ≤ 4) (hx : ∀ x ∈ ps, x.1 < 127) {M : qM} (hS : eS M n I E) (hSel : rSel M i 0 ps) (h16 : M.1 16 i = nI ps.length) : ∃ M', f_Md_match (nI i) M = some M' ∧ (∀ j, j < n → M'.1 23 (40 * ps.length + j) = b2 (fitF E ps ps.length j)) ∧ ∀ p j, p ≠ 23 → M'.1 p j = M.1 p j := by
  obtain ⟨M', e1, e2, e3⟩ := r_mt2 hW hi h4 hx ps.length 0 1000 M (fun (M58 : qM) => some M58) (by omega) hS hSel h16 (fun h => by omega) (by omega)
  exact ⟨M', e1, e2 h1, e3⟩
