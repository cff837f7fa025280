/-! style on the class's side: which rules fit -/
theorem t_el {M : qM} {o nm : Nat} (h : M.1 o 0 = nI nm) (hn : nm < 200) : f_Node_isElement o M = some (b2 (decide (2 ≤ nm))) := by
  unfold f_Node_isElement
  rw [h, ← l_0, i_eq (by omega) (by omega), i_eq1 (by omega)]
  by_cases q0 : nm = 0
  · rw [if_pos q0, decide_eq_false (by omega)]
    rfl
  · rw [if_neg q0]
    by_cases q1 : nm = 1
    · rw [if_pos q1, decide_eq_false (by omega)]
      rfl
    · rw [if_neg q1, decide_eq_true (by omega)]
      rfl
theorem t_pf {M : qM} {E : eT} {x : pT} {q0 o k m : Nat} (h0 : M.1 o 0 = nI (E k).1) (h1 : M.1 o 1 = (E k).2.1) (hn : (E k).1 < 200) (hx : x.1 < 127) (p1 : M.1 (q0 + 1) m = pnC x.1) (p2 : M.1 (q0 + 2) m = x.2.1) (hm : m < 4) : f_Rule_partFits q0 (nI m) o M = some (b2 (partF E x k)) := by
  unfold f_Rule_partFits
  rw [t_el h0 hn, q_bpE, i_b2, g_ix (by omega) (by omega), g_ix (by omega) (by omega), q_ltE, g_ix (by omega) (by omega), g_cl (by omega), p1, p2, h0, h1]
  unfold partF
  by_cases g : 2 ≤ (E k).1
  · rw [decide_eq_true g, if_neg (by simp)]
    have ec : (if x.2.1 &&& ((E k).2.1 ^^^ (-1)) = 0 then some (1 : Int32) else some 0) = some (b2 (decide ((E k).2.1 &&& x.2.1 = x.2.1))) := by
      by_cases q : (E k).2.1 &&& x.2.1 = x.2.1
      · rw [if_pos ((cl_fit _ _).mpr q), decide_eq_true q]
        rfl
      · rw [if_neg (fun h => q ((cl_fit _ _).mp h)), decide_eq_false q]
        rfl
    rw [ec]
    unfold pnC
    by_cases qn : x.1 = 0
    · rw [if_pos qn, if_pos rfl, decide_eq_true qn, Bool.true_or, Bool.true_and, Bool.true_and]
    · rw [if_neg qn, if_neg (by rw [g_m1 (by omega)]; exact id), i_eq (by omega) (by omega), decide_eq_false qn, Bool.false_or, Bool.true_and]
      by_cases q : x.1 = (E k).1
      · rw [if_pos q, decide_eq_true q, Bool.true_and]
      · rw [if_neg q, decide_eq_false q, Bool.false_and]
        rfl
  · rw [decide_eq_false g, if_pos rfl, Bool.false_and]
    rfl
/-- the way up -/
theorem t_up {M : qM} {n : Nat} {I : Nat → Nat} {E : eT} (hC : eC M n I E) (hW : wE n I E) {FR : Nat → Int32 → Nat → qM → Option Int32} {q0 : Nat} {a1 : Int32} {P : Nat → Bool} (hF : ∀ k, k < n → FR q0 (a1 - 1) (7 + 5 * I k) M = some (b2 (P k))) : ∀ (g k f : Nat) (K : Option Int32), k < n → k ≤ g → g < f → f_Rule_fitsUpTo_67 FR q0 a1 M f K (if k = 0 then none else some (7 + 5 * I (E k).2.2)) = if ancF E P g k = true then some 1 else K := by
  intro g
  induction g with
  | zero =>
    intro k f K hk hg hf
    obtain ⟨f, rfl⟩ : ∃ g, f = g + 1 := ⟨f - 1, by omega⟩
    rw [if_pos (by omega), f_Rule_fitsUpTo_67, ancF, if_neg (by decide)]
    rfl
  | succ g ih =>
    intro k f K hk hg hf
    obtain ⟨f, rfl⟩ : ∃ g, f = g + 1 := ⟨f - 1, by omega⟩
    by_cases h0 : k = 0
    · rw [if_pos h0, f_Rule_fitsUpTo_67, ancF, if_pos h0, if_neg (by decide)]
      rfl
    · have hp := (hW.2.2.2.1 k (by omega) hk).1
      rw [if_neg h0, f_Rule_fitsUpTo_67]
      show (q_bp (FR q0 (a1 - 1) (7 + 5 * I (E k).2.2) M) fun x12 => if x12 = 0 then (q_lt (M.2 (7 + 5 * I (E k).2.2) 4) fun r14 => f_Rule_fitsUpTo_67 FR q0 a1 M f K r14) else (some 1)) = _
      rw [hF _ (by omega), q_bpE, i_b2, ancF, if_neg h0]
      by_cases q : P (E k).2.2 = false
      · rw [if_pos q, q, Bool.false_or, (hC.2 _ (by omega)).2.2.2, q_ltE]
        exact ih _ f K (by omega) (by omega) (by omega)
      · rw [if_neg q, if_pos (by simp at q; simp [q])]
theorem t_fu {M : qM} {n : Nat} {I : Nat → Nat} {E : eT} (hC : eC M n I E) (hW : wE n I E) {q0 : Nat} {ps : List pT} (hS : cSel M q0 0 ps) (hx : ∀ x ∈ ps, x.1 < 127) (h4 : ps.length ≤ 4) : ∀ (m d k : Nat), m < ps.length → m < d → k < n → f_Rule_fitsUpTo d q0 (nI m) (7 + 5 * I k) M = some (b2 (fitF E ps (m + 1) k)) := by
  intro m
  induction m with
  | zero =>
    intro d k hm hd hk
    obtain ⟨d, rfl⟩ : ∃ g, d = g + 1 := ⟨d - 1, by omega⟩
    obtain ⟨x, hx0⟩ : ∃ x, ps[0]? = some x := ⟨_, List.getElem?_eq_getElem (by omega)⟩
    obtain ⟨s1, s2, s3⟩ := hS 0 x hx0
    have hnm := (hW.2.2.1 k hk).2.1
    rw [f_Rule_fitsUpTo, q_ltE, i_n0 (by omega), show (4 : Int32) = nI 4 from rfl, i_le (by omega) (by omega), if_neg (by omega), t_pf (hC.2 k hk).2.1 (hC.2 k hk).2.2.1 (by omega) (hx x (List.mem_of_getElem? hx0)) s1 s2 (by omega), q_bpE, i_b2, fitF, hx0, if_pos (show nI 0 = (0 : Int32) from rfl)]
    show _ = some (b2 (partF E x k && (if 0 = 0 then true else _)))
    rw [if_pos rfl, Bool.and_true]
    cases partF E x k <;> rfl
  | succ m ih =>
    intro d k hm hd hk
    obtain ⟨d, rfl⟩ : ∃ g, d = g + 1 := ⟨d - 1, by omega⟩
    obtain ⟨x, hx0⟩ : ∃ x, ps[m + 1]? = some x := ⟨_, List.getElem?_eq_getElem (by omega)⟩
    obtain ⟨s1, s2, s3⟩ := hS (m + 1) x hx0
    rw [Nat.zero_add] at s1 s2 s3
    have hnm := (hW.2.2.1 k hk).2.1
    have h24 := hW.1.2
    have e1 : nI (m + 1) - 1 = nI m := by rw [← l_1, g_sub (by omega)]; rfl
    rw [f_Rule_fitsUpTo, q_ltE, i_n0 (by omega), show (4 : Int32) = nI 4 from rfl, i_le (by omega) (by omega), if_neg (by omega), t_pf (hC.2 k hk).2.1 (hC.2 k hk).2.2.1 (by omega) (hx x (List.mem_of_getElem? hx0)) s1 s2 (by omega), q_bpE, i_b2, fitF, hx0]
    show _ = some (b2 (partF E x k && (if m + 1 = 0 then true else if x.2.2 = true then (decide (k ≠ 0) && fitF E ps (m + 1) (E k).2.2) else ancF E (fitF E ps (m + 1)) 24 k)))
    rw [if_neg (show ¬ m + 1 = 0 by omega)]
    cases hp : partF E x k with
    | false => rw [if_pos rfl, Bool.false_and]; rfl
    | true =>
      rw [if_neg (by simp), Bool.true_and, ← l_0, i_eq (by omega) (by omega), if_neg (by omega), g_ix (by omega) (by omega), g_cl (by omega), s3, l_0, i_b2, (hC.2 k hk).2.2.2]
      by_cases hd2 : x.2.2 = true
      · rw [if_neg (by rw [hd2]; decide), if_pos hd2, q_ltE]
        by_cases h0 : k = 0
        · rw [if_pos h0, decide_eq_false (by omega), Bool.false_and]
          rfl
        · have hpj := (hW.2.2.2.1 k (by omega) hk).1
          rw [if_neg h0, decide_eq_true h0, Bool.true_and]
          show (q_bp (f_Rule_fitsUpTo d q0 (nI (m + 1) - 1) (7 + 5 * I (E k).2.2) M) fun x20 => if x20 = 0 then (some 0) else (some 1)) = _
          rw [e1, ih d _ (by omega) (by omega) (by omega), q_bpE]
          cases fitF E ps (m + 1) (E k).2.2 <;> rfl
      · rw [if_pos (by simpa using hd2), if_neg hd2, q_ltE, t_up hC hW (P := fitF E ps (m + 1)) (fun j hj => by rw [e1]; exact ih d j (by omega) (by omega) hj) 24 k 1000 (some 0) hk (by omega) (by omega)]
        cases ancF E (fitF E ps (m + 1)) 24 k <;> rfl
theorem t_fits {M : qM} {n : Nat} {I : Nat → Nat} {E : eT} (hC : eC M n I E) (hW : wE n I E) {q0 : Nat} {ps : List pT} (hS : cSel M q0 0 ps) (h5 : M.1 q0 5 = nI ps.length) (hx : ∀ x ∈ ps, x.1 < 127) (h4 : ps.length ≤ 4) (h1 : 1 ≤ ps.length) {k : Nat} (hk : k < n) : f_Rule_fits q0 (7 + 5 * I k) M = some (b2 (fitF E ps ps.length k)) := by
  unfold f_Rule_fits
  rw [h5, ← l_1, g_sub h1, t_fu hC hW hS hx h4 (ps.length - 1) 8 k (by omega) (by omega) hk, q_bpE, b2_zk, show ps.length - 1 + 1 = ps.length by omega]
