/-! layout on the reference's side: within, cells of a row -/
section RWi
variable {n nc : Nat} {I pj : Nat → Nat} {Z : lT}
/-- what the tree is -/
def wP (n : Nat) (pj : Nat → Nat) (Z : lT) : Prop := (∀ b i, b < i → i < zBh Z b → b < n → b ≤ pj i) ∧ (∀ i, 0 < i → i < n → i < zBh Z (pj i)) ∧ (∀ i, 0 < i → i < n → zNm Z (pj i) = 114 → zNm Z i ≠ 1 ∧ zV Z i 3 ≠ 105)
theorem r_wi46 (hW : wZ2 n nc I pj Z) (hP : wP n pj Z) {M : qM} (hZ : rZ M n nc I pj Z) {b : Nat} (hb : b < n) (hr : zNm Z b = 114) (K : Int32 → Option Int32) : ∀ (m x6 x7 f : Nat) (s : Bool), x6 ≤ m → b < x6 → x6 < zBh Z b → x7 + x6 < 40 → x6 < f → f_Md_within_46 (nI b) M f K (b2 s) (nI x6) (nI x7) = K 0 := by
  have hn : n ≤ 24 := hW.1.2.1
  obtain ⟨_, _, _, hbh, _⟩ := hW.2.1 b hb
  intro m
  induction m with
  | zero => intro x6 x7 f s h1 h2; omega
  | succ m ih =>
    intro x6 x7 f s h1 h2 h3 h4 h5
    obtain ⟨f, rfl⟩ : ∃ g, f = g + 1 := ⟨f - 1, by omega⟩
    obtain ⟨a1, a2, a3, a4, a5⟩ := hZ.2.1 x6 (by omega)
    rw [if_neg (by omega)] at a3
    have hp1 := hW.2.2.1 x6 (by omega) (by omega)
    have hp2 := hP.1 b x6 h2 h3 hb
    have e25 : M.1 25 (120 + x6) = zV Z x6 3 := a4 3 (by omega)
    have e0 : ∀ (x : Bool) , (pj x6 = b → x = false) → f_Md_within_46 (nI b) M f K (b2 x) (nI (pj x6)) (nI (x7 + 1)) = K 0 := fun x hx => by
      by_cases e : pj x6 = b
      · obtain ⟨f, rfl⟩ : ∃ g, f = g + 1 := ⟨f - 1, by omega⟩
        rw [f_Md_within_46, show (40 : Int32) = nI 40 from rfl, i_le (by omega) (by omega), if_neg (by omega), i_le (by omega) (by omega), if_pos (by omega), hx e]
        rfl
      · exact ih (pj x6) (x7 + 1) f x (by omega) (by omega) (by omega) (by omega) (by omega)
    rw [f_Md_within_46, show (40 : Int32) = nI 40 from rfl, i_le (by omega) (by omega), if_neg (by omega), i_le (by omega) (by omega), if_neg (by omega), q_ltE, q_ltE]
    dsimp only
    rw [g_ix (by omega) (by omega), g_ix (by omega) (by omega), g_cl (by omega), a3, g_inc, show (120 : Int32) = nI 120 from rfl, g_add, g_ix (by omega) (by omega), g_cl (by omega), e25, i_b2]
    have z0 : f_Md_within_46 (nI b) M f K 0 (nI (pj x6)) (nI (x7 + 1)) = K 0 := e0 false (fun _ => rfl)
    cases s with
    | false => rw [if_pos rfl]; exact z0
    | true =>
      rw [if_neg (by simp)]
      by_cases q : zV Z x6 3 = 105
      · rw [if_pos q]
        refine e0 true fun e => ?_
        have := (hP.2.2 x6 (by omega) (by omega) (by rw [e]; exact hr)).2
        exact absurd q this
      · rw [if_neg q]
        exact z0
def inC (pj : Nat → Nat) (Z : lT) (b i : Nat) : Bool := !(zNm Z i == 1) && (zV Z i 3 == 98) && (pj i == b)
theorem r_wi (hW : wZ2 n nc I pj Z) (hP : wP n pj Z) {M : qM} (hZ : rZ M n nc I pj Z) {b i : Nat} (hb : b < n) (hr : zNm Z b = 114) (h1 : b < i) (h2 : i < zBh Z b) : f_Md_within (nI i) (nI b) M = some (b2 (inC pj Z b i)) := by
  have hn : n ≤ 24 := hW.1.2.1
  obtain ⟨_, _, _, hbh, _⟩ := hW.2.1 b hb
  obtain ⟨w1, w2, _, _, _⟩ := hW.2.1 i (by omega)
  obtain ⟨a1, a2, a3, a4, a5⟩ := hZ.2.1 i (by omega)
  rw [if_neg (by omega)] at a3
  have hp1 := hW.2.2.1 i (by omega) (by omega)
  have hp2 := hP.1 b i h1 h2 hb
  have e25 : M.1 25 (120 + i) = zV Z i 3 := a4 3 (by omega)
  have e0 : ∀ x : Bool, (f_Md_within_46 (nI b) M 1000 (fun (x18 : Int32) => q_zk x18 <| some x18) (b2 x) (nI (pj i)) 0) = some (b2 (x && (pj i == b))) := fun x => by
    by_cases e : pj i = b
    · have : f_Md_within_46 (nI b) M (999 + 1) (fun (x18 : Int32) => q_zk x18 <| some x18) (b2 x) (nI (pj i)) (nI 0) = some (b2 (x && (pj i == b))) := by
        rw [f_Md_within_46, show (40 : Int32) = nI 40 from rfl, i_le (by omega) (by omega), if_neg (by omega), i_le (by omega) (by omega), if_pos (by omega), q_zkb, show (pj i == b) = true by rw [e]; simp, Bool.and_true]
      exact this
    · have := r_wi46 hW hP hZ hb hr (fun (x18 : Int32) => q_zk x18 <| some x18) (pj i) (pj i) 0 1000 x (Nat.le_refl _) (by omega) (by omega) (by omega) (by omega)
      refine Eq.trans this ?_
      rw [show (pj i == b) = false by simpa using e, Bool.and_false]
      rfl
  unfold f_Md_within
  rw [g_ix (by omega) (by omega), g_cl (by omega), a1, g_ix (by omega) (by omega), g_cl (by omega), a2, q_ltE, q_ltE, i_eq1 (by omega)]
  dsimp only
  rw [g_ix (by omega) (by omega), g_ix (by omega) (by omega), a3, show (120 : Int32) = nI 120 from rfl, g_add, g_ix (by omega) (by omega), g_cl (by omega), e25]
  have z0 := e0 false
  have z1 := e0 true
  rw [Bool.false_and] at z0
  rw [Bool.true_and] at z1
  unfold inC
  by_cases q : zNm Z i = 1
  · rw [if_pos q, show (zNm Z i == 1) = true by rw [q]; rfl, Bool.not_true, Bool.false_and, Bool.false_and]
    exact z0
  · rw [if_neg q, show (zNm Z i == 1) = false by simpa using q, Bool.not_false, Bool.true_and]
    by_cases q2 : zV Z i 3 = 98
    · rw [if_pos q2, show (zV Z i 3 == 98) = true by rw [q2]; rfl, Bool.true_and]
      exact z1
    · rw [if_neg q2, show (zV Z i 3 == 98) = false by simpa using q2, Bool.false_and]
      exact z0
def cnC (pj : Nat → Nat) (Z : lT) (b a m : Nat) : Nat := ((rgF a m).filter (inC pj Z b)).length
theorem cnC_s (pj : Nat → Nat) (Z : lT) (b a m : Nat) : cnC pj Z b a (m + 1) = (if inC pj Z b a = true then 1 else 0) + cnC pj Z b (a + 1) m := by
  unfold cnC
  rw [rgF, List.filter_cons]
  by_cases q : inC pj Z b a = true
  · rw [if_pos q, if_pos q, List.length_cons]; omega
  · rw [if_neg q, if_neg q]; omega
theorem cnC_a (pj : Nat → Nat) (Z : lT) (b a m1 m2 : Nat) : cnC pj Z b a (m1 + m2) = cnC pj Z b a m1 + cnC pj Z b (a + m1) m2 := by
  unfold cnC
  rw [rgF_add, List.filter_append, List.length_append]
theorem r_247 (hW : wZ2 n nc I pj Z) (hP : wP n pj Z) {M : qM} (hZ : rZ M n nc I pj Z) {b j : Nat} (hb : b < n) (hr : zNm Z b = 114) (hj : b < j) (hj2 : j ≤ zBh Z b) (K : Int32 → Int32 → Option qM) : ∀ (m i f x y : Nat), i + m = zBh Z b → b < i → m < f → f_Md_widths_247 (nI b) M (nI j) f K (nI x) (nI y) (nI i) = K (nI (x + cnC pj Z b i m)) (nI (y + cnC pj Z b i (j - i))) := by
  have hn : n ≤ 24 := hW.1.2.1
  obtain ⟨_, _, _, hbh, _⟩ := hW.2.1 b hb
  obtain ⟨a1, a2, a3, a4, a5⟩ := hZ.2.1 b hb
  intro m
  induction m with
  | zero =>
    intro i f x y hi hbi hf
    obtain ⟨f, rfl⟩ : ∃ g, f = g + 1 := ⟨f - 1, by omega⟩
    rw [f_Md_widths_247, a5, q_bpE, i_le (by omega) (by omega), if_pos (by omega), show j - i = 0 by omega]
    rfl
  | succ m ih =>
    intro i f x y hi hbi hf
    obtain ⟨f, rfl⟩ : ∃ g, f = g + 1 := ⟨f - 1, by omega⟩
    rw [f_Md_widths_247, a5, q_bpE, i_le (by omega) (by omega), if_neg (by omega), r_wi hW hP hZ hb hr hbi (by omega), q_bpE, i_b2, i_le (by omega) (by omega), g_inc, g_inc, g_inc, cnC_s]
    have e0 : nI y + 0 = nI y := Int32.add_zero _
    by_cases hlt : j ≤ i
    · rw [if_pos hlt, e0, show j - i = 0 by omega]
      by_cases q : inC pj Z b i = true
      · have e := ih (i + 1) f (x + 1) y (by omega) (by omega) (by omega)
        rw [show j - (i + 1) = 0 by omega] at e
        rw [if_neg (by rw [q]; simp), if_pos q, e, show x + 1 + cnC pj Z b (i + 1) m = x + (1 + cnC pj Z b (i + 1) m) by omega]
        rfl
      · have e := ih (i + 1) f x y (by omega) (by omega) (by omega)
        rw [show j - (i + 1) = 0 by omega] at e
        rw [if_pos (Bool.eq_false_iff.mpr q), if_neg q, e, Nat.zero_add]
        rfl
    · rw [if_neg hlt, show j - i = j - (i + 1) + 1 by omega, cnC_s]
      by_cases q : inC pj Z b i = true
      · have e := ih (i + 1) f (x + 1) (y + 1) (by omega) (by omega) (by omega)
        rw [if_neg (by rw [q]; simp), if_pos q, e, Nat.add_assoc, Nat.add_assoc]
      · have e := ih (i + 1) f x y (by omega) (by omega) (by omega)
        rw [if_pos (Bool.eq_false_iff.mpr q), if_neg q, e, Nat.zero_add, Nat.zero_add]
end RWi
