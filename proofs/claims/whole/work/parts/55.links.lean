/-! links: a new node, a child taken in, a child taken out, children given away -/
theorem f_become (q0 : Nat) (a b : Int32) (M : qM) : ∃ M', f_Node_become q0 a b M = some M' ∧ M'.1 q0 0 = a ∧ M'.1 q0 1 = b ∧ M'.1 q0 3 = 0 ∧ M'.1 (q0 + 1) 1 = 0 ∧ (∀ j, 4 ≤ j → j ≤ 10 → M'.2 q0 j = none) ∧ (∀ p j, p ≠ q0 → p ≠ q0 + 1 → M'.1 p j = M.1 p j) ∧ ∀ p j, p ≠ q0 → M'.2 p j = M.2 p j := by
  refine ⟨_, rfl, ?_, ?_, ?_, ?_, fun j h1 h2 => ?_, fun p j h1 h2 => ?_, fun p j h1 => ?_⟩
  · simp (disch := omega) only [g_Ie, g_In, g_R1]
  · simp (disch := omega) only [g_Ie, g_In, g_R1]
  · simp (disch := omega) only [g_Ie, g_In, g_R1]
  · simp (disch := omega) only [g_Ie, g_In, g_R1]
  · rcases (show j = 4 ∨ j = 5 ∨ j = 6 ∨ j = 7 ∨ j = 8 ∨ j = 9 ∨ j = 10 by omega) with rfl | rfl | rfl | rfl | rfl | rfl | rfl <;> simp (disch := omega) only [g_Re, g_Rn, g_I2]
  · simp (disch := omega) only [g_In, g_R1]
  · simp (disch := omega) only [g_Rn, g_I2]
theorem nxL_no {cf : Nat → Nat × Nat} {i : Nat} : ∀ {m a : Nat}, (∀ q, a ≤ q → q < a + m → (cf q).2 ≠ i) → nxL cf i m a = none
  | 0, _, _ => rfl
  | m + 1, a, h => by
    unfold nxL
    rw [if_neg (h a (Nat.le_refl a) (by omega))]
    exact nxL_no fun q h1 h2 => h q (by omega) (by omega)
theorem lastI_none {P : Nat → Bool} : ∀ {k : Nat}, (∀ j, j < k → P j = false) → lastI P k = none
  | 0, _ => rfl
  | k + 1, h => by
    unfold lastI
    rw [if_neg (by rw [h k (Nat.lt_succ_self k)]; simp)]
    exact lastI_none fun j hj => h j (Nat.lt_succ_of_lt hj)
theorem flO_no {en : List (Nat × Nat)} {o : Nat} (h : ∀ q ∈ en, q.2 ≠ o) : flO en o = [] := by
  unfold flO
  rw [List.filter_eq_nil_iff.mpr (fun q hq => by simpa using h q hq)]
  rfl
def s_make (s : aT) (x : Nat) (c : Int32) : aT := (sB s, sN s + 1, up (sNm s) (sN s) x, up (sCs s) (sN s) c, up (sKd s) (sN s) [], sSf s, sH s, sEn s, sCf s, sNc s)
def s_brk (s : aT) : aT := (true, sN s, sNm s, sCs s, sKd s, sSf s, sH s, sEn s, sCf s, sNc s)
/-- what a new node's number must not be in -/
def wN (s : aT) : Prop := (∀ k, k < sH s → sSf s k < sN s) ∧ (∀ q ∈ sEn s, q.2 < sN s) ∧ ∀ q, q < sNc s → (sCf s q).2 < sN s
theorem s_makeT {M : qM} {s : aT} (c : C M s) (w : wN s) (hn1 : 1 ≤ sN s) (hn : sN s < 24) (x : Nat) (a : Int32) : ∃ M', f_Tree_make (nI x) a M = some (some (7 + 5 * sN s), M') ∧ C M' (s_make s x a) ∧ tF M M' ∧ M'.2 (7 + 5 * sN s) 4 = none := by
  obtain ⟨⟨cB, cN⟩, c1, c2, c3, c4, c5⟩ := c
  obtain ⟨M', e1, b1, b2', b3, b4, b5, b6, b7⟩ := f_become (7 + 5 * sN s) (nI x) a (qsI M 1 5 (nI (sN s + 1)))
  have r1 : ∀ p j, p ≠ 7 + 5 * sN s → p ≠ 8 + 5 * sN s → ¬ (p = 1 ∧ j = 5) → M'.1 p j = M.1 p j := fun p j h1 h2 h3 => (b6 p j h1 (by omega)).trans (g_In h3)
  have r2 : ∀ p j, p ≠ 7 + 5 * sN s → M'.2 p j = M.2 p j := fun p j h1 => b7 p j h1
  refine ⟨M', ?_, ⟨⟨?_, ?_⟩, fun i hi => ?_, ⟨fun p hp => ?_, fun p hp K1 y K2 hk => ?_⟩, ⟨?_, fun k hk => ?_, fun i hi => ?_⟩, fun i hi => ?_, ⟨?_, fun i hi => ?_, fun q hq => ?_⟩⟩, fun p j hp => ⟨?_, ?_⟩, b5 4 (by omega) (by omega)⟩
  · unfold f_Tree_make
    rw [cN, show (24 : Int32) = nI 24 from rfl, i_lt (by omega) (by omega), if_pos hn, g_ix (by omega) (by omega), g_cl (by omega), g_inc]
    simp only [q_lt, e1, q_cv]
  · exact (r1 1 7 (by omega) (by omega) (by omega)).trans cB
  · rw [b6 1 5 (by omega) (by omega), g_Ie ⟨rfl, rfl⟩]
    rfl
  · show M'.1 (7 + 5 * i) 0 = nI (up (sNm s) (sN s) x i) ∧ M'.1 (7 + 5 * i) 1 = up (sCs s) (sN s) a i
    by_cases h : i = sN s
    · subst h
      rw [up_e, up_e]
      exact ⟨b1, b2'⟩
    · rw [up_n h, up_n h, r1 _ _ (by omega) (by omega) (by omega), r1 _ _ (by omega) (by omega) (by omega)]
      have hi' : i < sN s + 1 := hi
      exact c1 i (by omega)
  · show M'.2 (7 + 5 * p) 5 = oP (up (sKd s) (sN s) [] p).head? ∧ M'.2 (7 + 5 * p) 6 = oP (up (sKd s) (sN s) [] p).getLast?
    by_cases h : p = sN s
    · subst h
      rw [up_e, b5 5 (by omega) (by omega), b5 6 (by omega) (by omega)]
      exact ⟨rfl, rfl⟩
    · have hp' : p < sN s + 1 := hp
      rw [up_n h, r2 _ _ (by omega), r2 _ _ (by omega)]
      exact c2.1 p (by omega)
  · have hk' : up (sKd s) (sN s) [] p = K1 ++ y :: K2 := hk
    have hp' : p < sN s + 1 := hp
    by_cases h : p = sN s
    · subst h
      rw [up_e] at hk'
      simp at hk'
    · rw [up_n h] at hk'
      have := c2.2 p (by omega) K1 y K2 hk'
      rw [r2 _ _ (by omega), r2 _ _ (by omega), r2 _ _ (by omega)]
      exact ⟨Nat.lt_succ_of_lt this.1, this.2⟩
  · rw [r1 5 1 (by omega) (by omega) (by omega)]
    exact c3.1
  · rw [r2 6 k (by omega)]
    exact c3.2.1 k hk
  · show M'.1 (7 + 5 * i) 3 = b2 (opn (sSf s) (sH s) i)
    by_cases h : i = sN s
    · subst h
      rw [b3]
      have : opn (sSf s) (sH s) (sN s) = false := by
        rw [← Bool.not_eq_true, opn_t]
        rintro ⟨k, h1, h2⟩
        have := w.1 k h1
        omega
      rw [this]
      rfl
    · have hi' : i < sN s + 1 := hi
      rw [r1 _ _ (by omega) (by omega) (by omega)]
      exact c3.2.2 i (by omega)
  · show M'.1 (8 + 5 * i) 1 = nI (flO (sEn s) i).length ∧ _
    by_cases h : i = sN s
    · subst h
      have e : flO (sEn s) (sN s) = [] := flO_no fun q hq => by have := w.2.1 q hq; omega
      rw [e, show 8 + 5 * sN s = 7 + 5 * sN s + 1 by omega, b4]
      exact ⟨rfl, fun k z hz => by rw [show flO (sEn (s_make s x a)) (sN s) = [] from e] at hz; simp at hz⟩
    · have hi' : i < sN s + 1 := hi
      rw [r1 _ _ (by omega) (by omega) (by omega)]
      refine ⟨(c4 i (by omega)).1, fun k z hz => ?_⟩
      rw [r2 _ _ (by omega)]
      exact (c4 i (by omega)).2 k z hz
  · rw [r1 1 6 (by omega) (by omega) (by omega)]
    exact c5.1
  · show M'.2 (7 + 5 * i) 9 = (nxL (sCf s) i (sNc s) 0).map (127 + ·) ∧ M'.2 (7 + 5 * i) 10 = (lastI (fun q => (sCf s q).2 == i) (sNc s)).map (127 + ·)
    by_cases h : i = sN s
    · subst h
      rw [b5 9 (by omega) (by omega), b5 10 (by omega) (by omega), nxL_no (fun q _ h2 => by have := w.2.2 q (by omega); omega), lastI_none (fun q hq => by have := w.2.2 q hq; simp; omega)]
      exact ⟨rfl, rfl⟩
    · have hi' : i < sN s + 1 := hi
      rw [r2 _ _ (by omega), r2 _ _ (by omega)]
      exact c5.2.1 i (by omega)
  · rw [r1 _ _ (by omega) (by omega) (by omega), r2 _ _ (by omega)]
    exact c5.2.2 q hq
  · exact r1 _ _ (by omega) (by omega) (by omega)
  · exact r2 _ _ (by omega)
theorem s_brkT {M : qM} {s : aT} (c : C M s) (hn : ¬ sN s < 24) (h24 : sN s ≤ 24) (x a : Int32) : ∃ M', f_Tree_make x a M = some (none, M') ∧ C M' (s_brk s) ∧ tF M M' := by
  obtain ⟨⟨cB, cN⟩, c1, c2, c3, c4, c5⟩ := c
  refine ⟨qsI M 1 7 1, ?_, ⟨⟨g_Ie ⟨rfl, rfl⟩, ?_⟩, ?_, ?_, ?_, ?_, ?_⟩, fun p j hp => ⟨?_, rfl⟩⟩
  · unfold f_Tree_make
    rw [cN, show (24 : Int32) = nI 24 from rfl, i_lt (by omega) (by omega), if_neg hn]
    rfl
  · rw [g_In (by omega)]
    exact cN
  · exact cNm_cg c1 fun i hi j hj => g_In (by omega)
  · exact cLk_cg c2 fun i hi j h1 h2 => rfl
  · exact cSt_cg c3 (g_In (by omega)) (fun k hk => rfl) fun i hi => g_In (by omega)
  · exact cFl_cg c4 (fun i hi => g_In (by omega)) fun i hi k => rfl
  · exact cCh_cg c5 (g_In (by omega)) (fun i hi j h1 h2 => rfl) fun q hq => ⟨g_In (by omega), rfl⟩
  · exact g_In (by omega)
/-- one list of children put anew -/
theorem cLk_up {M M' : qM} {n p : Nat} {kd : Nat → List Nat} {L : List Nat} (h : cLk M n kd) (hp : p < n) (h5 : M'.2 (7 + 5 * p) 5 = oP L.head?) (h6 : M'.2 (7 + 5 * p) 6 = oP L.getLast?) (hL : ∀ K1 x K2, L = K1 ++ x :: K2 → x < n ∧ M'.2 (7 + 5 * x) 4 = some (7 + 5 * p) ∧ M'.2 (7 + 5 * x) 7 = oP K1.getLast? ∧ M'.2 (7 + 5 * x) 8 = oP K2.head?) (hx : ∀ x, x ∈ L → ∀ q, q < n → q ≠ p → x ∉ kd q) (k1 : ∀ q, q < n → q ≠ p → M'.2 (7 + 5 * q) 5 = M.2 (7 + 5 * q) 5 ∧ M'.2 (7 + 5 * q) 6 = M.2 (7 + 5 * q) 6) (k2 : ∀ x, x < n → x ∉ kd p → x ∉ L → M'.2 (7 + 5 * x) 4 = M.2 (7 + 5 * x) 4 ∧ M'.2 (7 + 5 * x) 7 = M.2 (7 + 5 * x) 7 ∧ M'.2 (7 + 5 * x) 8 = M.2 (7 + 5 * x) 8) : cLk M' n (up kd p L) := by
  refine ⟨fun q hq => ?_, fun q hq K1 x K2 hk => ?_⟩
  · by_cases e : q = p
    · subst e
      rw [up_e]
      exact ⟨h5, h6⟩
    · rw [up_n e, (k1 q hq e).1, (k1 q hq e).2]
      exact h.1 q hq
  · by_cases e : q = p
    · subst e
      rw [up_e] at hk
      exact hL K1 x K2 hk
    · rw [up_n e] at hk
      have a := h.2 q hq K1 x K2 hk
      have m1 : x ∉ kd p := fun m => by
        obtain ⟨A, B, e2⟩ := List.append_of_mem m
        have := h.2 p hp A x B e2
        have := this.2.1.symm.trans a.2.1
        simp at this
        omega
      have m2 : x ∉ L := fun m => hx x m q hq e (by rw [hk]; simp)
      have := k2 x a.1 m1 m2
      rw [this.1, this.2.1, this.2.2]
      exact a
theorem sp_end {α : Type} {L K1 K2 : List α} {c x : α} (h : L ++ [c] = K1 ++ x :: K2) : (K2 = [] ∧ x = c ∧ K1 = L) ∨ ∃ K3, K2 = K3 ++ [c] ∧ L = K1 ++ x :: K3 := by
  rcases List.eq_nil_or_concat K2 with rfl | ⟨K3, z, rfl⟩
  · have := List.append_inj' h rfl
    exact Or.inl ⟨rfl, by simpa using this.2.symm, this.1.symm⟩
  · rw [List.concat_eq_append] at h ⊢
    have h' : L ++ [c] = (K1 ++ x :: K3) ++ [z] := by simpa using h
    have := List.append_inj' h' rfl
    refine Or.inr ⟨K3, ?_, this.1⟩
    rw [show z = c by simpa using this.2.symm]
theorem sp_mid {α : Type} {A B K1 K2 : List α} {c x : α} (h : A ++ c :: B = K1 ++ x :: K2) : (∃ K3, A = K1 ++ x :: K3 ∧ K2 = K3 ++ c :: B) ∨ (x = c ∧ K1 = A ∧ K2 = B) ∨ ∃ K3, K1 = A ++ c :: K3 ∧ B = K3 ++ x :: K2 := by
  rcases List.append_eq_append_iff.mp h with ⟨a, h1, h2⟩ | ⟨a, h1, h2⟩
  · cases a with
    | nil =>
      simp at h2
      exact Or.inr (Or.inl ⟨h2.1.symm, by simpa using h1, h2.2.symm⟩)
    | cons z a =>
      simp at h2
      exact Or.inr (Or.inr ⟨a, by rw [h1, h2.1], h2.2⟩)
  · cases a with
    | nil =>
      simp at h2
      exact Or.inr (Or.inl ⟨h2.1, by simpa using h1.symm, h2.2⟩)
    | cons z a =>
      simp at h2
      exact Or.inl ⟨a, by rw [h1, h2.1], h2.2⟩
theorem l_none {α : Type} {L : List α} (h : L.getLast? = none) : L = [] := List.getLast?_eq_none_iff.mp h
/-- a child behind the last -/
theorem l_app {M : qM} {n p c : Nat} {kd : Nat → List Nat} (hc0 : c ≠ 0) (hp0 : 0 ∉ kd p) (h : cLk M n kd) (hp : p < n) (hc : c < n) (hcp : c ≠ p) (hk : ∀ q, q < n → c ∉ kd q) (hd : (kd p).Nodup) : ∃ M', f_Node_insert (7 + 5 * p) (7 + 5 * c) none M = some M' ∧ cLk M' n (up kd p (kd p ++ [c])) ∧ M'.1 = M.1 ∧ (∀ q j, (4 ≤ j → j ≤ 8 → ∀ i, i < n → q ≠ 7 + 5 * i) → M'.2 q j = M.2 q j) ∧ M'.2 7 4 = M.2 7 4 ∧ M'.2 7 8 = M.2 7 8 := by
  cases hl : (kd p).getLast? with
  | none =>
    have e0 : kd p = [] := l_none hl
    refine ⟨qsR (qsR (qsR (qsR (qsR M (7 + 5 * c) 4 (some (7 + 5 * p))) (7 + 5 * c) 8 none) (7 + 5 * c) 7 none) (7 + 5 * p) 5 (some (7 + 5 * c))) (7 + 5 * p) 6 (some (7 + 5 * c)), ?_, ?_, rfl, fun q j hq => ?_, ?_, ?_⟩
    · have e6 : M.2 (7 + 5 * p) 6 = none := by rw [(h.1 p hp).2, hl]; rfl
      unfold f_Node_insert
      simp (disch := omega) only [q_lt, q_on, g_Rn, g_Re, e6]
    · rw [e0]
      refine cLk_up h hp ?_ ?_ ?_ ?_ ?_ ?_
      · rw [g_Rn (by omega), g_Re ⟨rfl, rfl⟩]
        rfl
      · rw [g_Re ⟨rfl, rfl⟩]
        rfl
      · intro K1 x K2 e
        rcases sp_end (L := []) e with ⟨rfl, rfl, rfl⟩ | ⟨K3, _, e2⟩
        · refine ⟨hc, ?_, ?_, ?_⟩ <;> simp (disch := omega) only [g_Rn, g_Re] <;> rfl
        · simp at e2
      · intro x hx q hq _
        have hxc : x = c := by simpa using hx
        rw [hxc]
        exact hk q hq
      · intro q hq hne
        constructor <;> simp (disch := omega) only [g_Rn]
      · intro x hx _ h2
        have : x ≠ c := fun e => h2 (by simp [e])
        refine ⟨?_, ?_, ?_⟩ <;> simp (disch := omega) only [g_Rn]
    · by_cases hj : 4 ≤ j ∧ j ≤ 8
      · have a := hq hj.1 hj.2 p hp
        have b := hq hj.1 hj.2 c hc
        simp (disch := omega) only [g_Rn]
      · simp (disch := omega) only [g_Rn]
    · simp (disch := omega) only [g_Rn]
    · simp (disch := omega) only [g_Rn]
  | some l =>
    obtain ⟨A, e0⟩ := List.getLast?_eq_some_iff.mp hl
    have ml := h.2 p hp A l [] e0
    have hlc : l ≠ c := fun e => hk p hp (by rw [e0, e]; simp)
    have hl0 : l ≠ 0 := fun e => hp0 (by rw [e0, e]; simp)
    refine ⟨qsR (qsR (qsR (qsR (qsR M (7 + 5 * c) 4 (some (7 + 5 * p))) (7 + 5 * c) 8 none) (7 + 5 * c) 7 (some (7 + 5 * l))) (7 + 5 * l) 8 (some (7 + 5 * c))) (7 + 5 * p) 6 (some (7 + 5 * c)), ?_, ?_, rfl, fun q j hq => ?_, ?_, ?_⟩
    · have e6 : M.2 (7 + 5 * p) 6 = some (7 + 5 * l) := by rw [(h.1 p hp).2, hl]; rfl
      unfold f_Node_insert
      simp (disch := omega) only [q_lt, q_on, q_nn, g_Rn, g_Re, e6]
    · refine cLk_up h hp ?_ ?_ ?_ ?_ ?_ ?_
      · simp (disch := omega) only [g_Rn]
        rw [(h.1 p hp).1, e0]
        cases A <;> rfl
      · rw [g_Re ⟨rfl, rfl⟩]
        simp [oP]
      · intro K1 x K2 e
        rcases sp_end e with ⟨rfl, rfl, rfl⟩ | ⟨K3, rfl, e2⟩
        · refine ⟨hc, ?_, ?_, ?_⟩ <;> simp (disch := omega) only [g_Rn, g_Re]
          · rw [hl]; rfl
          · rfl
        · have a := h.2 p hp K1 x K3 e2
          have hxc : x ≠ c := fun e => hk p hp (by rw [e2, e]; simp)
          refine ⟨a.1, ?_, ?_, ?_⟩
          · simp (disch := omega) only [g_Rn]
            exact a.2.1
          · simp (disch := omega) only [g_Rn]
            exact a.2.2.1
          · cases K3 with
            | nil =>
              have : x = l := by
                rw [e2] at hl
                simpa using hl
              subst this
              simp (disch := omega) only [g_Rn, g_Re]
              rfl
            | cons z K3 =>
              have : x ≠ l := fun e => by
                subst e
                rw [e2] at hl hd
                have m : x ∈ z :: K3 := List.mem_of_getLast? (by
                  rw [List.getLast?_append] at hl
                  simpa using hl)
                have := (List.nodup_append.mp hd).2.1
                exact (List.nodup_cons.mp this).1 m
              simp (disch := omega) only [g_Rn]
              exact a.2.2.2
      · intro x hx q hq hne
        rcases List.mem_append.mp hx with m | m
        · intro m2
          obtain ⟨A1, B1, e2⟩ := List.append_of_mem m
          obtain ⟨A2, B2, e3⟩ := List.append_of_mem m2
          have := (h.2 p hp A1 x B1 e2).2.1.symm.trans (h.2 q hq A2 x B2 e3).2.1
          simp at this
          omega
        · rw [List.mem_singleton.mp m]
          exact hk q hq
      · intro q hq hne
        constructor <;> simp (disch := omega) only [g_Rn]
      · intro x hx h1 h2
        have a1 : x ≠ c := fun e => h2 (by simp [e])
        have a2 : x ≠ l := fun e => h1 (by rw [e0, e]; simp)
        refine ⟨?_, ?_, ?_⟩ <;> simp (disch := omega) only [g_Rn]
    · by_cases hj : 4 ≤ j ∧ j ≤ 8
      · have a := hq hj.1 hj.2 p hp
        have b := hq hj.1 hj.2 c hc
        have d := hq hj.1 hj.2 l ml.1
        simp (disch := omega) only [g_Rn]
      · simp (disch := omega) only [g_Rn]
    · simp (disch := omega) only [g_Rn]
    · simp (disch := omega) only [g_Rn]
/-- a child ahead of one that is there -/
theorem l_ins {M : qM} {n p c t : Nat} {kd : Nat → List Nat} {A B : List Nat} (hc0 : c ≠ 0) (hp0 : 0 ∉ kd p) (h : cLk M n kd) (hp : p < n) (hc : c < n) (hcp : c ≠ p) (hk : ∀ q, q < n → c ∉ kd q) (hd : (kd p).Nodup) (hkp : kd p = A ++ t :: B) (htp : t ≠ p) : ∃ M', f_Node_insert (7 + 5 * p) (7 + 5 * c) (some (7 + 5 * t)) M = some M' ∧ cLk M' n (up kd p (A ++ c :: t :: B)) ∧ M'.1 = M.1 ∧ (∀ q j, (4 ≤ j → j ≤ 8 → ∀ i, i < n → q ≠ 7 + 5 * i) → M'.2 q j = M.2 q j) ∧ M'.2 7 4 = M.2 7 4 ∧ M'.2 7 8 = M.2 7 8 := by
  have mt := h.2 p hp A t B hkp
  have htc : t ≠ c := fun e => hk p hp (by rw [hkp, e]; simp)
  have hdd := List.nodup_append.mp (hkp ▸ hd)
  have htB : t ∉ B := (List.nodup_cons.mp hdd.2.1).1
  have htA : t ∉ A := fun m => hdd.2.2 t m t (by simp) rfl
  have hin : ∀ x ∈ A ++ c :: t :: B, ∀ q, q < n → q ≠ p → x ∉ kd q := by
    intro x hx q hq hne m2
    by_cases hxc : x = c
    · exact hk q hq (hxc ▸ m2)
    · have m : x ∈ kd p := by
        rw [hkp]
        simp at hx ⊢
        rcases hx with hx | hx | hx
        · exact Or.inl hx
        · exact absurd hx hxc
        · exact Or.inr hx
      obtain ⟨A1, B1, e2⟩ := List.append_of_mem m
      obtain ⟨A2, B2, e3⟩ := List.append_of_mem m2
      have := (h.2 p hp A1 x B1 e2).2.1.symm.trans (h.2 q hq A2 x B2 e3).2.1
      simp at this
      omega
  cases hl : A.getLast? with
  | none =>
    have e0 : A = [] := l_none hl
    subst e0
    refine ⟨qsR (qsR (qsR (qsR (qsR M (7 + 5 * c) 4 (some (7 + 5 * p))) (7 + 5 * c) 8 (some (7 + 5 * t))) (7 + 5 * c) 7 none) (7 + 5 * p) 5 (some (7 + 5 * c))) (7 + 5 * t) 7 (some (7 + 5 * c)), ?_, ?_, rfl, fun q j hq => ?_, ?_, ?_⟩
    · have e7 : M.2 (7 + 5 * t) 7 = none := mt.2.2.1
      unfold f_Node_insert
      simp (disch := omega) only [q_lt, q_on, g_Rn, g_Re, e7]
    · refine cLk_up h hp ?_ ?_ ?_ hin ?_ ?_
      · simp (disch := omega) only [g_Rn, g_Re]
        rfl
      · simp (disch := omega) only [g_Rn]
        rw [(h.1 p hp).2, hkp]
        simp
      · intro K1 x K2 e
        rcases sp_mid (A := []) e with ⟨K3, e2, _⟩ | ⟨rfl, rfl, rfl⟩ | ⟨K3, rfl, e2⟩
        · simp at e2
        · refine ⟨hc, ?_, ?_, ?_⟩ <;> simp (disch := omega) only [g_Rn, g_Re] <;> rfl
        · have a := h.2 p hp K3 x K2 (hkp.trans e2)
          have hxc : x ≠ c := fun e => hk p hp (by rw [hkp, List.nil_append, e2, e]; simp)
          have b8 : M.2 (7 + 5 * x) 4 = some (7 + 5 * p) ∧ M.2 (7 + 5 * x) 8 = oP K2.head? := ⟨a.2.1, a.2.2.2⟩
          refine ⟨a.1, ?_, ?_, ?_⟩
          · simp (disch := omega) only [g_Rn]
            exact a.2.1
          · cases K3 with
            | nil =>
              have : x = t := by
                simp at e2
                exact e2.1.symm
              subst this
              simp (disch := omega) only [g_Rn, g_Re]
              rfl
            | cons z K3 =>
              have : x ≠ t := fun e => by
                subst e
                simp at e2
                exact htB (by rw [e2.2]; simp)
              simp (disch := omega) only [g_Rn]
              rw [a.2.2.1]
              simp [List.getLast?_cons]
          · simp (disch := omega) only [g_Rn]
            exact a.2.2.2
      · intro q hq hne
        constructor <;> simp (disch := omega) only [g_Rn]
      · intro x hx h1 h2
        have a1 : x ≠ c := fun e => h2 (by simp [e])
        have a2 : x ≠ t := fun e => h1 (by rw [hkp, e]; simp)
        refine ⟨?_, ?_, ?_⟩ <;> simp (disch := omega) only [g_Rn]
    · by_cases hj : 4 ≤ j ∧ j ≤ 8
      · have a := hq hj.1 hj.2 p hp
        have b := hq hj.1 hj.2 c hc
        have d := hq hj.1 hj.2 t mt.1
        simp (disch := omega) only [g_Rn]
      · simp (disch := omega) only [g_Rn]
    · simp (disch := omega) only [g_Rn]
    · simp (disch := omega) only [g_Rn]
  | some l =>
    obtain ⟨A', e0⟩ := List.getLast?_eq_some_iff.mp hl
    have ml := h.2 p hp A' l (t :: B) (by rw [hkp, e0]; simp)
    have hlc : l ≠ c := fun e => hk p hp (by rw [hkp, e0, e]; simp)
    have hlt : l ≠ t := fun e => htA (by rw [e0, e]; simp)
    have hl0 : l ≠ 0 := fun e => hp0 (by rw [hkp, e0, e]; simp)
    have hlp : M.2 (7 + 5 * l) 8 = some (7 + 5 * t) := ml.2.2.2
    refine ⟨qsR (qsR (qsR (qsR (qsR M (7 + 5 * c) 4 (some (7 + 5 * p))) (7 + 5 * c) 8 (some (7 + 5 * t))) (7 + 5 * c) 7 (some (7 + 5 * l))) (7 + 5 * l) 8 (some (7 + 5 * c))) (7 + 5 * t) 7 (some (7 + 5 * c)), ?_, ?_, rfl, fun q j hq => ?_, ?_, ?_⟩
    · have e7 : M.2 (7 + 5 * t) 7 = some (7 + 5 * l) := by rw [mt.2.2.1, hl]; rfl
      unfold f_Node_insert
      simp (disch := omega) only [q_lt, q_on, q_nn, g_Rn, g_Re, e7]
    · refine cLk_up h hp ?_ ?_ ?_ hin ?_ ?_
      · simp (disch := omega) only [g_Rn]
        rw [(h.1 p hp).1, hkp, e0]
        cases A' <;> rfl
      · simp (disch := omega) only [g_Rn]
        rw [(h.1 p hp).2, hkp]
        simp [List.getLast?_append, List.getLast?_cons]
      · intro K1 x K2 e
        rcases sp_mid e with ⟨K3, e2, rfl⟩ | ⟨rfl, rfl, rfl⟩ | ⟨K3, rfl, e2⟩
        · have a := h.2 p hp K1 x (K3 ++ t :: B) (by rw [hkp, e2]; simp)
          have hxc : x ≠ c := fun e => hk p hp (by rw [hkp, e2, e]; simp)
          have hxt : x ≠ t := fun e => htA (by rw [e2, e]; simp)
          refine ⟨a.1, ?_, ?_, ?_⟩
          · simp (disch := omega) only [g_Rn]
            exact a.2.1
          · simp (disch := omega) only [g_Rn]
            exact a.2.2.1
          · cases K3 with
            | nil =>
              have : x = l := by
                rw [e2] at hl
                simpa using hl
              subst this
              simp (disch := omega) only [g_Rn, g_Re]
              rfl
            | cons z K3 =>
              have : x ≠ l := fun e => by
                subst e
                have hA := hdd.1
                rw [e2] at hl hA
                have m : x ∈ z :: K3 := List.mem_of_getLast? (by
                  rw [List.getLast?_append] at hl
                  simpa using hl)
                exact (List.nodup_cons.mp (List.nodup_append.mp hA).2.1).1 m
              simp (disch := omega) only [g_Rn]
              exact a.2.2.2
        · refine ⟨hc, ?_, ?_, ?_⟩ <;> simp (disch := omega) only [g_Rn, g_Re]
          · rw [hl]; rfl
          · rfl
        · have a := h.2 p hp (A ++ K3) x K2 (by rw [hkp, e2]; simp)
          have hxc : x ≠ c := fun e => hk p hp (by rw [hkp, e2, e]; simp)
          have hxl : x ≠ l := fun e => hdd.2.2 l (by rw [e0]; simp) x (by rw [e2]; simp) e.symm
          refine ⟨a.1, ?_, ?_, ?_⟩
          · simp (disch := omega) only [g_Rn]
            exact a.2.1
          · cases K3 with
            | nil =>
              have : x = t := by
                simp at e2
                exact e2.1.symm
              subst this
              simp (disch := omega) only [g_Rn, g_Re]
              simp [oP]
            | cons z K3 =>
              have : x ≠ t := fun e => by
                subst e
                simp at e2
                exact htB (by rw [e2.2]; simp)
              simp (disch := omega) only [g_Rn]
              rw [a.2.2.1]
              simp [List.getLast?_append, List.getLast?_cons]
          · simp (disch := omega) only [g_Rn]
            exact a.2.2.2
      · intro q hq hne
        constructor <;> simp (disch := omega) only [g_Rn]
      · intro x hx h1 h2
        have a1 : x ≠ c := fun e => h2 (by simp [e])
        have a2 : x ≠ t := fun e => h1 (by rw [hkp, e]; simp)
        have a3 : x ≠ l := fun e => h1 (by rw [hkp, e0, e]; simp)
        refine ⟨?_, ?_, ?_⟩ <;> simp (disch := omega) only [g_Rn]
    · by_cases hj : 4 ≤ j ∧ j ≤ 8
      · have a := hq hj.1 hj.2 p hp
        have b := hq hj.1 hj.2 c hc
        have d := hq hj.1 hj.2 t mt.1
        have f := hq hj.1 hj.2 l ml.1
        simp (disch := omega) only [g_Rn]
      · simp (disch := omega) only [g_Rn]
    · simp (disch := omega) only [g_Rn]
    · simp (disch := omega) only [g_Rn]
