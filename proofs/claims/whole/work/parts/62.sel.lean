/-! style sheets: a selector, as a function of its characters -/
abbrev pT : Type := Nat × Int32 × Bool
/-- one part: name (0: any), classes, how many capitals, how many smalls, what is left -/
def pName (L : List Nat) : Nat × Nat × List Nat := match L with
  | [] => (0, 0, [])
  | c :: L' => if sml c = true then (c, 1, L') else if c = 42 then (0, 0, L') else (0, 0, c :: L')
def pCaps (L : List Nat) : List Nat := L.takeWhile cap
def pRest (L : List Nat) : List Nat := L.dropWhile cap
def skB (L : List Nat) : List Nat := L.dropWhile fun c => c == 32
/-- the parts from the n-th on: parts, capitals, smalls -/
def selP : Nat → Bool → List Nat → Option (List pT × Nat × Nat)
  | 0, _, _ => none
  | m + 1, d, L =>
    if (pRest (pName L).2.2).length = L.length then none
    else if (skB (pRest (pName L).2.2)).length = 0 then some ([((pName L).1, clsF 0 (pCaps (pName L).2.2), d)], (pCaps (pName L).2.2).length, (pName L).2.1)
    else if (skB (pRest (pName L).2.2)).head? = some 62 then (selP m true (skB (skB (pRest (pName L).2.2)).tail)).map fun q => (((pName L).1, clsF 0 (pCaps (pName L).2.2), d) :: q.1, (pCaps (pName L).2.2).length + q.2.1, (pName L).2.1 + q.2.2)
    else if (skB (pRest (pName L).2.2)).length = (pRest (pName L).2.2).length then none
    else (selP m false (skB (pRest (pName L).2.2))).map fun q => (((pName L).1, clsF 0 (pCaps (pName L).2.2), d) :: q.1, (pCaps (pName L).2.2).length + q.2.1, (pName L).2.1 + q.2.2)
def selF (L : List Nat) : Option (List pT × Nat × Nat) := selP 4 false (skB L)
theorem skB_s (L : List Nat) : ∃ B, L = B ++ skB L ∧ (∀ c ∈ B, c = 32) ∧ (skB L).head? ≠ some 32 := by
  induction L with
  | nil => exact ⟨[], rfl, fun c hc => (by cases hc), by simp [skB]⟩
  | cons c L ih =>
    by_cases h : c = 32
    · obtain ⟨B, e1, e2, e3⟩ := ih
      have hs : skB (c :: L) = skB L := by
        unfold skB
        rw [List.dropWhile_cons, if_pos (by simp [h])]
      rw [hs]
      refine ⟨c :: B, by rw [List.cons_append, ← e1], fun x hx => ?_, e3⟩
      rcases List.mem_cons.mp hx with q | q
      · rw [q]; exact h
      · exact e2 x q
    · have hs : skB (c :: L) = c :: L := by
        unfold skB
        rw [List.dropWhile_cons, if_neg (by simp [h])]
      rw [hs]
      exact ⟨[], rfl, fun x hx => (by cases hx), by simp [h]⟩
theorem skB_le (L : List Nat) : (skB L).length ≤ L.length := (List.dropWhile_sublist _).length_le
theorem pRest_le (L : List Nat) : (pRest L).length ≤ L.length := (List.dropWhile_sublist _).length_le
theorem pName_le (L : List Nat) : (pName L).2.2.length ≤ L.length := by
  unfold pName
  split
  · exact Nat.le_refl _
  · split
    · simp
    · split <;> simp
/-! the class's side: what is held -/
def hX (M : qM) (L : List Nat) : Prop := ∀ k c, L[k]? = some c → M.1 291 k = nI c
theorem hX_d {L : List Nat} {k : Nat} {c : Nat} {L' : List Nat} (h : L.drop k = c :: L') : k < L.length ∧ L[k]? = some c ∧ L.drop (k + 1) = L' := by
  have hlt : k < L.length := by
    refine Nat.lt_of_not_le fun q => ?_
    rw [List.drop_eq_nil_iff.mpr q] at h
    cases h
  refine ⟨hlt, ?_, ?_⟩
  · have := congrArg List.head? h
    rw [List.head?_drop] at this
    exact this
  · have := congrArg List.tail h
    rw [List.tail_drop] at this
    exact this
/-- blanks skipped: only the cursor moves -/
theorem t_skip0 {L : List Nat} (hl : L.length ≤ 120) (hL : ∀ c ∈ L, c < 127) {q0 : Nat} (hq : q0 ≠ 291) : ∀ (R : List Nat) (M : qM) (k f : Nat) (K : qM → Option qM), hX M L → L.drop k = R → M.1 q0 8 = nI k → k ≤ L.length → R.length < f → ∃ M', f_Rule_skipBlanks_0 (nI L.length) q0 f K M = K M' ∧ M'.1 q0 8 = nI (L.length - (skB R).length) ∧ (∀ p j, ¬ (p = q0 ∧ j = 8) → M'.1 p j = M.1 p j) ∧ M'.2 = M.2 := by
  intro R
  induction R with
  | nil =>
    intro M k f K hM hR hc hk hf
    obtain ⟨f, rfl⟩ : ∃ g, f = g + 1 := ⟨f - 1, by simp at hf; omega⟩
    have hk2 : L.length ≤ k := List.drop_eq_nil_iff.mp hR
    refine ⟨M, ?_, ?_, fun _ _ _ => rfl, rfl⟩
    · rw [f_Rule_skipBlanks_0, hc, i_le (by omega) (by omega), if_pos hk2]
    · rw [hc, show k = L.length by omega]
      rfl
  | cons c R ih =>
    intro M k f K hM hR hc hk hf
    obtain ⟨f, rfl⟩ : ∃ g, f = g + 1 := ⟨f - 1, by simp at hf; omega⟩
    obtain ⟨h1, h2, h3⟩ := hX_d hR
    have hcb := hL c (List.mem_of_getElem? h2)
    have hlen : L.length - k = R.length + 1 := by
      have := congrArg List.length hR
      rw [List.length_drop] at this
      simpa using this
    rw [f_Rule_skipBlanks_0, hc, i_le (by omega) (by omega), if_neg (by omega), g_ix (by omega) (by omega), g_cl (by omega), hM k c h2, show (32 : Int32) = nI 32 from rfl, i_eq (by omega) (by omega)]
    by_cases q : c = 32
    · rw [if_pos q, q_ltE, g_inc]
      obtain ⟨M', e1, e2, e3, e4⟩ := ih (qsI M q0 8 (nI (k + 1))) (k + 1) f K (fun j x hj => by rw [g_In (by omega)]; exact hM j x hj) h3 (g_Ie ⟨rfl, rfl⟩) (by omega) (by simp at hf; omega)
      have hs : skB (c :: R) = skB R := by
        unfold skB
        rw [List.dropWhile_cons, if_pos (by simp [q])]
      rw [hs]
      exact ⟨M', e1, e2, fun p j h => by rw [e3 p j h, g_In h], e4⟩
    · rw [if_neg q]
      have hs : skB (c :: R) = c :: R := by
        unfold skB
        rw [List.dropWhile_cons, if_neg (by simp [q])]
      refine ⟨M, rfl, ?_, fun _ _ _ => rfl, rfl⟩
      rw [hs, hc]
      congr 1
      simp
      omega
theorem t_skip {L : List Nat} (hl : L.length ≤ 120) (hL : ∀ c ∈ L, c < 127) {q0 : Nat} (hq : q0 ≠ 291) {M : qM} {k : Nat} (hM : hX M L) (hc : M.1 q0 8 = nI k) (hk : k ≤ L.length) : ∃ M', f_Rule_skipBlanks q0 (nI L.length) M = some M' ∧ M'.1 q0 8 = nI (L.length - (skB (L.drop k)).length) ∧ (∀ p j, ¬ (p = q0 ∧ j = 8) → M'.1 p j = M.1 p j) ∧ M'.2 = M.2 :=
  t_skip0 hl hL hq (L.drop k) M k 1000 (fun (M7 : qM) => some M7) hM rfl hc hk (by rw [List.length_drop]; omega)
/-- a suffix is what is behind its place -/
theorem drop_suf {L R : List Nat} {B : List Nat} {k : Nat} (h : L.drop k = B ++ R) (hk : k ≤ L.length) : L.drop (L.length - R.length) = R := by
  have h1 := congrArg List.length h
  rw [List.length_drop, List.length_append] at h1
  have : L.length - R.length = k + B.length := by omega
  rw [this, ← List.drop_drop, h, List.drop_left]
theorem clsF_c (a : Int32) (c : Nat) (P : List Nat) (h : cap c = true) : clsF a (c :: P) = clsF (a ||| (1 <<< ((nI c - 65) &&& 31))) P := by
  show P.foldl _ (if cap c = true then a ||| (1 <<< ((nI c - 65) &&& 31)) else a) = _
  rw [if_pos h]
  rfl
/-- capitals read: classes and their count -/
theorem t_caps {L : List Nat} (hl : L.length ≤ 120) (hL : ∀ c ∈ L, c < 127) {q0 n : Nat} (hq : q0 + 3 < 291 ∨ 291 < q0) (hn : n < 4) : ∀ (R : List Nat) (M : qM) (k cp f : Nat) (a : Int32) (K : qM → Option (Int32 × qM)), hX M L → L.drop k = R → M.1 q0 8 = nI k → M.1 q0 5 = nI n → M.1 q0 6 = nI cp → M.1 (q0 + 2) n = a → k ≤ L.length → R.length < f → ∃ M', f_Rule_readPart_112 (nI L.length) q0 f K M = K M' ∧ M'.1 q0 8 = nI (L.length - (pRest R).length) ∧ M'.1 q0 6 = nI (cp + (pCaps R).length) ∧ M'.1 (q0 + 2) n = clsF a (pCaps R) ∧ (∀ p j, ¬ (p = q0 ∧ (j = 8 ∨ j = 6)) → ¬ (p = q0 + 2 ∧ j = n) → M'.1 p j = M.1 p j) ∧ M'.2 = M.2 := by
  intro R
  induction R with
  | nil =>
    intro M k cp f a K hM hR hc h5 h6 ha hk hf
    obtain ⟨f, rfl⟩ : ∃ g, f = g + 1 := ⟨f - 1, by simp at hf; omega⟩
    have hk2 : L.length ≤ k := List.drop_eq_nil_iff.mp hR
    refine ⟨M, ?_, ?_, h6, ha, fun _ _ _ _ => rfl, rfl⟩
    · rw [f_Rule_readPart_112, hc, i_le (by omega) (by omega), if_pos hk2]
    · rw [hc, show k = L.length by omega]
      rfl
  | cons c R ih =>
    intro M k cp f a K hM hR hc h5 h6 ha hk hf
    obtain ⟨f, rfl⟩ : ∃ g, f = g + 1 := ⟨f - 1, by simp at hf; omega⟩
    obtain ⟨h1, h2, h3⟩ := hX_d hR
    have hcb := hL c (List.mem_of_getElem? h2)
    have hlen : L.length - k = R.length + 1 := by
      have := congrArg List.length hR
      rw [List.length_drop] at this
      simpa using this
    rw [f_Rule_readPart_112, hc, i_le (by omega) (by omega), if_neg (by omega), g_ix (by omega) (by omega), g_cl (by omega), hM k c h2, g_cap M hcb, q_bpE, i_b2]
    by_cases q : cap c = true
    · have hp : pCaps (c :: R) = c :: pCaps R := by
        unfold pCaps
        rw [List.takeWhile_cons, if_pos q]
      have hr : pRest (c :: R) = pRest R := by
        unfold pRest
        rw [List.dropWhile_cons, if_pos q]
      rw [if_neg (by simp [q]), h5, g_ix (by omega) (by omega), g_ix (by omega) (by omega), g_ix (by omega) (by omega), g_cl (by omega), ha, q_ltE, g_In (by omega), h6, g_inc, q_ltE, g_In (by omega), g_In (by omega), hc, g_inc, q_ltE]
      obtain ⟨M', e1, e2, e3, e4, e5, e6⟩ := ih (qsI (qsI (qsI M (q0 + 2) n (a ||| (1 <<< ((nI c - 65) &&& 31)))) q0 6 (nI (cp + 1))) q0 8 (nI (k + 1))) (k + 1) (cp + 1) f (a ||| (1 <<< ((nI c - 65) &&& 31))) K (fun j x hj => by rw [g_In (by omega), g_In (by omega), g_In (by omega)]; exact hM j x hj) h3 (g_Ie ⟨rfl, rfl⟩) (by rw [g_In (by omega), g_In (by omega), g_In (by omega)]; exact h5) (by rw [g_In (by omega), g_Ie ⟨rfl, rfl⟩]) (by rw [g_In (by omega), g_In (by omega), g_Ie ⟨rfl, rfl⟩]) (by omega) (by simp at hf; omega)
      refine ⟨M', e1, ?_, ?_, ?_, fun p j g1 g2 => ?_, e6⟩
      · rw [hr]; exact e2
      · rw [hp, e3]
        congr 1
        simp
        omega
      · rw [hp, clsF_c a c _ q]
        exact e4
      · rw [e5 p j g1 g2, g_In (by omega), g_In (by omega), g_In (by omega)]
    · have hp : pCaps (c :: R) = [] := by
        unfold pCaps
        rw [List.takeWhile_cons, if_neg q]
      have hr : pRest (c :: R) = c :: R := by
        unfold pRest
        rw [List.dropWhile_cons, if_neg q]
      rw [if_pos (by simpa using q), hp, hr]
      refine ⟨M, rfl, ?_, h6, ha, fun _ _ _ _ => rfl, rfl⟩
      rw [hc]
      congr 1
      simp
      omega
