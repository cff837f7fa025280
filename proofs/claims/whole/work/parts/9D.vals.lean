/-! what values there are -/
def okV (p : Nat) (v : Int32) : Prop := (p = 2 → ∃ z, 1 ≤ z ∧ z ≤ 9 ∧ v = nI z) ∧ (p = 3 → v = 98 ∨ v = 105 ∨ v = 110)
theorem valF_ok {p : Nat} {V : List Nat} {u : Nat} (h : valF p V = some u) : okV p (nI u) := by
  unfold valF at h
  split at h
  · rename_i v
    by_cases h3 : p = 3
    · rw [if_pos h3] at h
      by_cases hv : v = 98 ∨ v = 105 ∨ v = 110
      · rw [if_pos hv] at h
        have hu : v = u := Option.some.inj h
        refine ⟨fun q => (by omega), fun _ => ?_⟩
        rw [← hu]
        rcases hv with e | e | e
        · rw [e]; exact Or.inl rfl
        · rw [e]; exact Or.inr (Or.inl rfl)
        · rw [e]; exact Or.inr (Or.inr rfl)
      · rw [if_neg hv] at h
        cases h
    · rw [if_neg h3] at h
      by_cases hd : dig v = true
      · rw [if_pos hd] at h
        have hd' : 48 ≤ v ∧ v ≤ 57 := of_decide_eq_true hd
        by_cases h2 : p = 2 ∧ v = 48
        · rw [if_pos h2] at h
          cases h
        · rw [if_neg h2] at h
          have hu : v - 48 = u := Option.some.inj h
          exact ⟨fun q => ⟨u, by omega, by omega, rfl⟩, fun q => absurd q h3⟩
      · rw [if_neg hd] at h
        cases h
  · rename_i v w
    by_cases hd : 4 ≤ p ∧ dig v = true ∧ dig w = true
    · exact ⟨fun q => (by omega), fun q => (by omega)⟩
    · rw [if_neg hd] at h
      cases h
  · cases h
def dOk (a : dT) : Prop := ∀ p, (a.1 p ≠ -1 → okV p (a.1 p)) ∧ (a.2 p ≠ -1 → okV p (a.2 p))
theorem declC_ok {imp imp' : Bool} {D : List Nat} {p v : Nat} (h : declC imp D = some (imp', p, v)) : okV p (nI v) := by
  unfold declC at h
  split at h
  · rename_i x y v' V
    by_cases hy : y = 58
    · rw [if_pos hy] at h
      obtain ⟨p', hp', h2⟩ := Option.bind_eq_some_iff.mp h
      obtain ⟨u, hu, h3⟩ := Option.map_eq_some_iff.mp h2
      have h4 : p' = p ∧ u = v := by
        have := congrArg Prod.snd h3
        exact ⟨congrArg Prod.fst this, congrArg Prod.snd this⟩
      rw [← h4.1, ← h4.2]
      exact valF_ok hu
    · rw [if_neg hy] at h
      cases h
  · cases h
theorem declF_ok {D : List Nat} {a : dT} (h : dOk a) : dOk (declF D a) := by
  unfold declF
  split
  · exact h
  · rename_i imp p v hd
    have hv : okV p (nI v) := by
      unfold declV at hd
      split at hd
      · exact declC_ok hd
      · exact declC_ok hd
    split
    · intro q
      refine ⟨(h q).1, fun hq => ?_⟩
      have hq' : up a.2 p (nI v) q ≠ -1 := hq
      show okV q (up a.2 p (nI v) q)
      by_cases e : q = p
      · rw [e, up_e]; exact hv
      · rw [up_n e] at hq' ⊢; exact (h q).2 hq'
    · intro q
      refine ⟨fun hq => ?_, (h q).2⟩
      have hq' : up a.1 p (nI v) q ≠ -1 := hq
      show okV q (up a.1 p (nI v) q)
      by_cases e : q = p
      · rw [e, up_e]; exact hv
      · rw [up_n e] at hq' ⊢; exact (h q).1 hq'
theorem bodyF_ok : ∀ (L cur : List Nat) (a : dT), dOk a → dOk (bodyF cur L a)
  | [], cur, a, h => declF_ok h
  | c :: L, cur, a, h => by
    unfold bodyF
    split
    · exact bodyF_ok L [] _ (declF_ok h)
    · exact bodyF_ok L _ a h
theorem dNo_ok : dOk dNo := fun _ => ⟨fun h => absurd rfl h, fun h => absurd rfl h⟩
def bOk (p : Nat) (b : Option (Nat × Int32)) : Prop := ∀ q, b = some q → okV p q.2
theorem comb_ok {p w : Nat} {b : Option (Nat × Int32)} {v : Int32} (hb : bOk p b) (hv : v ≠ -1 → okV p v) : bOk p (comb b w v) := by
  unfold comb
  by_cases e : v = -1
  · rw [if_pos e]; exact hb
  · rw [if_neg e]
    cases b with
    | none =>
      intro q hq
      rw [← Option.some.inj hq]
      exact hv e
    | some x =>
      intro q hq
      by_cases h : x.1 ≤ w
      · have hq' : (if x.1 ≤ w then some (w, v) else some x) = some q := hq
        rw [if_pos h] at hq'
        rw [← Option.some.inj hq']
        exact hv e
      · have hq' : (if x.1 ≤ w then some (w, v) else some x) = some q := hq
        rw [if_neg h] at hq'
        rw [← Option.some.inj hq']
        exact hb x rfl
theorem stF_ok (E : eT) (k p : Nat) : ∀ (rs : List (selT × List Nat)) (b : bT), bOk p b.1 → bOk p b.2 → bOk p (rs.foldl (stS E k p) b).1 ∧ bOk p (rs.foldl (stS E k p) b).2
  | [], b, h1, h2 => ⟨h1, h2⟩
  | r :: rs, b, h1, h2 => by
    refine stF_ok E k p rs (stS E k p b r) ?_ ?_
    · unfold stS
      split
      · exact comb_ok h1 ((bodyF_ok r.2 [] dNo dNo_ok) p).1
      · exact h1
    · unfold stS
      split
      · exact comb_ok h2 ((bodyF_ok r.2 [] dNo dNo_ok) p).2
      · exact h2
theorem fnd_ok {E : eT} {rs : List (selT × List Nat)} {k p : Nat} {v : Int32} (h : fnd (stF E rs k p) = some v) : okV p v := by
  obtain ⟨h1, h2⟩ := stF_ok E k p rs (none, none) (fun q hq => (by cases hq)) (fun q hq => (by cases hq))
  have e : stF E rs k p = rs.foldl (stS E k p) (none, none) := rfl
  rw [← e] at h1 h2
  unfold fnd at h
  split at h
  · rename_i q hq
    rw [← Option.some.inj h]
    exact h2 q hq
  · obtain ⟨q, hq, e⟩ := Option.map_eq_some_iff.mp h
    rw [← e]
    exact h1 q hq
theorem vF_2 {E : eT} {rs : List (selT × List Nat)} {n : Nat} (hE : ∀ k, 0 < k → k < n → (E k).2.2 < k) : ∀ (m k : Nat), k ≤ m → k < n → ∃ z, 1 ≤ z ∧ z ≤ 9 ∧ vF E rs k 2 = nI z := by
  intro m
  induction m with
  | zero =>
    intro k h1 h2
    have e : k = 0 := by omega
    rw [vF_e (fun h => hE k h h2)]
    unfold vS fxD
    rw [if_neg (fun h => absurd h.1 (by omega))]
    cases hf : fnd (stF E rs k 2) with
    | some v => exact (fnd_ok hf).1 rfl
    | none =>
      refine ⟨1, by omega, by omega, ?_⟩
      show dfl E (vF E rs) k 2 = nI 1
      unfold dfl
      rw [if_pos (Or.inr rfl), if_pos e]
      rfl
  | succ m ih =>
    intro k h1 h2
    by_cases e : k = 0
    · exact ih k (by omega) h2
    · rw [vF_e (fun h => hE k h h2)]
      unfold vS fxD
      rw [if_neg (fun h => absurd h.1 (by omega))]
      cases hf : fnd (stF E rs k 2) with
      | some v => exact (fnd_ok hf).1 rfl
      | none =>
        have hp := hE k (by omega) h2
        obtain ⟨z, z1, z2, z3⟩ := ih (E k).2.2 (by omega) (by omega)
        refine ⟨z, z1, z2, ?_⟩
        show dfl E (vF E rs) k 2 = nI z
        unfold dfl
        rw [if_pos (Or.inr rfl), if_neg e]
        exact z3
theorem vF_3 {E : eT} {rs : List (selT × List Nat)} {k : Nat} (hE : 0 < k → (E k).2.2 < k) : (vF E rs k 3 = 98 ∨ vF E rs k 3 = 105 ∨ vF E rs k 3 = 110) ∧ ((E k).1 = 99 → vF E rs k 3 ≠ 105) := by
  rw [vF_e hE]
  unfold vS
  have h3 : ∀ v, (v = 98 ∨ v = 105 ∨ v = 110) → (fxD E k 3 v = 98 ∨ fxD E k 3 v = 105 ∨ fxD E k 3 v = 110) ∧ ((E k).1 = 99 → fxD E k 3 v ≠ 105) := fun v hv => by
    unfold fxD
    by_cases q : 3 = 3 ∧ v = 105 ∧ inS 11 (E k).1 = true
    · rw [if_pos q]
      exact ⟨Or.inl rfl, fun _ => by decide⟩
    · rw [if_neg q]
      refine ⟨hv, fun h99 hv5 => q ⟨rfl, hv5, ?_⟩⟩
      rw [h99]
      decide +kernel
  refine h3 _ ?_
  cases hf : fnd (stF E rs k 3) with
  | some v => exact (fnd_ok hf).2 rfl
  | none =>
    show dfl E (vF E rs) k 3 = 98 ∨ dfl E (vF E rs) k 3 = 105 ∨ dfl E (vF E rs) k 3 = 110
    unfold dfl
    rw [if_neg (by omega), if_pos rfl]
    split
    · exact Or.inl rfl
    · split
      · exact Or.inl rfl
      · exact Or.inr (Or.inl rfl)
theorem fit_0 {E : eT} (h0 : (E 0).1 = 0) (ps : List pT) : ∀ m, fitF E ps m 0 = false
  | 0 => rfl
  | m + 1 => by
    unfold fitF
    split
    · rfl
    · rename_i x _
      have : partF E x 0 = false := by
        unfold partF
        rw [h0]
        rfl
      rw [this, Bool.false_and]
theorem stF_0 {E : eT} (h0 : (E 0).1 = 0) (p : Nat) : ∀ (rs : List (selT × List Nat)) (b : bT), rs.foldl (stS E 0 p) b = b
  | [], b => rfl
  | r :: rs, b => by
    have e : stS E 0 p b r = b := by
      unfold stS
      rw [fit_0 h0]
      rfl
    show rs.foldl (stS E 0 p) (stS E 0 p b r) = b
    rw [e]
    exact stF_0 h0 p rs b
theorem vF_0 {E : eT} {rs : List (selT × List Nat)} (h0 : (E 0).1 = 0) : vF E rs 0 3 = 98 ∧ vF E rs 0 4 = 0 ∧ vF E rs 0 5 = 0 ∧ vF E rs 0 6 = -1 := by
  have hd : ∀ p, vF E rs 0 p = fxD E 0 p (dfl E (vF E rs) 0 p) := fun p => by
    rw [vF_e (fun h => absurd h (by omega))]
    unfold vS stF
    rw [stF_0 h0]
    rfl
  refine ⟨?_, ?_, ?_, ?_⟩
  · rw [hd]
    unfold dfl
    rw [if_neg (by omega), if_pos rfl, if_pos rfl]
    unfold fxD
    rw [if_neg (fun h => absurd h.2.1 (by decide))]
  · rw [hd]
    unfold dfl fxD
    rw [if_neg (fun h => absurd h.1 (by omega)), if_neg (by omega), if_neg (by omega), if_neg (by omega)]
  · rw [hd]
    unfold dfl fxD
    rw [if_neg (fun h => absurd h.1 (by omega)), if_neg (by omega), if_neg (by omega), if_neg (by omega)]
  · rw [hd]
    unfold dfl fxD
    rw [if_neg (fun h => absurd h.1 (by omega)), if_neg (by omega), if_neg (by omega), if_pos rfl]
