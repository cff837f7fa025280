/-! the tree by places in document order: name, classes, parent's place -/
abbrev eT : Type := Nat → Nat × Int32 × Nat
def kI (pre : List (Nat × Nat)) (k : Nat) : Nat := ((pre[k]?).map Prod.fst).getD 0
def kD (pre : List (Nat × Nat)) (k : Nat) : Nat := ((pre[k]?).map Prod.snd).getD 0
def kP (pre : List (Nat × Nat)) (k : Nat) : Nat := (lastI (fun j => decide (kD pre j < kD pre k)) k).getD 0
def kE (s : aT) (pre : List (Nat × Nat)) : eT := fun k => (sNm s (kI pre k), sCs s (kI pre k), kP pre k)
theorem kI_s {pre : List (Nat × Nat)} {k i e : Nat} (h : pre[k]? = some (i, e)) : kI pre k = i := by
  unfold kI
  rw [h]
  rfl
theorem kD_s {pre : List (Nat × Nat)} {k i e : Nat} (h : pre[k]? = some (i, e)) : kD pre k = e := by
  unfold kD
  rw [h]
  rfl
theorem kP_s {pre A S B : List (Nat × Nat)} {p ep i : Nat} (hp : pre = A ++ (p, ep) :: (S ++ (i, ep + 1) :: B)) (hS : ∀ q ∈ S, ep + 1 ≤ q.2) : kP pre (A.length + 1 + S.length) = A.length := by
  have hA : pre[A.length]? = some (p, ep) := by rw [hp]; simp
  have hK : pre[A.length + 1 + S.length]? = some (i, ep + 1) := by
    rw [hp, List.getElem?_append_right (by omega), show A.length + 1 + S.length - A.length = S.length + 1 by omega, List.getElem?_cons_succ, List.getElem?_append_right (Nat.le_refl _), Nat.sub_self]
    rfl
  have hM : ∀ j, A.length < j → j < A.length + 1 + S.length → ep + 1 ≤ kD pre j := fun j h1 h2 => by
    have : pre[j]? = S[j - A.length - 1]? := by
      rw [hp, List.getElem?_append_right (by omega), show j - A.length = (j - A.length - 1) + 1 by omega, List.getElem?_cons_succ, List.getElem?_append_left (by omega), Nat.add_sub_cancel]
    have hlt : j - A.length - 1 < S.length := by omega
    rw [List.getElem?_eq_getElem hlt] at this
    rw [kD_s (i := (S[j - A.length - 1]).1) (e := (S[j - A.length - 1]).2) this]
    exact hS _ (List.getElem_mem hlt)
  unfold kP
  cases h : lastI (fun j => decide (kD pre j < kD pre (A.length + 1 + S.length))) (A.length + 1 + S.length) with
  | none =>
    have := lastI_no h A.length (by omega)
    rw [kD_s hA, kD_s hK] at this
    simp at this
  | some j =>
    have h1 := lastI_lt h
    have h2 := lastI_max h A.length
    rw [kD_s hA, kD_s hK] at h2
    have h3 : ¬ j < A.length := fun q => by
      have := h2 q (by omega)
      simp at this
    have h4 : ¬ A.length < j := fun q => by
      have := hM j q h1.1
      have h5 := h1.2
      rw [kD_s hK] at h5
      have := of_decide_eq_true h5
      omega
    show j = A.length
    omega
/-- the class's tree -/
def eC (M : qM) (n : Nat) (I : Nat → Nat) (E : eT) : Prop := M.1 1 5 = nI n ∧ ∀ k, k < n → M.2 3 k = some (7 + 5 * I k) ∧ M.1 (7 + 5 * I k) 0 = nI (E k).1 ∧ M.1 (7 + 5 * I k) 1 = (E k).2.1 ∧ M.2 (7 + 5 * I k) 4 = if k = 0 then none else some (7 + 5 * I (E k).2.2)
/-- the reference's -/
def eR (M : qM) (n : Nat) (I : Nat → Nat) (E : eT) : Prop := M.1 0 5 = nI n ∧ ∀ k, k < n → M.1 3 k = nI (I k) ∧ M.1 4 (I k) = nI (E k).1 ∧ M.1 5 (I k) = (E k).2.1 ∧ f_Md_parentOf (nI k) M = some (if k = 0 then -1 else nI (E k).2.2)
/-- what both keep -/
def wE (n : Nat) (I : Nat → Nat) (E : eT) : Prop := (1 ≤ n ∧ n ≤ 24) ∧ (E 0).1 = 0 ∧ (∀ k, k < n → I k < 24 ∧ (E k).1 < 123 ∧ nmK (E k).1 = true) ∧ (∀ k, 0 < k → k < n → (E k).2.2 < k ∧ (E k).1 ≠ 0 ∧ (E (E k).2.2).1 ≠ 1) ∧ ∀ j k, j < n → k < n → I j = I k → j = k
theorem env_of {s : aT} {pre : List (Nat × Nat)} (w : Wf s) (hT : wT s pre) : wE (sN s) (kI pre) (kE s pre) ∧ (∀ M, C M s → cRt M → cO M pre → eC M (sN s) (kI pre) (kE s pre)) ∧ ∀ M, R M s pre → eR M (sN s) (kI pre) (kE s pre) := by
  have hlen : pre.length = sN s := hT.2.2.2
  have h24 := w.1.1.2
  have hget : ∀ k, k < sN s → ∃ i e, pre[k]? = some (i, e) := fun k hk => ⟨_, _, List.getElem?_eq_getElem (by omega)⟩
  have hid : ∀ k i e, pre[k]? = some (i, e) → i < sN s := fun k i e h => (wT_id w hT _ (List.mem_of_getElem? h)).1
  have h00 : kI pre 0 = 0 := by
    obtain ⟨L1, L2, e1, _, _⟩ := Fo_cons_inv hT.1
    have : pre[0]? = some (0, 0) := by rw [e1]; rfl
    exact kI_s this
  have nm0 : sNm s 0 = 0 := w.2.2.2.1.1
  have nmx := w.2.2.2.1.2
  have par : ∀ k, 0 < k → k < sN s → ∃ i e p ep K1 K2, pre[k]? = some (i, e) ∧ pre[kP pre k]? = some (p, ep) ∧ kP pre k < k ∧ i ≠ 0 ∧ p < sN s ∧ sKd s p = K1 ++ i :: K2 := fun k h0 hk => by
    obtain ⟨i, e, h⟩ := hget k hk
    rcases pre_par w hT h with ⟨h1, _⟩ | ⟨A, p, ep, S, B, K1, K2, hp, hS, hkk, he, p1, hi0, p3⟩
    · omega
    · refine ⟨i, e, p, ep, K1, K2, h, ?_, ?_, hi0, p1, p3⟩
      · rw [hkk, kP_s hp hS, hp]
        simp
      · rw [hkk, kP_s hp hS]
        omega
  refine ⟨⟨⟨w.1.1.1, h24⟩, ?_, fun k hk => ?_, fun k h0 hk => ?_, fun j k hj hk e => ?_⟩, fun M c rt hO => ⟨c.1.2, fun k hk => ?_⟩, fun M r => ⟨by rw [r.2.2.1.1, hlen], fun k hk => ?_⟩⟩
  · show sNm s (kI pre 0) = 0
    rw [h00, nm0]
  · obtain ⟨i, e, h⟩ := hget k hk
    have hi := hid k i e h
    show kI pre k < 24 ∧ sNm s (kI pre k) < 123 ∧ nmK (sNm s (kI pre k)) = true
    rw [kI_s h]
    by_cases q : i = 0
    · rw [q, nm0]
      exact ⟨by omega, by omega, by decide⟩
    · rcases nmx i (by omega) hi with m | m
      · rw [m]
        exact ⟨by omega, by omega, by decide⟩
      · refine ⟨by omega, by omega, ?_⟩
        unfold nmK
        simp [m.1, m.2]
  · obtain ⟨i, e, p, ep, K1, K2, h1, h2, h3, h4, h5, h6⟩ := par k h0 hk
    refine ⟨h3, ?_, ?_⟩
    · show sNm s (kI pre k) ≠ 0
      rw [kI_s h1]
      rcases nmx i (by omega) (hid k i e h1) with m | m <;> omega
    · show sNm s (kI pre (kP pre k)) ≠ 1
      rw [kI_s h2]
      intro q
      have := w.2.2.2.2.2.2.1 p h5 q
      rw [this] at h6
      simp at h6
  · obtain ⟨i1, e1, g1⟩ := hget j hj
    obtain ⟨i2, e2, g2⟩ := hget k hk
    rw [kI_s g1, kI_s g2] at e
    have q1 := fI_get g1
    have q2 := fI_get g2
    rw [e] at q1
    exact nd_inj hT.2.1 q1 q2
  · obtain ⟨i, e, h⟩ := hget k hk
    have hi := hid k i e h
    show M.2 3 k = some (7 + 5 * kI pre k) ∧ M.1 (7 + 5 * kI pre k) 0 = nI (sNm s (kI pre k)) ∧ M.1 (7 + 5 * kI pre k) 1 = sCs s (kI pre k) ∧ M.2 (7 + 5 * kI pre k) 4 = if k = 0 then none else some (7 + 5 * kI pre (kP pre k))
    refine ⟨by rw [kI_s h]; exact (hO k i e h).1, by rw [kI_s h]; exact (c.2.1 i hi).1, by rw [kI_s h]; exact (c.2.1 i hi).2, ?_⟩
    by_cases q : k = 0
    · rw [if_pos q, q, h00]
      exact rt.1
    · obtain ⟨i', e', p, ep, K1, K2, h1, h2, h3, h4, h5, h6⟩ := par k (by omega) hk
      rw [if_neg q, kI_s h1, kI_s h2]
      exact (c.2.2.1.2 p h5 K1 i' K2 h6).2.1
  · obtain ⟨i, e, h⟩ := hget k hk
    have hi := hid k i e h
    show M.1 3 k = nI (kI pre k) ∧ M.1 4 (kI pre k) = nI (sNm s (kI pre k)) ∧ M.1 5 (kI pre k) = sCs s (kI pre k) ∧ f_Md_parentOf (nI k) M = some (if k = 0 then -1 else nI (kP pre k))
    refine ⟨by rw [kI_s h]; exact (r.2.2.1.2 k i e h).1, by rw [kI_s h]; exact (r.2.1.2 i hi).1, by rw [kI_s h]; exact (r.2.1.2 i hi).2, ?_⟩
    have hid' : ∀ q ∈ pre, q.1 < 24 ∧ q.2 < 99 := fun q hq => by have := wT_id w hT q hq; omega
    rcases pre_par w hT h with ⟨rfl, h0⟩ | ⟨A, p, ep, S, B, K1, K2, hp, hS, hkk, he, p1, h0, p3⟩
    · rw [if_pos rfl]
      unfold f_Md_parentOf
      rw [d_k]
      show f_Md_parentOf_4 M (nI 0) (999 + 1) _ (dI 0) = _
      rw [f_Md_parentOf_4, if_pos (by decide)]
      rfl
    · rw [if_neg (by omega), hkk, kP_s hp hS]
      have hll : pre.length = A.length + 1 + S.length + 1 + B.length := by rw [hp]; simp; omega
      unfold f_Md_parentOf
      rw [d_k, show A.length + 1 + S.length = (A.length + S.length) + 1 by omega, d_s, show (A.length + S.length) + 1 = A.length + 1 + S.length by omega]
      exact r_par4 r.2.2.1 (by omega) hid' hp hS S.length 1000 _ (Nat.le_refl _) (by omega)
