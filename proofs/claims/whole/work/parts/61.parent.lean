/-! parent and letter -/
theorem r_par4 {M : qM} {pre A S B : List (Nat × Nat)} {p ep i : Nat} (ho : rO M pre) (hl : pre.length ≤ 24) (hid : ∀ q ∈ pre, q.1 < 24 ∧ q.2 < 99) (hp : pre = A ++ (p, ep) :: (S ++ (i, ep + 1) :: B)) (hS : ∀ q ∈ S, ep + 1 ≤ q.2) : ∀ m f K, m ≤ S.length → m < f → f_Md_parentOf_4 M (nI (A.length + 1 + S.length)) f K (nI (A.length + m)) = K (nI A.length) := by
  have hll : pre.length = A.length + 1 + S.length + 1 + B.length := by rw [hp]; simp; omega
  have eI' : pre[A.length + 1 + S.length]? = some (i, ep + 1) := by
    rw [hp, List.getElem?_append_right (by omega), show A.length + 1 + S.length - A.length = S.length + 1 by omega, List.getElem?_cons_succ, List.getElem?_append_right (Nat.le_refl _), Nat.sub_self]
    rfl
  have aI := ho.2 _ _ _ eI'
  have hI := hid _ (List.mem_of_getElem? eI')
  have hI1 : i < 24 := hI.1
  have hI2 : ep + 1 < 99 := hI.2
  intro m
  induction m with
  | zero =>
    intro f K _ hf
    obtain ⟨f, rfl⟩ : ∃ g, f = g + 1 := ⟨f - 1, by omega⟩
    have e0 : pre[A.length]? = some (p, ep) := by rw [hp]; simp
    have a := ho.2 _ _ _ e0
    have hz := hid _ (List.mem_of_getElem? e0)
    have hz1 : p < 24 := hz.1
    show f_Md_parentOf_4 M (nI (A.length + 1 + S.length)) (f + 1) K (nI A.length) = _
    rw [f_Md_parentOf_4, i_n0 (by omega)]
    simp (disch := omega) only [g_ix, g_cl, a.1, a.2, aI.1, aI.2, g_lt]
    rw [if_pos (by omega)]
  | succ m ih =>
    intro f K hm hf
    obtain ⟨f, rfl⟩ : ∃ g, f = g + 1 := ⟨f - 1, by omega⟩
    have hm2 : m < S.length := by omega
    have e0 : pre[A.length + (m + 1)]? = some (S[m].1, S[m].2) := by
      rw [hp, List.getElem?_append_right (by omega), show A.length + (m + 1) - A.length = m + 1 by omega, List.getElem?_cons_succ, List.getElem?_append_left hm2]
      exact List.getElem?_eq_getElem hm2
    have a := ho.2 _ _ _ e0
    have hz := hid _ (List.mem_of_getElem? e0)
    have hz1 : S[m].1 < 24 := hz.1
    have hz2 : S[m].2 < 99 := hz.2
    have hge := hS _ (List.getElem_mem hm2)
    rw [f_Md_parentOf_4, i_n0 (by omega)]
    simp (disch := omega) only [g_ix, g_cl, a.1, a.2, aI.1, aI.2, g_lt]
    rw [if_neg (by omega), d_m, show A.length + (m + 1) = (A.length + m) + 1 by omega, d_s]
    exact ih f K (by omega) (by omega)
/-- a node's parent in the flat form -/
theorem pre_par {s : aT} (w : Wf s) {pre : List (Nat × Nat)} (ht : wT s pre) {k i e : Nat} (hk : pre[k]? = some (i, e)) : (k = 0 ∧ i = 0) ∨ ∃ A p ep S B K1 K2, pre = A ++ (p, ep) :: (S ++ (i, ep + 1) :: B) ∧ (∀ q ∈ S, ep + 1 ≤ q.2) ∧ k = A.length + 1 + S.length ∧ e = ep + 1 ∧ p < sN s ∧ i ≠ 0 ∧ sKd s p = K1 ++ i :: K2 := by
  have hi : i < sN s := (wT_id w ht _ (List.mem_of_getElem? hk)).1
  obtain ⟨t1, t2, t3, t4⟩ := ht
  by_cases h0 : i = 0
  · left
    refine ⟨?_, h0⟩
    obtain ⟨L1, L2, e1, _, _⟩ := Fo_cons_inv t1
    have g1 : (fI pre)[0]? = some 0 := by rw [e1]; rfl
    have g2 := fI_get hk
    rw [h0] at g2
    exact nd_inj t2 g2 g1
  · right
    obtain ⟨p, K1, K2, p1, p2, p3⟩ := W_par w hi h0
    obtain ⟨A, S2, B2, ep, q1, q2, _, _, _⟩ := Fo_at t1 _ ((t3 _).mpr p1)
    rw [p3] at q2
    obtain ⟨o1, o2, e3, g1, g2⟩ := Fo_app_inv q2
    obtain ⟨L1, L2, e4, g3, g4⟩ := Fo_cons_inv g2
    subst e4
    subst e3
    have q1' : pre = A ++ (p, ep) :: (o1 ++ (i, ep + 1) :: (L1 ++ L2 ++ B2)) := by rw [q1]; simp
    have e5 : pre[A.length + 1 + o1.length]? = some (i, ep + 1) := by
      rw [q1', List.getElem?_append_right (by omega), show A.length + 1 + o1.length - A.length = o1.length + 1 by omega, List.getElem?_cons_succ, List.getElem?_append_right (Nat.le_refl _), Nat.sub_self]
      rfl
    have hkk : k = A.length + 1 + o1.length := nd_inj t2 (fI_get hk) (fI_get e5)
    have he : e = ep + 1 := by
      rw [hkk, e5] at hk
      have := Option.some.inj hk
      exact (congrArg Prod.snd this).symm
    exact ⟨A, p, ep, o1, L1 ++ L2 ++ B2, K1, K2, q1', fun q hq => Fo_ge g1 q hq, hkk, he, p1, h0, p3⟩
theorem r_par {M : qM} {s : aT} (w : Wf s) {pre : List (Nat × Nat)} (ht : wT s pre) (ho : rO M pre) {k i e : Nat} (hk : pre[k]? = some (i, e)) : (k = 0 ∧ i = 0 ∧ f_Md_parentOf (nI k) M = some (-1)) ∨ ∃ p ep j K1 K2, pre[j]? = some (p, ep) ∧ j < k ∧ p < sN s ∧ i ≠ 0 ∧ e = ep + 1 ∧ sKd s p = K1 ++ i :: K2 ∧ f_Md_parentOf (nI k) M = some (nI j) := by
  have hid := wT_id w ht
  have h24 := w.1.1.2
  have hlen : pre.length = sN s := ht.2.2.2
  have hid' : ∀ q ∈ pre, q.1 < 24 ∧ q.2 < 99 := fun q hq => by have := hid q hq; omega
  rcases pre_par w ht hk with ⟨rfl, h0⟩ | ⟨A, p, ep, S, B, K1, K2, hp, hS, hkk, he, p1, h0, p3⟩
  · left
    refine ⟨rfl, h0, ?_⟩
    unfold f_Md_parentOf
    rw [d_k]
    show f_Md_parentOf_4 M (nI 0) (999 + 1) _ (dI 0) = _
    rw [f_Md_parentOf_4, if_pos (by decide)]
    rfl
  · right
    refine ⟨p, ep, A.length, K1, K2, by rw [hp]; simp, by omega, p1, h0, he, p3, ?_⟩
    have hll : pre.length = A.length + 1 + S.length + 1 + B.length := by rw [hp]; simp; omega
    unfold f_Md_parentOf
    rw [d_k, hkk, show A.length + 1 + S.length = (A.length + S.length) + 1 by omega, d_s, show (A.length + S.length) + 1 = A.length + 1 + S.length by omega]
    exact r_par4 ho (by omega) hid' hp hS S.length 1000 _ (Nat.le_refl _) (by omega)
theorem ti_parent {Mx Mm : qM} {txt : List Nat} (h : TI Mx Mm txt) (a : Int32) : ∃ x, f_Pg_parent a Mx = some x ∧ f_Md_parent a Mm = some x := by
  unfold f_Pg_parent f_Md_parent
  rcases ti_at h a with ⟨e1, e2⟩ | ⟨r, pre, k, i, e, c0, w, rt, hwT, hO, hB, hR, rfl, hk, e1, e2⟩
  · rw [e1, e2]
    exact ⟨-1, rfl, rfl⟩
  · rw [e1, e2, q_bpE, q_bpE, if_pos rfl]
    rcases r_par w hwT hR.2.2.1 hk with ⟨_, h0, h2⟩ | ⟨p, ep, j, K1, K2, hj, _, p1, h0, _, p3, h2⟩
    · rw [h2, h0]
      refine ⟨-1, ?_, rfl⟩
      show (q_lt (Mx.2 7 4) fun r3 => _) = _
      rw [rt.1]
      rfl
    · rw [h2]
      refine ⟨nI j, ?_, rfl⟩
      have hp4 := (c0.2.2.1.2 p p1 K1 i K2 p3).2.1
      show (q_lt (Mx.2 (7 + 5 * i) 4) fun r3 => q_on r3 (some (-1)) fun o4 => (q_lt (Mx.2 (7 + 5 * i) 4) fun r5 => q_nn r5 fun o6 => some (Mx.1 o6 2))) = _
      rw [hp4]
      show some (Mx.1 (7 + 5 * p) 2) = _
      rw [(hO j p ep hj).2]
/-! letters -/
theorem i_eq1 {α : Type} {a : Nat} {x y : α} (ha : a < 2147483648) : (if nI a = (1 : Int32) then x else y) = if a = 1 then x else y := i_eq (b := 1) ha (by decide)
def kthL (cf : Nat → Nat × Nat) (i : Nat) : Nat → Nat → Nat → Option Nat
  | 0, _, _ => none
  | m + 1, a, t => if (cf a).2 = i then (if t = 0 then some a else kthL cf i m (a + 1) (t - 1)) else kthL cf i m (a + 1) t
theorem kthL_lt {cf : Nat → Nat × Nat} {i : Nat} : ∀ {m a t q : Nat}, kthL cf i m a t = some q → a ≤ q ∧ q < a + m ∧ (cf q).2 = i
  | 0, _, _, _, h => by cases h
  | m + 1, a, t, q, h => by
    unfold kthL at h
    split at h
    · split at h
      · cases h
        exact ⟨Nat.le_refl _, by omega, by assumption⟩
      · have := kthL_lt h
        exact ⟨by omega, by omega, this.2.2⟩
    · have := kthL_lt h
      exact ⟨by omega, by omega, this.2.2⟩
/-- the class's walk along a text's letters -/
theorem t_let25 {M : qM} {s : aT} (c : C M s) (hnc : sNc s ≤ 160) {i kk : Nat} (hkk : kk < 2147483648) : ∀ (m a j f : Nat) (K : Option Nat → Option (Option Nat)), a + m = sNc s → j ≤ kk → m + 1 < f → f_Tree_letterAt_25 (nI kk) M f K ((nxL (sCf s) i m a).map (127 + ·)) (nI j) = K ((kthL (sCf s) i m a (kk - j)).map (127 + ·)) := by
  intro m
  induction m with
  | zero =>
    intro a j f K ha hj hf
    obtain ⟨f, rfl⟩ : ∃ g, f = g + 1 := ⟨f - 1, by omega⟩
    rw [f_Tree_letterAt_25]
    show (if nI kk ≤ nI j then K none else K none) = K none
    rw [ite_self]
  | succ m ih =>
    intro a j f K ha hj hf
    by_cases h : (sCf s a).2 = i
    · obtain ⟨f, rfl⟩ : ∃ g, f = g + 1 := ⟨f - 1, by omega⟩
      have hn : nxL (sCf s) i (m + 1) a = some a := by rw [nxL, if_pos h]
      rw [hn, f_Tree_letterAt_25, kthL, if_pos h, i_le (by omega) (by omega)]
      by_cases q : kk = j
      · rw [if_pos (by omega), if_pos (by omega)]
      · rw [if_neg (by omega), if_neg (by omega)]
        show (q_lt (M.2 (127 + a) 1) fun r10 => f_Tree_letterAt_25 (nI kk) M f K r10 (nI j + 1)) = _
        rw [(c.2.2.2.2.2.2.2 a (by omega)).2, h, q_ltE, g_inc, show sNc s - (a + 1) = m by omega]
        have := ih (a + 1) (j + 1) f K (by omega) (by omega) (by omega)
        rw [this, show kk - j - 1 = kk - (j + 1) by omega]
    · have hn : nxL (sCf s) i (m + 1) a = nxL (sCf s) i m (a + 1) := by rw [nxL, if_neg h]
      rw [hn, kthL, if_neg h]
      exact ih (a + 1) j f K (by omega) hj (by omega)
/-- the reference's search -/
theorem r_find34 {M : qM} {s : aT} {pre : List (Nat × Nat)} (r : R M s pre) (w : Wf s) {k i e : Nat} (hk : pre[k]? = some (i, e)) (hk40 : k < 24) (hi : i < 24) : ∀ (m a t f : Nat), a + m = sNc s → t < 2147483648 → m < f → f_Md_find_34 M (nI k) f (some (-1)) (nI t) (nI a) = some (eI (kthL (sCf s) i m a t)) := by
  have hnc := (Wn w).2
  intro m
  induction m with
  | zero =>
    intro a t f ha ht hf
    obtain ⟨f, rfl⟩ : ∃ g, f = g + 1 := ⟨f - 1, by omega⟩
    rw [f_Md_find_34, r.2.2.2.2.2.1, i_le (by omega) (by omega), if_pos (by omega)]
    rfl
  | succ m ih =>
    intro a t f ha ht hf
    obtain ⟨f, rfl⟩ : ∃ g, f = g + 1 := ⟨f - 1, by omega⟩
    have hc := (r.2.2.2.2.2.2 a (by omega)).2
    have hb := (w.2.2.2.2.2.2.2.1.1 a (by omega)).1
    have h24 := w.1.1.2
    rw [f_Md_find_34, r.2.2.2.2.2.1, i_le (by omega) (by omega), if_neg (by omega), g_ix (by omega) (by omega), g_ix (by omega) (by omega), g_cl (by omega), g_cl (by omega), hc, (r.2.2.1.2 k i e hk).1, i_eq (by omega) (by omega), kthL]
    by_cases h : (sCf s a).2 = i
    · rw [if_pos h, if_pos h, ← l_0, i_eq (by omega) (by omega)]
      by_cases q : t = 0
      · rw [if_pos q, if_pos q]
        rfl
      · rw [if_neg q, if_neg q, d_m, show dI t = nI (t - 1) by
          obtain ⟨t', rfl⟩ : ∃ t', t = t' + 1 := ⟨t - 1, by omega⟩
          exact d_s t', g_inc]
        exact ih (a + 1) (t - 1) f (by omega) (by omega) (by omega)
    · rw [if_neg h, if_neg h, g_inc]
      exact ih (a + 1) t f (by omega) ht (by omega)
/-- a letter by node and number on both sides -/
theorem ti_find {Mx Mm : qM} {txt : List Nat} (h : TI Mx Mm txt) (a b : Int32) : (f_Tree_letterAt a b Mx = some none ∧ f_Md_find a b Mm = some (-1)) ∨ ∃ r pre q, C Mx (tS txt r).1 ∧ Wf (tS txt r).1 ∧ wT (tS txt r).1 pre ∧ sB (tS txt r).1 = false ∧ R Mm (tS txt r).1 pre ∧ q < sNc (tS txt r).1 ∧ f_Tree_letterAt a b Mx = some (some (127 + q)) ∧ f_Md_find a b Mm = some (nI q) := by
  unfold f_Tree_letterAt f_Md_find
  rcases ti_at h a with ⟨e1, e2⟩ | ⟨r, pre, k, i, e, c0, w, rt, hwT, hO, hB, hR, rfl, hk, e1, e2⟩
  · left
    rw [e1, e2]
    exact ⟨rfl, rfl⟩
  · have hi : i < sN (tS txt r).1 := (wT_id w hwT _ (List.mem_of_getElem? hk)).1
    have h24 := w.1.1.2
    have hlk := (List.getElem?_eq_some_iff.mp hk).1
    have hlen : pre.length = sN (tS txt r).1 := hwT.2.2.2
    have hnc := (Wn w).2
    have hnm := w.1.2.1 i hi
    rw [e1, e2, q_bpE, q_bpE, if_pos rfl, g_ix (by omega) (by omega), g_cl (by omega), (hR.2.2.1.2 k i e hk).1, g_ix (by omega) (by omega), g_cl (by omega), (hR.2.1.2 i hi).1, i_eq1 (by omega)]
    show ((if 0 ≤ b then (q_lt (Mx.2 (7 + 5 * i) 9) fun r4 => f_Tree_letterAt_25 b Mx 1000 (fun (r12 : Option Nat) => some r12) r4 0) else (some none)) = some none ∧ _) ∨ ∃ r' pre' q, _ ∧ _ ∧ _ ∧ _ ∧ _ ∧ _ ∧ (if 0 ≤ b then (q_lt (Mx.2 (7 + 5 * i) 9) fun r4 => f_Tree_letterAt_25 b Mx 1000 (fun (r12 : Option Nat) => some r12) r4 0) else (some none)) = _ ∧ _
    by_cases hb : 0 ≤ b
    · rw [if_pos hb, if_pos hb]
      obtain ⟨kk, hkk, rfl⟩ : ∃ kk, kk < 2147483648 ∧ b = nI kk := by
        have h0 : 0 ≤ b.toInt := by
          rw [Int32.le_iff_toInt_le] at hb
          have : (0 : Int32).toInt = 0 := by decide
          omega
        have h1 := Int32.toInt_lt b
        refine ⟨b.toInt.toNat, by omega, ?_⟩
        rw [← Int32.toInt_inj, nI_toInt (by omega)]
        omega
      have el := t_let25 c0 hnc (i := i) hkk (sNc (tS txt r).1) 0 0 1000 (fun (r12 : Option Nat) => some r12) (by omega) (Nat.zero_le _) (by omega)
      rw [(c0.2.2.2.2.2.2.1 i hi).1, q_ltE, ← l_0, el, Nat.sub_zero]
      by_cases h1 : sNm (tS txt r).1 i = 1
      · rw [if_pos h1, r_find34 hR w hk (by omega) (by omega) (sNc (tS txt r).1) 0 kk 1000 (by omega) hkk (by omega)]
        cases hq : kthL (sCf (tS txt r).1) i (sNc (tS txt r).1) 0 kk with
        | none => exact Or.inl ⟨rfl, rfl⟩
        | some q =>
          have := kthL_lt hq
          exact Or.inr ⟨r, pre, q, c0, w, hwT, hB, hR, by omega, rfl, rfl⟩
      · rw [if_neg h1]
        cases hq : kthL (sCf (tS txt r).1) i (sNc (tS txt r).1) 0 kk with
        | none => exact Or.inl ⟨rfl, rfl⟩
        | some q =>
          have := kthL_lt hq
          have h2 := (w.2.2.2.2.2.2.2.1.1 q (by omega)).2.1
          rw [this.2.2] at h2
          exact absurd h2 h1
    · rw [if_neg hb, if_neg hb, ite_self]
      exact Or.inl ⟨rfl, rfl⟩
theorem ti_letter {Mx Mm : qM} {txt : List Nat} (h : TI Mx Mm txt) (a b : Int32) : ∃ x, f_Pg_letter a b Mx = some x ∧ f_Md_letter a b Mm = some x := by
  unfold f_Pg_letter f_Md_letter
  rcases ti_find h a b with ⟨e1, e2⟩ | ⟨r, pre, q, c0, w, hwT, hB, hR, hq, e1, e2⟩
  · rw [e1, e2]
    exact ⟨-1, rfl, rfl⟩
  · have hnc := (Wn w).2
    rw [e1, e2, q_bpE, q_bpE, i_p0 (by omega), g_ix (by omega) (by omega), g_cl (by omega), (hR.2.2.2.2.2.2 q hq).1]
    refine ⟨_, ?_, rfl⟩
    show some (Mx.1 (127 + q) 0) = _
    rw [(c0.2.2.2.2.2.2.2 q hq).1]
