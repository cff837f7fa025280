/-! a selector, on the reference's side, put together -/
theorem r_sel33 {T : List Nat} (hl : T.length ≤ 120) (hL : ∀ c ∈ T, c < 127) {M0 : qM} {rc : Nat} (hrc : M0.1 0 22 = nI rc) (hr12 : rc < 12) : ∀ (m n : Nat) (M : qM) (d : Bool) (k cp sm f : Nat) (R : List Nat), m + n = 4 → yX M T → T.drop k = R → M.1 17 rc = nI cp → M.1 18 rc = nI sm → k ≤ T.length → cp ≤ k → sm ≤ n → m < f → ∃ M', f_Md_selector_33 M0 (nI T.length) f (fun (M76 : qM) => some (0, M76)) (nI n) (b2 d) (nI k) M = some (b2 (selP m d R).isSome, M') ∧ (∀ ps c1 s1, selP m d R = some (ps, c1, s1) → M'.1 16 rc = nI (n + ps.length) ∧ M'.1 17 rc = nI (cp + c1) ∧ M'.1 18 rc = nI (sm + s1) ∧ rSel M' rc n ps) ∧ (∀ p j, ¬ ((p = 16 ∨ p = 17 ∨ p = 18) ∧ j = rc) → ¬ ((p = 13 ∨ p = 14 ∨ p = 15) ∧ 4 * rc + n ≤ j ∧ j < 4 * rc + 4) → M'.1 p j = M.1 p j) := by
  intro m
  induction m with
  | zero =>
    intro n M d k cp sm f R hmn hM hR h17 h18 hk _ _ hf
    obtain ⟨f, rfl⟩ : ∃ g, f = g + 1 := ⟨f - 1, by omega⟩
    have : n = 4 := by omega
    subst this
    refine ⟨M, ?_, fun ps c1 s1 e => (by cases e), fun _ _ _ _ => rfl⟩
    rw [sl_eq, if_neg (by decide), if_pos (show nI 4 = (4 : Int32) from rfl)]
    rfl
  | succ m ih =>
    intro n M d k cp sm f R hmn hM hR h17 h18 hk hcp hsm hf
    obtain ⟨f, rfl⟩ : ∃ g, f = g + 1 := ⟨f - 1, by omega⟩
    have hRl : R.length = T.length - k := by rw [← hR, List.length_drop]
    obtain ⟨M1, k1, a1, a2, a3, a4, a5, a6, a7, a8, a9⟩ := r_name hl hL hrc hr12 (show n < 4 by omega) (d := d) (f := f) hM hR h18 hk
    have hX1 : yX M1 T := fun j x hj => by rw [a9 _ _ (by omega) (by omega)]; exact hM j x hj
    obtain ⟨M2, b1, b2', b3, b4⟩ := r_caps hl hL hrc hr12 (show n < 4 by omega) (pName R).2.2 M1 k1 cp 1000 0 (sl_K M0 (nI T.length) f (nI n) (nI k)) hX1 a4 (by rw [a9 _ _ (by omega) (by omega)]; exact h17) a7 a2 (by rw [← a4, List.length_drop]; omega)
    have hnl : (pName R).2.2.length = T.length - k1 := by rw [← a4, List.length_drop]
    have hpr := pRest_le (pName R).2.2
    have hsuf := pSuf R
    have hcl : cp + (pCaps (pName R).2.2).length ≤ T.length - (pRest (pName R).2.2).length := by
      have h1 : (pCaps (pName R).2.2).length + (pRest (pName R).2.2).length = (pName R).2.2.length := by
        rw [← List.length_append]
        exact congrArg List.length List.takeWhile_append_dropWhile
      omega
    have hJ : f_Md_selector_33 M0 (nI T.length) (f + 1) (fun (M76 : qM) => some (0, M76)) (nI n) (b2 d) (nI k) M = sl_K M0 (nI T.length) f (nI n) (nI k) (nI (T.length - (pRest (pName R).2.2).length)) M2 := by
      rw [a1]
      unfold sl_J
      exact b1
    rw [hJ]
    unfold selP
    generalize hP : pRest (pName R).2.2 = P at hpr hsuf hcl
    obtain ⟨B, hB⟩ := hsuf
    have hPd : T.drop (T.length - P.length) = P := drop_suf (B := B) (k := k) (by rw [hR]; exact hB) hk
    have hskl := skB_le P
    have f2 : ∀ p j, ¬ ((p = 17 ∨ p = 18) ∧ j = rc) → ¬ ((p = 13 ∨ p = 14 ∨ p = 15) ∧ j = 4 * rc + n) → M2.1 p j = M.1 p j := fun p j q1 q2 => by
      rw [b4 p j (by omega) (by omega), a9 p j (by omega) q2]
    unfold sl_K
    rw [i_eq (by omega) (by omega)]
    by_cases g0 : P.length = R.length
    · rw [if_pos (by omega), if_pos g0]
      exact ⟨M2, rfl, fun ps c1 s1 e => (by cases e), fun p j q1 q2 => f2 p j (by omega) (by omega)⟩
    · rw [if_neg (by omega), if_neg g0, hrc, g_ix (by omega) (by omega), g_cl (by omega), g_inc, q_ltE]
      generalize hM40 : qsI M2 16 rc (nI (n + 1)) = M40
      have k40 : ∀ p j, ¬ (p = 16 ∧ j = rc) → M40.1 p j = M2.1 p j := fun p j h => by rw [← hM40, g_In h]
      have f40 : ∀ p j, ¬ ((p = 16 ∨ p = 17 ∨ p = 18) ∧ j = rc) → ¬ ((p = 13 ∨ p = 14 ∨ p = 15) ∧ j = 4 * rc + n) → M40.1 p j = M.1 p j := fun p j q1 q2 => by
        rw [k40 p j (by omega), f2 p j (by omega) q2]
      have hX40 : yX M40 T := fun j x hj => by rw [f40 _ _ (by omega) (by omega)]; exact hM j x hj
      have s16 : M40.1 16 rc = nI (n + 1) := by rw [← hM40, g_Ie ⟨rfl, rfl⟩]
      have s17 : M40.1 17 rc = nI (cp + (pCaps (pName R).2.2).length) := by rw [k40 _ _ (by omega)]; exact b2'
      have s18 : M40.1 18 rc = nI (sm + (pName R).2.1) := by rw [k40 _ _ (by omega), b4 _ _ (by omega) (by omega)]; exact a5
      have w1 : M40.1 13 (4 * rc + n) = nI (pName R).1 := by rw [k40 _ _ (by omega), b4 _ _ (by omega) (by omega)]; exact a6
      have w2 : M40.1 14 (4 * rc + n) = clsF 0 (pCaps (pName R).2.2) := by rw [k40 _ _ (by omega)]; exact b3
      have w3 : M40.1 15 (4 * rc + n) = b2 d := by rw [k40 _ _ (by omega), b4 _ _ (by omega) (by omega)]; exact a8
      have sm1 : (pName R).2.1 ≤ 1 := by
        unfold pName
        split
        · exact Nat.zero_le _
        · split
          · exact Nat.le_refl _
          · split <;> exact Nat.zero_le _
      have hsmB : sm + (pName R).2.1 ≤ n + 1 := by omega
      rw [r_bl hl hL hX40 (by omega), hPd, q_bpE, i_eq (by omega) (by omega)]
      by_cases g1 : (skB P).length = 0
      · rw [if_pos (by omega), if_pos g1]
        refine ⟨M40, rfl, fun ps c1 s1 e => ?_, fun p j q1 q2 => f40 p j q1 (by omega)⟩
        have e' := Option.some.inj e
        have e1 : ps = [((pName R).1, clsF 0 (pCaps (pName R).2.2), d)] := (congrArg Prod.fst e').symm
        have e2 : c1 = (pCaps (pName R).2.2).length := (congrArg (fun q => q.2.1) e').symm
        have e3 : s1 = (pName R).2.1 := (congrArg (fun q => q.2.2) e').symm
        subst e1
        subst e2
        subst e3
        refine ⟨s16, s17, s18, fun t x ht => ?_⟩
        cases t with
        | zero =>
          have hx : ((pName R).1, clsF 0 (pCaps (pName R).2.2), d) = x := by simpa using ht
          rw [← hx]
          exact ⟨w1, w2, w3⟩
        | succ t => simp at ht
      · rw [if_neg (by omega), if_neg g1, g_ix (by omega) (by omega), g_cl (by omega)]
        obtain ⟨h0, U, hT⟩ : ∃ c U, skB P = c :: U := by
          cases hs : skB P with
          | nil => rw [hs] at g1; exact absurd rfl g1
          | cons c U => exact ⟨c, U, rfl⟩
        have hsd : T.drop (T.length - (skB P).length) = skB P := by
          obtain ⟨B2, e1, _, _⟩ := skB_s P
          exact drop_suf (B := B2) (k := T.length - P.length) (by rw [hPd]; exact e1) (by omega)
        rw [hT] at hsd
        obtain ⟨z1, z2, z3⟩ := hX_d hsd
        have hcb := hL h0 (List.mem_of_getElem? z2)
        rw [hT] at hskl ⊢
        have hTP : U.length + 1 ≤ P.length := hskl
        have z2' := hX40 _ _ z2
        rw [show T.length - (h0 :: U).length = T.length - (U.length + 1) by simp] at z1 z2 z2' z3 hsd
        rw [show (h0 :: U).length = U.length + 1 from rfl, z2', show (62 : Int32) = nI 62 from rfl, i_eq (by omega) (by omega)]
        -- what comes behind, put together
        have join : ∀ (M' : qM) (o : Option (List pT × Nat × Nat)), (∀ ps c1 s1, o = some (ps, c1, s1) → M'.1 16 rc = nI (n + 1 + ps.length) ∧ M'.1 17 rc = nI (cp + (pCaps (pName R).2.2).length + c1) ∧ M'.1 18 rc = nI (sm + (pName R).2.1 + s1) ∧ rSel M' rc (n + 1) ps) → (∀ p, (p = 13 ∨ p = 14 ∨ p = 15) → M'.1 p (4 * rc + n) = M40.1 p (4 * rc + n)) → ∀ ps c1 s1, (o.map fun q => (((pName R).1, clsF 0 (pCaps (pName R).2.2), d) :: q.1, (pCaps (pName R).2.2).length + q.2.1, (pName R).2.1 + q.2.2)) = some (ps, c1, s1) → M'.1 16 rc = nI (n + ps.length) ∧ M'.1 17 rc = nI (cp + c1) ∧ M'.1 18 rc = nI (sm + s1) ∧ rSel M' rc n ps := by
          intro M' o ho hk' ps c1 s1 e
          cases o with
          | none => cases e
          | some q =>
            obtain ⟨ps', c', s'⟩ := q
            have e' := Option.some.inj e
            have e1 : ps = ((pName R).1, clsF 0 (pCaps (pName R).2.2), d) :: ps' := (congrArg Prod.fst e').symm
            have e2 : c1 = (pCaps (pName R).2.2).length + c' := (congrArg (fun q => q.2.1) e').symm
            have e3 : s1 = (pName R).2.1 + s' := (congrArg (fun q => q.2.2) e').symm
            obtain ⟨u1, u2, u3, u4⟩ := ho ps' c' s' rfl
            subst e1
            subst e2
            subst e3
            refine ⟨by rw [u1]; congr 1; simp; omega, by rw [u2]; congr 1; omega, by rw [u3]; congr 1; omega, fun t x ht => ?_⟩
            cases t with
            | zero =>
              have hx : ((pName R).1, clsF 0 (pCaps (pName R).2.2), d) = x := by simpa using ht
              rw [← hx]
              show M'.1 13 (4 * rc + n) = _ ∧ M'.1 14 (4 * rc + n) = _ ∧ M'.1 15 (4 * rc + n) = _
              rw [hk' _ (Or.inl rfl), hk' _ (Or.inr (Or.inl rfl)), hk' _ (Or.inr (Or.inr rfl))]
              exact ⟨w1, w2, w3⟩
            | succ t =>
              have := u4 t x (by simpa using ht)
              rw [show 4 * rc + (n + 1) + t = 4 * rc + n + (t + 1) by omega] at this
              exact this
        by_cases g2 : h0 = 62
        · rw [if_pos g2]
          unfold sl_E sl_G
          rw [if_neg (show ¬ (1 : Int32) = 0 by decide), if_neg (show ¬ (1 : Int32) = 0 by decide), g_inc, show T.length - (U.length + 1) + 1 = T.length - U.length by omega, r_bl hl hL hX40 (by omega)]
          rw [show T.length - (U.length + 1) + 1 = T.length - U.length by omega] at z3
          rw [z3, q_bpE, g_inc]
          have hTs := skB_le U
          have hd25 : T.drop (T.length - (skB U).length) = skB U := by
            obtain ⟨B2, e1, _, _⟩ := skB_s U
            exact drop_suf (B := B2) (k := T.length - U.length) (by rw [z3]; exact e1) (by omega)
          obtain ⟨M', x1, x2, x3⟩ := ih (n + 1) M40 true (T.length - (skB U).length) (cp + (pCaps (pName R).2.2).length) (sm + (pName R).2.1) f (skB U) (by omega) hX40 hd25 s17 s18 (by omega) (by omega) hsmB (by omega)
          rw [if_pos (by rw [g2]; rfl)]
          refine ⟨M', ?_, join M' _ x2 fun p hp => ?_, fun p j q1 q2 => ?_⟩
          · have x1' : f_Md_selector_33 M0 (nI T.length) f (fun (M76 : qM) => some (0, M76)) (nI (n + 1)) 1 (nI (T.length - (skB U).length)) M40 = some (b2 (selP m true (skB U)).isSome, M') := x1
            rw [x1']
            show _ = some (b2 ((selP m true (skB U)).map _).isSome, M')
            rw [Option.isSome_map]
          · rw [x3 _ _ (by omega) (by omega)]
          · rw [x3 p j (by omega) (by omega), f40 p j (by omega) (by omega)]
        · rw [if_neg g2]
          unfold sl_E sl_G
          rw [if_pos rfl, i_eq (by omega) (by omega), if_neg (show ¬ (h0 :: U).head? = some 62 by simpa using g2)]
          by_cases g3 : U.length + 1 = P.length
          · rw [if_pos (by omega), if_pos g3]
            exact ⟨M40, rfl, fun ps c1 s1 e => (by cases e), fun p j q1 q2 => f40 p j (by omega) (by omega)⟩
          · rw [if_neg (by omega), if_neg g3, if_pos rfl, g_inc]
            obtain ⟨M', x1, x2, x3⟩ := ih (n + 1) M40 false (T.length - (U.length + 1)) (cp + (pCaps (pName R).2.2).length) (sm + (pName R).2.1) f (h0 :: U) (by omega) hX40 hsd s17 s18 (by omega) (by omega) hsmB (by omega)
            refine ⟨M', ?_, join M' _ x2 fun p hp => ?_, fun p j q1 q2 => ?_⟩
            · have x1' : f_Md_selector_33 M0 (nI T.length) f (fun (M76 : qM) => some (0, M76)) (nI (n + 1)) 0 (nI (T.length - (U.length + 1))) M40 = some (b2 (selP m false (h0 :: U)).isSome, M') := x1
              rw [x1']
              show _ = some (b2 ((selP m false (h0 :: U)).map _).isSome, M')
              rw [Option.isSome_map]
            · rw [x3 _ _ (by omega) (by omega)]
            · rw [x3 p j (by omega) (by omega), f40 p j (by omega) (by omega)]
/-- a selector from a place on -/
theorem r_sel {T : List Nat} (hl : T.length ≤ 120) (hL : ∀ c ∈ T, c < 127) {M : qM} {rc k : Nat} (hrc : M.1 0 22 = nI rc) (hr12 : rc < 12) (hM : yX M T) (hk : k ≤ T.length) : ∃ M', f_Md_selector (nI k) (nI T.length) M = some (b2 (selF (T.drop k)).isSome, M') ∧ (∀ ps c1 s1, selF (T.drop k) = some (ps, c1, s1) → M'.1 16 rc = nI ps.length ∧ M'.1 17 rc = nI c1 ∧ M'.1 18 rc = nI s1 ∧ rSel M' rc 0 ps) ∧ (∀ p j, ¬ ((p = 16 ∨ p = 17 ∨ p = 18) ∧ j = rc) → ¬ ((p = 13 ∨ p = 14 ∨ p = 15) ∧ 4 * rc ≤ j ∧ j < 4 * rc + 4) → M'.1 p j = M.1 p j) := by
  have hX4 : yX (qsI (qsI M 17 rc 0) 18 rc 0) T := fun j x hj => by rw [g_In (by omega), g_In (by omega)]; exact hM j x hj
  have hsk := skB_le (T.drop k)
  rw [List.length_drop] at hsk
  have hsd : T.drop (T.length - (skB (T.drop k)).length) = skB (T.drop k) := by
    obtain ⟨B2, e1, _, _⟩ := skB_s (T.drop k)
    exact drop_suf (B := B2) (k := k) e1 hk
  obtain ⟨M', x1, x2, x3⟩ := r_sel33 hl hL (M0 := M) hrc hr12 4 0 (qsI (qsI M 17 rc 0) 18 rc 0) false (T.length - (skB (T.drop k)).length) 0 0 1000 (skB (T.drop k)) (by omega) hX4 hsd (by rw [g_In (by omega), g_Ie ⟨rfl, rfl⟩]; rfl) (by rw [g_Ie ⟨rfl, rfl⟩]; rfl) (by omega) (by omega) (by omega) (by omega)
  refine ⟨M', ?_, fun ps c1 s1 e => ?_, fun p j q1 q2 => ?_⟩
  · unfold f_Md_selector
    rw [hrc, g_ix (by omega) (by omega), g_cl (by omega), q_ltE, g_ix (by omega) (by omega), q_ltE, r_bl hl hL hX4 hk, q_bpE]
    exact x1
  · have := x2 ps c1 s1 e
    simp only [Nat.zero_add] at this
    exact this
  · rw [x3 p j q1 (by omega), g_In (by omega), g_In (by omega)]
/-- and on the class's side -/
theorem t_sel {L : List Nat} (hl : L.length ≤ 120) (hL : ∀ c ∈ L, c < 127) {q0 : Nat} (hq : q0 + 3 < 291 ∨ 291 < q0) {M : qM} (hM : hX M L) : ∃ M', f_Rule_readSelector q0 (nI L.length) M = some (b2 (selF L).isSome, M') ∧ (∀ ps c1 s1, selF L = some (ps, c1, s1) → M'.1 q0 5 = nI ps.length ∧ M'.1 q0 6 = nI c1 ∧ M'.1 q0 7 = nI s1 ∧ cSel M' q0 0 ps) ∧ (∀ p j, ¬ (p = q0 ∧ 5 ≤ j ∧ j ≤ 8) → ¬ ((p = q0 + 1 ∨ p = q0 + 2 ∨ p = q0 + 3) ∧ j < 4) → M'.1 p j = M.1 p j) ∧ M'.2 = M.2 := by
  have hX3 : hX (qsI (qsI (qsI M q0 6 0) q0 7 0) q0 8 0) L := fun j x hj => by rw [g_In (by omega), g_In (by omega), g_In (by omega)]; exact hM j x hj
  obtain ⟨M4, b1, b2', b3, b4⟩ := t_skip hl hL (show q0 ≠ 291 by omega) (k := 0) hX3 (g_Ie ⟨rfl, rfl⟩) (Nat.zero_le _)
  rw [List.drop_zero] at b2'
  have hsk := skB_le L
  have hsd : L.drop (L.length - (skB L).length) = skB L := by
    obtain ⟨B2, e1, _, _⟩ := skB_s L
    exact drop_suf (B := B2) (k := 0) (by rw [List.drop_zero]; exact e1) (Nat.zero_le _)
  have k4 : ∀ p j, ¬ (p = q0 ∧ 6 ≤ j ∧ j ≤ 8) → M4.1 p j = M.1 p j := fun p j h => by rw [b3 p j (by omega), g_In (by omega), g_In (by omega), g_In (by omega)]
  obtain ⟨M', x1, x2, x3, x4⟩ := t_sel28 hl hL hq 4 0 (qsI M4 q0 5 0) false (L.length - (skB L).length) 0 0 1000 (skB L) (by omega) (fun j x hj => by rw [g_In (by omega), k4 _ _ (by omega)]; exact hM j x hj) hsd (by rw [g_In (by omega)]; exact b2') (g_Ie ⟨rfl, rfl⟩) (by rw [g_In (by omega), b3 _ _ (by omega), g_In (by omega), g_In (by omega), g_Ie ⟨rfl, rfl⟩]; rfl) (by rw [g_In (by omega), b3 _ _ (by omega), g_In (by omega), g_Ie ⟨rfl, rfl⟩]; rfl) (by omega) (by omega) (by omega) (by omega)
  refine ⟨M', ?_, fun ps c1 s1 e => ?_, fun p j q1 q2 => ?_, ?_⟩
  · unfold f_Rule_readSelector
    rw [q_ltE, q_ltE, q_ltE, b1, q_cvE, q_ltE]
    exact x1
  · have := x2 ps c1 s1 e
    simp only [Nat.zero_add] at this
    exact this
  · rw [x3 p j q1 (by omega), g_In (by omega), k4 p j (by omega)]
  · rw [x4]
    show M4.2 = _
    rw [b4]
    rfl
