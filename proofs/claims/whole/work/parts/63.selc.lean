/-! a part and a selector, on the class's side -/
def pnC (x : Nat) : Int32 := if x = 0 then -1 else nI x
def rp_J (q0 : Nat) (a2 : Int32) (M : qM) : qM → Option (Int32 × qM) := fun M5 => f_Rule_readPart_112 a2 q0 1000 (fun (M18 : qM) => if (M18.1 q0 8) ≤ (M.1 q0 8) then (some (0, M18)) else (some (1, M18))) M5
theorem rp_eq (q0 : Nat) (a2 : Int32) (M : qM) : f_Rule_readPart q0 a2 M = q_ix (M.1 q0 5) 4 (q_lt (qsI M (q0 + 1) (M.1 q0 5).toNatClampNeg (-1)) fun M2 => q_ix (M2.1 q0 5) 4 (q_lt (qsI M2 (q0 + 2) (M2.1 q0 5).toNatClampNeg 0) fun M4 => if a2 ≤ (M4.1 q0 8) then (if a2 ≤ (M4.1 q0 8) then (rp_J q0 a2 M M4) else (q_ix (M4.1 q0 8) 120 <| if (M4.1 291 (M4.1 q0 8).toNatClampNeg) = 42 then (q_lt (qsI M4 q0 8 ((M4.1 q0 8) + 1)) fun M24 => rp_J q0 a2 M M24) else (rp_J q0 a2 M M4))) else (q_ix (M4.1 q0 8) 120 <| q_bp (f_Pg_isSmall (M4.1 291 (M4.1 q0 8).toNatClampNeg) M4) fun x28 => if x28 = 0 then (if a2 ≤ (M4.1 q0 8) then (rp_J q0 a2 M M4) else (q_ix (M4.1 q0 8) 120 <| if (M4.1 291 (M4.1 q0 8).toNatClampNeg) = 42 then (q_lt (qsI M4 q0 8 ((M4.1 q0 8) + 1)) fun M24 => rp_J q0 a2 M M24) else (rp_J q0 a2 M M4))) else (q_ix (M4.1 q0 8) 120 <| q_ix (M4.1 q0 5) 4 <| q_lt (qsI M4 (q0 + 1) (M4.1 q0 5).toNatClampNeg (M4.1 291 (M4.1 q0 8).toNatClampNeg)) fun M32 => q_lt (qsI M32 q0 7 ((M32.1 q0 7) + 1)) fun M33 => q_lt (qsI M33 q0 8 ((M33.1 q0 8) + 1)) fun M34 => rp_J q0 a2 M M34)))) := rfl
theorem t_part {L : List Nat} (hl : L.length ≤ 120) (hL : ∀ c ∈ L, c < 127) {q0 n : Nat} (hq : q0 + 3 < 291 ∨ 291 < q0) (hn : n < 4) {M : qM} {k cp sm : Nat} {R : List Nat} (hM : hX M L) (hR : L.drop k = R) (hc : M.1 q0 8 = nI k) (h5 : M.1 q0 5 = nI n) (h6 : M.1 q0 6 = nI cp) (h7 : M.1 q0 7 = nI sm) (hk : k ≤ L.length) : ∃ M', f_Rule_readPart q0 (nI L.length) M = some (b2 (decide (¬ (pRest (pName R).2.2).length = R.length)), M') ∧ M'.1 q0 8 = nI (L.length - (pRest (pName R).2.2).length) ∧ M'.1 q0 6 = nI (cp + (pCaps (pName R).2.2).length) ∧ M'.1 q0 7 = nI (sm + (pName R).2.1) ∧ M'.1 (q0 + 1) n = pnC (pName R).1 ∧ M'.1 (q0 + 2) n = clsF 0 (pCaps (pName R).2.2) ∧ (∀ p j, ¬ (p = q0 ∧ (j = 8 ∨ j = 6 ∨ j = 7)) → ¬ ((p = q0 + 1 ∨ p = q0 + 2) ∧ j = n) → M'.1 p j = M.1 p j) ∧ M'.2 = M.2 := by
  have hRl : R.length = L.length - k := by rw [← hR, List.length_drop]
  -- from the capitals on
  have fin : ∀ (M5 : qM) (k5 sm5 : Nat) (R5 : List Nat) (nm : Int32), hX M5 L → L.drop k5 = R5 → M5.1 q0 8 = nI k5 → M5.1 q0 5 = nI n → M5.1 q0 6 = nI cp → M5.1 q0 7 = nI sm5 → M5.1 (q0 + 2) n = 0 → M5.1 (q0 + 1) n = nm → k ≤ k5 → k5 ≤ L.length → (∀ p j, ¬ (p = q0 ∧ (j = 8 ∨ j = 6 ∨ j = 7)) → ¬ ((p = q0 + 1 ∨ p = q0 + 2) ∧ j = n) → M5.1 p j = M.1 p j) → M5.2 = M.2 → ∃ M', rp_J q0 (nI L.length) M M5 = some (b2 (decide (¬ (pRest R5).length = R.length)), M') ∧ M'.1 q0 8 = nI (L.length - (pRest R5).length) ∧ M'.1 q0 6 = nI (cp + (pCaps R5).length) ∧ M'.1 q0 7 = nI sm5 ∧ M'.1 (q0 + 1) n = nm ∧ M'.1 (q0 + 2) n = clsF 0 (pCaps R5) ∧ (∀ p j, ¬ (p = q0 ∧ (j = 8 ∨ j = 6 ∨ j = 7)) → ¬ ((p = q0 + 1 ∨ p = q0 + 2) ∧ j = n) → M'.1 p j = M.1 p j) ∧ M'.2 = M.2 := by
    intro M5 k5 sm5 R5 nm a1 a2 a3 a4 a5 a6 a7 a8 a8' a9 a10 a11
    have hR5 : R5.length = L.length - k5 := by rw [← a2, List.length_drop]
    have hpl := pRest_le R5
    obtain ⟨M', e1, e2, e3, e4, e5, e6⟩ := t_caps hl hL hq hn R5 M5 k5 cp 1000 0 (fun (M18 : qM) => if (M18.1 q0 8) ≤ (M.1 q0 8) then (some (0, M18)) else (some (1, M18))) a1 a2 a3 a4 a5 a7 a9 (by omega)
    refine ⟨M', ?_, e2, e3, ?_, ?_, e4, fun p j g1 g2 => ?_, by rw [e6, a11]⟩
    · unfold rp_J
      rw [e1, e2, hc, i_le (by omega) (by omega)]
      by_cases q : (pRest R5).length = R.length
      · rw [if_pos (by omega)]
        simp [q, b2]
      · rw [if_neg (by omega)]
        simp [q, b2]
    · rw [e5 _ _ (by omega) (by omega)]
      exact a6
    · rw [e5 _ _ (by omega) (by omega)]
      exact a8
    · rw [e5 p j (by omega) (by omega), a10 p j g1 g2]
  rw [rp_eq, h5, g_ix (by omega) (by omega), g_cl (by omega), q_ltE, g_In (by omega), h5, g_ix (by omega) (by omega), g_cl (by omega), q_ltE]
  generalize hM4 : qsI (qsI M (q0 + 1) n (-1)) (q0 + 2) n 0 = M4
  have k4 : ∀ p j, ¬ ((p = q0 + 1 ∨ p = q0 + 2) ∧ j = n) → M4.1 p j = M.1 p j := fun p j h => by rw [← hM4, g_In (by omega), g_In (by omega)]
  have hX4 : hX M4 L := fun j x hj => by rw [k4 _ _ (by omega)]; exact hM j x hj
  have c4 : M4.1 q0 8 = nI k := by rw [k4 _ _ (by omega)]; exact hc
  have n4 : M4.1 q0 5 = nI n := by rw [k4 _ _ (by omega)]; exact h5
  have p4 : M4.1 q0 6 = nI cp := by rw [k4 _ _ (by omega)]; exact h6
  have s4 : M4.1 q0 7 = nI sm := by rw [k4 _ _ (by omega)]; exact h7
  have b4 : M4.1 (q0 + 2) n = 0 := by rw [← hM4, g_Ie ⟨rfl, rfl⟩]
  have a4 : M4.1 (q0 + 1) n = -1 := by rw [← hM4, g_In (by omega), g_Ie ⟨rfl, rfl⟩]
  have m4 : M4.2 = M.2 := by rw [← hM4]; rfl
  rw [c4, i_le (by omega) (by omega)]
  cases R with
  | nil =>
    have hk2 : L.length ≤ k := List.drop_eq_nil_iff.mp hR
    rw [if_pos hk2, i_le (by omega) (by omega), if_pos hk2]
    exact fin M4 k sm [] (-1) hX4 hR c4 n4 p4 s4 b4 a4 (Nat.le_refl k) hk (fun p j g1 g2 => k4 p j (by omega)) m4
  | cons c R =>
    obtain ⟨g1, g2, g3⟩ := hX_d hR
    have hcb := hL c (List.mem_of_getElem? g2)
    rw [if_neg (by omega), g_ix (by omega) (by omega), g_cl (by omega), hX4 k c g2, g_sml M4 hcb, q_bpE, i_b2]
    by_cases hs : sml c = true
    · have hs' : 97 ≤ c ∧ c ≤ 122 := by simpa [sml] using hs
      have e : pName (c :: R) = (c, 1, R) := by
        show (if sml c = true then (c, 1, R) else if c = 42 then (0, 0, R) else (0, 0, c :: R)) = _
        rw [if_pos hs]
      rw [if_neg (by simp [hs]), g_ix (by omega) (by omega), n4, g_ix (by omega) (by omega), g_cl (by omega), q_ltE, g_In (by omega), s4, g_inc, q_ltE, g_In (by omega), g_In (by omega), c4, g_inc, q_ltE, e]
      have hp : pnC c = nI c := by unfold pnC; rw [if_neg (by omega)]
      have := fin (qsI (qsI (qsI M4 (q0 + 1) n (nI c)) q0 7 (nI (sm + 1))) q0 8 (nI (k + 1))) (k + 1) (sm + 1) R (nI c) (fun j x hj => by rw [g_In (by omega), g_In (by omega), g_In (by omega)]; exact hX4 j x hj) g3 (g_Ie ⟨rfl, rfl⟩) (by rw [g_In (by omega), g_In (by omega), g_In (by omega)]; exact n4) (by rw [g_In (by omega), g_In (by omega), g_In (by omega)]; exact p4) (by rw [g_In (by omega), g_Ie ⟨rfl, rfl⟩]) (by rw [g_In (by omega), g_In (by omega), g_In (by omega)]; exact b4) (by rw [g_In (by omega), g_In (by omega), g_Ie ⟨rfl, rfl⟩]) (by omega) (by omega) (fun p j q1 q2 => by rw [g_In (by omega), g_In (by omega), g_In (by omega)]; exact k4 p j (by omega)) m4
      rw [show pnC ((c, 1, R) : Nat × Nat × List Nat).1 = nI c from hp]
      exact this
    · rw [if_pos (by simpa using hs), i_le (by omega) (by omega), if_neg (by omega), g_ix (by omega) (by omega), show (42 : Int32) = nI 42 from rfl, i_eq (by omega) (by omega)]
      by_cases q : c = 42
      · have e : pName (c :: R) = (0, 0, R) := by
          show (if sml c = true then (c, 1, R) else if c = 42 then (0, 0, R) else (0, 0, c :: R)) = _
          rw [if_neg hs, if_pos q]
        rw [if_pos q, q_ltE, g_inc, e]
        exact fin (qsI M4 q0 8 (nI (k + 1))) (k + 1) sm R (-1) (fun j x hj => by rw [g_In (by omega)]; exact hX4 j x hj) g3 (g_Ie ⟨rfl, rfl⟩) (by rw [g_In (by omega)]; exact n4) (by rw [g_In (by omega)]; exact p4) (by rw [g_In (by omega)]; exact s4) (by rw [g_In (by omega)]; exact b4) (by rw [g_In (by omega)]; exact a4) (by omega) (by omega) (fun p j q1 q2 => by rw [g_In (by omega)]; exact k4 p j (by omega)) m4
      · have e : pName (c :: R) = (0, 0, c :: R) := by
          show (if sml c = true then (c, 1, R) else if c = 42 then (0, 0, R) else (0, 0, c :: R)) = _
          rw [if_neg hs, if_neg q]
        rw [if_neg q, e]
        exact fin M4 k sm (c :: R) (-1) hX4 hR c4 n4 p4 s4 b4 a4 (Nat.le_refl k) hk (fun p j g1 g2 => k4 p j (by omega)) m4
/-- what a right selector leaves in a rule -/
def cSel (M : qM) (q0 n : Nat) (ps : List pT) : Prop := ∀ t x, ps[t]? = some x → M.1 (q0 + 1) (n + t) = pnC x.1 ∧ M.1 (q0 + 2) (n + t) = x.2.1 ∧ M.1 (q0 + 3) (n + t) = b2 x.2.2
def rs_N (q0 : Nat) (a2 : Int32) (n : Nat) (x19 : Int32) : qM → Option (Int32 × qM) := fun M20 => q_lt (qsI M20 q0 5 ((M20.1 q0 5) + 1)) fun M21 => f_Rule_readSelector_28 q0 a2 n (fun (M32 : qM) => some (0, M32)) x19 M21
def rs_M (q0 : Nat) (a2 : Int32) (n : Nat) (x19 : Int32) (M16 : qM) : Option (Int32 × qM) := if x19 = 0 then (rs_N q0 a2 n x19 M16) else (q_lt (qsI M16 q0 8 ((M16.1 q0 8) + 1)) fun M24 => q_cv (f_Rule_skipBlanks q0 a2 M24) fun M25 => rs_N q0 a2 n x19 M25)
def rs_L (q0 : Nat) (a2 : Int32) (n : Nat) (M14 M16 : qM) (x19 : Int32) : Option (Int32 × qM) := if x19 = 0 then (if (M16.1 q0 8) = (M14.1 q0 8) then (some (0, M16)) else (rs_M q0 a2 n x19 M16)) else (rs_M q0 a2 n x19 M16)
theorem rs28_eq (q0 : Nat) (a2 : Int32) (n : Nat) (x6 : Int32) (M7 : qM) : f_Rule_readSelector_28 q0 a2 (n + 1) (fun (M32 : qM) => some (0, M32)) x6 M7 = if 4 ≤ (M7.1 q0 5) then (some (0, M7)) else (q_ix (M7.1 q0 5) 4 <| q_zk x6 <| q_lt (qsI M7 (q0 + 3) (M7.1 q0 5).toNatClampNeg x6) fun M12 => q_cl (f_Rule_readPart q0 a2 M12) fun x13 M14 => if x13 = 0 then (some (0, M14)) else (q_cv (f_Rule_skipBlanks q0 a2 M14) fun M16 => if (M16.1 q0 8) = a2 then (q_lt (qsI M16 q0 5 ((M16.1 q0 5) + 1)) fun M31 => some (1, M31)) else (q_ix (M16.1 q0 8) 120 <| if (M16.1 291 (M16.1 q0 8).toNatClampNeg) = 62 then (rs_L q0 a2 n M14 M16 1) else (rs_L q0 a2 n M14 M16 0)))) := by
  rw [f_Rule_readSelector_28]
  rfl
theorem b2_zk {β : Type} (d : Bool) (k : Option β) : q_zk (b2 d) k = k := by cases d <;> rfl
theorem t_sel28 {L : List Nat} (hl : L.length ≤ 120) (hL : ∀ c ∈ L, c < 127) {q0 : Nat} (hq : q0 + 3 < 291 ∨ 291 < q0) : ∀ (m n : Nat) (M : qM) (d : Bool) (k cp sm f : Nat) (R : List Nat), m + n = 4 → hX M L → L.drop k = R → M.1 q0 8 = nI k → M.1 q0 5 = nI n → M.1 q0 6 = nI cp → M.1 q0 7 = nI sm → k ≤ L.length → cp ≤ k → sm ≤ n → m < f → ∃ M', f_Rule_readSelector_28 q0 (nI L.length) f (fun (M32 : qM) => some (0, M32)) (b2 d) M = some (b2 (selP m d R).isSome, M') ∧ (∀ ps c1 s1, selP m d R = some (ps, c1, s1) → M'.1 q0 5 = nI (n + ps.length) ∧ M'.1 q0 6 = nI (cp + c1) ∧ M'.1 q0 7 = nI (sm + s1) ∧ cSel M' q0 n ps) ∧ (∀ p j, ¬ (p = q0 ∧ 5 ≤ j ∧ j ≤ 8) → ¬ ((p = q0 + 1 ∨ p = q0 + 2 ∨ p = q0 + 3) ∧ n ≤ j ∧ j < 4) → M'.1 p j = M.1 p j) ∧ M'.2 = M.2 := by
  intro m
  induction m with
  | zero =>
    intro n M d k cp sm f R hmn hM hR hc h5 h6 h7 hk _ _ hf
    obtain ⟨f, rfl⟩ : ∃ g, f = g + 1 := ⟨f - 1, by omega⟩
    have : n = 4 := by omega
    subst this
    refine ⟨M, ?_, fun ps c1 s1 e => (by cases e), fun _ _ _ _ => rfl, rfl⟩
    rw [rs28_eq, h5, if_pos (by decide)]
    rfl
  | succ m ih =>
    intro n M d k cp sm f R hmn hM hR hc h5 h6 h7 hk hcp hsm hf
    obtain ⟨f, rfl⟩ : ∃ g, f = g + 1 := ⟨f - 1, by omega⟩
    have hRl : R.length = L.length - k := by rw [← hR, List.length_drop]
    rw [rs28_eq, h5, show (4 : Int32) = nI 4 from rfl, i_le (by omega) (by omega), if_neg (by omega), g_ix (by omega) (by omega), b2_zk, g_cl (by omega), q_ltE]
    have k12 : ∀ p j, ¬ (p = q0 + 3 ∧ j = n) → (qsI M (q0 + 3) n (b2 d)).1 p j = M.1 p j := fun p j h => g_In h
    obtain ⟨M14, a1, a2, a3, a4, a5, a6, a7, a8⟩ := t_part hl hL hq (show n < 4 by omega) (M := qsI M (q0 + 3) n (b2 d)) (k := k) (cp := cp) (sm := sm) (R := R) (fun j x hj => by rw [k12 _ _ (by omega)]; exact hM j x hj) hR (by rw [k12 _ _ (by omega)]; exact hc) (by rw [k12 _ _ (by omega)]; exact h5) (by rw [k12 _ _ (by omega)]; exact h6) (by rw [k12 _ _ (by omega)]; exact h7) hk
    -- what is left behind the part
    have hpn := pName_le R
    have hpr := pRest_le (pName R).2.2
    have hsuf : ∃ B, R = B ++ pRest (pName R).2.2 := by
      obtain ⟨B1, e1⟩ : ∃ B1, R = B1 ++ (pName R).2.2 := by
        cases R with
        | nil => exact ⟨[], rfl⟩
        | cons c R =>
          by_cases hs : sml c = true
          · refine ⟨[c], ?_⟩
            have e : pName (c :: R) = (c, 1, R) := by
              show (if sml c = true then (c, 1, R) else if c = 42 then (0, 0, R) else (0, 0, c :: R)) = _
              rw [if_pos hs]
            rw [e]
            rfl
          · by_cases q : c = 42
            · refine ⟨[c], ?_⟩
              have e : pName (c :: R) = (0, 0, R) := by
                show (if sml c = true then (c, 1, R) else if c = 42 then (0, 0, R) else (0, 0, c :: R)) = _
                rw [if_neg hs, if_pos q]
              rw [e]
              rfl
            · refine ⟨[], ?_⟩
              have e : pName (c :: R) = (0, 0, c :: R) := by
                show (if sml c = true then (c, 1, R) else if c = 42 then (0, 0, R) else (0, 0, c :: R)) = _
                rw [if_neg hs, if_neg q]
              rw [e]
              rfl
      refine ⟨B1 ++ pCaps (pName R).2.2, ?_⟩
      rw [List.append_assoc]
      have : pCaps (pName R).2.2 ++ pRest (pName R).2.2 = (pName R).2.2 := List.takeWhile_append_dropWhile
      rw [this]
      exact e1
    generalize hP : pRest (pName R).2.2 = P at a1 a2 hpr hsuf
    obtain ⟨B, hB⟩ := hsuf
    have hPd : L.drop (L.length - P.length) = P := drop_suf (B := B) (k := k) (by rw [hR]; exact hB) hk
    have hskl := skB_le P
    have hPl : P.length ≤ L.length := by omega
    have hcl : cp + (pCaps (pName R).2.2).length ≤ L.length - P.length := by
      have h1 : (pCaps (pName R).2.2).length + (pRest (pName R).2.2).length = (pName R).2.2.length := by
        rw [← List.length_append]
        exact congrArg List.length List.takeWhile_append_dropWhile
      rw [hP] at h1
      omega
    rw [a1, q_clE, i_b2]
    unfold selP
    rw [hP]
    by_cases g0 : P.length = R.length
    · rw [if_pos (by simp [g0]), if_pos g0]
      refine ⟨M14, rfl, fun ps c1 s1 e => (by cases e), fun p j q1 q2 => ?_, by rw [a8]; rfl⟩
      rw [a7 p j (by omega) (by omega), k12 p j (by omega)]
    · rw [if_neg (by simp [g0]), if_neg g0]
      have hX14 : hX M14 L := fun j x hj => by rw [a7 _ _ (by omega) (by omega), k12 _ _ (by omega)]; exact hM j x hj
      obtain ⟨M16, b1, b2', b3, b4⟩ := t_skip hl hL (show q0 ≠ 291 by omega) hX14 a2 (by omega)
      rw [hPd] at b2'
      have f16 : ∀ p j, ¬ (p = q0 ∧ (j = 8 ∨ j = 6 ∨ j = 7)) → ¬ ((p = q0 + 1 ∨ p = q0 + 2 ∨ p = q0 + 3) ∧ j = n) → M16.1 p j = M.1 p j := fun p j q1 q2 => by
        rw [b3 p j (by omega), a7 p j q1 (by omega), k12 p j (by omega)]
      have m16 : M16.2 = M.2 := by rw [b4, a8]; rfl
      have s5 : M16.1 q0 5 = nI n := by rw [f16 _ _ (by omega) (by omega)]; exact h5
      have s6 : M16.1 q0 6 = nI (cp + (pCaps (pName R).2.2).length) := by rw [b3 _ _ (by omega)]; exact a3
      have s7 : M16.1 q0 7 = nI (sm + (pName R).2.1) := by rw [b3 _ _ (by omega)]; exact a4
      have w1 : M16.1 (q0 + 1) n = pnC (pName R).1 := by rw [b3 _ _ (by omega)]; exact a5
      have w2 : M16.1 (q0 + 2) n = clsF 0 (pCaps (pName R).2.2) := by rw [b3 _ _ (by omega)]; exact a6
      have w3 : M16.1 (q0 + 3) n = b2 d := by rw [b3 _ _ (by omega), a7 _ _ (by omega) (by omega), g_Ie ⟨rfl, rfl⟩]
      have hX16 : hX M16 L := fun j x hj => by rw [f16 _ _ (by omega) (by omega)]; exact hM j x hj
      have sm1 : (pName R).2.1 ≤ 1 := by
        unfold pName
        split
        · exact Nat.zero_le _
        · split
          · exact Nat.le_refl _
          · split <;> exact Nat.zero_le _
      have hsmB : sm + (pName R).2.1 ≤ n + 1 := by omega
      rw [b1, q_cvE, b2', i_eq (by omega) (by omega)]
      by_cases g1 : (skB P).length = 0
      · rw [if_pos (by omega), if_pos g1, q_ltE, s5, g_inc]
        refine ⟨_, rfl, fun ps c1 s1 e => ?_, fun p j q1 q2 => ?_, m16⟩
        · have e' := Option.some.inj e
          have e1 : ps = [((pName R).1, clsF 0 (pCaps (pName R).2.2), d)] := (congrArg Prod.fst e').symm
          have e2 : c1 = (pCaps (pName R).2.2).length := (congrArg (fun q => q.2.1) e').symm
          have e3 : s1 = (pName R).2.1 := (congrArg (fun q => q.2.2) e').symm
          subst e1
          subst e2
          subst e3
          refine ⟨g_Ie ⟨rfl, rfl⟩, by rw [g_In (by omega)]; exact s6, by rw [g_In (by omega)]; exact s7, fun t x ht => ?_⟩
          cases t with
          | zero =>
            have hx : ((pName R).1, clsF 0 (pCaps (pName R).2.2), d) = x := by simpa using ht
            rw [← hx, g_In (by omega), g_In (by omega), g_In (by omega)]
            exact ⟨w1, w2, w3⟩
          | succ t => simp at ht
        · rw [g_In (by omega), f16 p j (by omega) (by omega)]
      · rw [if_neg (by omega), if_neg g1, g_ix (by omega) (by omega), g_cl (by omega)]
        obtain ⟨h0, T, hT⟩ : ∃ c T, skB P = c :: T := by
          cases hs : skB P with
          | nil => rw [hs] at g1; exact absurd rfl g1
          | cons c T => exact ⟨c, T, rfl⟩
        have hsd : L.drop (L.length - (skB P).length) = skB P := by
          obtain ⟨B2, e1, _, _⟩ := skB_s P
          exact drop_suf (B := B2) (k := L.length - P.length) (by rw [hPd]; exact e1) (by omega)
        rw [hT] at hsd
        obtain ⟨z1, z2, z3⟩ := hX_d hsd
        have hTl : (skB P).length = T.length + 1 := by rw [hT]; rfl
        have hcb := hL h0 (List.mem_of_getElem? z2)
        rw [hT] at hskl b2' ⊢
        have hTP : T.length + 1 ≤ P.length := hskl
        have z2' := hX16 _ _ z2
        rw [show L.length - (h0 :: T).length = L.length - (T.length + 1) by simp] at z1 z2 z2' z3
        rw [show (h0 :: T).length = T.length + 1 from rfl, z2', show (62 : Int32) = nI 62 from rfl, i_eq (by omega) (by omega)]
        -- what comes behind, put together
        have join : ∀ (M' : qM) (o : Option (List pT × Nat × Nat)), (∀ ps c1 s1, o = some (ps, c1, s1) → M'.1 q0 5 = nI (n + 1 + ps.length) ∧ M'.1 q0 6 = nI (cp + (pCaps (pName R).2.2).length + c1) ∧ M'.1 q0 7 = nI (sm + (pName R).2.1 + s1) ∧ cSel M' q0 (n + 1) ps) → (∀ p, (p = q0 + 1 ∨ p = q0 + 2 ∨ p = q0 + 3) → M'.1 p n = M16.1 p n) → ∀ ps c1 s1, (o.map fun q => (((pName R).1, clsF 0 (pCaps (pName R).2.2), d) :: q.1, (pCaps (pName R).2.2).length + q.2.1, (pName R).2.1 + q.2.2)) = some (ps, c1, s1) → M'.1 q0 5 = nI (n + ps.length) ∧ M'.1 q0 6 = nI (cp + c1) ∧ M'.1 q0 7 = nI (sm + s1) ∧ cSel M' q0 n ps := by
          intro M' o ho hk' ps c1 s1 e
          cases o with
          | none => cases e
          | some q =>
            obtain ⟨ps', c', s'⟩ := q
            have e' := Option.some.inj e
            have e1 : ps = ((pName R).1, clsF 0 (pCaps (pName R).2.2), d) :: ps' := (congrArg Prod.fst e').symm
            have e2 : c1 = (pCaps (pName R).2.2).length + c' := (congrArg (fun q => q.2.1) e').symm
            have e3 : s1 = (pName R).2.1 + s' := (congrArg (fun q => q.2.2) e').symm
            obtain ⟨u1, u2, u3, u4⟩ := ho ps' c' s' rfl
            subst e1
            subst e2
            subst e3
            refine ⟨by rw [u1]; congr 1; simp; omega, by rw [u2]; congr 1; omega, by rw [u3]; congr 1; omega, fun t x ht => ?_⟩
            cases t with
            | zero =>
              have hx : ((pName R).1, clsF 0 (pCaps (pName R).2.2), d) = x := by simpa using ht
              rw [← hx]
              show M'.1 (q0 + 1) n = _ ∧ M'.1 (q0 + 2) n = _ ∧ M'.1 (q0 + 3) n = _
              rw [hk' _ (Or.inl rfl), hk' _ (Or.inr (Or.inl rfl)), hk' _ (Or.inr (Or.inr rfl))]
              exact ⟨w1, w2, w3⟩
            | succ t =>
              have := u4 t x (by simpa using ht)
              rw [show n + 1 + t = n + (t + 1) by omega] at this
              exact this
        by_cases g2 : h0 = 62
        · rw [if_pos g2]
          unfold rs_L rs_M
          rw [if_neg (show ¬ (1 : Int32) = 0 by decide), if_neg (show ¬ (1 : Int32) = 0 by decide), b2', show (h0 :: T).length = T.length + 1 from rfl, g_inc, show L.length - (T.length + 1) + 1 = L.length - T.length by omega, q_ltE]
          rw [show L.length - (T.length + 1) + 1 = L.length - T.length by omega] at z3
          obtain ⟨M25, y1, y2, y3, y4⟩ := t_skip hl hL (show q0 ≠ 291 by omega) (M := qsI M16 q0 8 (nI (L.length - T.length))) (k := L.length - T.length) (fun j x hj => by rw [g_In (by omega)]; exact hX16 j x hj) (g_Ie ⟨rfl, rfl⟩) (by omega)
          rw [z3] at y2
          have hTs := skB_le T
          have hd25 : L.drop (L.length - (skB T).length) = skB T := by
            obtain ⟨B2, e1, _, _⟩ := skB_s T
            exact drop_suf (B := B2) (k := L.length - T.length) (by rw [z3]; exact e1) (by omega)
          have k25 : ∀ p j, ¬ (p = q0 ∧ j = 8) → M25.1 p j = M16.1 p j := fun p j h => by rw [y3 p j h, g_In h]
          rw [y1, q_cvE]
          unfold rs_N
          rw [k25 _ _ (by omega), s5, g_inc, q_ltE]
          have k26 : ∀ p j, ¬ (p = q0 ∧ j = 5) → (qsI M25 q0 5 (nI (n + 1))).1 p j = M25.1 p j := fun p j h => g_In h
          obtain ⟨M', x1, x2, x3, x4⟩ := ih (n + 1) (qsI M25 q0 5 (nI (n + 1))) true (L.length - (skB T).length) (cp + (pCaps (pName R).2.2).length) (sm + (pName R).2.1) f (skB T) (by omega) (fun j x hj => by rw [k26 _ _ (by omega), k25 _ _ (by omega)]; exact hX16 j x hj) hd25 (by rw [k26 _ _ (by omega)]; exact y2) (g_Ie ⟨rfl, rfl⟩) (by rw [k26 _ _ (by omega), k25 _ _ (by omega)]; exact s6) (by rw [k26 _ _ (by omega), k25 _ _ (by omega)]; exact s7) (by omega) (by omega) hsmB (by omega)
          rw [if_pos (by rw [g2]; rfl)]
          refine ⟨M', ?_, join M' _ x2 fun p hp => ?_, fun p j q1 q2 => ?_, ?_⟩
          · have x1' : f_Rule_readSelector_28 q0 (nI L.length) f (fun (M32 : qM) => some (0, M32)) 1 (qsI M25 q0 5 (nI (n + 1))) = some (b2 (selP m true (skB T)).isSome, M') := x1
            rw [x1']
            show _ = some (b2 ((selP m true (skB T)).map _).isSome, M')
            rw [Option.isSome_map]
          · rw [x3 _ _ (by omega) (by omega), k26 _ _ (by omega), k25 _ _ (by omega)]
          · rw [x3 p j (by omega) (by omega), k26 _ _ (by omega), k25 _ _ (by omega), f16 p j (by omega) (by omega)]
          · rw [x4]
            show M25.2 = _
            rw [y4]
            exact m16
        · rw [if_neg g2]
          unfold rs_L rs_M
          rw [if_pos rfl, b2', a2, show (h0 :: T).length = T.length + 1 from rfl, i_eq (by omega) (by omega), if_neg (show ¬ (h0 :: T).head? = some 62 by simpa using g2)]
          by_cases g3 : T.length + 1 = P.length
          · rw [if_pos (by omega), if_pos g3]
            refine ⟨M16, rfl, fun ps c1 s1 e => (by cases e), fun p j q1 q2 => f16 p j (by omega) (by omega), m16⟩
          · rw [if_neg (by omega), if_neg g3, if_pos rfl]
            unfold rs_N
            rw [s5, g_inc, q_ltE]
            have k26 : ∀ p j, ¬ (p = q0 ∧ j = 5) → (qsI M16 q0 5 (nI (n + 1))).1 p j = M16.1 p j := fun p j h => g_In h
            obtain ⟨M', x1, x2, x3, x4⟩ := ih (n + 1) (qsI M16 q0 5 (nI (n + 1))) false (L.length - (T.length + 1)) (cp + (pCaps (pName R).2.2).length) (sm + (pName R).2.1) f (h0 :: T) (by omega) (fun j x hj => by rw [k26 _ _ (by omega)]; exact hX16 j x hj) (by rw [← hsd]; rfl) (by rw [k26 _ _ (by omega), b2']; rfl) (g_Ie ⟨rfl, rfl⟩) (by rw [k26 _ _ (by omega)]; exact s6) (by rw [k26 _ _ (by omega)]; exact s7) (by omega) (by omega) hsmB (by omega)
            refine ⟨M', ?_, join M' _ x2 fun p hp => ?_, fun p j q1 q2 => ?_, ?_⟩
            · have x1' : f_Rule_readSelector_28 q0 (nI L.length) f (fun (M32 : qM) => some (0, M32)) 0 (qsI M16 q0 5 (nI (n + 1))) = some (b2 (selP m false (h0 :: T)).isSome, M') := x1
              rw [x1']
              show _ = some (b2 ((selP m false (h0 :: T)).map _).isSome, M')
              rw [Option.isSome_map]
            · rw [x3 _ _ (by omega) (by omega), k26 _ _ (by omega)]
            · rw [x3 p j (by omega) (by omega), k26 _ _ (by omega), f16 p j (by omega) (by omega)]
            · rw [x4]
              exact m16
