/-! a selector, on the reference's side -/
def yX (M : qM) (T : List Nat) : Prop := ∀ k c, T[k]? = some c → M.1 2 k = nI c
theorem r_bl2 {M : qM} {T : List Nat} (hl : T.length ≤ 120) (hL : ∀ c ∈ T, c < 127) (hM : yX M T) : ∀ (R : List Nat) (k f : Nat), T.drop k = R → k ≤ T.length → R.length < f → f_Md_blanks_2 (nI T.length) M f (fun (x6 : Int32) => some x6) (nI k) = some (nI (T.length - (skB R).length)) := by
  intro R
  induction R with
  | nil =>
    intro k f hR hk hf
    obtain ⟨f, rfl⟩ : ∃ g, f = g + 1 := ⟨f - 1, by simp at hf; omega⟩
    have hk2 : T.length ≤ k := List.drop_eq_nil_iff.mp hR
    rw [f_Md_blanks_2, i_le (by omega) (by omega), if_pos hk2, show k = T.length by omega]
    rfl
  | cons c R ih =>
    intro k f hR hk hf
    obtain ⟨f, rfl⟩ : ∃ g, f = g + 1 := ⟨f - 1, by simp at hf; omega⟩
    obtain ⟨h1, h2, h3⟩ := hX_d hR
    have hcb := hL c (List.mem_of_getElem? h2)
    have hlen : T.length - k = R.length + 1 := by
      have := congrArg List.length hR
      rw [List.length_drop] at this
      simpa using this
    rw [f_Md_blanks_2, i_le (by omega) (by omega), if_neg (by omega), g_ix (by omega) (by omega), g_cl (by omega), hM k c h2, show (32 : Int32) = nI 32 from rfl, i_eq (by omega) (by omega)]
    by_cases q : c = 32
    · have hs : skB (c :: R) = skB R := by
        unfold skB
        rw [List.dropWhile_cons, if_pos (by simp [q])]
      rw [if_pos q, g_inc, hs]
      exact ih (k + 1) f h3 (by omega) (by simp at hf; omega)
    · have hs : skB (c :: R) = c :: R := by
        unfold skB
        rw [List.dropWhile_cons, if_neg (by simp [q])]
      rw [if_neg q, hs]
      show some (nI k) = some (nI (T.length - (R.length + 1)))
      rw [show T.length - (R.length + 1) = k by omega]
theorem r_bl {M : qM} {T : List Nat} (hl : T.length ≤ 120) (hL : ∀ c ∈ T, c < 127) (hM : yX M T) {k : Nat} (hk : k ≤ T.length) : f_Md_blanks (nI k) (nI T.length) M = some (nI (T.length - (skB (T.drop k)).length)) :=
  r_bl2 hl hL hM (T.drop k) k 1000 rfl hk (by rw [List.length_drop]; omega)
theorem g_4n (a b : Nat) : 4 * nI a + nI b = nI (4 * a + b) := by
  rw [show (4 : Int32) = nI 4 from rfl, g_mul, g_add]
/-- capitals read -/
theorem r_caps {T : List Nat} (hl : T.length ≤ 120) (hL : ∀ c ∈ T, c < 127) {M0 : qM} {rc n : Nat} (hrc : M0.1 0 22 = nI rc) (hr12 : rc < 12) (hn : n < 4) : ∀ (R : List Nat) (M : qM) (k cp f : Nat) (a : Int32) (K : Int32 → qM → Option (Int32 × qM)), yX M T → T.drop k = R → M.1 17 rc = nI cp → M.1 14 (4 * rc + n) = a → k ≤ T.length → R.length < f → ∃ M', f_Md_selector_184 (nI T.length) M0 (nI n) f K (nI k) M = K (nI (T.length - (pRest R).length)) M' ∧ M'.1 17 rc = nI (cp + (pCaps R).length) ∧ M'.1 14 (4 * rc + n) = clsF a (pCaps R) ∧ (∀ p j, ¬ (p = 17 ∧ j = rc) → ¬ (p = 14 ∧ j = 4 * rc + n) → M'.1 p j = M.1 p j) := by
  intro R
  induction R with
  | nil =>
    intro M k cp f a K hM hR h17 ha hk hf
    obtain ⟨f, rfl⟩ : ∃ g, f = g + 1 := ⟨f - 1, by simp at hf; omega⟩
    have hk2 : T.length ≤ k := List.drop_eq_nil_iff.mp hR
    refine ⟨M, ?_, h17, ha, fun _ _ _ _ => rfl⟩
    rw [f_Md_selector_184, i_le (by omega) (by omega), if_pos hk2, show k = T.length by omega]
    rfl
  | cons c R ih =>
    intro M k cp f a K hM hR h17 ha hk hf
    obtain ⟨f, rfl⟩ : ∃ g, f = g + 1 := ⟨f - 1, by simp at hf; omega⟩
    obtain ⟨h1, h2, h3⟩ := hX_d hR
    have hcb := hL c (List.mem_of_getElem? h2)
    have hlen : T.length - k = R.length + 1 := by
      have := congrArg List.length hR
      rw [List.length_drop] at this
      simpa using this
    rw [f_Md_selector_184, i_le (by omega) (by omega), if_neg (by omega), g_ix (by omega) (by omega), g_cl (by omega), hM k c h2, r_cap M hcb, q_bpE, i_b2]
    by_cases q : cap c = true
    · have hp : pCaps (c :: R) = c :: pCaps R := by
        unfold pCaps
        rw [List.takeWhile_cons, if_pos q]
      have hr : pRest (c :: R) = pRest R := by
        unfold pRest
        rw [List.dropWhile_cons, if_pos q]
      rw [if_neg (by simp [q]), hrc, g_4n, g_ix (by omega) (by omega), g_ix (by omega) (by omega), g_ix (by omega) (by omega), g_cl (by omega), ha, q_ltE, g_ix (by omega) (by omega), g_ix (by omega) (by omega), g_cl (by omega), g_In (by omega), h17, g_inc, q_ltE, g_inc]
      obtain ⟨M', e1, e2, e3, e4⟩ := ih (qsI (qsI M 14 (4 * rc + n) (a ||| (1 <<< ((nI c - 65) &&& 31)))) 17 rc (nI (cp + 1))) (k + 1) (cp + 1) f (a ||| (1 <<< ((nI c - 65) &&& 31))) K (fun j x hj => by rw [g_In (by omega), g_In (by omega)]; exact hM j x hj) h3 (g_Ie ⟨rfl, rfl⟩) (by rw [g_In (by omega), g_Ie ⟨rfl, rfl⟩]) (by omega) (by simp at hf; omega)
      refine ⟨M', ?_, ?_, ?_, fun p j g1 g2 => ?_⟩
      · rw [hr]; exact e1
      · rw [hp, e2]
        congr 1
        simp
        omega
      · rw [hp, clsF_c a c _ q]
        exact e3
      · rw [e4 p j g1 g2, g_In (by omega), g_In (by omega)]
    · have hp : pCaps (c :: R) = [] := by
        unfold pCaps
        rw [List.takeWhile_cons, if_neg q]
      have hr : pRest (c :: R) = c :: R := by
        unfold pRest
        rw [List.dropWhile_cons, if_neg q]
      rw [if_pos (by simpa using q), hp, hr]
      refine ⟨M, ?_, h17, ha, fun _ _ _ _ => rfl⟩
      show K (nI k) M = K (nI (T.length - (R.length + 1))) M
      rw [show T.length - (R.length + 1) = k by omega]
def sl_G (M : qM) (a2 : Int32) (n : Nat) (x6 x44 x41 : Int32) (M40 : qM) : Option (Int32 × qM) := if x44 = 0 then (f_Md_selector_33 M a2 n (fun (M76 : qM) => some (0, M76)) (x6 + 1) x44 x41 M40) else (q_bp (f_Md_blanks (x41 + 1) a2 M40) fun x46 => f_Md_selector_33 M a2 n (fun (M76 : qM) => some (0, M76)) (x6 + 1) x44 x46 M40)
def sl_E (M : qM) (a2 : Int32) (n : Nat) (x6 x36 x41 : Int32) (M40 : qM) (x44 : Int32) : Option (Int32 × qM) := if x44 = 0 then (if x41 = x36 then (some (0, M40)) else (sl_G M a2 n x6 x44 x41 M40)) else (sl_G M a2 n x6 x44 x41 M40)
def sl_K (M : qM) (a2 : Int32) (n : Nat) (x6 x8 : Int32) : Int32 → qM → Option (Int32 × qM) := fun x36 M37 => if x36 = x8 then (some (0, M37)) else (q_ix (M.1 0 22) 12 <| q_lt (qsI M37 16 (M.1 0 22).toNatClampNeg (x6 + 1)) fun M40 => q_bp (f_Md_blanks x36 a2 M40) fun x41 => if x41 = a2 then (some (1, M40)) else (q_ix x41 120 <| if (M40.1 2 x41.toNatClampNeg) = 62 then (sl_E M a2 n x6 x36 x41 M40 1) else (sl_E M a2 n x6 x36 x41 M40 0)))
def sl_J (M : qM) (a2 : Int32) (n : Nat) (x6 x8 : Int32) : Int32 → qM → Option (Int32 × qM) := fun x20 M21 => f_Md_selector_184 a2 M x6 1000 (sl_K M a2 n x6 x8) x20 M21
def sl_O (M : qM) (a2 : Int32) (n : Nat) (x6 x8 : Int32) (M60 : qM) (x64 : Int32) : Option (Int32 × qM) := q_ix (M.1 0 22) 12 <| q_lt (qsI M60 18 (M.1 0 22).toNatClampNeg ((M60.1 18 (M.1 0 22).toNatClampNeg) + x64)) fun M66 => sl_J M a2 n x6 x8 (x8 + 1) M66
def sl_N (M : qM) (a2 : Int32) (n : Nat) (x6 x8 : Int32) (M19 : qM) (x58 : Int32) : Option (Int32 × qM) := q_ix ((4 * (M.1 0 22)) + x6) 48 <| q_lt (qsI M19 13 ((4 * (M.1 0 22)) + x6).toNatClampNeg x58) fun M60 => q_ix (M.1 0 22) 12 <| q_ix x8 120 <| q_bp (f_Md_small (M60.1 2 x8.toNatClampNeg) M60) fun x63 => if x63 = 0 then (sl_O M a2 n x6 x8 M60 0) else (sl_O M a2 n x6 x8 M60 1)
def sl_S (M : qM) (a2 : Int32) (n : Nat) (x6 x8 : Int32) (M19 : qM) : Option (Int32 × qM) := q_ix x8 120 <| q_bp (f_Md_small (M19.1 2 x8.toNatClampNeg) M19) fun x57 => if x57 = 0 then (sl_N M a2 n x6 x8 M19 0) else (q_ix x8 120 <| sl_N M a2 n x6 x8 M19 (M19.1 2 x8.toNatClampNeg))
theorem sl_eq (M : qM) (a2 : Int32) (n : Nat) (x6 x7 x8 : Int32) (M9 : qM) : f_Md_selector_33 M a2 (n + 1) (fun (M76 : qM) => some (0, M76)) x6 x7 x8 M9 = if 5 ≤ x6 then (some (0, M9)) else (if x6 = 4 then (some (0, M9)) else (q_ix ((4 * (M.1 0 22)) + x6) 48 <| q_lt (qsI M9 13 ((4 * (M.1 0 22)) + x6).toNatClampNeg 0) fun M14 => q_ix ((4 * (M.1 0 22)) + x6) 48 <| q_lt (qsI M14 14 ((4 * (M.1 0 22)) + x6).toNatClampNeg 0) fun M16 => q_ix ((4 * (M.1 0 22)) + x6) 48 <| q_zk x7 <| q_lt (qsI M16 15 ((4 * (M.1 0 22)) + x6).toNatClampNeg x7) fun M19 => if a2 ≤ x8 then (sl_J M a2 n x6 x8 x8 M19) else (q_ix x8 120 <| q_bp (f_Md_small (M19.1 2 x8.toNatClampNeg) M19) fun x55 => if x55 = 0 then (q_ix x8 120 <| if (M19.1 2 x8.toNatClampNeg) = 42 then (sl_S M a2 n x6 x8 M19) else (sl_J M a2 n x6 x8 x8 M19)) else (sl_S M a2 n x6 x8 M19)))) := by
  rw [f_Md_selector_33]
  rfl
/-- what a right selector leaves in the reference's rows -/
def rSel (M : qM) (rc n : Nat) (ps : List pT) : Prop := ∀ t x, ps[t]? = some x → M.1 13 (4 * rc + n + t) = nI x.1 ∧ M.1 14 (4 * rc + n + t) = x.2.1 ∧ M.1 15 (4 * rc + n + t) = b2 x.2.2
theorem pSuf (R : List Nat) : ∃ B, R = B ++ pRest (pName R).2.2 := by
  obtain ⟨B1, e1⟩ : ∃ B1, R = B1 ++ (pName R).2.2 := by
    cases R with
    | nil => exact ⟨[], rfl⟩
    | cons c R =>
      have e : pName (c :: R) = (if sml c = true then (c, 1, R) else if c = 42 then (0, 0, R) else (0, 0, c :: R)) := rfl
      rw [e]
      by_cases hs : sml c = true
      · rw [if_pos hs]
        exact ⟨[c], rfl⟩
      · rw [if_neg hs]
        by_cases q : c = 42
        · rw [if_pos q]
          exact ⟨[c], rfl⟩
        · rw [if_neg q]
          exact ⟨[], rfl⟩
  refine ⟨B1 ++ pCaps (pName R).2.2, ?_⟩
  rw [List.append_assoc]
  have : pCaps (pName R).2.2 ++ pRest (pName R).2.2 = (pName R).2.2 := List.takeWhile_append_dropWhile
  rw [this]
  exact e1
/-- a part's name read: up to the capitals -/
theorem r_name {T : List Nat} (hl : T.length ≤ 120) (hL : ∀ c ∈ T, c < 127) {M0 : qM} {rc n : Nat} (hrc : M0.1 0 22 = nI rc) (hr12 : rc < 12) (hn : n < 4) {M : qM} {d : Bool} {k sm f : Nat} {R : List Nat} (hM : yX M T) (hR : T.drop k = R) (h18 : M.1 18 rc = nI sm) (hk : k ≤ T.length) : ∃ M' k', f_Md_selector_33 M0 (nI T.length) (f + 1) (fun (M76 : qM) => some (0, M76)) (nI n) (b2 d) (nI k) M = sl_J M0 (nI T.length) f (nI n) (nI k) (nI k') M' ∧ k' ≤ T.length ∧ k ≤ k' ∧ T.drop k' = (pName R).2.2 ∧ M'.1 18 rc = nI (sm + (pName R).2.1) ∧ M'.1 13 (4 * rc + n) = nI (pName R).1 ∧ M'.1 14 (4 * rc + n) = 0 ∧ M'.1 15 (4 * rc + n) = b2 d ∧ (∀ p j, ¬ (p = 18 ∧ j = rc) → ¬ ((p = 13 ∨ p = 14 ∨ p = 15) ∧ j = 4 * rc + n) → M'.1 p j = M.1 p j) := by
  rw [sl_eq, hrc, g_4n, show (5 : Int32) = nI 5 from rfl, show (4 : Int32) = nI 4 from rfl, i_le (by omega) (by omega), if_neg (by omega), i_eq (by omega) (by omega), if_neg (by omega), g_ix (by omega) (by omega), g_cl (by omega), q_ltE, g_ix (by omega) (by omega), q_ltE, g_ix (by omega) (by omega), b2_zk, q_ltE]
  generalize hM19 : qsI (qsI (qsI M 13 (4 * rc + n) 0) 14 (4 * rc + n) 0) 15 (4 * rc + n) (b2 d) = M19
  have k19 : ∀ p j, ¬ ((p = 13 ∨ p = 14 ∨ p = 15) ∧ j = 4 * rc + n) → M19.1 p j = M.1 p j := fun p j h => by rw [← hM19, g_In (by omega), g_In (by omega), g_In (by omega)]
  have w13 : M19.1 13 (4 * rc + n) = nI 0 := by rw [← hM19, g_In (by omega), g_In (by omega), g_Ie ⟨rfl, rfl⟩]; rfl
  have w14 : M19.1 14 (4 * rc + n) = 0 := by rw [← hM19, g_In (by omega), g_Ie ⟨rfl, rfl⟩]
  have w15 : M19.1 15 (4 * rc + n) = b2 d := by rw [← hM19, g_Ie ⟨rfl, rfl⟩]
  have hX19 : yX M19 T := fun j x hj => by rw [k19 _ _ (by omega)]; exact hM j x hj
  have s19 : M19.1 18 rc = nI sm := by rw [k19 _ _ (by omega)]; exact h18
  rw [i_le (by omega) (by omega)]
  cases R with
  | nil =>
    have hk2 : T.length ≤ k := List.drop_eq_nil_iff.mp hR
    rw [if_pos hk2]
    exact ⟨M19, k, rfl, hk, Nat.le_refl k, hR, s19, w13, w14, w15, fun p j g1 g2 => k19 p j g2⟩
  | cons c R =>
    obtain ⟨g1, g2, g3⟩ := hX_d hR
    have hcb := hL c (List.mem_of_getElem? g2)
    have e : pName (c :: R) = (if sml c = true then (c, 1, R) else if c = 42 then (0, 0, R) else (0, 0, c :: R)) := rfl
    rw [if_neg (by omega), g_ix (by omega) (by omega), g_cl (by omega), hX19 k c g2, r_sml M19 hcb, q_bpE, i_b2, e]
    by_cases hs : sml c = true
    · rw [if_neg (by simp [hs]), if_pos hs]
      have hx60 : (qsI M19 13 (4 * rc + n) (nI c)).1 2 k = nI c := by rw [g_In (by omega)]; exact hX19 k c g2
      refine ⟨qsI (qsI M19 13 (4 * rc + n) (nI c)) 18 rc (nI (sm + 1)), k + 1, ?_, by omega, by omega, g3, g_Ie ⟨rfl, rfl⟩, ?_, ?_, ?_, fun p j q1 q2 => ?_⟩
      · unfold sl_S
        rw [g_ix (by omega) (by omega), g_cl (by omega), hX19 k c g2, r_sml M19 hcb, q_bpE, i_b2, if_neg (by simp [hs]), g_ix (by omega) (by omega)]
        unfold sl_N
        rw [hrc, g_4n, g_ix (by omega) (by omega), g_cl (by omega), q_ltE, g_ix (by omega) (by omega), g_ix (by omega) (by omega), g_cl (by omega), hx60, r_sml _ hcb, q_bpE, i_b2, if_neg (by simp [hs])]
        unfold sl_O
        rw [hrc, g_ix (by omega) (by omega), g_cl (by omega), g_In (by omega), s19, g_inc, q_ltE, g_inc]
      · rw [g_In (by omega), g_Ie ⟨rfl, rfl⟩]
      · rw [g_In (by omega), g_In (by omega)]; exact w14
      · rw [g_In (by omega), g_In (by omega)]; exact w15
      · rw [g_In (by omega), g_In (by omega)]; exact k19 p j q2
    · rw [if_pos (by simpa using hs), g_ix (by omega) (by omega), show (42 : Int32) = nI 42 from rfl, i_eq (by omega) (by omega), if_neg hs]
      by_cases q : c = 42
      · rw [if_pos q, if_pos q]
        have hx60 : (qsI M19 13 (4 * rc + n) 0).1 2 k = nI c := by rw [g_In (by omega)]; exact hX19 k c g2
        refine ⟨qsI (qsI M19 13 (4 * rc + n) 0) 18 rc (nI sm), k + 1, ?_, by omega, by omega, g3, g_Ie ⟨rfl, rfl⟩, ?_, ?_, ?_, fun p j q1 q2 => ?_⟩
        · unfold sl_S
          rw [g_ix (by omega) (by omega), g_cl (by omega), hX19 k c g2, r_sml M19 hcb, q_bpE, i_b2, if_pos (by simpa using hs)]
          unfold sl_N
          rw [hrc, g_4n, g_ix (by omega) (by omega), g_cl (by omega), q_ltE, g_ix (by omega) (by omega), g_ix (by omega) (by omega), g_cl (by omega), hx60, r_sml _ hcb, q_bpE, i_b2, if_pos (by simpa using hs)]
          unfold sl_O
          rw [hrc, g_ix (by omega) (by omega), g_cl (by omega), g_In (by omega), s19, Int32.add_zero, q_ltE, g_inc]
        · rw [g_In (by omega), g_Ie ⟨rfl, rfl⟩]
          rfl
        · rw [g_In (by omega), g_In (by omega)]; exact w14
        · rw [g_In (by omega), g_In (by omega)]; exact w15
        · rw [g_In (by omega), g_In (by omega)]; exact k19 p j q2
      · rw [if_neg q, if_neg q]
        exact ⟨M19, k, rfl, hk, Nat.le_refl k, hR, s19, w13, w14, w15, fun p j g1 g2 => k19 p j g2⟩
