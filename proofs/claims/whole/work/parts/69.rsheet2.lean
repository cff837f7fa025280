/-! the loop over the rules -/
def rRu (M : qM) (T : List Nat) (i : Nat) (r : selT × List Nat) : Prop := (M.1 16 i = nI r.1.1.length ∧ M.1 17 i = nI r.1.2.1 ∧ M.1 18 i = nI r.1.2.2 ∧ rSel M i 0 r.1.1) ∧ ∃ a B rest, M.1 19 i = nI a ∧ M.1 20 i = nI (a + B.length) ∧ T.drop a = B ++ 125 :: rest ∧ r.2 = nbl B
def rRs (M : qM) (T : List Nat) (rs : List (selT × List Nat)) : Prop := (M.1 0 22 = nI rs.length ∧ rs.length ≤ 12) ∧ ∀ i r, rs[i]? = some r → rRu M T i r ∧ r.1.1.length ≤ 4
theorem rRu_cg {M M' : qM} {T : List Nat} {i : Nat} {r : selT × List Nat} (h : rRu M T i r) (h4 : r.1.1.length ≤ 4) (k1 : ∀ p, 16 ≤ p → p ≤ 20 → M'.1 p i = M.1 p i) (k2 : ∀ p j, (p = 13 ∨ p = 14 ∨ p = 15) → 4 * i ≤ j → j < 4 * i + 4 → M'.1 p j = M.1 p j) : rRu M' T i r := by
  obtain ⟨⟨h1, h2, h3, hS⟩, a, B, rest, b1, b2', b3, b4⟩ := h
  refine ⟨⟨by rw [k1 16 (by omega) (by omega)]; exact h1, by rw [k1 17 (by omega) (by omega)]; exact h2, by rw [k1 18 (by omega) (by omega)]; exact h3, fun t x ht => ?_⟩, a, B, rest, by rw [k1 19 (by omega) (by omega)]; exact b1, by rw [k1 20 (by omega) (by omega)]; exact b2', b3, b4⟩
  have htl := (List.getElem?_eq_some_iff.mp ht).1
  rw [k2 _ _ (Or.inl rfl) (by omega) (by omega), k2 _ _ (Or.inr (Or.inl rfl)) (by omega) (by omega), k2 _ _ (Or.inr (Or.inr rfl)) (by omega) (by omega)]
  exact hS t x ht
def s7_J (n : Nat) (K4 : qM → Option qM) (x8 : Int32) (M9 : qM) : Option qM := if 0 ≤ x8 then (f_Md_readSheet_7 n K4 (x8 + 1) M9) else (f_Md_readSheet_7 n K4 (-1) M9)
def s7_A (n : Nat) (K4 : qM → Option qM) (x7 x8 : Int32) (M14 : qM) : Option qM := q_ix (M14.1 0 22) 12 <| q_lt (qsI M14 19 (M14.1 0 22).toNatClampNeg (x7 + 1)) fun M17 => q_ix (M17.1 0 22) 12 <| q_lt (qsI M17 20 (M17.1 0 22).toNatClampNeg x8) fun M19 => q_lt (qsI M19 0 22 ((M19.1 0 22) + 1)) fun M20 => s7_J n K4 x8 M20
def s7_I (n : Nat) (K4 : qM → Option qM) (x2 : Int32) (M3 : qM) (x7 x8 : Int32) : Option qM := if x8 < 0 then (s7_J n K4 x8 M3) else (q_cl (f_Md_selector x2 x7 M3) fun x13 M14 => if x13 = 0 then (s7_J n K4 x8 M14) else (s7_A n K4 x7 x8 M14))
theorem s7_eq (n : Nat) (K4 : qM → Option qM) (x2 : Int32) (M3 : qM) : f_Md_readSheet_7 (n + 1) K4 x2 M3 = if x2 < 0 then (K4 M3) else (if 12 ≤ (M3.1 0 22) then (K4 M3) else (q_bp (f_Md_nextSign x2 123 M3) fun x7 => if 0 ≤ x7 then (q_bp (f_Md_nextSign x7 125 M3) fun x23 => s7_I n K4 x2 M3 x7 x23) else (s7_I n K4 x2 M3 x7 (-1)))) := by
  rw [f_Md_readSheet_7]
  rfl
theorem s7_end (n : Nat) (K4 : qM → Option qM) (M : qM) : f_Md_readSheet_7 (n + 1) K4 (-1) M = K4 M := by
  rw [s7_eq, if_pos (by decide)]
theorem nbl_n {L : List Nat} (h : 125 ∉ L) {rs : List (selT × List Nat)} {pd : Option selT} {hd : List Nat} : (zF (rs, true, pd, hd) L).1 = rs := by
  rw [zF_body L rs pd hd h]
theorem r_sh7 {T : List Nat} (hl : T.length ≤ 120) (hL : ∀ c ∈ T, c < 127) : ∀ (m k : Nat) (M : qM) (rs : List (selT × List Nat)) (pd : Option selT) (f : Nat) (K : qM → Option qM), rY M T → rRs M T rs → k ≤ T.length → T.length - k < m → m < f → ∃ M', f_Md_readSheet_7 f K (nI k) M = K M' ∧ rRs M' T (zF (rs, false, pd, []) (T.drop k)).1 ∧ ∀ p j, ¬ (p = 0 ∧ j = 22) → (p < 13 ∨ 20 < p) → M'.1 p j = M.1 p j := by
  intro m
  induction m with
  | zero => intro k M rs pd f K _ _ _ h; omega
  | succ m ih =>
    intro k M rs pd f K hY hR hk hm hf
    obtain ⟨f, rfl⟩ : ∃ g, f = g + 1 := ⟨f - 1, by omega⟩
    obtain ⟨⟨h22, h12⟩, hRs⟩ := hR
    rw [s7_eq, i_n0 (by omega), h22, show (12 : Int32) = nI 12 from rfl, i_le (by omega) (by omega)]
    by_cases hf12 : 12 ≤ rs.length
    · rw [if_pos hf12]
      refine ⟨M, rfl, ?_, fun _ _ _ _ => rfl⟩
      rw [zF_full _ rs false pd [] hf12 (fun h => (by cases h))]
      exact ⟨⟨h22, h12⟩, hRs⟩
    · rw [if_neg hf12, show (123 : Int32) = nI 123 from rfl, r_nxt hl hL hY (by omega) hk, q_bpE]
      obtain ⟨f, rfl⟩ : ∃ g, f = g + 1 := ⟨f - 1, by omega⟩
      cases hn : nxt 123 (T.drop k) with
      | none =>
        have hS := nxt_n hn
        show ∃ M', (if (0 : Int32) ≤ -1 then _ else s7_I (f + 1) K (nI k) M (-1) (-1)) = K M' ∧ _
        rw [if_neg (show ¬ (0 : Int32) ≤ -1 by decide)]
        unfold s7_I s7_J
        rw [if_pos (show (-1 : Int32) < 0 by decide), if_neg (show ¬ (0 : Int32) ≤ -1 by decide), s7_end]
        refine ⟨M, rfl, ?_, fun _ _ _ _ => rfl⟩
        rw [zF_open _ rs pd [] hS]
        exact ⟨⟨h22, h12⟩, hRs⟩
      | some q =>
        obtain ⟨S, T1⟩ := q
        obtain ⟨e1, e2⟩ := nxt_s hn
        have hlen : T.length - k = S.length + (T1.length + 1) := by
          have := congrArg List.length e1
          rw [List.length_drop, List.length_append, List.length_cons] at this
          exact this
        have hd1 : T.drop (k + S.length) = 123 :: T1 := by
          rw [← List.drop_drop, e1, List.drop_left]
        show ∃ M', (if (0 : Int32) ≤ nI (k + S.length) then (q_bp (f_Md_nextSign (nI (k + S.length)) 125 M) fun x23 => s7_I (f + 1) K (nI k) M (nI (k + S.length)) x23) else s7_I (f + 1) K (nI k) M (nI (k + S.length)) (-1)) = K M' ∧ _
        rw [i_p0 (by omega), show (125 : Int32) = nI 125 from rfl, r_nxt hl hL hY (by omega) (by omega), q_bpE, hd1]
        have en : nxt 125 (123 :: T1) = (nxt 125 T1).map fun q => (123 :: q.1, q.2) := by
          rw [nxt, if_neg (by omega)]
        rw [en]
        cases hn2 : nxt 125 T1 with
        | none =>
          have hB := nxt_n hn2
          show ∃ M', s7_I (f + 1) K (nI k) M (nI (k + S.length)) (-1) = K M' ∧ _
          unfold s7_I s7_J
          rw [if_pos (show (-1 : Int32) < 0 by decide), if_neg (show ¬ (0 : Int32) ≤ -1 by decide), s7_end]
          refine ⟨M, rfl, ?_, fun _ _ _ _ => rfl⟩
          have ez : (zF (rs, false, pd, []) (T.drop k)).1 = rs := by
            rw [e1, zF_app, zF_open S rs pd [] e2, zF_c]
            have e : z_type (rs, false, pd, [] ++ S) 123 = (rs, true, (if rs.length < 12 then selF ([] ++ S) else none), []) := by
              unfold z_type
              rw [if_pos rfl, if_pos rfl]
            rw [e]
            exact nbl_n hB
          rw [ez]
          exact ⟨⟨h22, h12⟩, hRs⟩
        | some q2 =>
          obtain ⟨B, T2⟩ := q2
          obtain ⟨g1, g2⟩ := nxt_s hn2
          have hlen2 : T1.length = B.length + (T2.length + 1) := by
            have := congrArg List.length g1
            rw [List.length_append, List.length_cons] at this
            exact this
          have eb : k + S.length + (123 :: B).length = k + S.length + 1 + B.length := by simp; omega
          show ∃ M', s7_I (f + 1) K (nI k) M (nI (k + S.length)) (nI (k + S.length + (123 :: B).length)) = K M' ∧ _
          rw [eb]
          have hd2 : T.drop (k + S.length + 1) = B ++ 125 :: T2 := by
            rw [← List.drop_drop, hd1, ← g1]
            rfl
          have hd3 : T.drop (k + S.length + 1 + B.length + 1) = T2 := by
            rw [← List.drop_drop, ← List.drop_drop (i := B.length), hd2, List.drop_left]
            rfl
          have ez : zF (rs, false, pd, []) (T.drop k) = zF (z_end (selF S) rs (nbl B), false, selF S, []) T2 := by
            rw [e1, g1]
            exact zF_rule e2 g2 (by omega)
          rw [ez]
          -- the selector
          have hT'l : (T.take (k + S.length)).length = k + S.length := by
            rw [List.length_take]
            omega
          have hT'd : (T.take (k + S.length)).drop k = S := by
            rw [List.drop_take, e1]
            have : k + S.length - k = S.length := by omega
            rw [this, List.take_left]
          have hY' : yX M (T.take (k + S.length)) := fun j x hj => by
            rw [List.getElem?_take] at hj
            split at hj
            · exact hY.2 j x hj
            · cases hj
          obtain ⟨M1, a1, a2, a3⟩ := r_sel (T := T.take (k + S.length)) (by omega) (fun c hc => hL c (List.mem_of_mem_take hc)) h22 (by omega) hY' (k := k) (by omega)
          rw [hT'l, hT'd] at a1
          rw [hT'd] at a2
          have hY1 : ∀ (M2 : qM), (∀ p j, ¬ (p = 0 ∧ j = 22) → (p < 13 ∨ 20 < p) → M2.1 p j = M.1 p j) → rY M2 T := fun M2 hk2 => ⟨by rw [hk2 _ _ (by omega) (by omega)]; exact hY.1, fun j x hj => by rw [hk2 _ _ (by omega) (by omega)]; exact hY.2 j x hj⟩
          have kR1 : ∀ i r, rs[i]? = some r → rRu M1 T i r ∧ r.1.1.length ≤ 4 := fun i r hi => by
            have hil := (List.getElem?_eq_some_iff.mp hi).1
            refine ⟨rRu_cg (hRs i r hi).1 (hRs i r hi).2 (fun p q1 q2 => a3 p i (by omega) (by omega)) (fun p j hp q1 q2 => a3 p j (by omega) (by omega)), (hRs i r hi).2⟩
          unfold s7_I
          rw [i_n0 (by omega), a1, q_clE, i_b2]
          have h221 : M1.1 0 22 = nI rs.length := by rw [a3 _ _ (by omega) (by omega)]; exact h22
          cases hs : selF S with
          | none =>
            rw [if_pos (show (none : Option selT).isSome = false from rfl)]
            unfold s7_J
            rw [i_p0 (by omega), g_inc]
            obtain ⟨M', x1, x2, x3⟩ := ih (k + S.length + 1 + B.length + 1) M1 rs none (f + 1) K (hY1 M1 fun p j q1 q2 => a3 p j (by omega) (by omega)) ⟨⟨h221, h12⟩, kR1⟩ (by omega) (by omega) (by omega)
            rw [hd3] at x2
            exact ⟨M', x1, x2, fun p j q1 q2 => by rw [x3 p j q1 q2, a3 p j (by omega) (by omega)]⟩
          | some s =>
            rw [if_neg (show ¬ (some s).isSome = false by simp)]
            unfold s7_A s7_J
            rw [h221, g_ix (by omega) (by omega), g_cl (by omega), q_ltE, g_In (by omega), h221, g_ix (by omega) (by omega), g_cl (by omega), q_ltE, g_In (by omega), g_In (by omega), h221, g_inc, g_inc, q_ltE, i_p0 (by omega), g_inc]
            have k3 : ∀ p j, ¬ (p = 0 ∧ j = 22) → ¬ ((p = 19 ∨ p = 20) ∧ j = rs.length) → (qsI (qsI (qsI M1 19 rs.length (nI (k + S.length + 1))) 20 rs.length (nI (k + S.length + 1 + B.length))) 0 22 (nI (rs.length + 1))).1 p j = M1.1 p j := fun p j q1 q2 => by rw [g_In (by omega), g_In (by omega), g_In (by omega)]
            have hR3 : rRs (qsI (qsI (qsI M1 19 rs.length (nI (k + S.length + 1))) 20 rs.length (nI (k + S.length + 1 + B.length))) 0 22 (nI (rs.length + 1))) T (rs ++ [(s, nbl B)]) := by
              refine ⟨⟨by rw [g_Ie ⟨rfl, rfl⟩]; simp, by simp; omega⟩, fun i r hi => ?_⟩
              rw [List.getElem?_append] at hi
              split at hi
              · rename_i hlt
                exact ⟨rRu_cg (kR1 i r hi).1 (kR1 i r hi).2 (fun p q1 q2 => k3 p i (by omega) (by omega)) (fun p j hp q1 q2 => k3 p j (by omega) (by omega)), (kR1 i r hi).2⟩
              · rename_i hge
                have hz : i - rs.length = 0 := by
                  have := (List.getElem?_eq_some_iff.mp hi).1
                  simp at this
                  omega
                rw [hz] at hi
                have hr : (s, nbl B) = r := by simpa using hi
                have hi2 : i = rs.length := by omega
                rw [← hr, hi2]
                obtain ⟨ps, c1, s1⟩ := s
                obtain ⟨y1, y2, y3, y4⟩ := a2 ps c1 s1 hs
                have hps : ps.length ≤ 4 := selP_len hs
                refine ⟨⟨⟨by rw [k3 _ _ (by omega) (by omega)]; exact y1, by rw [k3 _ _ (by omega) (by omega)]; exact y2, by rw [k3 _ _ (by omega) (by omega)]; exact y3, fun t x ht => ?_⟩, k + S.length + 1, B, T2, by rw [g_In (by omega), g_In (by omega), g_Ie ⟨rfl, rfl⟩], by rw [g_In (by omega), g_Ie ⟨rfl, rfl⟩], hd2, rfl⟩, hps⟩
                rw [k3 _ _ (by omega) (by omega), k3 _ _ (by omega) (by omega), k3 _ _ (by omega) (by omega)]
                exact y4 t x ht
            obtain ⟨M', x1, x2, x3⟩ := ih (k + S.length + 1 + B.length + 1) _ (rs ++ [(s, nbl B)]) (some s) (f + 1) K (hY1 _ fun p j q1 q2 => by rw [k3 p j q1 (by omega), a3 p j (by omega) (by omega)]) hR3 (by omega) (by omega) (by omega)
            rw [hd3] at x2
            exact ⟨M', x1, x2, fun p j q1 q2 => by rw [x3 p j q1 q2, k3 p j q1 (by omega), a3 p j (by omega) (by omega)]⟩
/-- the sheet read -/
theorem r_sheet {T : List Nat} (hl : T.length ≤ 120) (hL : ∀ c ∈ T, c < 127) {M : qM} (hY : rY M T) : ∃ M', f_Md_readSheet M = some M' ∧ rRs M' T (zF z00 T).1 ∧ ∀ p j, ¬ (p = 0 ∧ j = 22) → (p < 13 ∨ 20 < p) → M'.1 p j = M.1 p j := by
  obtain ⟨M', x1, x2, x3⟩ := r_sh7 hl hL (T.length + 1) 0 (qsI M 0 22 0) [] none 1000 (fun (M24 : qM) => some M24) ⟨by rw [g_In (by omega)]; exact hY.1, fun j x hj => by rw [g_In (by omega)]; exact hY.2 j x hj⟩ ⟨⟨g_Ie ⟨rfl, rfl⟩, Nat.zero_le _⟩, fun i r hi => by simp at hi⟩ (Nat.zero_le _) (by omega) (by omega)
  rw [List.drop_zero] at x2
  refine ⟨M', ?_, x2, fun p j q1 q2 => by rw [x3 p j q1 q2, g_In q1]⟩
  unfold f_Md_readSheet
  rw [q_ltE]
  exact x1
/-- the sheet's part of the relation -/
def SI (Mx Mm : qM) (T : List Nat) : Prop := (T.length ≤ 120 ∧ ∀ c ∈ T, 32 ≤ c ∧ c < 127) ∧ rY Mm T ∧ Mx.1 0 5 = nI T.length ∧ cZ Mx (zF z00 T) ∧ wZ (zF z00 T)
