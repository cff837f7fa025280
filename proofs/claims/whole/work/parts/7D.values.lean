/-! values on the reference's side -/
theorem rep_fnd {r v : Int32} {b : bT} (h : rep r v b) : (∀ x, fnd b = some x → 0 ≤ r ∧ v = x) ∧ (fnd b = none → ¬ 0 ≤ r) := by
  obtain ⟨P, Q⟩ := b
  obtain ⟨h1, h2, h3⟩ := h
  cases Q with
  | some q =>
    have h3' : r = nI (100000 + q.1) ∧ v = q.2 := h3
    have := h2 q rfl
    refine ⟨fun x hx => ?_, fun hx => (by cases hx)⟩
    have : q.2 = x := Option.some.inj hx
    rw [h3'.1, ← this]
    exact ⟨nI_pos' (by omega), h3'.2⟩
  | none =>
    cases P with
    | some q =>
      have h3' : r = nI q.1 ∧ v = q.2 := h3
      have := h1 q rfl
      refine ⟨fun x hx => ?_, fun hx => (by cases hx)⟩
      have : q.2 = x := Option.some.inj hx
      rw [h3'.1, ← this]
      exact ⟨nI_pos' (by omega), h3'.2⟩
    | none =>
      have h3' : r = -1 := h3
      exact ⟨fun x hx => (by cases hx), fun _ => by rw [h3']; decide⟩
theorem r_init {n : Nat} {I : Nat → Nat} {E : eT} (hW : wE n I E) {M : qM} (hS : eS M n I E) {V : Nat → Nat → Int32} {k p : Nat} (hk : k < n) (hp : p < 7) (hV : 0 < k → M.1 25 (40 * p + (E k).2.2) = V (E k).2.2 p) : f_Md_initial (nI p) (nI k) M = some (dfl E V k p) := by
  have h24 := hW.1.2
  obtain ⟨s1, s2, s3, s4⟩ := hS.2 k hk
  obtain ⟨w1, w2, w3⟩ := hW.2.2.1 k hk
  have e4 : (if nI k = 0 then (some 1) else (q_ix (nI k) 40 <| q_ix ((40 * nI p) + (M.1 22 (nI k).toNatClampNeg)) 280 <| some (M.1 25 ((40 * nI p) + (M.1 22 (nI k).toNatClampNeg)).toNatClampNeg))) = some (if k = 0 then (1 : Int32) else V (E k).2.2 p) := by
    rw [← l_0, i_eq (by omega) (by omega)]
    by_cases h0 : k = 0
    · rw [if_pos h0, if_pos h0]
    · have hpj := (hW.2.2.2.1 k (by omega) hk).1
      have ep : pI E k = nI (E k).2.2 := if_neg h0
      rw [if_neg h0, if_neg h0, g_ix (by omega) (by omega), g_cl (by omega), s4, ep, g_40, g_ix (by omega) (by omega), g_cl (by omega), hV (by omega)]
  have e3 : (if nI k = 0 then (some (98 : Int32)) else (q_ix (nI k) 40 <| q_bp (f_Md_named (M.1 3 (nI k).toNatClampNeg) 1738892 M) fun x11 => if x11 = 0 then (some 105) else (some 98))) = some (if k = 0 then 98 else if inS 8 (E k).1 = true then 98 else 105) := by
    rw [← l_0, i_eq (by omega) (by omega)]
    by_cases h0 : k = 0
    · rw [if_pos h0, if_pos h0]
    · rw [if_neg h0, if_neg h0, g_ix (by omega) (by omega), g_cl (by omega), s1, r_nmd s2 (by omega) w2 w3 bit_8, q_bpE, l_0, i_b2]
      cases inS 8 (E k).1 <;> rfl
  unfold f_Md_initial
  rw [q_ltE, e4, e3]
  rcases p7 hp with rfl | rfl | rfl | rfl | rfl | rfl | rfl <;> rfl
theorem r_174 {n : Nat} {I : Nat → Nat} {E : eT} (hW : wE n I E) {V : Nat → Nat → Int32} {b : Nat → Nat → bT} {k : Nat} (hk : k < n) : ∀ (m p f : Nat) (M : qM) (K : qM → Option qM), p + m = 7 → eS M n I E → (0 < k → ∀ q, q < 7 → M.1 25 (40 * q + (E k).2.2) = V (E k).2.2 q) → (∀ q, p ≤ q → q < 7 → rep (M.1 24 (40 * q + k)) (M.1 25 (40 * q + k)) (b k q)) → m < f → ∃ M', f_Md_style_174 (nI k) f K (nI p) M = K M' ∧ (∀ q, p ≤ q → q < 7 → M'.1 25 (40 * q + k) = (fnd (b k q)).getD (dfl E V k q)) ∧ ∀ P j, ¬ (P = 25 ∧ ∃ q, p ≤ q ∧ q < 7 ∧ j = 40 * q + k) → M'.1 P j = M.1 P j := by
  have h24 := hW.1.2
  intro m
  induction m with
  | zero =>
    intro p f M K hp hS hV hr hf
    obtain ⟨f, rfl⟩ : ∃ g, f = g + 1 := ⟨f - 1, by omega⟩
    refine ⟨M, ?_, fun q h1 h2 => by omega, fun _ _ _ => rfl⟩
    rw [f_Md_style_174, show (7 : Int32) = nI 7 from rfl, i_le (by omega) (by omega), if_pos (by omega)]
  | succ m ih =>
    intro p f M K hp hS hV hr hf
    obtain ⟨f, rfl⟩ : ∃ g, f = g + 1 := ⟨f - 1, by omega⟩
    obtain ⟨a1, a2⟩ := rep_fnd (hr p (Nat.le_refl _) (by omega))
    have n7 : ¬ (7 : Int32) ≤ nI p := by rw [show (7 : Int32) = nI 7 from rfl, g_le (by omega) (by omega)]; omega
    rw [f_Md_style_174, if_neg n7, g_40, g_ix (by omega) (by omega), g_cl (by omega), g_inc]
    have hpk : 0 < k → (E k).2.2 < k := fun h => (hW.2.2.2.1 k h hk).1
    cases hq : fnd (b k p) with
    | some x =>
      obtain ⟨b1, b2'⟩ := a1 x hq
      rw [if_pos b1]
      obtain ⟨M', e1, e2, e3⟩ := ih (p + 1) f M K (by omega) hS hV (fun q h1 h2 => hr q (by omega) h2) (by omega)
      refine ⟨M', e1, fun q h1 h2 => ?_, fun P j h => e3 P j fun ⟨h1, q, h2, h3, h4⟩ => h ⟨h1, q, by omega, h3, h4⟩⟩
      by_cases e : q = p
      · rw [e, hq, e3 _ _ (fun ⟨_, q', h2, h3, h4⟩ => by omega), b2']
        rfl
      · exact e2 q (by omega) h2
    | none =>
      rw [if_neg (a2 hq), r_init hW hS hk (by omega) (fun h0 => hV h0 p (by omega)), q_bpE, g_ix (by omega) (by omega), q_ltE]
      have kk : ∀ P j, ¬ (P = 25 ∧ j = 40 * p + k) → (qsI M 25 (40 * p + k) (dfl E V k p)).1 P j = M.1 P j := fun P j h => g_In h
      obtain ⟨M', e1, e2, e3⟩ := ih (p + 1) f (qsI M 25 (40 * p + k) (dfl E V k p)) K (by omega) (eS_k hS (kk _ _ (by omega)) fun P j h => kk _ _ (by omega)) (fun h0 q hq => by
        have := hpk h0
        rw [kk _ _ (by omega)]
        exact hV h0 q hq) (fun q h1 h2 => by
        rw [kk _ _ (by omega), kk _ _ (by omega)]
        exact hr q (by omega) h2) (by omega)
      refine ⟨M', e1, fun q h1 h2 => ?_, fun P j h => ?_⟩
      · by_cases e : q = p
        · rw [e, hq, e3 _ _ (fun ⟨_, q', h2, h3, h4⟩ => by omega), g_Ie ⟨rfl, rfl⟩]
          rfl
        · exact e2 q (by omega) h2
      · rw [e3 P j fun ⟨h1, q, h2, h3, h4⟩ => h ⟨h1, q, by omega, h3, h4⟩, kk P j fun ⟨h1, h2⟩ => h ⟨h1, p, Nat.le_refl _, by omega, h2⟩]
def v4_J (n : Nat) (K44 : qM → Option qM) (x42 : Int32) : qM → Option qM := fun M55 => q_ix x42 40 <| q_bp (f_Md_named (M55.1 3 x42.toNatClampNeg) 655364 M55) fun x57 => if x57 = 0 then (f_Md_style_164 n K44 (x42 + 1) M55) else (q_ix (120 + x42) 280 <| if (M55.1 25 (120 + x42).toNatClampNeg) = 105 then (q_ix (120 + x42) 280 <| q_lt (qsI M55 25 (120 + x42).toNatClampNeg 98) fun M62 => f_Md_style_164 n K44 (x42 + 1) M62) else (f_Md_style_164 n K44 (x42 + 1) M55))
theorem v4_eq (n : Nat) (K44 : qM → Option qM) (x42 : Int32) (M43 : qM) : f_Md_style_164 (n + 1) K44 x42 M43 = if (M43.1 0 5) ≤ x42 then (K44 M43) else (f_Md_style_174 x42 1000 (v4_J n K44 x42) 0 M43) := by
  rw [f_Md_style_164]
  rfl
def rV (M : qM) (n : Nat) (V : Nat → Nat → Int32) : Prop := ∀ k, k < n → ∀ p, p < 7 → M.1 25 (40 * p + k) = V k p
theorem r_164 {n : Nat} {I : Nat → Nat} {E : eT} (hW : wE n I E) {rs : List (selT × List Nat)} : ∀ (m k f : Nat) (M : qM) (K : qM → Option qM), k + m = n → eS M n I E → (∀ j, j < k → ∀ p, p < 7 → M.1 25 (40 * p + j) = vF E rs j p) → (∀ j, k ≤ j → j < n → ∀ p, p < 7 → rep (M.1 24 (40 * p + j)) (M.1 25 (40 * p + j)) (stF E rs j p)) → m < f → ∃ M', f_Md_style_164 f K (nI k) M = K M' ∧ rV M' n (vF E rs) ∧ ∀ P j, P ≠ 25 → M'.1 P j = M.1 P j := by
  have h24 := hW.1.2
  intro m
  induction m with
  | zero =>
    intro k f M K hk hS hV hr hf
    obtain ⟨f, rfl⟩ : ∃ g, f = g + 1 := ⟨f - 1, by omega⟩
    refine ⟨M, ?_, fun j hj p hp => hV j (by omega) p hp, fun _ _ _ => rfl⟩
    rw [v4_eq, hS.1, i_le (by omega) (by omega), if_pos (by omega)]
  | succ m ih =>
    intro k f M K hk hS hV hr hf
    obtain ⟨f, rfl⟩ : ∃ g, f = g + 1 := ⟨f - 1, by omega⟩
    have hpk : 0 < k → (E k).2.2 < k := fun h => (hW.2.2.2.1 k h (by omega)).1
    obtain ⟨w1, w2, w3⟩ := hW.2.2.1 k (by omega)
    obtain ⟨M1, a1, a2, a3⟩ := r_174 hW (V := vF E rs) (b := fun j p => stF E rs j p) (k := k) (by omega) 7 0 1000 M (v4_J f K (nI k)) rfl hS (fun h0 q hq => hV _ (hpk h0) q hq) (fun q _ hq => hr k (Nat.le_refl _) (by omega) q hq) (by omega)
    have hvE : ∀ p, vF E rs k p = fxD E k p ((fnd (stF E rs k p)).getD (dfl E (vF E rs) k p)) := fun p => vF_e hpk
    have hS1 : eS M1 n I E := eS_k hS (a3 _ _ fun h => by omega) fun P j h => a3 _ _ fun h' => by omega
    obtain ⟨s1, s2, s3, s4⟩ := hS1.2 k (by omega)
    have oth : ∀ j P, j ≠ k → j < 40 → P < 7 → M1.1 25 (40 * P + j) = M.1 25 (40 * P + j) := fun j P hj h40 hP => a3 _ _ fun ⟨_, q, _, h2, h3⟩ => by omega
    have c120 : (120 : Int32) + nI k = nI (120 + k) := by rw [show (120 : Int32) = nI 120 from rfl, g_add]
    rw [v4_eq, hS.1, i_le (by omega) (by omega), if_neg (by omega)]
    rw [l_0] at a1
    rw [a1]
    unfold v4_J
    rw [g_ix (by omega) (by omega), g_cl (by omega), s1, r_nmd s2 (by omega) w2 w3 bit_11, q_bpE, i_b2, c120, g_ix (by omega) (by omega), g_ix (by omega) (by omega), g_cl (by omega), g_inc]
    have fin : ∀ M2, (∀ P j, ¬ (P = 25 ∧ j = 120 + k) → M2.1 P j = M1.1 P j) → M2.1 25 (120 + k) = vF E rs k 3 → (∀ p, p < 7 → p ≠ 3 → M1.1 25 (40 * p + k) = vF E rs k p) → ∃ M', f_Md_style_164 f K (nI (k + 1)) M2 = K M' ∧ rV M' n (vF E rs) ∧ ∀ P j, P ≠ 25 → M'.1 P j = M.1 P j := fun M2 k2 v3 vp => by
      obtain ⟨M', e1, e2, e3⟩ := ih (k + 1) f M2 K (by omega) (eS_k hS1 (k2 _ _ (by omega)) fun P j h => k2 _ _ (by omega)) (fun j hj p hp => by
        by_cases e : j = k
        · rw [e]
          by_cases e3 : p = 3
          · rw [e3]
            exact v3
          · rw [k2 _ _ (by omega)]
            exact vp p hp e3
        · rw [k2 _ _ (by omega), oth j p e (by omega) hp]
          exact hV j (by omega) p hp) (fun j h1 h2 p hp => by
        rw [k2 _ _ (by omega), k2 _ _ (by omega), a3 24 _ (fun h => by omega), oth j p (by omega) (by omega) hp]
        exact hr j (by omega) h2 p hp) (by omega)
      exact ⟨M', e1, e2, fun P j h => by rw [e3 P j h, k2 P j (by omega), a3 P j fun h' => h h'.1]⟩
    have vp : ∀ p, p < 7 → p ≠ 3 → M1.1 25 (40 * p + k) = vF E rs k p := fun p hp h3 => by
      rw [a2 p (Nat.zero_le _) hp, hvE p]
      unfold fxD
      rw [if_neg fun h => h3 h.1]
    have v3 : M1.1 25 (120 + k) = (fnd (stF E rs k 3)).getD (dfl E (vF E rs) k 3) := a2 3 (Nat.zero_le _) (by omega)
    have hv3 := hvE 3
    unfold fxD at hv3
    by_cases g1 : inS 11 (E k).1 = false
    · rw [if_pos g1]
      refine fin M1 (fun _ _ _ => rfl) ?_ vp
      rw [v3, hv3, if_neg (by rintro ⟨_, _, h⟩; rw [g1] at h; cases h)]
    · rw [if_neg g1]
      by_cases g2 : M1.1 25 (120 + k) = 105
      · rw [if_pos g2, q_ltE]
        refine fin _ (fun P j h => g_In h) ?_ vp
        rw [g_Ie ⟨rfl, rfl⟩, hv3, if_pos ⟨rfl, by rw [← v3]; exact g2, by simpa using g1⟩]
      · rw [if_neg g2]
        refine fin M1 (fun _ _ _ => rfl) ?_ vp
        rw [v3, hv3, if_neg (by rintro ⟨_, h, _⟩; rw [← v3] at h; exact g2 h)]
/-- all of style -/
theorem r_style {n : Nat} {I : Nat → Nat} {E : eT} (hW : wE n I E) {T : List Nat} (hT : T.length ≤ 120) (hTc : ∀ c ∈ T, c < 127) {M : qM} (hR : eR M n I E) (hY : rY M T) : ∃ M', f_Md_style M = some M' ∧ rV M' n (vF E (zF z00 T).1) ∧ eS M' n I E ∧ ∀ p j, ¬ (p = 0 ∧ (j = 22 ∨ j = 32)) → (p < 13 ∨ 25 < p) → M'.1 p j = M.1 p j := by
  have h24 := hW.1.2
  obtain ⟨M1, a1, a2, a3⟩ := r_sheet hT hTc hY
  have hR1 : eR M1 n I E := by
    refine ⟨by rw [a3 _ _ (by omega) (by omega)]; exact hR.1, fun k hk => ?_⟩
    obtain ⟨b1, b2', b3, b4⟩ := hR.2 k hk
    rw [a3 _ _ (by omega) (by omega), a3 _ _ (by omega) (by omega), a3 _ _ (by omega) (by omega)]
    refine ⟨b1, b2', b3, ?_⟩
    unfold f_Md_parentOf at b4 ⊢
    rw [par_cg (fun j => a3 _ _ (by omega) (by omega)) (fun j => a3 _ _ (by omega) (by omega))]
    exact b4
  obtain ⟨M2, c1, c2, c3⟩ := r_st6 hW n 0 1000 M1 (fun (M9 : qM) => f_Md_style_33 1000 (fun (M16 : qM) => f_Md_style_55 1000 (fun (M41 : qM) => f_Md_style_164 1000 (fun (M63 : qM) => some M63) 0 M41) 0 M16) 0 M9) (by omega) hR1 (fun j hj => by omega) (by omega)
  obtain ⟨M3, d1, d2, d3⟩ := r_st33 280 0 1000 M2 (fun (M16 : qM) => f_Md_style_55 1000 (fun (M41 : qM) => f_Md_style_164 1000 (fun (M63 : qM) => some M63) 0 M41) 0 M16) rfl (fun j hj => by omega) (by omega)
  have hS3 : eS M3 n I E := eS_k c2 (d3 _ _ (by omega)) fun p j h => d3 _ _ (by omega)
  have k3 : ∀ p j, p ≠ 22 → p ≠ 24 → M3.1 p j = M1.1 p j := fun p j h1 h2 => by rw [d3 p j h2, c3 p j h1]
  have hY3 : yX M3 T := fun j x hj => by rw [k3 _ _ (by omega) (by omega), a3 _ _ (by omega) (by omega)]; exact hY.2 j x hj
  have hL12 := a2.1.2
  obtain ⟨M4, e1, e2, e3⟩ := r_55 hW hT hTc (wRs_of hT hTc) (zF z00 T).1 0 1000 M3 (fun (M41 : qM) => f_Md_style_164 1000 (fun (M63 : qM) => some M63) 0 M41) (List.drop_zero ..) (Nat.zero_le _) hS3 (rRu_k a2 (k3 _ _ (by omega) (by omega)) fun p j h1 h2 => k3 _ _ (by omega) (by omega)) hY3 (fun p k hp hk => by
    refine ⟨fun q hq => (by cases hq), fun q hq => (by cases hq), ?_⟩
    exact d2 _ (by omega)) (by omega)
  have hS4 : eS M4 n I E := eS_k hS3 (e3 _ _ (by omega) (by omega) (by omega) (by omega) (by omega)) fun p j h => e3 _ _ (by omega) (by omega) (by omega) (by omega) (by omega)
  obtain ⟨M5, f1, f2, f3⟩ := r_164 hW (rs := (zF z00 T).1) n 0 1000 M4 (fun (M63 : qM) => some M63) (by omega) hS4 (fun j hj => by omega) (fun j _ hj p hp => e2 p j hp hj) (by omega)
  refine ⟨M5, ?_, f2, eS_k hS4 (f3 _ _ (by omega)) fun p j h => f3 _ _ (by omega), fun p j h1 h2 => ?_⟩
  · unfold f_Md_style
    rw [a1, q_cvE]
    rw [l_0] at c1 d1 e1 f1
    rw [c1, d1, e1, f1]
  · rw [f3 p j (by omega), e3 p j (by omega) (by omega) (by omega) (by omega) (by omega), k3 p j (by omega) (by omega), a3 p j (by omega) (by omega)]
