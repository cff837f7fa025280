/-! style on the reference's side: declarations put into force -/
def rep (r v : Int32) (b : bT) : Prop := (∀ q, b.1 = some q → q.1 < 100000) ∧ (∀ q, b.2 = some q → q.1 < 100000) ∧ match b.2 with
  | some q => r = nI (100000 + q.1) ∧ v = q.2
  | none => match b.1 with
    | some q => r = nI q.1 ∧ v = q.2
    | none => r = -1
def bUp (imp : Bool) (w : Nat) (u : Int32) (b : bT) : bT := if imp = true then (b.1, comb b.2 w u) else (comb b.1 w u, b.2)
def off (imp : Bool) : Nat := if imp = true then 100000 else 0
theorem comb_w {b : Option (Nat × Int32)} {w : Nat} {u : Int32} (hb : ∀ q, b = some q → q.1 < 100000) (hw : w < 100000) : ∀ q, comb b w u = some q → q.1 < 100000 := fun q h => by
  unfold comb at h
  split at h
  · exact hb q h
  · split at h
    · cases h; exact hw
    · split at h
      · cases h; exact hw
      · exact hb q (by rw [← h])
theorem comb_n {b : Option (Nat × Int32)} {w : Nat} : comb b w (-1) = b := by
  unfold comb
  rw [if_pos rfl]
theorem comb_c {b : Option (Nat × Int32)} {w : Nat} {v u : Int32} (hu : u ≠ -1) : comb (comb b w v) w u = comb b w u := by
  by_cases hv : v = -1
  · rw [hv, comb_n]
  · cases b with
    | none =>
      unfold comb
      rw [if_neg hu, if_neg hv, if_neg hu]
      show (if w ≤ w then some (w, u) else some (w, v)) = some (w, u)
      rw [if_pos (Nat.le_refl _)]
    | some q =>
      unfold comb
      rw [if_neg hu, if_neg hv, if_neg hu]
      dsimp only
      by_cases h : q.1 ≤ w
      · rw [if_pos h, if_pos h]
        dsimp only
        rw [if_pos (Nat.le_refl _)]
      · rw [if_neg h, if_neg h]
        dsimp only
        rw [if_neg h]
theorem rep_up {r v : Int32} {b : bT} (h : rep r v b) {imp : Bool} {w : Nat} {u : Int32} (hw : w < 100000) (hu : u ≠ -1) : (nI (off imp + w) < r → rep r v (bUp imp w u b)) ∧ (¬ nI (off imp + w) < r → rep (nI (off imp + w)) u (bUp imp w u b)) := by
  obtain ⟨P, Q⟩ := b
  obtain ⟨h1, h2, h3⟩ := h
  have h1 : ∀ q, P = some q → q.1 < 100000 := h1
  have h2 : ∀ q, Q = some q → q.1 < 100000 := h2
  have neg1 : ∀ a : Nat, a < 2147483648 → ¬ nI a < (-1 : Int32) := fun a ha hlt => by
    have h0 := nI_pos ha
    apply h0
    rw [Int32.lt_iff_toInt_lt] at hlt ⊢
    have e1 : (-1 : Int32).toInt = -1 := by decide
    have e2 : (0 : Int32).toInt = 0 := by decide
    omega
  cases imp with
  | true =>
    have e : bUp true w u (P, Q) = (P, comb Q w u) := rfl
    have eo : off true + w = 100000 + w := rfl
    rw [e, eo]
    cases Q with
    | none =>
      have ec : comb none w u = some (w, u) := by unfold comb; rw [if_neg hu]
      have hn : ¬ nI (100000 + w) < r := by
        cases P with
        | none =>
          have h3' : r = -1 := h3
          rw [h3']
          exact neg1 _ (by omega)
        | some q =>
          have h3' : r = nI q.1 ∧ v = q.2 := h3
          have := h1 q rfl
          rw [h3'.1, g_lt (by omega) (by omega)]
          omega
      exact ⟨fun h => absurd h hn, fun _ => ⟨h1, fun q hq => comb_w h2 hw q hq, by rw [ec]; exact ⟨rfl, rfl⟩⟩⟩
    | some q =>
      have h3' : r = nI (100000 + q.1) ∧ v = q.2 := h3
      have hq := h2 q rfl
      have ec : comb (some q) w u = if q.1 ≤ w then some (w, u) else some q := by unfold comb; rw [if_neg hu]
      rw [h3'.1, g_lt (by omega) (by omega)]
      refine ⟨fun h => ⟨h1, fun q hq => comb_w h2 hw q hq, ?_⟩, fun h => ⟨h1, fun q hq => comb_w h2 hw q hq, ?_⟩⟩
      · rw [ec, if_neg (by omega)]
        exact ⟨rfl, h3'.2⟩
      · rw [ec, if_pos (by omega)]
        exact ⟨rfl, rfl⟩
  | false =>
    have e : bUp false w u (P, Q) = (comb P w u, Q) := rfl
    have eo : off false + w = w := Nat.zero_add w
    rw [e, eo]
    cases Q with
    | some q =>
      have h3' : r = nI (100000 + q.1) ∧ v = q.2 := h3
      have hq := h2 q rfl
      have hy : nI w < r := by rw [h3'.1, g_lt (by omega) (by omega)]; omega
      exact ⟨fun _ => ⟨fun q hq => comb_w h1 hw q hq, h2, h3'⟩, fun h => absurd hy h⟩
    | none =>
      cases P with
      | none =>
        have h3' : r = -1 := h3
        have ec : comb none w u = some (w, u) := by unfold comb; rw [if_neg hu]
        refine ⟨fun h => absurd h (by rw [h3']; exact neg1 _ (by omega)), fun _ => ⟨fun q hq => comb_w h1 hw q hq, h2, ?_⟩⟩
        rw [ec]
        exact ⟨rfl, rfl⟩
      | some q =>
        have h3' : r = nI q.1 ∧ v = q.2 := h3
        have hq := h1 q rfl
        have ec : comb (some q) w u = if q.1 ≤ w then some (w, u) else some q := by unfold comb; rw [if_neg hu]
        rw [h3'.1, g_lt (by omega) (by omega)]
        refine ⟨fun h => ⟨fun q hq => comb_w h1 hw q hq, h2, ?_⟩, fun h => ⟨fun q hq => comb_w h1 hw q hq, h2, ?_⟩⟩
        · rw [ec, if_neg (by omega)]
          exact ⟨rfl, h3'.2⟩
        · rw [ec, if_pos (by omega)]
          exact ⟨rfl, rfl⟩
def rVb (M : qM) (n : Nat) (b : Nat → Nat → bT) : Prop := ∀ p k, p < 7 → k < n → rep (M.1 24 (40 * p + k)) (M.1 25 (40 * p + k)) (b k p)
theorem rVb_cg {M : qM} {n : Nat} {b b' : Nat → Nat → bT} (h : rVb M n b) (e : ∀ k p, k < n → p < 7 → b' k p = b k p) : rVb M n b' := fun p k hp hk => by
  rw [e k p hk hp]
  exact h p k hp hk
theorem r_112 {n i m p w : Nat} (h24 : n ≤ 24) (hi : i < 12) (hm : m ≤ 4) (hp : p < 7) (hw : w < 100000) {imp : Bool} {u : Int32} (hu : u ≠ -1) {F : Nat → Bool} : ∀ (c k f : Nat) (M : qM) (K : qM → Option qM) (b : Nat → Nat → bT), k + c = n → M.1 0 5 = nI n → M.1 16 i = nI m → (∀ j, j < n → M.1 23 (40 * m + j) = b2 (F j)) → rVb M n b → c < f → ∃ M', f_Md_declare_112 (nI i) (nI p) (nI (off imp + w)) u f K (nI k) M = K M' ∧ rVb M' n (fun j q => if q = p ∧ k ≤ j ∧ F j = true then bUp imp w u (b j q) else b j q) ∧ ∀ P j, P ≠ 24 → P ≠ 25 → M'.1 P j = M.1 P j := by
  have ho : off imp ≤ 100000 := by unfold off; split <;> omega
  intro c
  induction c with
  | zero =>
    intro k f M K b hk h5 h16 hF hb hf
    obtain ⟨f, rfl⟩ : ∃ g, f = g + 1 := ⟨f - 1, by omega⟩
    refine ⟨M, ?_, rVb_cg hb fun j q hj hq => if_neg (by omega), fun _ _ _ _ => rfl⟩
    rw [f_Md_declare_112, h5, i_le (by omega) (by omega), if_pos (by omega)]
  | succ c ih =>
    intro k f M K b hk h5 h16 hF hb hf
    obtain ⟨f, rfl⟩ : ∃ g, f = g + 1 := ⟨f - 1, by omega⟩
    rw [f_Md_declare_112, h5, i_le (by omega) (by omega), if_neg (by omega), g_ix (by omega) (by omega), g_cl (by omega), h16, g_40, g_ix (by omega) (by omega), g_cl (by omega), hF k (by omega), i_b2, g_40, g_ix (by omega) (by omega), g_ix (by omega) (by omega), g_cl (by omega), q_ltE, g_ix (by omega) (by omega), q_ltE, g_inc]
    -- go on with what stands now
    have go : ∀ (M1 : qM) (b1 : Nat → Nat → bT), (∀ P j, P ≠ 24 → P ≠ 25 → M1.1 P j = M.1 P j) → rVb M1 n b1 → (∀ j q, j < n → q < 7 → (if q = p ∧ k ≤ j ∧ F j = true then bUp imp w u (b j q) else b j q) = (if q = p ∧ k + 1 ≤ j ∧ F j = true then bUp imp w u (b1 j q) else b1 j q)) → ∃ M', f_Md_declare_112 (nI i) (nI p) (nI (off imp + w)) u f K (nI (k + 1)) M1 = K M' ∧ rVb M' n (fun j q => if q = p ∧ k ≤ j ∧ F j = true then bUp imp w u (b j q) else b j q) ∧ ∀ P j, P ≠ 24 → P ≠ 25 → M'.1 P j = M.1 P j := fun M1 b1 k1 r1 e1 => by
      obtain ⟨M', x1, x2, x3⟩ := ih (k + 1) f M1 K b1 (by omega) (by rw [k1 _ _ (by omega) (by omega)]; exact h5) (by rw [k1 _ _ (by omega) (by omega)]; exact h16) (fun j hj => by rw [k1 _ _ (by omega) (by omega)]; exact hF j hj) r1 (by omega)
      exact ⟨M', x1, rVb_cg x2 fun j q hj hq => e1 j q hj hq, fun P j q1 q2 => by rw [x3 P j q1 q2, k1 P j q1 q2]⟩
    have hr := hb p k hp (by omega)
    have hup := rep_up hr (imp := imp) (w := w) (u := u) hw hu
    by_cases g1 : F k = false
    · rw [if_pos g1]
      refine go M b (fun _ _ _ _ => rfl) hb fun j q hj hq => ?_
      by_cases e : j = k
      · rw [if_neg (by rintro ⟨_, _, h⟩; rw [e, g1] at h; cases h), if_neg (by omega)]
      · by_cases e2 : q = p ∧ k ≤ j ∧ F j = true
        · rw [if_pos e2, if_pos ⟨e2.1, by omega, e2.2.2⟩]
        · rw [if_neg e2, if_neg (fun h => e2 ⟨h.1, by omega, h.2.2⟩)]
    · rw [if_neg g1]
      have gT : F k = true := by simpa using g1
      have fin : ∀ (M1 : qM), (∀ P j, P ≠ 24 → P ≠ 25 → M1.1 P j = M.1 P j) → rep (M1.1 24 (40 * p + k)) (M1.1 25 (40 * p + k)) (bUp imp w u (b k p)) → (∀ P j, j ≠ 40 * p + k → M1.1 P j = M.1 P j) → ∃ M', f_Md_declare_112 (nI i) (nI p) (nI (off imp + w)) u f K (nI (k + 1)) M1 = K M' ∧ rVb M' n (fun j q => if q = p ∧ k ≤ j ∧ F j = true then bUp imp w u (b j q) else b j q) ∧ ∀ P j, P ≠ 24 → P ≠ 25 → M'.1 P j = M.1 P j := fun M1 k1 hrep k2 => by
        refine go M1 (fun j q => if q = p ∧ j = k then bUp imp w u (b j q) else b j q) k1 (fun q j hq hj => ?_) fun j q hj hq => ?_
        · dsimp only
          by_cases e : q = p ∧ j = k
          · rw [if_pos e, e.1, e.2]
            exact hrep
          · rw [if_neg e, k2 _ _ (by omega), k2 _ _ (by omega)]
            exact hb q j hq hj
        · by_cases e : j = k
          · by_cases e3 : q = p
            · rw [if_pos ⟨e3, by omega, by rw [e]; exact gT⟩, if_neg (by omega), if_pos ⟨e3, e⟩]
            · rw [if_neg (fun h => e3 h.1), if_neg (fun h => e3 h.1), if_neg (fun h => e3 h.1)]
          · rw [if_neg (show ¬ (q = p ∧ j = k) from fun h => e h.2)]
            by_cases e2 : q = p ∧ k ≤ j ∧ F j = true
            · rw [if_pos e2, if_pos ⟨e2.1, by omega, e2.2.2⟩]
            · rw [if_neg e2, if_neg (fun h => e2 ⟨h.1, by omega, h.2.2⟩)]
      by_cases g2 : nI (off imp + w) < M.1 24 (40 * p + k)
      · rw [if_pos g2]
        exact fin M (fun _ _ _ _ => rfl) (hup.1 g2) (fun _ _ _ => rfl)
      · rw [if_neg g2]
        refine fin _ (fun P j q1 q2 => by rw [g_In (by omega), g_In (by omega)]) ?_ (fun P j q => by rw [g_In (by omega), g_In (by omega)])
        rw [g_In (by omega), g_Ie ⟨rfl, rfl⟩, g_Ie ⟨rfl, rfl⟩]
        exact hup.2 g2
