/-! what no tag and no character changes -/
def tF (M M' : qM) : Prop := ∀ p j, (p = 0 ∨ 287 ≤ p ∨ (p = 7 ∧ (j = 4 ∨ j = 8))) → M'.1 p j = M.1 p j ∧ M'.2 p j = M.2 p j
theorem tF_r (M : qM) : tF M M := fun _ _ _ => ⟨rfl, rfl⟩
theorem tF_t {M M1 M2 : qM} (h1 : tF M M1) (h2 : tF M1 M2) : tF M M2 := fun p j h => ⟨(h2 p j h).1.trans (h1 p j h).1, (h2 p j h).2.trans (h1 p j h).2⟩
/-! taking out of the stack -/
theorem t_to21 {sf : Nat → Nat} {h b : Nat} (hh : h ≤ 24) (hb : b ≤ h) : ∀ m k f K M, (∀ i, i < h → M.2 6 i = some (7 + 5 * sf i)) → k + m = b → m < f → ∃ M', f_OpenStack_takeOut_21 (nI b) f K (nI k) M = K M' ∧ M'.2 = M.2 ∧ (∀ i, k ≤ i → i < b → M'.1 (7 + 5 * sf i) 3 = 0) ∧ ∀ p j, (j = 3 → ∀ i, k ≤ i → i < b → p ≠ 7 + 5 * sf i) → M'.1 p j = M.1 p j := by
  intro m
  induction m with
  | zero =>
    intro k f K M hM hk hf
    obtain ⟨f, rfl⟩ : ∃ g, f = g + 1 := ⟨f - 1, by omega⟩
    refine ⟨M, ?_, rfl, fun i h1 h2 => by omega, fun _ _ _ => rfl⟩
    rw [f_OpenStack_takeOut_21, i_le (by omega) (by omega), if_pos (by omega)]
  | succ m ih =>
    intro k f K M hM hk hf
    obtain ⟨f, rfl⟩ : ∃ g, f = g + 1 := ⟨f - 1, by omega⟩
    obtain ⟨M', e1, e2, e3, e4⟩ := ih (k + 1) f K (qsI M (7 + 5 * sf k) 3 0) (fun i hi => hM i hi) (by omega) (by omega)
    refine ⟨M', ?_, e2, fun i h1 h2 => ?_, fun p j hp => ?_⟩
    · rw [f_OpenStack_takeOut_21, i_le (by omega) (by omega), if_neg (by omega), g_ix (by omega) (by omega), g_cl (by omega), hM k (by omega), g_inc]
      exact e1
    · by_cases hi : k + 1 ≤ i
      · exact e3 i hi h2
      · have : i = k := by omega
        subst this
        by_cases hx : ∃ i', i + 1 ≤ i' ∧ i' < b ∧ sf i' = sf i
        · obtain ⟨i', h3, h4, h5⟩ := hx
          rw [← h5]
          exact e3 i' h3 h4
        · rw [e4 _ _ (fun _ i' h3 h4 h5 => hx ⟨i', h3, h4, by omega⟩)]
          exact g_Ie ⟨rfl, rfl⟩
    · rw [e4 p j (fun hj i h1 h2 => hp hj i (by omega) h2)]
      refine g_In (fun h => ?_)
      exact hp h.2 k (Nat.le_refl k) (by omega) h.1
theorem t_to44 {sf : Nat → Nat} {h a b : Nat} (hh : h ≤ 24) (hab : a < b) (hb : b ≤ h) : ∀ m k f K M, M.1 5 1 = nI h → (∀ i, k ≤ i → i < h → M.2 6 i = some (7 + 5 * sf i)) → b ≤ k → k + m = h → m < f → ∃ M', f_OpenStack_takeOut_44 (nI b) (nI a) f K (nI k) M = K M' ∧ M'.1 = M.1 ∧ (∀ p j, p ≠ 6 → M'.2 p j = M.2 p j) ∧ (∀ i, k ≤ i → i < h → M'.2 6 (i - b + a) = some (7 + 5 * sf i)) ∧ ∀ i, i < k - b + a → M'.2 6 i = M.2 6 i := by
  intro m
  induction m with
  | zero =>
    intro k f K M h0 hM hk1 hk hf
    obtain ⟨f, rfl⟩ : ∃ g, f = g + 1 := ⟨f - 1, by omega⟩
    refine ⟨M, ?_, rfl, fun _ _ _ => rfl, fun i h1 h2 => by omega, fun _ _ => rfl⟩
    rw [f_OpenStack_takeOut_44, h0, i_le (by omega) (by omega), if_pos (by omega)]
  | succ m ih =>
    intro k f K M h0 hM hk1 hk hf
    obtain ⟨f, rfl⟩ : ∃ g, f = g + 1 := ⟨f - 1, by omega⟩
    obtain ⟨M', e1, e2, e3, e4, e5⟩ := ih (k + 1) f K (qsR M 6 (k - b + a) (some (7 + 5 * sf k))) h0 (fun i h1 h2 => by rw [g_Rn (by omega)]; exact hM i (by omega) h2) (by omega) (by omega) (by omega)
    refine ⟨M', ?_, e2, fun p j hp => ?_, fun i h1 h2 => ?_, fun i hi => ?_⟩
    · rw [f_OpenStack_takeOut_44, h0, i_le (by omega) (by omega), if_neg (by omega), g_ix (by omega) (by omega), g_cl (by omega), hM k (Nat.le_refl k) (by omega), g_inc, g_sub hk1, g_add]
      show q_ix (nI (k - b + a)) 24 _ = _
      rw [g_ix (by omega) (by omega), g_cl (by omega)]
      exact e1
    · rw [e3 p j hp, g_Rn (by omega)]
    · by_cases hi : k + 1 ≤ i
      · exact e4 i hi h2
      · have : i = k := by omega
        subst this
        rw [e5 _ (by omega), g_Re ⟨rfl, rfl⟩]
    · rw [e5 i (by omega), g_Rn (by omega)]
def toF (sf : Nat → Nat) (a b : Nat) : Nat → Nat := fun k => if k < a then sf k else sf (k + (b - a))
theorem t_to {M : qM} {n h a b : Nat} {sf : Nat → Nat} (hs : cSt M n sf h) (hh : h ≤ 24) (hi : ∀ a b, a < h → b < h → sf a = sf b → a = b) (h1 : 1 ≤ a) (hab : a < b) (hb : b ≤ h) : ∃ M', f_OpenStack_takeOut (nI a) (nI b) M = some M' ∧ cSt M' n (toF sf a b) (h - (b - a)) ∧ (∀ p j, p ≠ 5 → (j = 3 → ∀ i, i < h → p ≠ 7 + 5 * sf i) → M'.1 p j = M.1 p j) ∧ (∀ p j, p ≠ 6 → M'.2 p j = M.2 p j) := by
  obtain ⟨M1, c1, c2, c3, c4⟩ := t_to21 (sf := sf) hh hb (b - a) a 1000 (fun (M12 : qM) => f_OpenStack_takeOut_44 (nI b) (nI a) 1000 (fun (M21 : qM) => q_lt (qsI M21 5 1 ((M21.1 5 1) - (nI b - nI a))) fun M22 => some M22) (nI b) M12) M hs.2.1 (by omega) (by omega)
  have e5 : M1.1 5 1 = nI h := by
    rw [c4 5 1 (fun e => by omega)]
    exact hs.1
  obtain ⟨M2, d1, d2, d3, d4, d5⟩ := t_to44 (sf := sf) hh hab hb (h - b) b 1000 (fun (M21 : qM) => q_lt (qsI M21 5 1 ((M21.1 5 1) - (nI b - nI a))) fun M22 => some M22) M1 e5 (fun i h3 h4 => by rw [c2]; exact hs.2.1 i h4) (Nat.le_refl b) (by omega) (by omega)
  refine ⟨qsI M2 5 1 (nI (h - (b - a))), ?_, ⟨g_Ie ⟨rfl, rfl⟩, fun k hk => ?_, fun i hi0 => ?_⟩, fun p j hp hj => ?_, fun p j hp => ?_⟩
  · unfold f_OpenStack_takeOut
    rw [← l_1, i_lt (by omega) (by omega), if_neg (by omega), i_le (by omega) (by omega), if_neg (by omega), hs.1, i_le (by omega) (by omega), if_pos hb, c1, d1, d2, e5, g_sub (by omega), g_sub (by omega)]
    rfl
  · show M2.2 6 k = _
    unfold toF
    by_cases hk2 : k < a
    · rw [if_pos hk2, d5 k (by omega), c2]
      exact hs.2.1 k (by omega)
    · rw [if_neg hk2]
      have := d4 (k + (b - a)) (by omega) (by omega)
      rwa [show k + (b - a) - b + a = k by omega] at this
  · rw [g_In (by omega), d2]
    by_cases hx : ∃ k, a ≤ k ∧ k < b ∧ sf k = i
    · obtain ⟨k, h3, h4, h5⟩ := hx
      rw [← h5, c3 k h3 h4]
      have : opn (toF sf a b) (h - (b - a)) (sf k) = false := by
        rw [← Bool.not_eq_true, opn_t]
        rintro ⟨k', h6, h7⟩
        unfold toF at h7
        split at h7
        · have := hi _ _ (by omega) (by omega) h7
          omega
        · have := hi _ _ (by omega) (by omega) h7
          omega
      rw [this]
      rfl
    · rw [c4 _ _ (fun _ k h3 h4 h5 => hx ⟨k, h3, h4, by omega⟩), hs.2.2 i hi0]
      congr 1
      refine opn_c ⟨?_, ?_⟩
      · rintro ⟨k, h3, h4⟩
        by_cases h5 : k < a
        · exact ⟨k, by omega, by unfold toF; rw [if_pos h5]; exact h4⟩
        · have h6 : b ≤ k := by
            refine Nat.le_of_not_lt fun h6 => hx ⟨k, by omega, h6, h4⟩
          exact ⟨k - (b - a), by omega, by unfold toF; rw [if_neg (by omega), show k - (b - a) + (b - a) = k by omega]; exact h4⟩
      · rintro ⟨k, h3, h4⟩
        unfold toF at h4
        split at h4
        · exact ⟨k, by omega, h4⟩
        · exact ⟨k + (b - a), by omega, h4⟩
  · rw [g_In (by omega), d2, c4 p j (fun e i h3 h4 => hj e i (by omega))]
  · show M2.2 p j = _
    rw [d3 p j hp, c2]
/-! the state's parts put anew -/
def s_to (s : aT) (a b : Nat) : aT := (sB s, sN s, sNm s, sCs s, sKd s, toF (sSf s) a b, sH s - (b - a), sEn s, sCf s, sNc s)
def s_h (s : aT) (h : Nat) : aT := (sB s, sN s, sNm s, sCs s, sKd s, sSf s, h, sEn s, sCf s, sNc s)
def s_push (s : aT) (i : Nat) : aT := (sB s, sN s, sNm s, sCs s, sKd s, up (sSf s) (sH s) i, sH s + 1, sEn s, sCf s, sNc s)
/-- what the stack must be -/
def wS (s : aT) : Prop := (1 ≤ sN s ∧ sN s ≤ 24) ∧ (∀ i, i < sN s → sNm s i < 200) ∧ (1 ≤ sH s ∧ sH s ≤ sN s) ∧ (∀ k, k < sH s → sSf s k < sN s) ∧ (∀ a b, a < sH s → b < sH s → sSf s a = sSf s b → a = b)
theorem cSt_toF {M : qM} {n h a : Nat} {sf : Nat → Nat} (w : cSt M n (toF sf a h) (h - (h - a))) (ha : a ≤ h) : cSt M n sf a := by
  rw [show h - (h - a) = a by omega] at w
  have e : ∀ k, k < a → toF sf a h k = sf k := fun k hk => if_pos hk
  refine ⟨w.1, fun k hk => by rw [w.2.1 k hk, e k hk], fun i hi => ?_⟩
  rw [w.2.2 i hi]
  congr 1
  exact opn_c ⟨fun ⟨k, h1, h2⟩ => ⟨k, h1, by rw [← e k h1]; exact h2⟩, fun ⟨k, h1, h2⟩ => ⟨k, h1, by rw [e k h1]; exact h2⟩⟩
theorem s_take {M : qM} {s : aT} (c : C M s) (w : wS s) {a b : Nat} (h1 : 1 ≤ a) (hab : a < b) (hb : b ≤ sH s) : ∃ M', f_OpenStack_takeOut (nI a) (nI b) M = some M' ∧ C M' (s_to s a b) ∧ tF M M' := by
  obtain ⟨⟨cB, cN⟩, c1, c2, c3, c4, c5⟩ := c
  obtain ⟨M', e1, e2, e3, e4⟩ := t_to c3 (by have := w.2.2.1.2; have := w.1.2; omega) w.2.2.2.2 h1 hab hb
  have hw : ∀ p j, p ≠ 5 → (j = 3 → ∀ i, i < sN s → p ≠ 7 + 5 * i) → M'.1 p j = M.1 p j := fun p j h1 h2 => e3 p j h1 fun h3 i h4 => h2 h3 _ (w.2.2.2.1 i h4)
  have w24 := w.1.2
  refine ⟨M', e1, ⟨⟨?_, ?_⟩, ?_, ?_, e2, ?_, ?_⟩, fun p j hp => ⟨?_, ?_⟩⟩
  · exact (hw 1 7 (by omega) (by omega)).trans cB
  · exact (hw 1 5 (by omega) (by omega)).trans cN
  · exact cNm_cg c1 fun i hi j hj => hw _ _ (by omega) (by omega)
  · exact cLk_cg c2 fun i hi j h1 h2 => e4 _ _ (by omega)
  · exact cFl_cg c4 (fun i hi => hw _ _ (by omega) (by omega)) fun i hi k => e4 _ _ (by omega)
  · exact cCh_cg c5 (hw _ _ (by omega) (by omega)) (fun i hi j h1 h2 => e4 _ _ (by omega)) fun q hq => ⟨hw _ _ (by omega) (by omega), e4 _ _ (by omega)⟩
  · exact hw _ _ (by omega) (by omega)
  · exact e4 _ _ (by omega)
theorem s_close {M : qM} {s : aT} (c : C M s) (w : wS s) {a : Nat} (h1 : 1 ≤ a) (ha : a ≤ sH s) : ∃ M', f_OpenStack_takeOut (nI a) (nI (sH s)) M = some M' ∧ C M' (s_h s a) ∧ tF M M' := by
  have hh : sH s ≤ 24 := by have := w.2.2.1.2; have := w.1.2; omega
  by_cases h : a = sH s
  · subst h
    refine ⟨M, ?_, c, tF_r M⟩
    unfold f_OpenStack_takeOut
    rw [← l_1, i_lt (by omega) (by omega), if_neg (by omega), i_le (by omega) (by omega), if_pos (Nat.le_refl _)]
  · obtain ⟨M', e1, e2, e3⟩ := s_take c w h1 (show a < sH s by omega) (Nat.le_refl _)
    exact ⟨M', e1, ⟨e2.1, e2.2.1, e2.2.2.1, cSt_toF e2.2.2.2.1 ha, e2.2.2.2.2.1, e2.2.2.2.2.2⟩, e3⟩
/-- closing to the element at an index, or nothing -/
def s_clT (s : aT) (r : Option Nat) : aT := match r with
  | none => s
  | some k => s_h s k
theorem s_closeTo {M : qM} {s : aT} (c : C M s) (w : wS s) {r : Option Nat} (hr : ∀ k, r = some k → 1 ≤ k ∧ k < sH s) : ∃ M', f_OpenStack_closeTo (r.map fun k => 7 + 5 * sSf s k) M = some M' ∧ C M' (s_clT s r) ∧ tF M M' := by
  have hh : sH s ≤ 24 := by have := w.2.2.1.2; have := w.1.2; omega
  cases r with
  | none =>
    obtain ⟨M', e1, e2, e3⟩ := s_close c w w.2.2.1.1 (Nat.le_refl _)
    refine ⟨M', ?_, e2, e3⟩
    unfold f_OpenStack_closeTo
    simp only [Option.map, t_idxN c.2.2.2.1 hh, q_bp, c.2.2.2.1.1, e1, q_cv]
  | some k =>
    have := hr k rfl
    obtain ⟨M', e1, e2, e3⟩ := s_close c w this.1 (Nat.le_of_lt this.2)
    refine ⟨M', ?_, e2, e3⟩
    unfold f_OpenStack_closeTo
    simp only [Option.map, t_idx c.2.2.2.1 hh w.2.2.2.2 this.2, q_bp, c.2.2.2.1.1, e1, q_cv]
theorem s_closeAb {M : qM} {s : aT} (c : C M s) (w : wS s) {k : Nat} (hk : k < sH s) : ∃ M', f_OpenStack_closeAbove (some (7 + 5 * sSf s k)) M = some M' ∧ C M' (s_h s (k + 1)) ∧ tF M M' := by
  have hh : sH s ≤ 24 := by have := w.2.2.1.2; have := w.1.2; omega
  obtain ⟨M', e1, e2, e3⟩ := s_close c w (a := k + 1) (by omega) hk
  refine ⟨M', ?_, e2, e3⟩
  unfold f_OpenStack_closeAbove
  simp only [t_idx c.2.2.2.1 hh w.2.2.2.2 hk, q_bp, c.2.2.2.1.1, g_inc, e1, q_cv]
theorem s_top {M : qM} {s : aT} (c : C M s) (w : wS s) : f_OpenStack_top M = some (some (7 + 5 * sSf s (sH s - 1))) := by
  have hh : sH s ≤ 24 := by have := w.2.2.1.2; have := w.1.2; omega
  have h1 := w.2.2.1.1
  have e : nI (sH s) - 1 = nI (sH s - 1) := by
    obtain ⟨k, hk⟩ : ∃ k, sH s = k + 1 := ⟨sH s - 1, by omega⟩
    rw [hk]
    exact d_s k
  unfold f_OpenStack_top
  rw [c.2.2.2.1.1, e, g_ix (by omega) (by omega), g_cl (by omega), c.2.2.2.1.2.1 _ (by omega)]
  rfl
theorem s_pushT {M : qM} {s : aT} (c : C M s) {i : Nat} (hi : i < sN s) (hn : sN s ≤ 24) (hh : sH s < 24) : ∃ M', f_OpenStack_push (7 + 5 * i) M = some M' ∧ C M' (s_push s i) ∧ tF M M' := by
  obtain ⟨⟨cB, cN⟩, c1, c2, c3, c4, c5⟩ := c
  refine ⟨qsI (qsI (qsR M 6 (sH s) (some (7 + 5 * i))) 5 1 (nI (sH s + 1))) (7 + 5 * i) 3 1, ?_, ⟨⟨?_, ?_⟩, ?_, ?_, ⟨?_, fun k hk => ?_, fun x hx => ?_⟩, ?_, ?_⟩, fun p j hp => ⟨?_, ?_⟩⟩
  · unfold f_OpenStack_push
    rw [c3.1, show (24 : Int32) = nI 24 from rfl, i_le (by omega) (by omega), if_neg (by omega), g_ix (by omega) (by omega), g_cl (by omega)]
    simp only [q_lt, g_R1, c3.1, g_inc]
  · rw [g_In (by omega), g_In (by omega)]
    exact cB
  · rw [g_In (by omega), g_In (by omega)]
    exact cN
  · exact cNm_cg c1 fun x hx j hj => by rw [g_In (by omega), g_In (by omega)]; rfl
  · exact cLk_cg c2 fun x hx j h1 h2 => by rw [g_I2, g_I2, g_Rn (by omega)]
  · rw [g_In (by omega), g_Ie ⟨rfl, rfl⟩]
    rfl
  · show (qsR M 6 (sH s) (some (7 + 5 * i))).2 6 k = some (7 + 5 * up (sSf s) (sH s) i k)
    by_cases hk2 : k = sH s
    · rw [hk2, g_Re ⟨rfl, rfl⟩, up_e]
    · have hk3 : k < sH s + 1 := hk
      rw [g_Rn (by omega), up_n hk2]
      exact c3.2.1 k (by omega)
  · show _ = b2 (opn (up (sSf s) (sH s) i) (sH s + 1) x)
    by_cases hx2 : x = i
    · rw [hx2, g_Ie ⟨rfl, rfl⟩, opn_t.mpr ⟨sH s, by omega, up_e _ _ _⟩]
      rfl
    · rw [g_In (by omega), g_In (by omega), g_R1, c3.2.2 x hx]
      congr 1
      refine opn_c ⟨?_, ?_⟩
      · rintro ⟨k, h3, h4⟩
        exact ⟨k, by omega, by rw [up_n (by omega)]; exact h4⟩
      · rintro ⟨k, h3, h4⟩
        by_cases hk : k = sH s
        · rw [hk, up_e] at h4
          exact absurd h4.symm hx2
        · rw [up_n hk] at h4
          exact ⟨k, by omega, h4⟩
  · exact cFl_cg c4 (fun x hx => by rw [g_In (by omega), g_In (by omega)]; rfl) fun x hx k => by rw [g_I2, g_I2, g_Rn (by omega)]
  · exact cCh_cg c5 (by rw [g_In (by omega), g_In (by omega)]; rfl) (fun x hx j h1 h2 => by rw [g_I2, g_I2, g_Rn (by omega)]) fun q hq => ⟨by rw [g_In (by omega), g_In (by omega)]; rfl, by rw [g_I2, g_I2, g_Rn (by omega)]⟩
  · rw [g_In (by omega), g_In (by omega)]
    rfl
  · rw [g_I2, g_I2, g_Rn (by omega)]
