/-! an element taken over: the class's side -/
def s_rm (s : aT) (t : Nat) : aT := s_kd s fun q => (sKd s q).filter fun z => z != t
def s_adp3 (s : aT) (e b : Nat) : aT := s_put (s_rm (s_to s e b) (sSf s b)) (sSf s b) e
def s_adp (s : aT) (e b : Nat) : aT := if sN s < 24 then s_kd (s_make (s_adp3 s e b) (sNm s (sSf s e)) (sCs s (sSf s e))) (up (up (sKd (s_adp3 s e b)) (sN s) (sKd s (sSf s b))) (sSf s b) [sN s]) else s_brk (s_adp3 s e b)
theorem filt_n {t : Nat} {L : List Nat} (h : t ∉ L) : L.filter (fun z => z != t) = L := by
  rw [List.filter_eq_self]
  intro x hx
  simp
  exact fun q => h (q ▸ hx)
theorem filt_y {t : Nat} {A B : List Nat} (hA : t ∉ A) (hB : t ∉ B) : (A ++ t :: B).filter (fun z => z != t) = A ++ B := by
  rw [List.filter_append, List.filter_cons, if_neg (by simp), filt_n hA, filt_n hB]
theorem toF_l {sf : Nat → Nat} {a b k : Nat} (h : k < a) : toF sf a b k = sf k := if_pos h
theorem plT_sf {nm sf sf' : Nat → Nat} {g : Nat} (hg : 1 ≤ g) (h : ∀ k, k < g → sf' k = sf k) : plT nm sf' g = plT nm sf g := by
  unfold plT
  rw [h (g - 1) (by omega), lastI_congr (Q := fun j => nm (sf j) == 116) fun j hj => by rw [h j hj]]
/-- what the place of a block taken out is, below index e -/
theorem adp_T {s : aT} (w : Wf s) {e b j : Nat} (h2 : e < b) (h3 : b < sH s) (hj : plT (sNm s) (sSf s) e = some j) : ∃ p A B, p < sN s ∧ p ≠ sSf s b ∧ sSf s j ≠ p ∧ sSf s j ≠ sSf s b ∧ sKd s p = A ++ sSf s j :: B := by
  obtain ⟨p, A, B, q1, q2, q3⟩ := W_tab w (by omega) hj
  have hl := plT_lt hj
  refine ⟨p, A, B, q1, fun h => ?_, q2, fun h => ?_, q3⟩
  · have := w.2.2.2.2.2.2.2.2.2 j b (by omega) h3
    exact this ⟨0, sSf s j, by rw [← h, q3]; simp, rfl⟩
  · have := w.1.2.2.2.2 j b (by omega) h3 h
    omega
theorem t_adp3 {M : qM} {s : aT} (c : C M s) (w : Wf s) {e b : Nat} (h1 : 1 ≤ e) (h2 : e < b) (h3 : b < sH s) : ∃ M1 M2 M3, f_OpenStack_takeOut (nI e) (nI b) M = some M1 ∧ f_Node_leaveParent (7 + 5 * sSf s b) M1 = some M2 ∧ f_Tree_putAtPlace (7 + 5 * sSf s b) (nI e) M2 = some M3 ∧ C M3 (s_adp3 s e b) ∧ tF M M3 := by
  have hb : ∀ k, k < sH s → sSf s k < sN s := w.1.2.2.2.1
  have hh : 1 ≤ sH s ∧ sH s ≤ sN s := w.1.2.2.1
  have h24 := w.1.1.2
  obtain ⟨M1, a1, a2, a3⟩ := s_take c w.1 h1 h2 (Nat.le_of_lt h3)
  have b0 : sSf s b ≠ 0 := fun q => by
    have := w.1.2.2.2.2 b 0 h3 (by omega) (by rw [q, w.2.2.2.2.1.1])
    omega
  obtain ⟨p, A, B, p1, p2, p3⟩ := W_par w (hb b h3) b0
  have hnd := W_nd w p1
  obtain ⟨M2, b1, b2', b3, b4⟩ := l_leave (W_rt w p1) a2.2.2.1 p1 hnd p3 p2
  have hdd := List.nodup_append.mp (p3 ▸ hnd)
  have hA : sSf s b ∉ A := fun m => hdd.2.2 _ m _ (by simp) rfl
  have hB : sSf s b ∉ B := (List.nodup_cons.mp hdd.2.1).1
  have k2 : cLk M2 (sN s) (fun q => (sKd s q).filter fun z => z != sSf s b) := cLk_ext b2' fun q hq => by
    by_cases e : q = p
    · subst e
      rw [up_e]
      show (sKd s q).filter _ = _
      rw [p3, filt_y hA hB]
    · rw [up_n e]
      show (sKd s q).filter _ = sKd s q
      rw [filt_n]
      exact fun m => e (cLk_one c.2.2.1 hq p1 m (by rw [p3]; simp))
  obtain ⟨c2, t2⟩ := C_lk (s := s_to s e b) a2 h24 k2 b3 b4
  have hsf : ∀ k, k < e → toF (sSf s) e b k = sSf s k := fun k hk => toF_l hk
  have u1 : ∀ k, k < sH s - (b - e) → toF (sSf s) e b k < sN s := fun k hk => by
    unfold toF
    split
    · exact hb k (by omega)
    · exact hb _ (by omega)
  have u2 : ∀ q, q < sN s → sSf s b ∉ (sKd s q).filter fun z => z != sSf s b := fun q hq m => by
    have := (List.mem_filter.mp m).2
    simp at this
  have u3 : ∀ q, q < sN s → ((sKd s q).filter fun z => z != sSf s b).Nodup := fun q hq => (W_nd w hq).filter _
  have u4 : sSf s b ≠ toF (sSf s) e b (e - 1) := fun q' => by
    rw [hsf _ (by omega)] at q'
    have := w.1.2.2.2.2 b (e - 1) h3 (by omega) q'
    omega
  have u5 : ∀ q, q < sN s → 0 ∉ (sKd s q).filter fun z => z != sSf s b := fun q hq m => W_rt w hq (List.mem_filter.mp m).1
  have u6 : ∀ j, plT (sNm s) (toF (sSf s) e b) e = some j → ∃ p A B, p < sN s ∧ p ≠ sSf s b ∧ toF (sSf s) e b j ≠ p ∧ (sKd s p).filter (fun z => z != sSf s b) = A ++ toF (sSf s) e b j :: B := fun j hj' => by
    rw [plT_sf h1 hsf] at hj'
    have hl := plT_lt hj'
    obtain ⟨p, A, B, q1, q2, q3, q4, q5⟩ := adp_T w h2 h3 hj'
    rw [hsf j hl.1]
    refine ⟨p, A.filter (fun z => z != sSf s b), B.filter (fun z => z != sSf s b), q1, q2, q3, ?_⟩
    rw [q5, List.filter_append, List.filter_cons, if_pos (by simpa using q4)]
  obtain ⟨M3, d1, d2, d3⟩ := s_putT (s := s_rm (s_to s e b) (sSf s b)) (c := sSf s b) (g := e) c2 h24 w.1.2.1 u1 (show sH s - (b - e) ≤ 24 by omega) h1 (show e ≤ sH s - (b - e) by omega) (hb b h3) u2 u3 u4 b0 u5 u6
  exact ⟨M1, M2, M3, a1, b1, d1, d2, tF_t a3 (tF_t t2 d3)⟩
theorem Fo_len {kd : Nat → List Nat} {d : Nat} {is : List Nat} {out : List (Nat × Nat)} (h : Fo kd d is out) : is.length ≤ out.length := by
  refine Fo_ind (P := fun d is out => is.length ≤ out.length) (fun d => Nat.le_refl _) (fun d i js L1 L2 _ _ _ p2 => ?_) h
  simp
  omega
theorem W_klen {s : aT} (w : Wf s) {p : Nat} (hp : p < sN s) : (sKd s p).length ≤ sN s := by
  obtain ⟨pre, h1, h2, h3, h4⟩ := w.2.2.1
  obtain ⟨A, S, B, e, e1, e2, _⟩ := Fo_at h1 p ((h3 p).mpr hp)
  have := Fo_len e2
  rw [e1] at h4
  simp at h4
  omega
/-- the block's own children stay -/
theorem adp3_kb {s : aT} (w : Wf s) {e b : Nat} (h1 : 1 ≤ e) (h2 : e < b) (h3 : b < sH s) : sKd (s_adp3 s e b) (sSf s b) = sKd s (sSf s b) := by
  have hb : ∀ k, k < sH s → sSf s k < sN s := w.1.2.2.2.1
  have hsf : ∀ k, k < e → toF (sSf s) e b k = sSf s k := fun k hk => toF_l hk
  have e0 : (sKd s (sSf s b)).filter (fun z => z != sSf s b) = sKd s (sSf s b) := filt_n (W_self w (hb b h3))
  show (match plT (sNm s) (toF (sSf s) e b) e with
    | some j => fun q => insB (sSf s b) (toF (sSf s) e b j) ((sKd s q).filter fun z => z != sSf s b)
    | none => up (fun q => (sKd s q).filter fun z => z != sSf s b) (toF (sSf s) e b (e - 1)) ((sKd s (toF (sSf s) e b (e - 1))).filter (fun z => z != sSf s b) ++ [sSf s b])) (sSf s b) = _
  rw [plT_sf h1 hsf]
  cases hj : plT (sNm s) (sSf s) e with
  | none =>
    show up _ (toF (sSf s) e b (e - 1)) _ (sSf s b) = _
    rw [hsf _ (by omega), up_n (fun q => ?_)]
    · exact e0
    · have := w.1.2.2.2.2 b (e - 1) h3 (by omega) q
      omega
  | some j =>
    have hl := plT_lt hj
    show insB (sSf s b) (toF (sSf s) e b j) ((sKd s (sSf s b)).filter fun z => z != sSf s b) = _
    rw [e0, hsf j hl.1, insB_n]
    intro m
    exact w.2.2.2.2.2.2.2.2.2 j b (by omega) h3 ⟨0, sSf s j, m, rfl⟩
theorem adp3_mem {s : aT} {e b q z : Nat} (hz : z ∈ sKd (s_adp3 s e b) q) : z ∈ sKd s q ∨ z = sSf s b := by
  have hz' : z ∈ (match plT (sNm s) (toF (sSf s) e b) e with
    | some j => fun q => insB (sSf s b) (toF (sSf s) e b j) ((sKd s q).filter fun z => z != sSf s b)
    | none => up (fun q => (sKd s q).filter fun z => z != sSf s b) (toF (sSf s) e b (e - 1)) ((sKd s (toF (sSf s) e b (e - 1))).filter (fun z => z != sSf s b) ++ [sSf s b])) q := hz
  cases hj : plT (sNm s) (toF (sSf s) e b) e with
  | none =>
    rw [hj] at hz'
    have hz'' : z ∈ up (fun q => (sKd s q).filter fun z => z != sSf s b) (toF (sSf s) e b (e - 1)) ((sKd s (toF (sSf s) e b (e - 1))).filter (fun z => z != sSf s b) ++ [sSf s b]) q := hz'
    by_cases h : q = toF (sSf s) e b (e - 1)
    · rw [h, up_e] at hz''
      rw [h]
      rcases List.mem_append.mp hz'' with m | m
      · exact Or.inl (List.mem_filter.mp m).1
      · exact Or.inr (List.mem_singleton.mp m)
    · rw [up_n h] at hz''
      exact Or.inl (List.mem_filter.mp hz'').1
  | some j =>
    rw [hj] at hz'
    have hz'' : z ∈ insB (sSf s b) (toF (sSf s) e b j) ((sKd s q).filter fun z => z != sSf s b) := hz'
    obtain ⟨y, hy, hz⟩ := List.mem_flatMap.mp hz''
    have hy' := (List.mem_filter.mp hy).1
    split at hz
    · rename_i e
      simp at hz
      rcases hz with h | h
      · exact Or.inr h
      · exact Or.inl (by rw [h, ← e]; exact hy')
    · exact Or.inl (by rw [List.mem_singleton.mp hz]; exact hy')
theorem t_adp {M : qM} {s : aT} (c : C M s) (w : Wf s) {e b : Nat} (h1 : 1 ≤ e) (h2 : e < b) (h3 : b < sH s) : ∃ M', f_Tree_adopt (7 + 5 * sSf s e) (7 + 5 * sSf s b) M = some M' ∧ C M' (s_adp s e b) ∧ tF M M' := by
  have hb : ∀ k, k < sH s → sSf s k < sN s := w.1.2.2.2.1
  have hh : 1 ≤ sH s ∧ sH s ≤ sN s := w.1.2.2.1
  have h24 := w.1.1.2
  obtain ⟨M1, M2, M3, a1, a2, a3, a4, a5⟩ := t_adp3 c w h1 h2 h3
  have hen := (a4.2.1 (sSf s e) (hb e (by omega)))
  have hen1 : M3.1 (7 + 5 * sSf s e) 0 = nI (sNm s (sSf s e)) := hen.1
  have hen2 : M3.1 (7 + 5 * sSf s e) 1 = sCs s (sSf s e) := hen.2
  unfold f_Tree_adopt
  rw [t_idx c.2.2.2.1 (by omega) w.1.2.2.2.2 (show e < sH s by omega)]
  simp only [q_bp]
  rw [t_idx c.2.2.2.1 (by omega) w.1.2.2.2.2 h3]
  simp only [a1, q_cv, a2, a3, hen1, hen2]
  unfold s_adp
  by_cases hn : sN s < 24
  · rw [if_pos hn]
    have wn3 : wN (s_adp3 s e b) := by
      refine ⟨fun k hk => ?_, fun q hq => (w.2.1.1 q hq).2, fun q hq => (w.2.2.2.2.2.2.2.1.1 q hq).1⟩
      have hk' : k < sH s - (b - e) := hk
      show toF (sSf s) e b k < sN s
      unfold toF
      split
      · exact hb k (by omega)
      · exact hb _ (by omega)
    obtain ⟨M4, b1, b2', b3, b4⟩ := s_makeT (s := s_adp3 s e b) a4 wn3 w.1.1.1 hn (sNm s (sSf s e)) (sCs s (sSf s e))
    have bn := hb b h3
    have kb : up (sKd (s_adp3 s e b)) (sN s) [] (sSf s b) = sKd s (sSf s b) := by rw [up_lt bn, adp3_kb w h1 h2 h3]
    have hkl := W_klen w bn
    obtain ⟨M5, d1, d2, d3, d4⟩ := l_give (n := sN s + 1) (p := sSf s b) (c := sN s) (kd := up (sKd (s_adp3 s e b)) (sN s) []) (by rw [kb]; exact W_rt w bn) b2'.2.2.1 (by omega) (by omega) (by omega) (up_e _ _ _) (by rw [kb]; omega)
    rw [kb] at d2
    have u7 : ∀ q, q < sN s + 1 → sN s ∉ up (up (up (sKd (s_adp3 s e b)) (sN s) []) (sN s) (sKd s (sSf s b))) (sSf s b) [] q := fun q hq => by
      by_cases q1 : q = sSf s b
      · rw [q1, up_e]
        simp
      · rw [up_n q1]
        have lt : ∀ p, p < sN s → ∀ z ∈ sKd s p, z < sN s := fun p hp z hz => W_ks w hp hz
        by_cases q2 : q = sN s
        · rw [q2, up_e]
          intro m
          have := lt _ bn _ m
          omega
        · rw [up_n q2, up_n q2]
          intro m
          rcases adp3_mem m with m | m
          · have := lt q (by omega) _ m
            omega
          · omega
    obtain ⟨M6, f1, f2, f3, f4⟩ := l_app (n := sN s + 1) (p := sSf s b) (c := sN s) (by have := w.1.1.1; omega) (by rw [up_e]; simp) d2 (by omega) (by omega) (by omega) u7 (by rw [up_e]; exact List.nodup_nil)
    obtain ⟨c5, t5⟩ := C_lk (s := s_make (s_adp3 s e b) (sNm s (sSf s e)) (sCs s (sSf s e))) b2' (show sN s + 1 ≤ 24 by omega) d2 d3 d4
    have f2' : cLk M6 (sN s + 1) (up (up (sKd (s_adp3 s e b)) (sN s) (sKd s (sSf s b))) (sSf s b) [sN s]) := cLk_ext f2 fun q hq => by
      by_cases q1 : q = sSf s b
      · rw [q1, up_e, up_e, up_e]
        rfl
      · rw [up_n q1, up_n q1, up_n q1]
        by_cases q2 : q = sN s
        · rw [q2, up_e, up_e]
        · rw [up_n q2, up_n q2, up_n q2]
    obtain ⟨c6, t6⟩ := C_lk (s := s_kd (s_make (s_adp3 s e b) (sNm s (sSf s e)) (sCs s (sSf s e))) _) c5 (show sN s + 1 ≤ 24 by omega) f2' f3 f4
    refine ⟨M6, ?_, c6, tF_t a5 (tF_t b3 (tF_t t5 t6))⟩
    have b1' : f_Tree_make (nI (sNm s (sSf s e))) (sCs s (sSf s e)) M3 = some (some (7 + 5 * sN s), M4) := b1
    rw [b1']
    simp only [q_cl, q_on, d1, q_cv, f1]
  · rw [if_neg hn]
    obtain ⟨M4, b1, b2', b3⟩ := s_brkT (s := s_adp3 s e b) a4 hn h24 (nI (sNm s (sSf s e))) (sCs s (sSf s e))
    refine ⟨M4, ?_, b2', tF_t a5 b3⟩
    rw [b1]
    simp only [q_cl, q_on]
