/-! the reference's side: the way cleared, a start tag -/
theorem inS3_l : inS 3 108 = true := by decide +kernel
def s_cw (s : aT) (x : Nat) : aT := if x = 108 then s_clR (s_st1 s x) 108 5 else s_st1 s x
theorem ht_clR {s : aT} {pre : List (Nat × Nat)} {y z : Nat} (h : wT s pre) : wT (s_clR s y z) pre := by
  unfold s_clR s_clT
  split <;> exact h
def cw_F : qM → Option (Int32 × qM) := fun M5 => if (M5.1 0 4) = 0 then (some (1, M5)) else (some (0, M5))
def cw_D (x3 x14 : Int32) (M4 : qM) : Int32 → Option (Int32 × qM) := fun x15 => q_lt (qsI M4 0 13 x15) fun M16 => if x3 < x14 then (cw_F M16) else (q_ix x3 40 <| q_cv (f_Md_insideTop (M16.1 8 x3.toNatClampNeg) M16) fun M19 => q_cl (f_Md_create 114 0 M19) fun x20 M21 => q_cv (f_Md_push x20 M21) fun M22 => cw_F M22)
def cw_K (a1 x2 x3 : Int32) : qM → Option (Int32 × qM) := fun M4 => if a1 = 108 then (q_bp (f_Md_reach 108 1048580 M4) fun x27 => if x27 = 0 then (cw_F M4) else (q_bp (f_Md_topmost 108 M4) fun x29 => q_lt (qsI M4 0 13 x29) fun M30 => cw_F M30)) else (if a1 = 114 then (if 0 ≤ x3 then (q_lt (qsI M4 0 13 (x3 + 1)) fun M26 => cw_F M26) else (some (0, M4))) else (if a1 = 99 then (if 0 ≤ x3 then (q_bp (f_Md_topmost 114 M4) fun x14 => if x14 ≤ x3 then (cw_D x3 x14 M4 (x3 + 1)) else (cw_D x3 x14 M4 (x14 + 1))) else (some (0, M4))) else (if x2 = 0 then (q_cv (f_Md_renew M4) fun M12 => cw_F M12) else (cw_F M4))))
def cw_L (a1 x2 : Int32) (M : qM) : Option (Int32 × qM) := q_bp (f_Md_topmost 116 M) fun x3 => if x2 = 0 then (cw_K a1 x2 x3 M) else (q_bp (f_Md_reach 112 4 M) fun x33 => if x33 = 0 then (cw_K a1 x2 x3 M) else (q_bp (f_Md_topmost 112 M) fun x35 => q_lt (qsI M 0 13 x35) fun M36 => cw_K a1 x2 x3 M36))
theorem cw_eq (a1 : Int32) (M : qM) : f_Md_clearWay a1 M = q_bp (f_Md_bit a1 M) fun x1 => if (x1 &&& 1607816) = 0 then (cw_L a1 0 M) else (cw_L a1 1 M) := rfl
theorem cw_F0 {M : qM} (h : M.1 0 4 = 0) : cw_F M = some (1, M) := if_pos h
theorem cw_F1 {M : qM} (h : M.1 0 4 = 1) : cw_F M = some (0, M) := if_neg (by rw [h]; decide)
theorem cw_b {M : qM} {x : Nat} (hx : x < 123) (hk : nmK x = true) : f_Md_clearWay (nI x) M = if inS 3 x = true then (cw_L (nI x) 1 M) else (cw_L (nI x) 0 M) := by
  rw [cw_eq, r_bit M hx, q_bpE]
  by_cases h3 : inS 3 x = true
  · rw [if_neg (fun q => by rw [(bit_3 x hx hk).mp q] at h3; cases h3), if_pos h3]
  · rw [if_pos ((bit_3 x hx hk).mpr (by simpa using h3)), if_neg h3]
theorem cw_i {M : qM} {s : aT} {pre : List (Nat × Nat)} (r : R M s pre) (w : Wf s) (ht : wT s pre) {x : Nat} (h1 : 97 ≤ x) (h2 : x ≤ 122) (hr : x ≠ 114) (hc : x ≠ 99) : ∃ v M2, f_Md_clearWay (nI x) M = some (v, M2) ∧ ((v = 1 ∧ ∃ pre1, R M2 (s_cw s x) pre1 ∧ wT (s_cw s x) pre1) ∨ (v = 0 ∧ sB (s_cw s x) = true ∧ M2.1 0 4 = 1)) ∧ rF M M2 := by
  have hk : nmK x = true := by unfold nmK; simp; omega
  have n4 : ¬ nI x = (114 : Int32) := by rw [show (114 : Int32) = nI 114 from rfl, g_eq (by omega) (by omega)]; exact hr
  have n9 : ¬ nI x = (99 : Int32) := by rw [show (99 : Int32) = nI 99 from rfl, g_eq (by omega) (by omega)]; exact hc
  have e116 : f_Md_topmost 116 M = some (eI (s_tm s 116)) := r_tm w r.2.1 r.2.2.2.1 (a := 116) (by omega) (by omega)
  rw [cw_b (by omega) hk]
  unfold s_cw s_st1
  by_cases h3 : inS 3 x = true
  · rw [if_pos h3, if_pos h3]
    unfold cw_L
    rw [e116, q_bpE, if_neg (show ¬ (1 : Int32) = 0 by decide)]
    obtain ⟨M1, a1, a2, a3⟩ := r_clR r w (y := 112) (z := 4) bit_4 (by omega) (by omega)
    have w1 := W_clR w (y := 112) (z := 4) (by omega)
    have a1' := a1 (fun M4 => cw_K (nI x) 1 (eI (s_tm s 116)) M4)
    have a1'' : (q_bp (f_Md_reach 112 4 M) fun x33 => if x33 = 0 then (cw_K (nI x) 1 (eI (s_tm s 116)) M) else (q_bp (f_Md_topmost 112 M) fun x35 => q_lt (qsI M 0 13 x35) fun M36 => cw_K (nI x) 1 (eI (s_tm s 116)) M36)) = cw_K (nI x) 1 (eI (s_tm s 116)) M1 := a1'
    rw [a1'']
    unfold cw_K
    by_cases hl : x = 108
    · rw [if_pos hl, if_pos (by rw [hl]; rfl)]
      obtain ⟨M2, b1, b2', b3⟩ := r_clR a2 w1 (y := 108) (z := 5) bit_5 (by omega) (by omega)
      have b1' : (q_bp (f_Md_reach 108 1048580 M1) fun x27 => if x27 = 0 then (cw_F M1) else (q_bp (f_Md_topmost 108 M1) fun x29 => q_lt (qsI M1 0 13 x29) fun M30 => cw_F M30)) = cw_F M2 := b1 cw_F
      rw [b1', cw_F0 b2'.1.1]
      exact ⟨1, M2, rfl, Or.inl ⟨rfl, pre, b2', ht_clR (ht_clR ht)⟩, rF_t a3 b3⟩
    · have n8 : ¬ nI x = (108 : Int32) := by rw [show (108 : Int32) = nI 108 from rfl, g_eq (by omega) (by omega)]; exact hl
      rw [if_neg hl, if_neg n8, if_neg n4, if_neg n9, if_neg (show ¬ (1 : Int32) = 0 by decide), cw_F0 a2.1.1]
      exact ⟨1, M1, rfl, Or.inl ⟨rfl, pre, a2, ht_clR ht⟩, a3⟩
  · have hl : x ≠ 108 := fun q => h3 (q ▸ inS3_l)
    have n8 : ¬ nI x = (108 : Int32) := by rw [show (108 : Int32) = nI 108 from rfl, g_eq (by omega) (by omega)]; exact hl
    rw [if_neg h3, if_neg h3, if_neg hl]
    unfold cw_L
    rw [e116, q_bpE, if_pos rfl]
    unfold cw_K
    rw [if_neg n8, if_neg n4, if_neg n9, if_pos rfl]
    obtain ⟨M1, a1, a2, a3⟩ := r_renew r w ht
    rw [a1, q_cvE]
    rcases a2 with ⟨b1, pre1, b2', b3⟩ | ⟨b1, b2'⟩
    · exact ⟨1, M1, cw_F0 b2'.1.1, Or.inl ⟨rfl, pre1, b2', b3⟩, a3⟩
    · exact ⟨0, M1, cw_F1 b2', Or.inr ⟨rfl, b1, b2'⟩, a3⟩
theorem W_cw {s : aT} (w : Wf s) (wr : Wf (s_renew s)) (x : Nat) : Wf (s_cw s x) := by
  have w1 : Wf (s_st1 s x) := by
    unfold s_st1
    split
    · exact W_clR w (by omega)
    · exact wr
  unfold s_cw
  split
  · exact W_clR w1 (by omega)
  · exact w1
/-- rows and cells -/
theorem r_roc {M : qM} {s : aT} {pre : List (Nat × Nat)} (r : R M s pre) (w : Wf s) (ht : wT s pre) {x : Nat} {a : Int32} (hx : x = 114 ∨ x = 99) : ∃ M', f_Md_start (nI x) a M = some M' ∧ RO M M' (s_roc s x a) := by
  have hh : 1 ≤ sH s ∧ sH s ≤ sN s := w.1.2.2.1
  have h24 := w.1.1.2
  have hx2 : x < 123 := by omega
  have hk : nmK x = true := by rcases hx with rfl | rfl <;> rfl
  have h3 : inS 3 x = false := by rcases hx with rfl | rfl <;> decide +kernel
  have h7 : inS 7 x = false := by rcases hx with rfl | rfl <;> decide +kernel
  -- a new node in the top ends the tag
  have fin : ∀ {M : qM} {s : aT} {pre : List (Nat × Nat)}, R M s pre → Wf s → wT s pre → ∃ M', (q_ix ((M.1 0 13) - 1) 40 <| q_cv (f_Md_insideTop (M.1 8 ((M.1 0 13) - 1).toNatClampNeg) M) fun M4 => rs_J (nI x) a M4) = some M' ∧ RO M M' (s_op s x a) := by
    intro M s pre r w ht
    have hh : 1 ≤ sH s ∧ sH s ≤ sN s := w.1.2.2.1
    have h24 := w.1.1.2
    have e0 : M.1 0 13 - 1 = nI (sH s - 1) := by
      rw [r.2.2.2.1.1]
      obtain ⟨k, hk⟩ : ∃ k, sH s = k + 1 := ⟨sH s - 1, by omega⟩
      rw [hk]
      exact d_s k
    obtain ⟨M1, a1, a2, a3, a4⟩ := r_op r w ht x a
    rw [e0, g_ix (by omega) (by omega), g_cl (by omega), r.2.2.2.1.2 _ (by omega), a1]
    show ∃ M', rs_J (nI x) a M1 = some M' ∧ _
    unfold rs_J
    rw [r_own w a2.2.1 a2.2.2.2.1, q_bpE]
    rcases a4 with ⟨hn, M2, M3, pre', b1, b0, b2', b3, b4, b5⟩ | ⟨hn, b1⟩
    · rw [b1]
      show ∃ M', (if (M2.1 0 4) = 0 then (if nI x = nI 104 then (rs_K (nI x) (nI (sN s)) (nI (ow s)) M2) else (if nI x = nI 107 then (rs_K (nI x) (nI (sN s)) (nI (ow s)) M2) else (q_cv (f_Md_push (nI (sN s)) M2) fun M16 => rs_K (nI x) (nI (sN s)) (nI (ow s)) M16))) else (some M2)) = some M' ∧ _
      rw [if_pos b0, i_eq (by omega) (by omega), i_eq (by omega) (by omega), if_neg (by omega), if_neg (by omega), b2']
      show ∃ M', rs_K (nI x) (nI (sN s)) (nI (ow s)) M3 = some M' ∧ _
      unfold rs_K
      rw [r_bit M3 hx2]
      show ∃ M', (if bitv x &&& 262402 = 0 then _ else _) = _ ∧ _
      rw [if_pos ((bit_7 x (by omega) hk).mpr h7)]
      exact ⟨M3, rfl, Or.inl ⟨b3.1.2, pre', b3, b4⟩, rF_t a3 b5⟩
    · rw [b1]
      refine ⟨qsI M1 0 4 1, ?_, Or.inr ⟨?_, g_Ie ⟨rfl, rfl⟩⟩, rF_t a3 fun p j h => g_In (by omega)⟩
      · rw [q_clE, if_neg (by rw [g_Ie ⟨rfl, rfl⟩]; decide)]
      · unfold s_op
        rw [if_neg (by omega)]
        rfl
  have e116 : f_Md_topmost 116 M = some (eI (s_tm s 116)) := r_tm w r.2.1 r.2.2.2.1 (a := 116) (by omega) (by omega)
  have n8 : ¬ nI x = (108 : Int32) := by rw [show (108 : Int32) = nI 108 from rfl, g_eq (by omega) (by omega)]; omega
  rw [rs_eq, cw_b hx2 hk, if_neg (by rw [h3]; simp)]
  unfold cw_L s_roc
  rw [e116, q_bpE, if_pos rfl]
  unfold cw_K
  rw [if_neg n8]
  cases htm : s_tm s 116 with
  | none =>
    refine ⟨M, ?_, Or.inl ⟨r.1.2, pre, r, ht⟩, rF_r M⟩
    rcases hx with rfl | rfl
    · rfl
    · rfl
  | some t =>
    have htl := s_tm_lt htm
    have w1 := W_h w (k := t + 1) (by omega) htl.1
    obtain ⟨r1, f1⟩ := R_h r (k := t + 1) htl.1
    rw [eI_s]
    rcases hx with hx | hx
    · have hx9 : ¬ x = 99 := by omega
      have p4 : nI x = (114 : Int32) := by rw [hx]; rfl
      rw [if_pos p4, i_p0 (by omega), g_inc, q_ltE, cw_F0 r1.1.1, q_clE, if_neg (show ¬ (1 : Int32) = 0 by decide), if_pos p4]
      obtain ⟨M', e1, e2, e3⟩ := fin r1 w1 ht
      refine ⟨M', e1, ?_, rF_t f1 e3⟩
      simpa [hx9] using e2
    · have hx4 : ¬ nI x = (114 : Int32) := by rw [show (114 : Int32) = nI 114 from rfl, g_eq (by omega) (by omega)]; omega
      have p9 : nI x = (99 : Int32) := by rw [hx]; rfl
      have e114 : f_Md_topmost 114 M = some (eI (s_tm s 114)) := r_tm w r.2.1 r.2.2.2.1 (a := 114) (by omega) (by omega)
      rw [if_neg hx4, if_pos p9, i_p0 (by omega), e114, q_bpE]
      have fin' : ∀ {M : qM} {s : aT} {pre : List (Nat × Nat)}, R M s pre → Wf s → wT s pre → ∃ M', (q_cl (some ((1 : Int32), M)) fun x1 M2 => if x1 = 0 then (some M2) else (if nI x = 114 then (q_ix ((M2.1 0 13) - 1) 40 <| q_cv (f_Md_insideTop (M2.1 8 ((M2.1 0 13) - 1).toNatClampNeg) M2) fun M19 => rs_J (nI x) a M19) else (if nI x = 99 then (q_ix ((M2.1 0 13) - 1) 40 <| q_cv (f_Md_insideTop (M2.1 8 ((M2.1 0 13) - 1).toNatClampNeg) M2) fun M19 => rs_J (nI x) a M19) else (q_cv (f_Md_findPlace (M2.1 0 13) M2) fun M23 => rs_J (nI x) a M23)))) = some M' ∧ RO M M' (s_op s x a) := by
        intro M s pre r w ht
        rw [q_clE, if_neg (show ¬ (1 : Int32) = 0 by decide), if_neg hx4, if_pos p9]
        exact fin r w ht
      simp only [if_pos hx]
      -- the row of the table
      have hrow : (∃ k, s_rch s 114 2 = some k ∧ s_tm s 114 = some k ∧ t < k) ∨ (s_rch s 114 2 = none ∧ ∀ k, s_tm s 114 = some k → k ≤ t) := by
        cases hr : s_rch s 114 2 with
        | some k =>
          left
          have h1 := rchI_some.mp hr
          have hk := rchI_lt hr
          refine ⟨k, rfl, h1.1, ?_⟩
          refine Nat.lt_of_le_of_ne (Nat.le_of_not_lt fun hlt => ?_) fun q => ?_
          · have := h1.2 t hlt htl.1
            rw [htl.2] at this
            revert this
            decide +kernel
          · have := hk.2
            rw [← q] at this
            simp [htl.2] at this
        | none =>
          right
          refine ⟨rfl, fun k hk => Nat.le_of_not_lt fun hlt => ?_⟩
          have : s_rch s 114 2 = some k := rchI_some.mpr ⟨hk, fun i h1 h2 => by
            have h0 := lastI_max htm i (by omega) h2
            have hi := w.1.2.1 _ (w.1.2.2.2.1 i h2)
            have e3 : ∀ x, x < 200 → inS 2 x = (x == 116) := by decide +kernel
            show inS 2 (sNm s (sSf s i)) = false
            rw [e3 _ hi]
            exact h0⟩
          rw [hr] at this
          cases this
      rcases hrow with ⟨k, k1, k2, k3⟩ | ⟨k1, k2⟩
      · have hkl := s_tm_lt k2
        obtain ⟨r2, f2⟩ := R_h r (k := k + 1) hkl.1
        have w2 := W_h w (k := k + 1) (by omega) hkl.1
        rw [k2, eI_s, i_le (by omega) (by omega), if_neg (by omega), k1]
        unfold cw_D
        rw [g_inc, q_ltE, i_lt (by omega) (by omega), if_pos k3, cw_F0 r2.1.1]
        obtain ⟨M', e1, e2, e3⟩ := fin' r2 w2 ht
        exact ⟨M', e1, e2, rF_t f2 e3⟩
      · have hle : eI (s_tm s 114) ≤ nI t := by
          cases h : s_tm s 114 with
          | none =>
            rw [eI_n, Int32.le_iff_toInt_le, nI_toInt (by omega)]
            have : (-1 : Int32).toInt = -1 := by decide
            omega
          | some k =>
            rw [eI_s, g_le (by have := (s_tm_lt h).1; omega) (by omega)]
            exact k2 k h
        have hnlt : ¬ nI t < eI (s_tm s 114) := by
          rw [Int32.not_lt]
          exact hle
        rw [if_pos hle, k1]
        unfold cw_D
        rw [g_inc, q_ltE, if_neg hnlt, g_ix (by omega) (by omega), g_cl (by omega)]
        have e8 : (qsI M 0 13 (nI (t + 1))).1 8 t = nI (sSf s t) := r1.2.2.2.1.2 t (Nat.lt_succ_self t)
        rw [e8]
        obtain ⟨M1, a1, a2, a3, a4⟩ := r_op r1 w1 ht 114 0
        have a1' : f_Md_insideTop (nI (sSf s t)) (qsI M 0 13 (nI (t + 1))) = some M1 := by
          have q : sSf (s_h s (t + 1)) (sH (s_h s (t + 1)) - 1) = sSf s t := by
            show sSf s (t + 1 - 1) = _
            rw [Nat.add_sub_cancel]
          rw [← q]
          exact a1
        rw [a1', q_cvE]
        have w3 := W_op (x := 114) (a := 0) w1 (by omega) (by omega) (fun _ => by show sNm s (sSf s (t + 1 - 1)) = 116; rw [Nat.add_sub_cancel]; exact htl.2)
        rcases a4 with ⟨hn, M2, M3, pre', b1, b0, b2', b3, b4, b5⟩ | ⟨hn, b1⟩
        · have b1' : f_Md_create 114 0 M1 = some (nI (sN s), M2) := b1
          have b2'' : f_Md_push (nI (sN s)) M2 = some M3 := b2'
          rw [b1', q_clE, b2'', q_cvE, cw_F0 b3.1.1]
          obtain ⟨M', e1, e2, e3⟩ := fin' b3 w3 b4
          exact ⟨M', e1, e2, rF_t f1 (rF_t a3 (rF_t b5 e3))⟩
        · have b1' : f_Md_create 114 0 M1 = some (0, qsI M1 0 4 1) := b1
          have hp : f_Md_push 0 (qsI M1 0 4 1) = some (qsI M1 0 4 1) := by
            unfold f_Md_push
            rw [g_Ie ⟨rfl, rfl⟩, if_neg (by decide)]
          rw [b1', q_clE, hp, q_cvE, cw_F1 (g_Ie ⟨rfl, rfl⟩), q_clE, if_pos rfl]
          refine ⟨qsI M1 0 4 1, rfl, Or.inr ⟨?_, g_Ie ⟨rfl, rfl⟩⟩, rF_t f1 (rF_t a3 fun p j h => g_In (by omega))⟩
          refine sB_op ?_ _ _
          unfold s_op
          rw [if_neg (by rw [hn]; omega)]
          rfl
theorem r_stt {M : qM} {s : aT} {pre : List (Nat × Nat)} (r : R M s pre) (w : Wf s) (ht : wT s pre) (wr : Wf (s_renew s)) {x : Nat} {a : Int32} (h1 : 97 ≤ x) (h2 : x ≤ 122) : ∃ M', f_Md_start (nI x) a M = some M' ∧ RO M M' (s_stt s x a) := by
  have es : s_stt s x a = if inS 1 x = true then s_roc s x a else s_st2 (s_cw s x) x a := by
    unfold s_stt s_cw
    by_cases h : x = 108
    · rw [if_pos h, if_pos h]
    · rw [if_neg h, if_neg h]
  rw [es]
  by_cases i1 : inS 1 x = true
  · rw [if_pos i1]
    exact r_roc r w ht ((inS1 (by omega)).mp i1)
  · rw [if_neg i1]
    have hr : x ≠ 114 := fun q => i1 ((inS1 (by omega)).mpr (Or.inl q))
    have hc : x ≠ 99 := fun q => i1 ((inS1 (by omega)).mpr (Or.inr q))
    obtain ⟨v, M2, e1, e2, e3⟩ := cw_i r w ht h1 h2 hr hc
    rw [rs_eq, e1, q_clE]
    rcases e2 with ⟨rfl, pre1, b1, b2'⟩ | ⟨rfl, b1, b2'⟩
    · rw [if_neg (show ¬ (1 : Int32) = 0 by decide)]
      obtain ⟨M', c1, c2, c3⟩ := r_st2 (a := a) b1 (W_cw w wr x) b2' h1 h2 hr
      refine ⟨M', ?_, c2, rF_t e3 c3⟩
      rw [show (114 : Int32) = nI 114 from rfl, show (99 : Int32) = nI 99 from rfl, i_eq (by omega) (by omega), i_eq (by omega) (by omega), if_neg hr, if_neg hc]
      exact c1
    · rw [if_pos rfl]
      exact ⟨M2, rfl, Or.inr ⟨sB_st2 b1 x a, b2'⟩, e3⟩
