/-! the reference's side: start tags -/
theorem q_bpE {α β : Type} (r : α) (k : α → Option β) : q_bp (some r) k = k r := rfl
theorem q_clE {α β : Type} (r : α) (M : qM) (k : α → qM → Option β) : q_cl (some (r, M)) k = k r M := rfl
theorem q_cvE {β : Type} (M : qM) (k : qM → Option β) : q_cv (some M) k = k M := rfl
theorem R_h {M : qM} {s : aT} {pre : List (Nat × Nat)} (r : R M s pre) {k : Nat} (hk : k ≤ sH s) : R (qsI M 0 13 (nI k)) (s_h s k) pre ∧ rF M (qsI M 0 13 (nI k)) := by
  have e : ∀ p j, ¬ (p = 0 ∧ j = 13) → (qsI M 0 13 (nI k)).1 p j = M.1 p j := fun p j h => g_In h
  obtain ⟨⟨a1, a2⟩, b, c, d, en, f⟩ := r
  refine ⟨⟨⟨by rw [e _ _ (by omega)]; exact a1, a2⟩, ⟨by rw [e _ _ (by omega)]; exact b.1, fun i hi => ?_⟩, ⟨by rw [e _ _ (by omega)]; exact c.1, fun i x y hi => ?_⟩, ⟨g_Ie ⟨rfl, rfl⟩, fun i hi => ?_⟩, ⟨by rw [e _ _ (by omega)]; exact en.1, fun i x y hi => ?_⟩, ⟨by rw [e _ _ (by omega)]; exact f.1, fun i hi => ?_⟩⟩, fun p j h => e p j (by omega)⟩
  · rw [e _ _ (by omega), e _ _ (by omega)]
    exact b.2 i hi
  · rw [e _ _ (by omega), e _ _ (by omega)]
    exact c.2 i x y hi
  · have hi' : i < k := hi
    rw [e _ _ (by omega)]
    exact d.2 i (by omega)
  · rw [e _ _ (by omega), e _ _ (by omega)]
    exact en.2 i x y hi
  · rw [e _ _ (by omega), e _ _ (by omega)]
    exact f.2 i hi
theorem r_clR {M : qM} {s : aT} {pre : List (Nat × Nat)} (r : R M s pre) (w : Wf s) {mask : Int32} {y z : Nat} (hb : ∀ x, x < 123 → nmK x = true → (bitv x &&& mask = 0 ↔ inS z x = false)) (h0 : 97 ≤ y) (hy : y < 200) : ∃ M', (∀ {β : Type} (K : qM → Option β), (q_bp (f_Md_reach (nI y) mask M) fun x2 => if x2 = 0 then (K M) else (q_bp (f_Md_topmost (nI y) M) fun x4 => q_lt (qsI M 0 13 x4) fun M5 => K M5)) = K M') ∧ R M' (s_clR s y z) pre ∧ rF M M' := by
  unfold s_clR s_clT
  rcases r_rch w r.2.1 r.2.2.2.1 hb h0 hy with ⟨e1, k, e2, e3⟩ | ⟨e1, e2⟩
  · have hk := s_tm_lt e3
    obtain ⟨a1, a2⟩ := R_h r (Nat.le_of_lt hk.1)
    refine ⟨_, fun K => ?_, by rw [e2]; exact a1, a2⟩
    rw [e1, r_tm w r.2.1 r.2.2.2.1 h0 hy, e3]
    rfl
  · refine ⟨M, fun K => ?_, by rw [e2]; exact r, rF_r M⟩
    rw [e1]
    rfl
theorem W_clR {s : aT} (w : Wf s) {y z : Nat} (h0 : 97 ≤ y) : Wf (s_clR s y z) := W_clT w (s_rch_i w h0)
theorem ow_st3 {s : aT} (w : Wf s) {x : Nat} {a : Int32} (hx : x ≠ 99) : ow (s_st3 s x a) = ow s := by
  have hb : ∀ k, k < sH s → sSf s k < sN s := w.1.2.2.2.1
  have e : lastI (fun j => up (sNm s) (sN s) x (sSf s j) == 99) (sH s) = lastI (fun j => sNm s (sSf s j) == 99) (sH s) := lastI_congr fun j hj => by rw [up_lt (hb j hj)]
  unfold s_st3
  split
  · show (match lastI (fun j => up (sNm s) (sN s) x (sSf s j) == 99) (sH s) with
      | none => 0
      | some j => sSf s j) = _
    rw [e]
    rfl
  · have e2 : lastI (fun j => up (sNm s) (sN s) x (up (sSf s) (sH s) (sN s) j) == 99) (sH s + 1) = lastI (fun j => sNm s (sSf s j) == 99) (sH s) := by
      rw [lastI, up_e, up_e, if_neg (by simpa using hx), ← e]
      exact lastI_congr fun j hj => by rw [up_lt hj]
    show (match lastI (fun j => up (sNm s) (sN s) x (up (sSf s) (sH s) (sN s) j) == 99) (sH s + 1) with
      | none => 0
      | some j => up (sSf s) (sH s) (sN s) j) = _
    rw [e2]
    unfold ow
    cases h : lastI (fun j => sNm s (sSf s j) == 99) (sH s) with
    | none => rfl
    | some j => exact up_lt (lastI_lt h).1
theorem inS6 : ∀ x, x < 123 → (inS 6 x = true ↔ x = 104 ∨ x = 107) := by decide +kernel
theorem inS7' : ∀ x, x < 123 → inS 7 x = true → x ≠ 99 := by decide +kernel
def rs_K (x x6 x5 : Int32) : qM → Option qM := fun M9 => q_bp (f_Md_bit x M9) fun x10 => if (x10 &&& 262402) = 0 then (some M9) else (q_cv (f_Md_list x6 x5 M9) fun M12 => some M12)
def rs_J (x a : Int32) : qM → Option qM := fun M4 => q_bp (f_Md_listOwner M4) fun x5 => q_cl (f_Md_create x a M4) fun x6 M7 => if (M7.1 0 4) = 0 then (if x = 104 then (rs_K x x6 x5 M7) else (if x = 107 then (rs_K x x6 x5 M7) else (q_cv (f_Md_push x6 M7) fun M16 => rs_K x x6 x5 M16))) else (some M7)
theorem rs_eq (x a : Int32) (M : qM) : f_Md_start x a M = q_cl (f_Md_clearWay x M) fun x1 M2 => if x1 = 0 then (some M2) else (if x = 114 then (q_ix ((M2.1 0 13) - 1) 40 <| q_cv (f_Md_insideTop (M2.1 8 ((M2.1 0 13) - 1).toNatClampNeg) M2) fun M19 => rs_J x a M19) else (if x = 99 then (q_ix ((M2.1 0 13) - 1) 40 <| q_cv (f_Md_insideTop (M2.1 8 ((M2.1 0 13) - 1).toNatClampNeg) M2) fun M19 => rs_J x a M19) else (q_cv (f_Md_findPlace (M2.1 0 13) M2) fun M23 => rs_J x a M23))) := rfl
/-- what is behind the place: a new element, opened, listed -/
theorem r_st2 {M : qM} {s : aT} {pre : List (Nat × Nat)} (r : R M s pre) (w : Wf s) (ht : wT s pre) {x : Nat} {a : Int32} (h1 : 97 ≤ x) (h2 : x ≤ 122) (hr : x ≠ 114) : ∃ M', (q_cv (f_Md_findPlace (M.1 0 13) M) fun M4 => rs_J (nI x) a M4) = some M' ∧ RO M M' (s_st2 s x a) := by
  have hh : 1 ≤ sH s ∧ sH s ≤ sN s := w.1.2.2.1
  have h24 := w.1.1.2
  obtain ⟨M1, a1, a2, a3, a4⟩ := r_newT r w ht x a
  rw [r.2.2.2.1.1, a1]
  show ∃ M', rs_J (nI x) a M1 = some M' ∧ RO M M' (if sN s < 24 then (if inS 7 x = true then s_en (s_st3 s x a) (en1 (sEn s) (ow (s_st3 s x a)) ++ [(sN s, ow (s_st3 s x a))]) else s_st3 s x a) else s_brk s)
  unfold rs_J
  rw [r_own w a2.2.1 a2.2.2.2.1, q_bpE]
  rcases a4 with ⟨hn, M2, pre', b1, b2', b3, b4⟩ | ⟨hn, b1⟩
  · rw [if_pos hn]
    rw [b1]
    show ∃ M', (if (M2.1 0 4) = 0 then (if nI x = nI 104 then (rs_K (nI x) (nI (sN s)) (nI (ow s)) M2) else (if nI x = nI 107 then (rs_K (nI x) (nI (sN s)) (nI (ow s)) M2) else (q_cv (f_Md_push (nI (sN s)) M2) fun M16 => rs_K (nI x) (nI (sN s)) (nI (ow s)) M16))) else (some M2)) = some M' ∧ _
    rw [if_pos b2'.1.1, i_eq (by omega) (by omega), i_eq (by omega) (by omega)]
    have w3 := W_st3 (a := a) w hn h1 h2 hr
    have key : ∃ M3, (if x = 104 then (rs_K (nI x) (nI (sN s)) (nI (ow s)) M2) else (if x = 107 then (rs_K (nI x) (nI (sN s)) (nI (ow s)) M2) else (q_cv (f_Md_push (nI (sN s)) M2) fun M16 => rs_K (nI x) (nI (sN s)) (nI (ow s)) M16))) = rs_K (nI x) (nI (sN s)) (nI (ow s)) M3 ∧ R M3 (s_st3 s x a) pre' ∧ rF M2 M3 := by
      unfold s_st3
      by_cases h6 : inS 6 x = true
      · refine ⟨M2, ?_, by rw [if_pos h6]; exact b2', rF_r _⟩
        rcases (inS6 x (by omega)).mp h6 with h | h
        · rw [if_pos h]
        · rw [if_neg (by omega), if_pos h]
      · obtain ⟨M3, d1, d2, d3⟩ := R_push b2' (show sH s < 24 by omega) (sN s)
        have h6' : ¬ (x = 104 ∨ x = 107) := fun q => h6 ((inS6 x (by omega)).mpr q)
        refine ⟨M3, ?_, by rw [if_neg h6]; exact d2, d3⟩
        rw [if_neg (fun q => h6' (Or.inl q)), if_neg (fun q => h6' (Or.inr q)), d1]
        rfl
    obtain ⟨M3, k1, k2, k3⟩ := key
    rw [k1]
    unfold rs_K
    rw [r_bit M3 (show x < 123 by omega)]
    show ∃ M', (if bitv x &&& 262402 = 0 then _ else _) = _ ∧ _
    have hk : nmK x = true := by unfold nmK; simp; omega
    by_cases h7 : inS 7 x = true
    · rw [if_neg (fun q => by rw [(bit_7 x (by omega) hk).mp q] at h7; cases h7), if_pos h7]
      have ho := ow_st3 (a := a) w (inS7' x (by omega) h7)
      have hN := st3_N s x a
      obtain ⟨M4, g1, g2, g3⟩ := r_add (o := ow s) (i := sN s) k2 w3 (by rw [hN.1]; have := ow_lt w.1; omega) (by omega) (by rw [hN.2.1]; have := w.2.1.2.2.2; omega)
      rw [g1]
      rw [hN.2.1] at g2
      rw [ho]
      refine ⟨M4, rfl, Or.inl ⟨g2.1.2, pre', g2, ?_⟩, rF_t a3 (rF_t b4 (rF_t k3 g3))⟩
      unfold s_st3
      split <;> exact b3
    · rw [if_pos ((bit_7 x (by omega) hk).mpr (by simpa using h7)), if_neg h7]
      refine ⟨M3, rfl, Or.inl ⟨k2.1.2, pre', k2, ?_⟩, rF_t a3 (rF_t b4 k3)⟩
      unfold s_st3
      split <;> exact b3
  · rw [if_neg (by omega)]
    rw [b1]
    refine ⟨qsI M1 0 4 1, ?_, Or.inr ⟨rfl, g_Ie ⟨rfl, rfl⟩⟩, rF_t a3 fun p j h => g_In (by omega)⟩
    rw [q_clE, if_neg (by rw [g_Ie ⟨rfl, rfl⟩]; decide)]
/-- a new node in the top, opened -/
theorem r_op {M : qM} {s : aT} {pre : List (Nat × Nat)} (r : R M s pre) (w : Wf s) (ht : wT s pre) (x : Nat) (a : Int32) : ∃ M1, f_Md_insideTop (nI (sSf s (sH s - 1))) M = some M1 ∧ R M1 s pre ∧ rF M M1 ∧ ((sN s < 24 ∧ ∃ M2 M3 pre', f_Md_create (nI x) a M1 = some (nI (sN s), M2) ∧ M2.1 0 4 = 0 ∧ f_Md_push (nI (sN s)) M2 = some M3 ∧ R M3 (s_op s x a) pre' ∧ wT (s_op s x a) pre' ∧ rF M1 M3) ∨ (sN s = 24 ∧ f_Md_create (nI x) a M1 = some (0, qsI M1 0 4 1))) := by
  have hh : 1 ≤ sH s ∧ sH s ≤ sN s := w.1.2.2.1
  have h24 := w.1.1.2
  have hb : ∀ k, k < sH s → sSf s k < sN s := w.1.2.2.2.1
  have hk : ∀ q, q < sN s → sN s ∉ sKd s q := fun q hq m => by
    have := W_ks w hq m
    omega
  have htop := hb (sH s - 1) (by omega)
  obtain ⟨A, S, B, e, g1, g2, g3, g4, g5, g6, g7⟩ := pre_leaf ht hk htop
  have hid := wT_id w ht
  have hid' : ∀ q ∈ pre, q.1 < 24 ∧ q.2 < 99 := fun q hq => by have := hid q hq; omega
  have hlen : pre.length = sN s := ht.2.2.2
  have e1 := r_ins r.2.2.1 (by omega) hid' ht.2.1 g1 (fun q hq => Fo_ge g2 q hq) g3
  obtain ⟨r1, f1⟩ := R_pl r (nI (A.length + 1 + S.length)) (nI (e + 1))
  refine ⟨_, e1, r1, f1, ?_⟩
  by_cases hn : sN s < 24
  · left
    have hAl : (A ++ (sSf s (sH s - 1), e) :: S).length = A.length + 1 + S.length := by simp; omega
    obtain ⟨M2, c1, c2, c3, c4⟩ := r_cre (A := A ++ (sSf s (sH s - 1), e) :: S) (B := B) r1.2.1 hn r1.2.2.1 (by omega) (fun q hq => (hid q hq).1) (by rw [g1]; simp) (by rw [g_In (by omega), g_Ie ⟨rfl, rfl⟩, hAl]) (g_Ie ⟨rfl, rfl⟩) x a
    have q : (A ++ (sSf s (sH s - 1), e) :: S) ++ (sN s, e + 1) :: B = A ++ (sSf s (sH s - 1), e) :: (S ++ (sN s, e + 1) :: B) := by simp
    rw [q] at c3
    have r2 : R M2 (s_kd (s_make s x a) (up (up (sKd s) (sN s) []) (sSf s (sH s - 1)) (sKd s (sSf s (sH s - 1)) ++ [sN s]))) (A ++ (sSf s (sH s - 1), e) :: (S ++ (sN s, e + 1) :: B)) := by
      refine ⟨⟨?_, r.1.2⟩, c2, c3, ⟨?_, fun k hk => ?_⟩, ⟨?_, fun k y z hk => ?_⟩, ⟨?_, fun q hq => ?_⟩⟩
      · rw [c4 _ _ (by omega) (by omega) (by omega)]
        exact r1.1.1
      · rw [c4 _ _ (by omega) (by omega) (by omega)]
        exact r1.2.2.2.1.1
      · rw [c4 _ _ (by omega) (by omega) (by omega)]
        exact r1.2.2.2.1.2 k hk
      · rw [c4 _ _ (by omega) (by omega) (by omega)]
        exact r1.2.2.2.2.1.1
      · rw [c4 _ _ (by omega) (by omega) (by omega), c4 _ _ (by omega) (by omega) (by omega)]
        exact r1.2.2.2.2.1.2 k y z hk
      · rw [c4 _ _ (by omega) (by omega) (by omega)]
        exact r1.2.2.2.2.2.1
      · rw [c4 _ _ (by omega) (by omega) (by omega), c4 _ _ (by omega) (by omega) (by omega)]
        exact r1.2.2.2.2.2.2 q hq
    obtain ⟨M3, d1, d2, d3⟩ := R_push r2 (show sH s < 24 by omega) (sN s)
    refine ⟨hn, M2, M3, _, c1, r2.1.1, d1, by unfold s_op; rw [if_pos hn]; exact d2, by unfold s_op; rw [if_pos hn]; exact ⟨g4, g5, g6, g7⟩, rF_t (fun p j h => c4 p j (by omega) (by omega) (by omega)) d3⟩
  · right
    exact ⟨by omega, r_crB r1.2.1 (by omega) _ _⟩
theorem sB_op {s : aT} (h : sB s = true) (x : Nat) (a : Int32) : sB (s_op s x a) = true := by
  unfold s_op
  split
  · exact h
  · rfl
theorem sB_st2 {s : aT} (h : sB s = true) (x : Nat) (a : Int32) : sB (s_st2 s x a) = true := by
  unfold s_st2
  by_cases h1 : sN s < 24
  · rw [if_pos h1]
    by_cases h2 : inS 7 x = true
    · rw [if_pos h2]
      by_cases h3 : inS 6 x = true
      · rw [if_pos h3]; exact h
      · rw [if_neg h3]; exact h
    · rw [if_neg h2]
      by_cases h3 : inS 6 x = true
      · rw [if_pos h3]; exact h
      · rw [if_neg h3]; exact h
  · rw [if_neg h1]
    rfl
