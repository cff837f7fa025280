/-! the reference's side: a new node, elements renewed -/
theorem wT_id {s : aT} (w : Wf s) {pre : List (Nat × Nat)} (ht : wT s pre) : ∀ q ∈ pre, q.1 < sN s ∧ q.2 < 24 := fun q hq => by
  obtain ⟨t1, t2, t3, t4⟩ := ht
  have h24 := w.1.1.2
  refine ⟨(t3 q.1).mp (fI_mem.mpr ⟨q.2, hq⟩), ?_⟩
  obtain ⟨k, hk⟩ := List.getElem?_of_mem hq
  have h1 := Fo_idx t1 k q hk
  have h2 := (List.getElem?_eq_some_iff.mp hk).1
  omega
theorem new_pre {s : aT} (w : Wf s) {pre : List (Nat × Nat)} (ht : wT s pre) (x : Nat) (a : Int32) : ∃ A B d, plc s (sH s) pre A B d ∧ d < 99 ∧ wT (s_new s x a) (A ++ (sN s, d) :: B) := by
  have hb : ∀ k, k < sH s → sSf s k < sN s := w.1.2.2.2.1
  have hh : 1 ≤ sH s ∧ sH s ≤ sN s := w.1.2.2.1
  have h24 := w.1.1.2
  have hk : ∀ q, q < sN s → sN s ∉ sKd s q := fun q hq m => by
    have := W_ks w hq m
    omega
  have ep : plT (sNm (s_make s x a)) (sSf (s_make s x a)) (sH s) = plT (sNm s) (sSf s) (sH s) := plT_congr hh.1 fun k hk => up_lt (hb k hk)
  have ekd : sKd (s_new s x a) = (match plT (sNm s) (sSf s) (sH s) with
    | some j => fun q => insB (sN s) (sSf s j) (up (sKd s) (sN s) [] q)
    | none => up (up (sKd s) (sN s) []) (sSf s (sH s - 1)) (up (sKd s) (sN s) [] (sSf s (sH s - 1)) ++ [sN s])) := by
    show (match plT (sNm (s_make s x a)) (sSf (s_make s x a)) (sH s) with
      | some j => fun q => insB (sN s) (sSf s j) (up (sKd s) (sN s) [] q)
      | none => up (up (sKd s) (sN s) []) (sSf s (sH s - 1)) (up (sKd s) (sN s) [] (sSf s (sH s - 1)) ++ [sN s])) = _
    rw [ep]
  unfold wT
  rw [ekd]
  cases hp : plT (sNm s) (sSf s) (sH s) with
  | none =>
    have htop := hb (sH s - 1) (by omega)
    obtain ⟨A, S, B, e, g1, g2, g3, g4, g5, g6, g7⟩ := pre_leaf ht hk htop
    have he : e < 24 := (wT_id w ht (sSf s (sH s - 1), e) (by rw [g1]; simp)).2
    refine ⟨A ++ (sSf s (sH s - 1), e) :: S, B, e + 1, ⟨by rw [g1]; simp, Or.inl ⟨hp, A, S, e, rfl, fun q hq => Fo_ge g2 q hq, g3, rfl⟩⟩, ?_, ?_⟩
    · omega
    · have q : (A ++ (sSf s (sH s - 1), e) :: S) ++ (sN s, e + 1) :: B = A ++ (sSf s (sH s - 1), e) :: (S ++ (sN s, e + 1) :: B) := by simp
      rw [q]
      refine ⟨?_, g5, g6, g7⟩
      show Fo (up (up (sKd s) (sN s) []) (sSf s (sH s - 1)) (up (sKd s) (sN s) [] (sSf s (sH s - 1)) ++ [sN s])) 0 [0] _
      rw [up_lt htop]
      exact g4
  | some j =>
    have h2 := plT_lt hp
    have h3 := hb j h2.1
    have h0 : sSf s j ≠ 0 := fun e => by
      rw [e, w.2.2.2.1.1] at h2
      omega
    obtain ⟨p, K1, K2, q1, q2, q3⟩ := W_par w h3 h0
    obtain ⟨A, B, e, g1, g2, g4, g5, g6, g7⟩ := pre_leafT ht hk q1 q3
    have he : e < 24 := (wT_id w ht (sSf s j, e) (by rw [g1]; simp)).2
    refine ⟨A, (sSf s j, e) :: B, e, ⟨g1, Or.inr ⟨j, B, hp, rfl⟩⟩, by omega, ?_, g5, g6, g7⟩
    have hdd := List.nodup_append.mp (q3 ▸ W_nd w q1)
    refine Fo_congr g4 fun i hi => ?_
    have hi' := (g6 i).mp hi
    show insB (sN s) (sSf s j) (up (sKd s) (sN s) [] i) = _
    by_cases q : i = sN s
    · rw [q, up_e, up_n (by omega), up_e]
      rfl
    · by_cases e : i = p
      · rw [e, up_e, up_lt q1, q3, insB_y (fun m => hdd.2.2 _ m _ (by simp) rfl) (List.nodup_cons.mp hdd.2.1).1]
      · rw [up_n e, up_n q, insB_n]
        intro m
        obtain ⟨t1, t2, t3, _⟩ := ht
        exact e (Fo_one t1 t2 ((t3 i).mpr (by omega)) ((t3 p).mpr q1) m (by rw [q3]; simp))
/-- the parts of the relation that writing the place leaves alone -/
theorem R_pl {M : qM} {s : aT} {pre : List (Nat × Nat)} (r : R M s pre) (u v : Int32) : R (qsI (qsI M 0 20 u) 0 21 v) s pre ∧ rF M (qsI (qsI M 0 20 u) 0 21 v) := by
  have k : ∀ p j, ¬ (p = 0 ∧ (j = 20 ∨ j = 21)) → (qsI (qsI M 0 20 u) 0 21 v).1 p j = M.1 p j := fun p j h => by
    rw [g_In (by omega), g_In (by omega)]
  obtain ⟨⟨a1, a2⟩, b, c, d, e, f⟩ := r
  refine ⟨⟨⟨by rw [k _ _ (by omega)]; exact a1, a2⟩, ⟨by rw [k _ _ (by omega)]; exact b.1, fun i hi => ?_⟩, ⟨by rw [k _ _ (by omega)]; exact c.1, fun i x y hi => ?_⟩, ⟨by rw [k _ _ (by omega)]; exact d.1, fun i hi => ?_⟩, ⟨by rw [k _ _ (by omega)]; exact e.1, fun i x y hi => ?_⟩, ⟨by rw [k _ _ (by omega)]; exact f.1, fun i hi => ?_⟩⟩, fun p j h => k p j (by omega)⟩
  · rw [k _ _ (by omega), k _ _ (by omega)]
    exact b.2 i hi
  · rw [k _ _ (by omega), k _ _ (by omega)]
    exact c.2 i x y hi
  · rw [k _ _ (by omega)]
    exact d.2 i hi
  · rw [k _ _ (by omega), k _ _ (by omega)]
    exact e.2 i x y hi
  · rw [k _ _ (by omega), k _ _ (by omega)]
    exact f.2 i hi
/-- what a call leaves: the state, or a broken page -/
def RO (M M' : qM) (s : aT) : Prop := ((sB s = false ∧ ∃ pre, R M' s pre ∧ wT s pre) ∨ (sB s = true ∧ M'.1 0 4 = 1)) ∧ rF M M'
theorem r_newT {M : qM} {s : aT} {pre : List (Nat × Nat)} (r : R M s pre) (w : Wf s) (ht : wT s pre) (x : Nat) (a : Int32) : ∃ M1, f_Md_findPlace (nI (sH s)) M = some M1 ∧ R M1 s pre ∧ rF M M1 ∧ ((sN s < 24 ∧ ∃ M2 pre', f_Md_create (nI x) a M1 = some (nI (sN s), M2) ∧ R M2 (s_new s x a) pre' ∧ wT (s_new s x a) pre' ∧ rF M1 M2) ∨ (sN s = 24 ∧ f_Md_create (nI x) a M1 = some (0, qsI M1 0 4 1))) := by
  have hh : 1 ≤ sH s ∧ sH s ≤ sN s := w.1.2.2.1
  have h24 := w.1.1.2
  obtain ⟨A, B, d, hp, hd, ht'⟩ := new_pre w ht x a
  have hid := wT_id w ht
  have hid' : ∀ q ∈ pre, q.1 < 24 ∧ q.2 < 99 := fun q hq => by have := hid q hq; omega
  have hlen : pre.length = sN s := ht.2.2.2
  have e1 := r_fp w r.2.1 r.2.2.2.1 hh.1 (Nat.le_refl _) r.2.2.1 (by omega) hid' ht.2.1 hp
  obtain ⟨r1, f1⟩ := R_pl r (nI A.length) (nI d)
  refine ⟨_, e1, r1, f1, ?_⟩
  by_cases hn : sN s < 24
  · left
    obtain ⟨M2, c1, c2, c3, c4⟩ := r_cre r1.2.1 hn r1.2.2.1 (by omega) (fun q hq => (hid q hq).1) hp.1 (by rw [g_In (by omega), g_Ie ⟨rfl, rfl⟩]) (g_Ie ⟨rfl, rfl⟩) x a
    refine ⟨hn, M2, A ++ (sN s, d) :: B, c1, ⟨⟨?_, r.1.2⟩, c2, c3, ⟨?_, fun k hk => ?_⟩, ⟨?_, fun k y z hk => ?_⟩, ⟨?_, fun q hq => ?_⟩⟩, ht', fun p j h => c4 p j (by omega) (by omega) (by omega)⟩
    · rw [c4 _ _ (by omega) (by omega) (by omega)]
      exact r1.1.1
    · rw [c4 _ _ (by omega) (by omega) (by omega)]
      exact r1.2.2.2.1.1
    · rw [c4 _ _ (by omega) (by omega) (by omega)]
      exact r1.2.2.2.1.2 k hk
    · rw [c4 _ _ (by omega) (by omega) (by omega)]
      exact r1.2.2.2.2.1.1
    · rw [c4 _ _ (by omega) (by omega) (by omega), c4 _ _ (by omega) (by omega) (by omega)]
      exact r1.2.2.2.2.1.2 k y z hk
    · rw [c4 _ _ (by omega) (by omega) (by omega)]
      exact r1.2.2.2.2.2.1
    · rw [c4 _ _ (by omega) (by omega) (by omega), c4 _ _ (by omega) (by omega) (by omega)]
      exact r1.2.2.2.2.2.2 q hq
  · right
    exact ⟨by omega, r_crB r1.2.1 (by omega) _ _⟩
/-- the stack with one more -/
theorem R_push {M : qM} {s : aT} {pre : List (Nat × Nat)} (r : R M s pre) (hh : sH s < 24) (i : Nat) : ∃ M', f_Md_push (nI i) M = some M' ∧ R M' (s_push s i) pre ∧ rF M M' := by
  have k : ∀ p j, ¬ (p = 0 ∧ j = 13) → ¬ (p = 8 ∧ j = sH s) → (qsI (qsI M 8 (sH s) (nI i)) 0 13 (nI (sH s + 1))).1 p j = M.1 p j := fun p j h1 h2 => by
    rw [g_In h1, g_In h2]
  obtain ⟨⟨a1, a2⟩, b, c, d, e, f⟩ := r
  refine ⟨_, r_push d hh a1 i, ⟨⟨by rw [k _ _ (by omega) (by omega)]; exact a1, a2⟩, ⟨by rw [k _ _ (by omega) (by omega)]; exact b.1, fun i hi => ?_⟩, ⟨by rw [k _ _ (by omega) (by omega)]; exact c.1, fun i x y hi => ?_⟩, ⟨g_Ie ⟨rfl, rfl⟩, fun j hj => ?_⟩, ⟨by rw [k _ _ (by omega) (by omega)]; exact e.1, fun i x y hi => ?_⟩, ⟨by rw [k _ _ (by omega) (by omega)]; exact f.1, fun i hi => ?_⟩⟩, fun p j h => k p j (by omega) (by omega)⟩
  · rw [k _ _ (by omega) (by omega), k _ _ (by omega) (by omega)]
    exact b.2 i hi
  · rw [k _ _ (by omega) (by omega), k _ _ (by omega) (by omega)]
    exact c.2 i x y hi
  · have hj' : j < sH s + 1 := hj
    show _ = nI (up (sSf s) (sH s) i j)
    by_cases q : j = sH s
    · rw [q, up_e, g_In (by omega), g_Ie ⟨rfl, rfl⟩]
    · rw [up_n q, k _ _ (by omega) (by omega)]
      exact d.2 j (by omega)
  · rw [k _ _ (by omega) (by omega), k _ _ (by omega) (by omega)]
    exact e.2 i x y hi
  · rw [k _ _ (by omega) (by omega), k _ _ (by omega) (by omega)]
    exact f.2 i hi
theorem rEn_s {M : qM} {X Y : List (Nat × Nat)} {e o n : Nat} {M' : qM} (h : rEn M (X ++ (e, o) :: Y)) (e1 : M'.1 0 16 = M.1 0 16) (e2 : M'.1 9 X.length = nI n) (e3 : ∀ k, k ≠ X.length → M'.1 9 k = M.1 9 k) (e4 : ∀ k, M'.1 10 k = M.1 10 k) : rEn M' (X ++ (n, o) :: Y) := by
  refine ⟨by rw [e1, h.1]; simp, fun k a b hk => ?_⟩
  by_cases q : k = X.length
  · subst q
    have hk' : n = a ∧ o = b := by simpa using hk
    rw [e2, e4, (h.2 X.length e o (by simp)).2, hk'.1, hk'.2]
    exact ⟨rfl, rfl⟩
  · rw [e3 k q, e4]
    refine h.2 k a b ?_
    rw [List.getElem?_append] at hk ⊢
    split at hk
    · rename_i hlt
      rw [if_pos hlt]
      exact hk
    · rename_i hge
      rw [if_neg hge]
      obtain ⟨j, hj⟩ : ∃ j, k - X.length = j + 1 := ⟨k - X.length - 1, by omega⟩
      rw [hj] at hk ⊢
      exact hk
theorem sB_ren : ∀ (es : List Nat) (s : aT), sB s = true → sB (renL es s) = true
  | [], _, h => h
  | e :: es, s, h => by
    unfold renL
    split
    · exact sB_ren es _ h
    · rfl
theorem r_ren52 {o : Nat} : ∀ (Z X : List (Nat × Nat)) (s : aT) (M : qM) (pre : List (Nat × Nat)) (f : Nat), R M s pre → Wf s → wT s pre → o < 24 → sEn s = X ++ Z → Z.length < f → ∃ M', f_Md_renew_52 (nI o) f (fun (M29 : qM) => some M29) (nI X.length) M = some M' ∧ RO M M' (renL (flO Z o) s) := by
  intro Z
  induction Z with
  | nil =>
    intro X s M pre f r w ht ho hE hf
    obtain ⟨f, rfl⟩ : ∃ g, f = g + 1 := ⟨f - 1, by simp at hf; omega⟩
    have hl := w.2.1.2.2.2
    have h24 := w.1.1.2
    rw [List.append_nil] at hE
    refine ⟨M, ?_, Or.inl ⟨r.1.2, pre, r, ht⟩, rF_r M⟩
    rw [f_Md_renew_52, r.2.2.2.2.1.1, hE, i_le (by rw [← hE]; omega) (by rw [← hE]; omega), if_pos (Nat.le_refl _)]
  | cons q Z ih =>
    intro X s M pre f r w ht ho hE hf
    obtain ⟨e, o'⟩ := q
    obtain ⟨f, rfl⟩ : ∃ g, f = g + 1 := ⟨f - 1, by simp at hf; omega⟩
    have hl := w.2.1.2.2.2
    have h24 := w.1.1.2
    have hll : (sEn s).length = X.length + 1 + Z.length := by rw [hE]; simp; omega
    have hm : (e, o') ∈ sEn s := by rw [hE]; simp
    have hb := w.2.1.1 _ hm
    have hb1 : e < sN s := hb.1
    have hb2 : o' < sN s := hb.2
    have re := r.2.2.2.2.1.2 X.length e o' (by rw [hE]; simp)
    rw [f_Md_renew_52, r.2.2.2.2.1.1, i_le (by omega) (by omega), if_neg (by omega), if_pos r.1.1, g_ix (by omega) (by omega), g_cl (by omega), re.2, i_eq (by omega) (by omega)]
    by_cases q : o' = o
    · subst q
      rw [if_pos rfl, flO_e]
      unfold renL
      obtain ⟨M1, a1, a2, a3, a4⟩ := r_newT r w ht (sNm s e) (sCs s e)
      have re1 := a2.2.2.2.2.1.2 X.length e o' (by rw [hE]; simp)
      have rn1 := a2.2.1.2 e hb1
      rw [r.2.2.2.1.1, a1]
      simp only [q_cv]
      rw [g_ix (by omega) (by omega), re1.1, g_ix (by omega) (by omega), g_ix (by omega) (by omega), g_ix (by omega) (by omega), g_cl (by omega), rn1.1, rn1.2]
      rcases a4 with ⟨hn, M2, pre', b1, b2', b3, b4⟩ | ⟨hn, b1⟩
      · rw [if_pos hn, b1]
        simp only [q_cl]
        have hh : 1 ≤ sH s ∧ sH s ≤ sN s := w.1.2.2.1
        obtain ⟨M3, d1, d2, d3⟩ := R_push b2' (show sH s < 24 by omega) (sN s)
        rw [d1]
        simp only [q_cv, q_lt]
        rw [g_ix (by omega) (by omega), g_inc]
        have hR := enR_s (n := sN s) hE w.2.1.2.2.1
        have r4 : R (qsI M3 9 X.length (nI (sN s))) (s_rn s e) pre' := by
          have k : ∀ p j, ¬ (p = 9 ∧ j = X.length) → (qsI M3 9 X.length (nI (sN s))).1 p j = M3.1 p j := fun p j h => g_In h
          obtain ⟨⟨x1, x2⟩, xb, xc, xd, xe, xf⟩ := d2
          refine ⟨⟨by rw [k _ _ (by omega)]; exact x1, x2⟩, ⟨by rw [k _ _ (by omega)]; exact xb.1, fun i hi => ?_⟩, ⟨by rw [k _ _ (by omega)]; exact xc.1, fun i x y hi => ?_⟩, ⟨by rw [k _ _ (by omega)]; exact xd.1, fun i hi => ?_⟩, ?_, ⟨by rw [k _ _ (by omega)]; exact xf.1, fun i hi => ?_⟩⟩
          · rw [k _ _ (by omega), k _ _ (by omega)]
            exact xb.2 i hi
          · rw [k _ _ (by omega), k _ _ (by omega)]
            exact xc.2 i x y hi
          · rw [k _ _ (by omega)]
            exact xd.2 i hi
          · show rEn _ (enR (sEn s) e (sN s))
            rw [hR]
            have xe' : rEn M3 (X ++ (e, o') :: Z) := by
              rw [← hE]
              exact xe
            exact rEn_s xe' (k _ _ (by omega)) (g_Ie ⟨rfl, rfl⟩) (fun j hj => k _ _ (by omega)) fun j => k _ _ (by omega)
          · rw [k _ _ (by omega), k _ _ (by omega)]
            exact xf.2 i hi
        obtain ⟨M', g1, g2, g3⟩ := ih (X ++ [(sN s, o')]) (s_rn s e) (qsI M3 9 X.length (nI (sN s))) pre' f r4 (W_rn w hn hm) b3 ho (by show enR (sEn s) e (sN s) = _; rw [hR]; simp) (by simp at hf; omega)
        refine ⟨M', ?_, g2, rF_t a3 (rF_t b4 (rF_t d3 (rF_t (fun p j h => g_In (by omega)) g3)))⟩
        have : X.length + 1 = (X ++ [(sN s, o')]).length := by simp
        rw [this]
        exact g1
      · rw [if_neg (by omega), b1]
        simp only [q_cl]
        have hp : f_Md_push 0 (qsI M1 0 4 1) = some (qsI M1 0 4 1) := by
          unfold f_Md_push
          rw [g_Ie ⟨rfl, rfl⟩, if_neg (by decide)]
        rw [hp]
        simp only [q_cv, q_lt]
        rw [g_ix (by omega) (by omega), g_inc]
        obtain ⟨f, rfl⟩ : ∃ g, f = g + 1 := ⟨f - 1, by simp at hf; omega⟩
        refine ⟨qsI (qsI M1 0 4 1) 9 X.length 0, ?_, Or.inr ⟨rfl, ?_⟩, rF_t a3 fun p j h => ?_⟩
        · rw [f_Md_renew_52]
          have h16 : (qsI (qsI M1 0 4 1) 9 X.length 0).1 0 16 = nI (sEn s).length := by
            rw [g_In (by omega), g_In (by omega)]
            exact a2.2.2.2.2.1.1
          have h4 : (qsI (qsI M1 0 4 1) 9 X.length 0).1 0 4 = 1 := by rw [g_In (by omega), g_Ie ⟨rfl, rfl⟩]
          rw [h4, if_neg (show ¬ (1 : Int32) = 0 by decide), ite_self]
        · rw [g_In (by omega), g_Ie ⟨rfl, rfl⟩]
        · rw [g_In (by omega), g_In (by omega)]
    · rw [if_neg q, g_inc, flO_n (fun h => q h.symm)]
      have := ih (X ++ [(e, o')]) s M pre f r w ht ho (by rw [hE]; simp) (by simp at hf; omega)
      rw [show (X ++ [(e, o')]).length = X.length + 1 by simp] at this
      exact this
