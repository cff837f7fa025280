/-! the reference's side: end tags -/
theorem R_RO {M M' : qM} {s : aT} {pre : List (Nat × Nat)} (r : R M' s pre) (ht : wT s pre) (f : rF M M') : RO M M' s := ⟨Or.inl ⟨r.1.2, pre, r, ht⟩, f⟩
theorem r_hcl {M : qM} {s : aT} {pre : List (Nat × Nat)} (r : R M s pre) (w : Wf s) (ht : wT s pre) {mask : Int32} {y z : Nat} (hb : ∀ x, x < 123 → nmK x = true → (bitv x &&& mask = 0 ↔ inS z x = false)) (h0 : 97 ≤ y) (hy : y < 200) : ∃ M', (q_bp (f_Md_reach (nI y) mask M) fun x2 => if x2 = 0 then (some M) else (q_bp (f_Md_topmost (nI y) M) fun x4 => q_lt (qsI M 0 13 x4) fun M5 => some M5)) = some M' ∧ RO M M' (s_clR s y z) := by
  obtain ⟨M', a1, a2, a3⟩ := r_clR r w hb h0 hy
  exact ⟨M', a1 (fun M => some M), R_RO a2 (ht_clR ht) a3⟩
def eo_R (a1 : Int32) (M : qM) : Int32 → Option qM := fun x13 => if 0 ≤ x13 then (q_ix x13 40 <| q_bp (f_Md_opened (M.1 9 x13.toNatClampNeg) M) fun x16 => if 0 ≤ x16 then (q_bp (f_Md_above x16 524288 M) fun x18 => if x18 = 0 then (q_ix x13 40 <| q_cv (f_Md_dropEntry x13 M) fun M21 => q_bp (f_Md_above x16 1607816 M21) fun x22 => if x22 = 0 then (q_lt (qsI M21 0 13 x16) fun M24 => some M24) else (q_cv (f_Md_adopt x16 (M.1 9 x13.toNatClampNeg) M21) fun M25 => some M25)) else (some M)) else (q_cv (f_Md_dropEntry x13 M) fun M26 => some M26)) else (q_bp (f_Md_reach a1 1738892 M) fun x27 => if x27 = 0 then (some M) else (q_bp (f_Md_topmost a1 M) fun x29 => q_lt (qsI M 0 13 x29) fun M30 => some M30))
theorem eo_Req (a1 : Int32) (M : qM) : f_Md_endOther a1 M = q_bp (f_Md_listOwner M) fun x1 => f_Md_endOther_10 M a1 x1 1000 (eo_R a1 M) (-1) 0 := rfl
theorem r_eo10 {M : qM} {s : aT} {pre : List (Nat × Nat)} (r : R M s pre) (w : Wf s) {o x : Nat} (ho : o < 24) (hx : x < 123) (hk : nmK x = true) (h7 : inS 7 x = true) : ∀ m k f K, k + m = (sEn s).length → m < f → f_Md_endOther_10 M (nI x) (nI o) f K (eI (lastI (fun k => ((sEn s).getD k (0, 0)).2 == o && sNm s ((sEn s).getD k (0, 0)).1 == x) k)) (nI k) = K (eI (lastI (fun k => ((sEn s).getD k (0, 0)).2 == o && sNm s ((sEn s).getD k (0, 0)).1 == x) (sEn s).length)) := by
  have hl := w.2.1.2.2.2
  have h24 := w.1.1.2
  intro m
  induction m with
  | zero =>
    intro k f K hk hf
    obtain ⟨f, rfl⟩ : ∃ g, f = g + 1 := ⟨f - 1, by omega⟩
    have : k = (sEn s).length := by omega
    subst this
    rw [f_Md_endOther_10, r.2.2.2.2.1.1, i_le (by omega) (by omega), if_pos (Nat.le_refl _)]
  | succ m ih =>
    intro k f K hkm hf
    obtain ⟨f, rfl⟩ : ∃ g, f = g + 1 := ⟨f - 1, by omega⟩
    have hk2 : k < (sEn s).length := by omega
    have e0 : (sEn s)[k]? = some (sEn s)[k] := List.getElem?_eq_getElem hk2
    have e1 := r.2.2.2.2.1.2 k (sEn s)[k].1 (sEn s)[k].2 e0
    have hb := w.2.1.1 _ (List.getElem_mem hk2)
    have en := (r.2.1.2 _ hb.1).1
    have hnm := w.1.2.1 _ hb.1
    have := ih (k + 1) f K (by omega) (by omega)
    rw [f_Md_endOther_10, r.2.2.2.2.1.1, i_le (by omega) (by omega), if_neg (by omega), r_bit M hx, q_bpE, if_neg (fun q => by rw [(bit_7 x hx hk).mp q] at h7; cases h7), g_ix (by omega) (by omega), g_cl (by omega), e1.1, e1.2, i_eq (by omega) (by omega)]
    by_cases q : (sEn s)[k].2 = o
    · rw [if_pos q, g_ix (by omega) (by omega), g_ix (by omega) (by omega), g_cl (by omega), en, i_eq (by omega) (by omega)]
      by_cases q2 : sNm s (sEn s)[k].1 = x
      · rw [lastI, if_pos (by rw [getD_s e0]; simp [q, q2])] at this
        rw [if_pos q2, g_inc]
        exact this
      · rw [lastI, if_neg (by rw [getD_s e0]; simp [q2])] at this
        rw [if_neg q2, g_inc]
        exact this
    · rw [lastI, if_neg (by rw [getD_s e0]; simp [q])] at this
      rw [if_neg q, g_inc]
      exact this
theorem r_eo {M : qM} {s : aT} {pre : List (Nat × Nat)} (r : R M s pre) (w : Wf s) (ht : wT s pre) {x : Nat} (h1 : 97 ≤ x) (h2 : x ≤ 122) : ∃ M', f_Md_endOther (nI x) M = some M' ∧ RO M M' (s_eo s x) := by
  have hl := w.2.1.2.2.2
  have h24 := w.1.1.2
  have hh : 1 ≤ sH s ∧ sH s ≤ sN s := w.1.2.2.1
  have ho := ow_lt w.1
  have hk : nmK x = true := by unfold nmK; simp; omega
  have no : s_ent s x = none → ∃ M', eo_R (nI x) M (-1) = some M' ∧ RO M M' (s_eo s x) := fun he => by
    obtain ⟨M', a1, a2⟩ := r_hcl r w ht (y := x) (z := 8) bit_8 h1 (by omega)
    refine ⟨M', ?_, by unfold s_eo; rw [he]; exact a2⟩
    unfold eo_R
    rw [if_neg (by decide)]
    exact a1
  rw [eo_Req, r_own w r.2.1 r.2.2.2.1, q_bpE]
  by_cases h7 : inS 7 x = true
  · have h10 := r_eo10 r w (o := ow s) (x := x) (by omega) (by omega) hk h7 (sEn s).length 0 1000 (eo_R (nI x) M) (by omega) (by omega)
    have h10' : f_Md_endOther_10 M (nI x) (nI (ow s)) 1000 (eo_R (nI x) M) (-1) 0 = _ := h10
    rw [h10']
    rcases ent_last (en := sEn s) (o := ow s) (Q := fun e => sNm s e == x) with ⟨e1, e2⟩ | ⟨X, E, Y, hX, hQ, e1, e2⟩
    · rw [e1]
      refine no ?_
      unfold s_ent
      rw [if_pos h7]
      exact e2
    · rw [e1]
      have he : s_ent s x = some (flO X (ow s)).length := by
        unfold s_ent
        rw [if_pos h7]
        exact e2
      have hgE : (flO (sEn s) (ow s)).getD (flO X (ow s)).length 0 = E := by
        rw [hX, flO_app, flO_e, List.getD_eq_getElem?_getD]
        simp
      have hXl : X.length < (sEn s).length := by rw [hX]; simp
      have hm : (E, ow s) ∈ sEn s := by rw [hX]; simp
      have hE : E < sN s := (w.2.1.1 _ hm).1
      have hEx : sNm s E = x := by simpa using hQ
      have r9 := (r.2.2.2.2.1.2 X.length E (ow s) (by rw [hX]; simp)).1
      have eop := r_opn w r.2.2.2.1 (i := E) (by omega)
      obtain ⟨M1, d1, d2, d3⟩ := r_de (X := X) (Y := Y) (q := (E, ow s)) (by rw [← hX]; exact r.2.2.2.2.1) (by rw [← hX]; omega)
      have hD := enD_s hX w.2.1.2.2.1
      rw [← hD] at d2
      obtain ⟨r1, f1⟩ := R_en r d2 d3
      have wD := W_enD w E
      unfold eo_R s_eo
      rw [he, eI_s, i_p0 (by omega), g_ix (by omega) (by omega), g_cl (by omega), r9, eop, q_bpE]
      show ∃ M', _ ∧ RO M M' (match lastI (fun k => sSf s k == (flO (sEn s) (ow s)).getD (flO X (ow s)).length 0) (sH s) with
        | none => s_en s (enD (sEn s) ((flO (sEn s) (ow s)).getD (flO X (ow s)).length 0))
        | some k => match fstI (fun j => inS 2 (sNm s (sSf s j))) (sH s - (k + 1)) (k + 1) with
          | some _ => s
          | none => s_eo2 s ((flO (sEn s) (ow s)).getD (flO X (ow s)).length 0) k)
      rw [hgE]
      cases hkk : lastI (fun k => sSf s k == E) (sH s) with
      | none =>
        refine ⟨M1, ?_, R_RO r1 ht f1⟩
        rw [if_neg (by decide), d1]
        rfl
      | some k =>
        have hkl := lastI_lt hkk
        have hkE : sSf s k = E := by simpa using hkl.2
        have hk1 : 1 ≤ k := W_ix w (y := x) h1 hkl.1 (by rw [hkE]; exact hEx)
        rw [eI_s, i_p0 (by omega), r_abv w r.2.1 r.2.2.2.1 bit_2 hkl.1, q_bpE, i_b2]
        show ∃ M', _ ∧ RO M M' (match fstI (fun j => inS 2 (sNm s (sSf s j))) (sH s - (k + 1)) (k + 1) with
          | some _ => s
          | none => s_eo2 s E k)
        cases hft : fstI (fun j => inS 2 (sNm s (sSf s j))) (sH s - (k + 1)) (k + 1) with
        | some t =>
          rw [if_neg (by simp)]
          exact ⟨M, rfl, R_RO r ht (rF_r M)⟩
        | none =>
          rw [if_pos (show (none : Option Nat).isSome = false from rfl), g_ix (by omega) (by omega), d1, q_cvE, r_abv wD r1.2.1 r1.2.2.2.1 bit_3 hkl.1, q_bpE, i_b2]
          show ∃ M', (if (fstI (fun j => inS 3 (sNm s (sSf s j))) (sH s - (k + 1)) (k + 1)).isSome = false then _ else _) = _ ∧ RO M M' (s_eo2 s E k)
          unfold s_eo2
          cases hfb : fstI (fun j => inS 3 (sNm s (sSf s j))) (sH s - (k + 1)) (k + 1) with
          | none =>
            rw [if_pos (show (none : Option Nat).isSome = false from rfl), q_ltE]
            obtain ⟨r2, f2⟩ := R_h r1 (k := k) (Nat.le_of_lt hkl.1)
            exact ⟨_, rfl, R_RO r2 ht (rF_t f1 f2)⟩
          | some b =>
            have hb3 := fstI_lt hfb
            rw [if_neg (by simp)]
            obtain ⟨M2, a1, a2, a3⟩ := r_adp r1 wD ht hk1 (show k < b by omega) (show b < sH s by omega) hfb
            have a1' : f_Md_adopt (nI k) (nI E) M1 = some M2 := by
              rw [← hkE]
              exact a1
            rw [a1']
            exact ⟨M2, rfl, a2, rF_t f1 a3⟩
  · have hs : s_ent s x = none := by unfold s_ent; rw [if_neg h7]
    have h10 : f_Md_endOther_10 M (nI x) (nI (ow s)) (999 + 1) (eo_R (nI x) M) (-1) 0 = eo_R (nI x) M (-1) := by
      rw [f_Md_endOther_10, r_bit M (show x < 123 by omega), q_bpE, if_pos ((bit_7 x (by omega) hk).mpr (by simpa using h7)), ite_self]
    rw [show (1000 : Nat) = 999 + 1 from rfl, h10]
    exact no hs
theorem r_end {M : qM} {s : aT} {pre : List (Nat × Nat)} (r : R M s pre) (w : Wf s) (ht : wT s pre) {x : Nat} (h1 : 97 ≤ x) (h2 : x ≤ 122) : ∃ M', f_Md_end (nI x) M = some M' ∧ RO M M' (s_end s x) := by
  have hh : 1 ≤ sH s ∧ sH s ≤ sN s := w.1.2.2.1
  have h24 := w.1.1.2
  have e116 : f_Md_topmost 116 M = some (eI (s_tm s 116)) := r_tm w r.2.1 r.2.2.2.1 (a := 116) (by omega) (by omega)
  have e114 : f_Md_topmost 114 M = some (eI (s_tm s 114)) := r_tm w r.2.1 r.2.2.2.1 (a := 114) (by omega) (by omega)
  have ne : ∀ {y : Nat}, y < 200 → x ≠ y → ¬ nI x = nI y := fun {y} hy h => by rw [g_eq (by omega) (by omega)]; exact h
  unfold f_Md_end s_end
  rw [show (112 : Int32) = nI 112 from rfl, show (100 : Int32) = nI 100 from rfl, show (117 : Int32) = nI 117 from rfl, show (108 : Int32) = nI 108 from rfl, show (116 : Int32) = nI 116 from rfl, show (114 : Int32) = nI 114 from rfl, show (99 : Int32) = nI 99 from rfl, show (104 : Int32) = nI 104 from rfl, show (107 : Int32) = nI 107 from rfl]
  by_cases c1 : x = 112
  · subst c1
    rw [if_pos rfl, if_pos rfl]
    unfold s_ep
    rcases r_rch w r.2.1 r.2.2.2.1 (a := 112) (z := 4) bit_4 (by omega) (by omega) with ⟨e1, k, e2, e3⟩ | ⟨e1, e2⟩
    · have hk := s_tm_lt e3
      obtain ⟨a1, a2⟩ := R_h r (Nat.le_of_lt hk.1)
      rw [e1, q_bpE, if_neg (by decide), r_tm w r.2.1 r.2.2.2.1 (by omega) (by omega), e3, q_bpE, eI_s, q_ltE, e2]
      exact ⟨_, rfl, R_RO a1 ht a2⟩
    · rw [e1, q_bpE, if_pos rfl, e2]
      obtain ⟨M1, a1, a2, a3, a4⟩ := r_newT r w ht 112 0
      rw [r.2.2.2.1.1, a1, q_cvE]
      show ∃ M', _ ∧ RO M M' (s_newB s 112 0)
      unfold s_newB
      rcases a4 with ⟨hn, M2, pre', b1, b2', b3, b4⟩ | ⟨hn, b1⟩
      · rw [b1, q_clE, if_pos hn, show (0 : Int32) = nI 0 from rfl, g_ix (by omega) (by omega), g_cl (by omega), q_ltE]
        have k : ∀ p j, p ≠ 7 → (qsI M2 7 0 (nI (sN s))).1 p j = M2.1 p j := fun p j h => g_In (by omega)
        obtain ⟨⟨x1, x2⟩, xb, xc, xd, xe, xf⟩ := b2'
        refine ⟨_, rfl, R_RO (pre := pre') ⟨⟨by rw [k _ _ (by omega)]; exact x1, x2⟩, ⟨by rw [k _ _ (by omega)]; exact xb.1, fun i hi => ?_⟩, ⟨by rw [k _ _ (by omega)]; exact xc.1, fun i x y hi => ?_⟩, ⟨by rw [k _ _ (by omega)]; exact xd.1, fun i hi => ?_⟩, ⟨by rw [k _ _ (by omega)]; exact xe.1, fun i x y hi => ?_⟩, ⟨by rw [k _ _ (by omega)]; exact xf.1, fun i hi => ?_⟩⟩ b3 (rF_t a3 (rF_t b4 fun p j h => k p j (by omega)))⟩
        · rw [k _ _ (by omega), k _ _ (by omega)]
          exact xb.2 i hi
        · rw [k _ _ (by omega), k _ _ (by omega)]
          exact xc.2 i x y hi
        · rw [k _ _ (by omega)]
          exact xd.2 i hi
        · rw [k _ _ (by omega), k _ _ (by omega)]
          exact xe.2 i x y hi
        · rw [k _ _ (by omega), k _ _ (by omega)]
          exact xf.2 i hi
      · rw [b1, q_clE, if_neg (by omega), show (0 : Int32) = nI 0 from rfl, g_ix (by omega) (by omega), g_cl (by omega), q_ltE]
        refine ⟨_, rfl, Or.inr ⟨rfl, ?_⟩, rF_t a3 fun p j h => ?_⟩
        · rw [g_In (by omega), g_Ie ⟨rfl, rfl⟩]
        · rw [g_In (by omega), g_In (by omega)]
  · rw [if_neg (ne (by omega) c1), if_neg c1, q_ltE]
    by_cases c2 : x = 100
    · subst c2
      rw [if_pos rfl, if_pos (Or.inl rfl)]
      exact r_hcl r w ht (y := 100) (z := 4) bit_4 (by omega) (by omega)
    · rw [if_neg (ne (by omega) c2)]
      by_cases c3 : x = 117
      · subst c3
        rw [if_pos rfl, if_pos (Or.inr rfl)]
        exact r_hcl r w ht (y := 117) (z := 4) bit_4 (by omega) (by omega)
      · rw [if_neg (ne (by omega) c3), if_neg (show ¬ (x = 100 ∨ x = 117) by omega)]
        by_cases c4 : x = 108
        · subst c4
          rw [if_pos rfl, if_pos rfl]
          exact r_hcl r w ht (y := 108) (z := 5) bit_5 (by omega) (by omega)
        · rw [if_neg (ne (by omega) c4), if_neg c4]
          by_cases c5 : x = 116
          · subst c5
            rw [if_pos rfl, if_pos rfl, show nI 116 = (116 : Int32) from rfl, e116, q_bpE]
            cases htm : s_tm s 116 with
            | none =>
              rw [eI_n, if_pos (by decide)]
              exact ⟨M, rfl, R_RO r ht (rF_r M)⟩
            | some t =>
              have htl := s_tm_lt htm
              obtain ⟨a1, a2⟩ := R_h r (Nat.le_of_lt htl.1)
              rw [eI_s, i_n0 (by omega), q_bpE, q_ltE]
              exact ⟨_, rfl, R_RO a1 ht a2⟩
          · rw [if_neg (ne (by omega) c5), if_neg c5]
            by_cases c6 : x = 114
            · subst c6
              rw [if_pos rfl, if_pos rfl, show nI 116 = (116 : Int32) from rfl, show nI 114 = (114 : Int32) from rfl, e114, q_bpE, e116, q_bpE]
              unfold s_clR s_clT
              -- the row of the table
              cases hr : s_rch s 114 2 with
              | some k =>
                have g1 := rchI_some.mp hr
                have hk := rchI_lt hr
                have hkn : sNm s (sSf s k) = 114 := by simpa using hk.2
                have g0 : s_tm s 114 = some k := g1.1
                have row := w.2.2.2.2.2.1 k hk.1 hkn
                cases htm : s_tm s 116 with
                | none =>
                  have := lastI_no htm (k - 1) (by omega)
                  simp [row.2] at this
                | some t =>
                  have htl := s_tm_lt htm
                  have htk : t < k := by
                    refine Nat.lt_of_le_of_ne (Nat.le_of_not_lt fun hlt => ?_) fun q => ?_
                    · have := g1.2 t hlt htl.1
                      rw [htl.2] at this
                      revert this
                      decide +kernel
                    · rw [q, hkn] at htl
                      omega
                  obtain ⟨a1, a2⟩ := R_h r (Nat.le_of_lt hk.1)
                  rw [g0, eI_s, eI_s, i_le (by omega) (by omega), if_neg (by omega), q_bpE, i_n0 (by omega), q_ltE]
                  exact ⟨_, rfl, R_RO a1 ht a2⟩
              | none =>
                refine ⟨M, ?_, R_RO r ht (rF_r M)⟩
                cases htm : s_tm s 116 with
                | none =>
                  rw [q_bpE, eI_n, if_pos (show (-1 : Int32) < 0 by decide), ite_self]
                | some t =>
                  have htl := s_tm_lt htm
                  have hle : eI (s_tm s 114) ≤ nI t := by
                    cases h : s_tm s 114 with
                    | none =>
                      rw [eI_n, Int32.le_iff_toInt_le, nI_toInt (by omega)]
                      have : (-1 : Int32).toInt = -1 := by decide
                      omega
                    | some k =>
                      rw [eI_s, g_le (by have := (s_tm_lt h).1; omega) (by omega)]
                      refine Nat.le_of_not_lt fun hlt => ?_
                      have : s_rch s 114 2 = some k := rchI_some.mpr ⟨h, fun i q1 q2 => by
                        have h0 := lastI_max htm i (by omega) q2
                        have hi := w.1.2.1 _ (w.1.2.2.2.1 i q2)
                        have e3 : ∀ x, x < 200 → inS 2 x = (x == 116) := by decide +kernel
                        show inS 2 (sNm s (sSf s i)) = false
                        rw [e3 _ hi]
                        exact h0⟩
                      rw [hr] at this
                      cases this
                  rw [eI_s, if_pos hle]
            · rw [if_neg (ne (by omega) c6), if_neg c6]
              by_cases c7 : x = 99
              · subst c7
                rw [if_pos rfl, if_pos rfl]
                exact r_hcl r w ht (y := 99) (z := 2) bit_2 (by omega) (by omega)
              · rw [if_neg (ne (by omega) c7), if_neg c7]
                by_cases c8 : x = 104
                · subst c8
                  rw [if_pos rfl, if_pos (Or.inl rfl)]
                  exact ⟨M, rfl, R_RO r ht (rF_r M)⟩
                · rw [if_neg (ne (by omega) c8)]
                  by_cases c9 : x = 107
                  · subst c9
                    rw [if_pos rfl, if_pos (Or.inr rfl)]
                    exact ⟨M, rfl, R_RO r ht (rF_r M)⟩
                  · rw [if_neg (ne (by omega) c9), if_neg (show ¬ (x = 104 ∨ x = 107) by omega)]
                    obtain ⟨M', a1, a2⟩ := r_eo r w ht h1 h2
                    exact ⟨M', by rw [a1]; rfl, a2⟩
