/-! the whole text read anew, token by token -/
def tg_J (a1 a2 x1 : Int32) (M : qM) : Int32 → Option (Int32 × qM) := fun x3 => q_bp (f_Md_closed (a1 + 2) M) fun x4 => if 0 ≤ x4 then (f_Md_tag_70 x4 M 1000 (fun (x15 : Int32) => q_bp (f_Md_small a2 M) fun x16 => if x16 = 0 then (if x3 = 0 then (some (x4 + 1, M)) else (q_cv (f_Md_end x1 M) fun M19 => some (x4 + 1, M19))) else (q_cv (f_Md_start a2 x15 M) fun M20 => some (x4 + 1, M20))) 0 (a1 + 2)) else (some ((-1), M))
theorem tg_eq (a1 a2 : Int32) (M : qM) : f_Md_tag a1 a2 M = q_bp (f_Md_peek (a1 + 2) M) fun x1 => if a2 = (-1) then (some ((-1), M)) else (if a2 = 47 then (if x1 = (-1) then (some ((-1), M)) else (if a2 = 47 then (q_bp (f_Md_small x1 M) fun x24 => if x24 = 0 then (tg_J a1 a2 x1 M 0) else (tg_J a1 a2 x1 M 1)) else (tg_J a1 a2 x1 M 0))) else (if a2 = 47 then (q_bp (f_Md_small x1 M) fun x24 => if x24 = 0 then (tg_J a1 a2 x1 M 0) else (tg_J a1 a2 x1 M 1)) else (tg_J a1 a2 x1 M 0))) := rfl
theorem g_2 (k : Nat) : nI k + 2 = nI (k + 2) := g_add k 2
theorem g_3 (k : Nat) : nI k + 3 = nI (k + 3) := g_add k 3
theorem tg_no {M : qM} {txt : List Nat} (h : rX M txt) (hl : txt.length ≤ 160) (ht : ∀ c ∈ txt, c < 127) {k : Nat} (hk : k ≤ 160) {a2 x1 x3 : Int32} (hno : 62 ∉ txt.drop (k + 2)) : tg_J (nI k) a2 x1 M x3 = some ((-1), M) := by
  unfold tg_J f_Md_closed
  rw [g_2, r_cls h hl ht _ (k + 2) 1000 rfl (by omega) (by simp; omega), idx_no hno, q_bpE]
  rfl
theorem tg_y {M : qM} {txt : List Nat} (h : rX M txt) (hl : txt.length ≤ 160) (ht : ∀ c ∈ txt, c < 127) {k : Nat} (hk : k ≤ 160) {a2 x1 x3 : Int32} {P Q : List Nat} (hP : txt.drop (k + 2) = P ++ 62 :: Q) (hn : 62 ∉ P) : tg_J (nI k) a2 x1 M x3 = q_bp (f_Md_small a2 M) fun x16 => if x16 = 0 then (if x3 = 0 then (some (nI (k + 2 + P.length + 1), M)) else (q_cv (f_Md_end x1 M) fun M19 => some (nI (k + 2 + P.length + 1), M19))) else (q_cv (f_Md_start a2 (clsF 0 P) M) fun M20 => some (nI (k + 2 + P.length + 1), M20)) := by
  have hlen : (txt.drop (k + 2)).length = P.length + 1 + Q.length := by rw [hP]; simp; omega
  rw [List.length_drop] at hlen
  unfold tg_J f_Md_closed
  have hel : eI (Option.map (fun j => k + 2 + j) (some P.length)) = nI (k + 2 + P.length) := rfl
  rw [g_2, r_cls h hl ht _ (k + 2) 1000 rfl (by omega) (by simp; omega), hP, idx_y hn, q_bpE, hel]
  rw [i_p0 (by omega), r_t70 (β := Nat) h hl ht P (62 :: Q) (k + 2) 1000 0 _ hP (by omega) (by omega), g_inc]
/-- the end of reading where the page is broken -/
theorem rd_brk {M : qM} (h : M.1 0 4 = 1) {f : Nat} (hf : 1 ≤ f) (x : Int32) : f_Md_read_6 f (fun (M30 : qM) => some M30) x M = some M := by
  obtain ⟨f, rfl⟩ : ∃ g, f = g + 1 := ⟨f - 1, by omega⟩
  rw [f_Md_read_6, h, if_neg (show ¬ (1 : Int32) = 0 by decide), ite_self, ite_self]
theorem rd_neg {M : qM} {f : Nat} (hf : 1 ≤ f) : f_Md_read_6 f (fun (M30 : qM) => some M30) (-1) M = some M := by
  obtain ⟨f, rfl⟩ : ∃ g, f = g + 1 := ⟨f - 1, by omega⟩
  rw [f_Md_read_6, if_pos (by decide)]
def rd_C (n : Nat) (x2 : Int32) (M3 : qM) : Option qM := q_cv (f_Md_character (M3.1 1 x2.toNatClampNeg) M3) fun M10 => f_Md_read_6 n (fun (M30 : qM) => some M30) (x2 + 1) M10
def rd_E (n : Nat) (x2 x9 : Int32) (M3 : qM) : Option qM := q_cl (f_Md_entity x2 x9 M3) fun x13 M14 => f_Md_read_6 n (fun (M30 : qM) => some M30) x13 M14
def rd_T (n : Nat) (x2 x9 : Int32) (M3 : qM) : Option qM := q_cl (f_Md_tag x2 x9 M3) fun x22 M23 => f_Md_read_6 n (fun (M30 : qM) => some M30) x22 M23
def rd_X (n : Nat) (x2 x9 : Int32) (M3 : qM) : Option qM := if (M3.1 1 x2.toNatClampNeg) = 38 then (if x9 = 108 then (rd_E n x2 x9 M3) else (if x9 = 103 then (rd_E n x2 x9 M3) else (if x9 = 97 then (rd_E n x2 x9 M3) else (if x9 = (-1) then (rd_E n x2 x9 M3) else (rd_C n x2 M3))))) else (rd_C n x2 M3)
def rd_Y (n : Nat) (x2 x9 : Int32) (M3 : qM) : Option qM := if (M3.1 1 x2.toNatClampNeg) = 60 then (if x9 = 47 then (rd_T n x2 x9 M3) else (if x9 = 33 then (rd_T n x2 x9 M3) else (if x9 = (-1) then (rd_T n x2 x9 M3) else (q_bp (f_Md_small x9 M3) fun x28 => if x28 = 0 then (rd_X n x2 x9 M3) else (rd_T n x2 x9 M3))))) else (rd_X n x2 x9 M3)
theorem rd_eq {M : qM} {txt : List Nat} (h : rX M txt) (hl : txt.length ≤ 160) (h4 : M.1 0 4 = 0) {k : Nat} (hk : k < txt.length) (n : Nat) : f_Md_read_6 (n + 1) (fun (M30 : qM) => some M30) (nI k) M = rd_Y n (nI k) (eI txt[k + 1]?) M := by
  rw [f_Md_read_6, i_n0 (by omega), h.1, i_le (by omega) (by omega), if_neg (by omega), if_pos h4, g_ix (by omega) (by omega), g_inc, r_pk h hl (by omega), q_bpE]
  unfold rd_Y rd_X rd_T rd_E rd_C
  rw [q_ltE, q_ltE, g_inc]
  simp only [q_lt]
theorem rd_end {M : qM} {txt : List Nat} (h : rX M txt) (hl : txt.length ≤ 160) {f : Nat} (hf : 1 ≤ f) : f_Md_read_6 f (fun (M30 : qM) => some M30) (nI txt.length) M = some M := by
  obtain ⟨f, rfl⟩ : ∃ g, f = g + 1 := ⟨f - 1, by omega⟩
  rw [f_Md_read_6, i_n0 (by omega), h.1, i_le (by omega) (by omega), if_pos (Nat.le_refl _)]
theorem drop_c {txt : List Nat} {k : Nat} (hk : k < txt.length) : ∃ c, txt[k]? = some c ∧ txt.drop k = c :: txt.drop (k + 1) := ⟨txt[k], List.getElem?_eq_getElem hk, List.drop_eq_getElem_cons hk⟩
theorem rd {txt : List Nat} (hl : txt.length ≤ 160) (ht : ∀ c ∈ txt, 32 ≤ c ∧ c < 127) : ∀ (n k : Nat) (M : qM) (s : aT) (pre : List (Nat × Nat)) (r : Nat × Nat × Int32) (f : Nat), txt.length - k ≤ n → k ≤ txt.length → R M s pre → rX M txt → Wf s → wT s pre → sNc s ≤ k → n < f → ∃ M', f_Md_read_6 f (fun (M30 : qM) => some M30) (nI k) M = some M' ∧ RO M M' (yF (s, (0, r)) (txt.drop k)).1 := by
  have ht' : ∀ c ∈ txt, c < 127 := fun c hc => (ht c hc).2
  intro n
  induction n with
  | zero =>
    intro k M s pre r f hn hk hR hX w hT hnc hf
    have : k = txt.length := by omega
    subst this
    refine ⟨M, rd_end hX hl (by omega), ?_⟩
    rw [List.drop_length]
    exact R_RO hR hT (rF_r M)
  | succ n ih =>
    intro k M s pre r f hn hk hR hX w hT hnc hf
    by_cases hke : k = txt.length
    · subst hke
      refine ⟨M, rd_end hX hl (by omega), ?_⟩
      rw [List.drop_length]
      exact R_RO hR hT (rF_r M)
    · have hk2 : k < txt.length := by omega
      obtain ⟨f, rfl⟩ : ∃ g, f = g + 1 := ⟨f - 1, by omega⟩
      obtain ⟨c, hc, hd⟩ := drop_c hk2
      have hcb := ht c (List.mem_of_getElem? hc)
      have ec : M.1 1 k = nI c := hX.2 k c hc
      -- going on behind a token
      have go : ∀ (M1 : qM) (s1 : aT) (k1 : Nat) (r1 : Nat × Nat × Int32), RO M M1 s1 → Wf s1 → k < k1 → k1 ≤ txt.length → sNc s1 ≤ k1 → ∃ M', f_Md_read_6 f (fun (M30 : qM) => some M30) (nI k1) M1 = some M' ∧ RO M M' (yF (s1, (0, r1)) (txt.drop k1)).1 := by
        intro M1 s1 k1 r1 hro w1 h1 h2 h3
        rcases hro with ⟨⟨b1, pre1, b2', b3⟩ | ⟨b1, b2'⟩, b4⟩
        · obtain ⟨M', e1, e2, e3⟩ := ih k1 M1 s1 pre1 r1 f (by omega) h2 b2' (rX_F hX b4) w1 b3 h3 (by omega)
          exact ⟨M', e1, e2, rF_t b4 e3⟩
        · exact ⟨M1, rd_brk b2' (by omega) _, Or.inr ⟨sB_F _ _ b1, b2'⟩, b4⟩
      have hcl : (nI k).toNatClampNeg = k := g_cl (by omega)
      -- a character
      have chr : ∀ code, code < 200 → ∃ M1, f_Md_character (nI code) M = some M1 ∧ RO M M1 (s_chr s code) := fun code h => r_chr hR w hT (by omega) h (W_renew w)
      have chC : ∀ (code : Nat), c = code → code < 200 → ∃ M1, rd_C f (nI k) M = f_Md_read_6 f (fun (M30 : qM) => some M30) (nI (k + 1)) M1 ∧ RO M M1 (s_chr s code) := fun code h1 h2 => by
        obtain ⟨M1, a1, a2⟩ := chr code h2
        refine ⟨M1, ?_, a2⟩
        unfold rd_C
        rw [hcl, ec, h1, a1, q_cvE, g_inc]
      -- the held letter given up: the character alone, then the next is read
      have alone : yF (s, (0, r)) (txt.drop k) = yF (s_chr s c, (0, r)) (txt.drop (k + 1)) → ∃ M', rd_C f (nI k) M = some M' ∧ RO M M' (yF (s, (0, r)) (txt.drop k)).1 := fun e => by
        obtain ⟨M1, a1, a2⟩ := chC c rfl (by omega)
        rw [a1, e]
        exact go M1 (s_chr s c) (k + 1) r a2 (W_chr w (by omega)) (by omega) (by omega) (by have := nc_chr s c; omega)
      rw [rd_eq hX hl hR.1.1 hk2]
      unfold rd_Y
      rw [hcl, ec, show (60 : Int32) = nI 60 from rfl, i_eq (by omega) (by omega)]
      by_cases q60 : c = 60
      · rw [if_pos q60]
        rw [hd, yF_c, q60]
        show ∃ M', _ ∧ RO M M' (yF (y_type s (0, r) 60) (txt.drop (k + 1))).1
        rw [yt_L]
        by_cases hk3 : k + 1 = txt.length
        · -- nothing behind it yet
          rw [List.getElem?_eq_none (by omega), eI_n, if_neg (by decide), if_neg (by decide), if_pos rfl, hk3, List.drop_length]
          refine ⟨M, ?_, R_RO hR hT (rF_r M)⟩
          unfold rd_T
          rw [tg_eq, g_2, r_pk hX hl (by omega), q_bpE, if_pos rfl, q_clE]
          exact rd_neg (by omega)
        · obtain ⟨d, hd1, hd2⟩ := drop_c (show k + 1 < txt.length by omega)
          have hdb := ht d (List.mem_of_getElem? hd1)
          have dm : ∀ j, j < 200 → d ≠ j → ¬ nI d = nI j := fun j hj h => by rw [g_eq (by omega) (by omega)]; exact h
          have dm1 : ¬ nI d = (-1 : Int32) := by rw [g_m1 (by omega)]; exact not_false
          rw [hd1, eI_s, hd2, yF_c]
          show ∃ M', _ ∧ RO M M' (yF (y_type s (3, r) d) (txt.drop (k + 2))).1
          have pk2 := r_pk hX hl (k := k + 2) (by omega)
          -- the tag, by where it ends
          by_cases q47 : d = 47
          · subst q47
            rw [if_pos (show nI 47 = (47 : Int32) from rfl), yt_3e]
            unfold rd_T
            rw [tg_eq, g_2, pk2, q_bpE, if_neg dm1, if_pos (show nI 47 = (47 : Int32) from rfl)]
            by_cases hk4 : k + 2 = txt.length
            · rw [List.getElem?_eq_none (by omega), eI_n, if_pos rfl, q_clE, hk4, List.drop_length]
              exact ⟨M, rd_neg (by omega), R_RO hR hT (rF_r M)⟩
            · obtain ⟨e, he1, he2⟩ := drop_c (show k + 2 < txt.length by omega)
              have heb := ht e (List.mem_of_getElem? he1)
              have em1 : ¬ nI e = (-1 : Int32) := by rw [g_m1 (by omega)]; exact not_false
              rw [he1, eI_s, if_neg em1, if_pos (show nI 47 = (47 : Int32) from rfl), r_sml M (by omega), q_bpE, i_b2, he2, yF_c]
              show ∃ M', _ ∧ RO M M' (yF (y_type s (4, r) e) (txt.drop (k + 3))).1
              by_cases hs : sml e = true
              · have hs' : 97 ≤ e ∧ e ≤ 122 := by simpa [sml] using hs
                rw [if_neg (by simp [hs]), yt_4s hs]
                rcases sp_62 (txt.drop (k + 3)) with hno | ⟨P, Q, hP, hnP⟩
                · rw [tg_no hX hl ht' (by omega) (by rw [he2]; intro m; rcases List.mem_cons.mp m with m | m; omega; exact hno m), q_clE, yF_5 (by omega) _ _ _ hno]
                  exact ⟨M, rd_neg (by omega), R_RO hR hT (rF_r M)⟩
                · have hP2 : txt.drop (k + 2) = (e :: P) ++ 62 :: Q := by rw [he2, hP]; rfl
                  have hnP2 : 62 ∉ e :: P := by intro m; rcases List.mem_cons.mp m with m | m; omega; exact hnP m
                  have hQl : (txt.drop (k + 3)).length = P.length + 1 + Q.length := by rw [hP]; simp; omega
                  rw [List.length_drop] at hQl
                  have hQ : txt.drop (k + 3 + P.length + 1) = Q := by
                    rw [show k + 3 + P.length + 1 = (k + 3) + (P.length + 1) by omega, ← List.drop_drop, hP, show P.length + 1 = (P ++ [62]).length by simp, show P ++ 62 :: Q = (P ++ [62]) ++ Q by simp, List.drop_left]
                  rw [tg_y hX hl ht' (by omega) hP2 hnP2, r_sml M (show 47 < 127 by omega), q_bpE]
                  rw [if_pos (show b2 (sml 47) = 0 from rfl), if_neg (by decide)]
                  obtain ⟨M1, a1, a2⟩ := r_end hR w hT hs'.1 hs'.2
                  rw [a1, q_cvE, q_clE, hP, yF_5z (by omega) hnP, if_neg (by omega), if_pos rfl]
                  have := go M1 (s_end s e) (k + 3 + P.length + 1) (r.1, e, clsF r.2.2 P) a2 (W_end w hs'.1 hs'.2) (by omega) (by omega) (by rw [nc_end]; omega)
                  rw [hQ] at this
                  rw [show k + 2 + (e :: P).length + 1 = k + 3 + P.length + 1 by simp; omega]
                  exact this
              · rw [if_pos (by simpa using hs)]
                by_cases q62 : e = 62
                · subst q62
                  rw [yt_4z, tg_y hX hl ht' (P := []) (Q := txt.drop (k + 3)) (by omega) he2 (by simp), r_sml M (show 47 < 127 by omega), q_bpE, if_pos (show b2 (sml 47) = 0 from rfl), if_pos rfl, q_clE]
                  exact go M s (k + 3) r (R_RO hR hT (rF_r M)) w (by omega) (by omega) (by omega)
                · rw [yt_4o (by simpa using hs) q62]
                  rcases sp_62 (txt.drop (k + 3)) with hno | ⟨P, Q, hP, hnP⟩
                  · rw [tg_no hX hl ht' (by omega) (by rw [he2]; intro m; rcases List.mem_cons.mp m with m | m; omega; exact hno m), q_clE]
                    have e7 := yF_5 (k := 7) (l := r.1) (n := r.2.1) (by omega) _ s r.2.2 hno
                    have e7' : yF (s, (7, r)) (txt.drop (k + 3)) = (s, (7, r.1, r.2.1, clsF r.2.2 (txt.drop (k + 3)))) := e7
                    rw [e7']
                    exact ⟨M, rd_neg (by omega), R_RO hR hT (rF_r M)⟩
                  · have hP2 : txt.drop (k + 2) = (e :: P) ++ 62 :: Q := by rw [he2, hP]; rfl
                    have hnP2 : 62 ∉ e :: P := by intro m; rcases List.mem_cons.mp m with m | m; omega; exact hnP m
                    have hQl : (txt.drop (k + 3)).length = P.length + 1 + Q.length := by rw [hP]; simp; omega
                    rw [List.length_drop] at hQl
                    have hQ : txt.drop (k + 3 + P.length + 1) = Q := by
                      rw [show k + 3 + P.length + 1 = (k + 3) + (P.length + 1) by omega, ← List.drop_drop, hP, show P.length + 1 = (P ++ [62]).length by simp, show P ++ 62 :: Q = (P ++ [62]) ++ Q by simp, List.drop_left]
                    rw [tg_y hX hl ht' (by omega) hP2 hnP2, r_sml M (show 47 < 127 by omega), q_bpE, if_pos (show b2 (sml 47) = 0 from rfl), if_pos rfl, q_clE, hP]
                    have e7 := yF_5z (k := 7) (l := r.1) (n := r.2.1) (by omega) (s := s) (a := r.2.2) (Q := Q) hnP
                    have e7' : yF (s, (7, r)) (P ++ 62 :: Q) = yF (s, (0, r.1, r.2.1, clsF r.2.2 P)) Q := e7
                    rw [e7']
                    have := go M s (k + 3 + P.length + 1) (r.1, r.2.1, clsF r.2.2 P) (R_RO hR hT (rF_r M)) w (by omega) (by omega) (by omega)
                    rw [hQ] at this
                    rw [show k + 2 + (e :: P).length + 1 = k + 3 + P.length + 1 by simp; omega]
                    exact this
          · rw [if_neg (show ¬ nI d = (47 : Int32) from dm 47 (by omega) q47)]
            by_cases q33 : d = 33
            · subst q33
              rw [if_pos (show nI 33 = (33 : Int32) from rfl), yt_3x]
              unfold rd_T
              rw [tg_eq, g_2, pk2, q_bpE, if_neg dm1, if_neg (by decide), if_neg (by decide)]
              rcases sp_62 (txt.drop (k + 2)) with hno | ⟨P, Q, hP, hnP⟩
              · rw [tg_no hX hl ht' (by omega) hno, q_clE]
                have e7 := yF_5 (k := 7) (l := r.1) (n := r.2.1) (by omega) _ s r.2.2 hno
                have e7' : yF (s, (7, r)) (txt.drop (k + 2)) = (s, (7, r.1, r.2.1, clsF r.2.2 (txt.drop (k + 2)))) := e7
                rw [e7']
                exact ⟨M, rd_neg (by omega), R_RO hR hT (rF_r M)⟩
              · have hQl : (txt.drop (k + 2)).length = P.length + 1 + Q.length := by rw [hP]; simp; omega
                rw [List.length_drop] at hQl
                have hQ : txt.drop (k + 2 + P.length + 1) = Q := by
                  rw [show k + 2 + P.length + 1 = (k + 2) + (P.length + 1) by omega, ← List.drop_drop, hP, show P.length + 1 = (P ++ [62]).length by simp, show P ++ 62 :: Q = (P ++ [62]) ++ Q by simp, List.drop_left]
                rw [tg_y hX hl ht' (by omega) hP hnP, r_sml M (show 33 < 127 by omega), q_bpE, if_pos (show b2 (sml 33) = 0 from rfl), if_pos rfl, q_clE, hP]
                have e7 := yF_5z (k := 7) (l := r.1) (n := r.2.1) (by omega) (s := s) (a := r.2.2) (Q := Q) hnP
                have e7' : yF (s, (7, r)) (P ++ 62 :: Q) = yF (s, (0, r.1, r.2.1, clsF r.2.2 P)) Q := e7
                rw [e7']
                have := go M s (k + 2 + P.length + 1) (r.1, r.2.1, clsF r.2.2 P) (R_RO hR hT (rF_r M)) w (by omega) (by omega) (by omega)
                rw [hQ] at this
                exact this
            · rw [if_neg (show ¬ nI d = (33 : Int32) from dm 33 (by omega) q33), if_neg dm1, r_sml M (by omega), q_bpE, i_b2]
              by_cases hs : sml d = true
              · have hs' : 97 ≤ d ∧ d ≤ 122 := by simpa [sml] using hs
                rw [if_neg (by simp [hs]), yt_3s hs]
                unfold rd_T
                rw [tg_eq, g_2, pk2, q_bpE, if_neg dm1, if_neg (show ¬ nI d = (47 : Int32) from dm 47 (by omega) q47), if_neg (show ¬ nI d = (47 : Int32) from dm 47 (by omega) q47)]
                rcases sp_62 (txt.drop (k + 2)) with hno | ⟨P, Q, hP, hnP⟩
                · rw [tg_no hX hl ht' (by omega) hno, q_clE, yF_5 (by omega) _ _ _ hno]
                  exact ⟨M, rd_neg (by omega), R_RO hR hT (rF_r M)⟩
                · have hQl : (txt.drop (k + 2)).length = P.length + 1 + Q.length := by rw [hP]; simp; omega
                  rw [List.length_drop] at hQl
                  have hQ : txt.drop (k + 2 + P.length + 1) = Q := by
                    rw [show k + 2 + P.length + 1 = (k + 2) + (P.length + 1) by omega, ← List.drop_drop, hP, show P.length + 1 = (P ++ [62]).length by simp, show P ++ 62 :: Q = (P ++ [62]) ++ Q by simp, List.drop_left]
                  rw [tg_y hX hl ht' (by omega) hP hnP, r_sml M (by omega), q_bpE, i_b2, if_neg (by simp [hs])]
                  obtain ⟨M1, a1, a2⟩ := r_stt (a := clsF 0 P) hR w hT (W_renew w) hs'.1 hs'.2
                  rw [a1, q_cvE, q_clE, hP, yF_5z (by omega) hnP, if_pos rfl]
                  have := go M1 (s_stt s d (clsF 0 P)) (k + 2 + P.length + 1) (r.1, d, clsF 0 P) a2 (W_stt w hs'.1 hs'.2) (by omega) (by omega) (by rw [nc_stt]; omega)
                  rw [hQ] at this
                  exact this
              · rw [if_pos (by simpa using hs), yt_3 (by simpa using hs) q47 q33]
                unfold rd_X
                rw [hcl, ec, if_neg (show ¬ nI c = (38 : Int32) by rw [show (38 : Int32) = nI 38 from rfl, g_eq (by omega) (by omega)]; omega)]
                have := alone (by
                  rw [hd, yF_c, q60]
                  show yF (y_type s (0, r) 60) (txt.drop (k + 1)) = _
                  rw [yt_L, hd2, yF_c, yF_c]
                  show yF (y_type s (3, r) d) _ = yF (y_type (s_chr s 60) (0, r) d) _
                  rw [yt_3 (by simpa using hs) q47 q33])
                rw [hd, yF_c, q60] at this
                have this' : ∃ M', rd_C f (nI k) M = some M' ∧ RO M M' (yF (y_type s (0, r) 60) (txt.drop (k + 1))).1 := this
                rw [yt_L, hd2, yF_c] at this'
                have this'' : ∃ M', rd_C f (nI k) M = some M' ∧ RO M M' (yF (y_type s (3, r) d) (txt.drop (k + 1 + 1))).1 := this'
                rw [yt_3 (by simpa using hs) q47 q33] at this''
                exact this''
      · rw [if_neg q60]
        unfold rd_X
        rw [hcl, ec, show (38 : Int32) = nI 38 from rfl, i_eq (by omega) (by omega)]
        by_cases q38 : c = 38
        · rw [if_pos q38]
          by_cases hk3 : k + 1 = txt.length
          · rw [List.getElem?_eq_none (by omega), eI_n, if_neg (by decide), if_neg (by decide), if_neg (by decide), if_pos rfl]
            refine ⟨M, ?_, ?_⟩
            · unfold rd_E f_Md_entity
              rw [g_2, r_pk hX hl (by omega), q_bpE, if_pos rfl, q_clE]
              exact rd_neg (by omega)
            · rw [hd, yF_c, q38]
              show RO M M (yF (y_type s (0, r) 38) (txt.drop (k + 1))).1
              rw [yt_A, hk3, List.drop_length]
              exact R_RO hR hT (rF_r M)
          · obtain ⟨d, hd1, hd2⟩ := drop_c (show k + 1 < txt.length by omega)
            have hdb := ht d (List.mem_of_getElem? hd1)
            have dm1 : ¬ nI d = (-1 : Int32) := by rw [g_m1 (by omega)]; exact not_false
            have pk2 := r_pk hX hl (k := k + 2) (by omega)
            rw [hd1, eI_s]
            have hin : ∀ y, y < 127 → (inS 0 y = true ↔ y = 108 ∨ y = 103 ∨ y = 97) := by decide +kernel
            by_cases hi : inS 0 d = true
            · have hi' := (hin d (by omega)).mp hi
              have eE : (if nI d = 108 then (rd_E f (nI k) (nI d) M) else (if nI d = 103 then (rd_E f (nI k) (nI d) M) else (if nI d = 97 then (rd_E f (nI k) (nI d) M) else (if nI d = (-1) then (rd_E f (nI k) (nI d) M) else (rd_C f (nI k) M))))) = rd_E f (nI k) (nI d) M := by
                rcases hi' with q | q | q
                · rw [if_pos (by rw [q]; rfl)]
                · rw [if_pos (show nI d = (103 : Int32) by rw [q]; rfl), ite_self]
                · rw [if_pos (show nI d = (97 : Int32) by rw [q]; rfl), ite_self, ite_self]
              rw [eE, hd, yF_c, q38]
              show ∃ M', _ ∧ RO M M' (yF (y_type s (0, r) 38) (txt.drop (k + 1))).1
              rw [yt_A, hd2, yF_c]
              show ∃ M', _ ∧ RO M M' (yF (y_type s (1, r) d) (txt.drop (k + 2))).1
              rw [yt_1y hi]
              unfold rd_E f_Md_entity
              rw [g_2, pk2, q_bpE, if_neg dm1]
              by_cases hk4 : k + 2 = txt.length
              · rw [List.getElem?_eq_none (by omega), eI_n, if_pos rfl, q_clE, hk4, List.drop_length]
                exact ⟨M, rd_neg (by omega), R_RO hR hT (rF_r M)⟩
              · obtain ⟨e, he1, he2⟩ := drop_c (show k + 2 < txt.length by omega)
                have heb := ht e (List.mem_of_getElem? he1)
                have em1 : ¬ nI e = (-1 : Int32) := by rw [g_m1 (by omega)]; exact not_false
                rw [he1, eI_s, if_neg em1, show (59 : Int32) = nI 59 from rfl, i_eq (by omega) (by omega), he2, yF_c]
                show ∃ M', _ ∧ RO M M' (yF (y_type s (2, d, r.2) e) (txt.drop (k + 3))).1
                by_cases q59 : e = 59
                · subst q59
                  rw [if_pos rfl, yt_2y]
                  have hm : mean d < 200 := by unfold mean; split <;> (try split) <;> omega
                  obtain ⟨M1, a1, a2⟩ := chr (mean d) hm
                  have eM : (q_lt (fun (x8 : Int32) => q_cv (f_Md_character x8 M) fun M9 => some (nI k + 3, M9)) fun (j10 : Int32 → Option (Int32 × qM)) => if nI d = 108 then (j10 60) else (if nI d = 103 then (j10 62) else (j10 38))) = some (nI (k + 3), M1) := by
                    rw [q_ltE]
                    rcases hi' with q | q | q
                    · subst q
                      rw [if_pos (show nI 108 = (108 : Int32) from rfl)]
                      have a1' : f_Md_character 60 M = some M1 := a1
                      show (q_cv (f_Md_character 60 M) fun M9 => some (nI k + 3, M9)) = _
                      rw [a1', g_3]
                      rfl
                    · subst q
                      rw [if_neg (by decide), if_pos (show nI 103 = (103 : Int32) from rfl)]
                      have a1' : f_Md_character 62 M = some M1 := a1
                      show (q_cv (f_Md_character 62 M) fun M9 => some (nI k + 3, M9)) = _
                      rw [a1', g_3]
                      rfl
                    · subst q
                      rw [if_neg (by decide), if_neg (by decide)]
                      have a1' : f_Md_character 38 M = some M1 := a1
                      show (q_cv (f_Md_character 38 M) fun M9 => some (nI k + 3, M9)) = _
                      rw [a1', g_3]
                      rfl
                  rw [eM, q_clE]
                  exact go M1 (s_chr s (mean d)) (k + 3) (d, r.2) a2 (W_chr w hm) (by omega) (by omega) (by have := nc_chr s (mean d); omega)
                · rw [if_neg q59, yt_2 q59]
                  obtain ⟨M1, a1, a2⟩ := chr 38 (by omega)
                  have a1' : f_Md_character 38 M = some M1 := a1
                  have w1 := W_chr w (c := 38) (by omega)
                  have n1 := nc_chr s 38
                  rw [a1', q_cvE]
                  have back : ∀ p : aT, (yF (y_type p (0, d, r.2) e) (txt.drop (k + 3))) = yF (p, (0, d, r.2)) (txt.drop (k + 2)) := fun p => by rw [he2, yF_c]
                  rw [back]
                  rcases a2 with ⟨⟨b1, pre1, b2', b3⟩ | ⟨b1, b2'⟩, b4⟩
                  · rw [if_pos b2'.1.1]
                    obtain ⟨M2, c1, c2, c3⟩ := r_chr b2' w1 b3 (show sNc (s_chr s 38) < 160 by omega) (show d < 200 by omega) (W_renew w1)
                    rw [c1, q_cvE, q_clE]
                    exact go M2 (s_chr (s_chr s 38) d) (k + 2) (d, r.2) ⟨c2, rF_t b4 c3⟩ (W_chr w1 (by omega)) (by omega) (by omega) (by have := nc_chr (s_chr s 38) d; omega)
                  · rw [if_neg (by rw [b2']; decide), q_clE]
                    exact ⟨M1, rd_brk b2' (by omega) _, Or.inr ⟨sB_F _ _ (sB_chr b1 d), b2'⟩, b4⟩
            · have hi' : ¬ (d = 108 ∨ d = 103 ∨ d = 97) := fun q => hi ((hin d (by omega)).mpr q)
              have dm : ∀ j, j < 200 → d ≠ j → ¬ nI d = nI j := fun j hj h => by rw [g_eq (by omega) (by omega)]; exact h
              rw [if_neg (show ¬ nI d = (108 : Int32) from dm 108 (by omega) (by omega)), if_neg (show ¬ nI d = (103 : Int32) from dm 103 (by omega) (by omega)), if_neg (show ¬ nI d = (97 : Int32) from dm 97 (by omega) (by omega)), if_neg dm1]
              exact alone (by
                rw [hd, yF_c, q38]
                show yF (y_type s (0, r) 38) (txt.drop (k + 1)) = _
                rw [yt_A, hd2, yF_c, yF_c]
                show yF (y_type s (1, r) d) _ = yF (y_type (s_chr s 38) (0, r) d) _
                rw [yt_1 (by simpa using hi)])
        · rw [if_neg q38]
          exact alone (by
            rw [hd, yF_c]
            show yF (y_type s (0, r) c) (txt.drop (k + 1)) = _
            rw [yt_0 q60 q38])
