/-! the whole text read anew: the reference's side against the typist's steps -/
def yF (p : aT × yT) (L : List Nat) : aT × yT := L.foldl (fun p c => y_type p.1 p.2 c) p
theorem yF_nil (p : aT × yT) : yF p [] = p := rfl
theorem yF_c (p : aT × yT) (c : Nat) (L : List Nat) : yF p (c :: L) = yF (y_type p.1 p.2 c) L := rfl
theorem yF_app (p : aT × yT) (L1 L2 : List Nat) : yF p (L1 ++ L2) = yF (yF p L1) L2 := List.foldl_append
theorem sB_step {s : aT} (h : sB s = true) (y : yT) (c : Nat) : sB (y_step s y c).1 = true := by
  unfold y_step
  repeat' split
  all_goals first
    | exact h
    | exact sB_chr h _
    | exact sB_stt h _ _
    | exact sB_end h _
theorem sB_type {s : aT} (h : sB s = true) (y : yT) (c : Nat) : sB (y_type s y c).1 = true := by
  unfold y_type
  split
  · exact sB_step h y c
  · refine sB_step ?_ _ c
    unfold y_give
    split
    · exact sB_chr (sB_chr h _) _
    · split <;> exact sB_chr h _
theorem sB_F : ∀ (L : List Nat) (p : aT × yT), sB p.1 = true → sB (yF p L).1 = true
  | [], _, h => h
  | c :: L, p, h => by
    rw [yF_c]
    exact sB_F L _ (sB_type h _ c)
theorem yt_g {s : aT} {r : Nat × Nat × Int32} {c : Nat} : y_type s (0, r) c = y_step s (0, r) c := rfl
theorem yt_0 {s : aT} {r : Nat × Nat × Int32} {c : Nat} (h1 : c ≠ 60) (h2 : c ≠ 38) : y_type s (0, r) c = (s_chr s c, (0, r)) := by
  have e : y_type s (0, r) c = (if c = 60 then (s, (3, r)) else if c = 38 then (s, (1, r)) else (s_chr s c, (0, r))) := rfl
  rw [e, if_neg h1, if_neg h2]
theorem yt_L {s : aT} {r : Nat × Nat × Int32} : y_type s (0, r) 60 = (s, (3, r)) := rfl
theorem yt_A {s : aT} {r : Nat × Nat × Int32} : y_type s (0, r) 38 = (s, (1, r)) := rfl
theorem yt_3 {s : aT} {r : Nat × Nat × Int32} {d : Nat} (h1 : sml d = false) (h2 : d ≠ 47) (h3 : d ≠ 33) : y_type s (3, r) d = y_type (s_chr s 60) (0, r) d := by
  have g : y_go (3, r) d = false := by
    have e : y_go (3, r) d = (sml d || decide (d = 47) || decide (d = 33)) := rfl
    rw [e, h1]
    simp [h2, h3]
  unfold y_type
  rw [g, if_neg (by simp)]
  rfl
theorem yt_3s {s : aT} {r : Nat × Nat × Int32} {d : Nat} (h1 : sml d = true) : y_type s (3, r) d = (s, (5, r.1, d, 0)) := by
  have g : y_go (3, r) d = true := by
    have e : y_go (3, r) d = (sml d || decide (d = 47) || decide (d = 33)) := rfl
    rw [e, h1]
    rfl
  have hd : 97 ≤ d ∧ d ≤ 122 := by simpa [sml] using h1
  unfold y_type
  rw [g, if_pos rfl]
  have e : y_step s (3, r) d = (if d = 47 then (s, (4, r)) else if d = 33 then (s, (7, r)) else (s, (5, r.1, d, 0))) := rfl
  rw [e, if_neg (by omega), if_neg (by omega)]
theorem yt_3e {s : aT} {r : Nat × Nat × Int32} : y_type s (3, r) 47 = (s, (4, r)) := by
  have g : y_go (3, r) 47 = true := by
    have e : y_go (3, r) 47 = (sml 47 || decide (47 = 47) || decide (47 = 33)) := rfl
    rw [e]
    rfl
  unfold y_type
  rw [g]
  rfl
theorem yt_3x {s : aT} {r : Nat × Nat × Int32} : y_type s (3, r) 33 = (s, (7, r)) := by
  have g : y_go (3, r) 33 = true := by
    have e : y_go (3, r) 33 = (sml 33 || decide (33 = 47) || decide (33 = 33)) := rfl
    rw [e]
    rfl
  unfold y_type
  rw [g]
  rfl
theorem yt_1 {s : aT} {r : Nat × Nat × Int32} {d : Nat} (h : inS 0 d = false) : y_type s (1, r) d = y_type (s_chr s 38) (0, r) d := by
  have g : y_go (1, r) d = false := h
  unfold y_type
  rw [g, if_neg (by simp)]
  rfl
theorem yt_1y {s : aT} {r : Nat × Nat × Int32} {d : Nat} (h : inS 0 d = true) : y_type s (1, r) d = (s, (2, d, r.2)) := by
  have g : y_go (1, r) d = true := h
  unfold y_type
  rw [g]
  rfl
theorem yt_2 {s : aT} {l : Nat} {r : Nat × Int32} {e : Nat} (h : e ≠ 59) : y_type s (2, l, r) e = y_type (s_chr (s_chr s 38) l) (0, l, r) e := by
  have g : y_go (2, l, r) e = false := by
    have q : y_go (2, l, r) e = decide (e = 59) := rfl
    rw [q]
    simp [h]
  unfold y_type
  rw [g, if_neg (by simp)]
  rfl
theorem yt_2y {s : aT} {l : Nat} {r : Nat × Int32} : y_type s (2, l, r) 59 = (s_chr s (mean l), (0, l, r)) := rfl
theorem yt_4s {s : aT} {r : Nat × Nat × Int32} {e : Nat} (h : sml e = true) : y_type s (4, r) e = (s, (6, r.1, e, r.2.2)) := by
  have q : y_type s (4, r) e = (if sml e = true then (s, (6, r.1, e, r.2.2)) else if e = 62 then (s, (0, r)) else (s, (7, r))) := rfl
  rw [q, if_pos h]
theorem yt_4z {s : aT} {r : Nat × Nat × Int32} : y_type s (4, r) 62 = (s, (0, r)) := by
  have q : y_type s (4, r) 62 = (if sml 62 = true then (s, (6, r.1, 62, r.2.2)) else if (62 : Nat) = 62 then (s, (0, r)) else (s, (7, r))) := rfl
  rw [q]
  rfl
theorem yt_4o {s : aT} {r : Nat × Nat × Int32} {e : Nat} (h : sml e = false) (h2 : e ≠ 62) : y_type s (4, r) e = (s, (7, r)) := by
  have q : y_type s (4, r) e = (if sml e = true then (s, (6, r.1, e, r.2.2)) else if e = 62 then (s, (0, r)) else (s, (7, r))) := rfl
  rw [q, if_neg (by simp [h]), if_neg h2]
def clsF (a : Int32) (P : List Nat) : Int32 := P.foldl (fun a c => if cap c = true then a ||| (1 <<< ((nI c - 65) &&& 31)) else a) a
theorem yt_5 {s : aT} {k l n : Nat} {a : Int32} {c : Nat} (hk : 5 ≤ k) : y_type s (k, l, n, a) c = (if c = 62 then ((if k = 5 then s_stt s n a else if k = 6 then s_end s n else s), (0, l, n, a)) else if cap c = true then (s, (k, l, n, a ||| (1 <<< ((nI c - 65) &&& 31)))) else (s, (k, l, n, a))) := by
  have g : y_go (k, l, n, a) c = true := by
    unfold y_go
    rw [if_neg (show ¬ k = 1 by omega), if_neg (show ¬ k = 2 by omega), if_neg (show ¬ k = 3 by omega)]
  unfold y_type
  rw [g, if_pos rfl]
  unfold y_step
  rw [if_neg (show ¬ k = 0 by omega), if_neg (show ¬ k = 1 by omega), if_neg (show ¬ k = 2 by omega), if_neg (show ¬ k = 3 by omega), if_neg (show ¬ k = 4 by omega)]
theorem yF_5 {k l n : Nat} (hk : 5 ≤ k) : ∀ (P : List Nat) (s : aT) (a : Int32), 62 ∉ P → yF (s, (k, l, n, a)) P = (s, (k, l, n, clsF a P))
  | [], _, _, _ => rfl
  | c :: P, s, a, h => by
    rw [yF_c]
    show yF (y_type s (k, l, n, a) c) P = _
    rw [yt_5 hk, if_neg (fun q => h (by simp [q]))]
    by_cases q : cap c = true
    · rw [if_pos q, yF_5 hk P s _ (fun m => h (by simp [m]))]
      show _ = (s, (k, l, n, P.foldl _ (if cap c = true then a ||| (1 <<< ((nI c - 65) &&& 31)) else a)))
      rw [if_pos q]
      rfl
    · rw [if_neg q, yF_5 hk P s _ (fun m => h (by simp [m]))]
      show _ = (s, (k, l, n, P.foldl _ (if cap c = true then a ||| (1 <<< ((nI c - 65) &&& 31)) else a)))
      rw [if_neg q]
      rfl
theorem yF_5z {k l n : Nat} (hk : 5 ≤ k) {P Q : List Nat} {s : aT} {a : Int32} (h : 62 ∉ P) : yF (s, (k, l, n, a)) (P ++ 62 :: Q) = yF ((if k = 5 then s_stt s n (clsF a P) else if k = 6 then s_end s n else s), (0, l, n, clsF a P)) Q := by
  rw [yF_app, yF_5 hk P s a h, yF_c]
  show yF (y_type s (k, l, n, clsF a P) 62) Q = _
  rw [yt_5 hk, if_pos rfl]
/-- up to the first end of a tag -/
theorem sp_62 (L : List Nat) : 62 ∉ L ∨ ∃ P Q, L = P ++ 62 :: Q ∧ 62 ∉ P := by
  induction L with
  | nil => exact Or.inl (by simp)
  | cons c L ih =>
    by_cases h : c = 62
    · exact Or.inr ⟨[], L, by rw [h]; rfl, by simp⟩
    · rcases ih with ih | ⟨P, Q, e, hP⟩
      · refine Or.inl fun m => ?_
        rcases List.mem_cons.mp m with q | q
        · exact h q.symm
        · exact ih q
      · refine Or.inr ⟨c :: P, Q, by rw [e]; rfl, fun m => ?_⟩
        rcases List.mem_cons.mp m with q | q
        · exact h q.symm
        · exact hP q
/-! the text in the reference's memory -/
def rX (M : qM) (txt : List Nat) : Prop := M.1 0 0 = nI txt.length ∧ ∀ k c, txt[k]? = some c → M.1 1 k = nI c
theorem rX_F {M M' : qM} {txt : List Nat} (h : rX M txt) (f : rF M M') : rX M' txt := ⟨by rw [f 0 0 (by omega)]; exact h.1, fun k c hk => by rw [f 1 k (by omega)]; exact h.2 k c hk⟩
theorem r_sml {c : Nat} (M : qM) (h : c < 127) : f_Md_small (nI c) M = some (b2 (sml c)) := by
  have : ∀ y, y < 127 → f_Md_small (nI y) qM0 = some (b2 (sml y)) := by decide +kernel
  exact this c h
theorem r_cap {c : Nat} (M : qM) (h : c < 127) : f_Md_capital (nI c) M = some (b2 (cap c)) := by
  have : ∀ y, y < 127 → f_Md_capital (nI y) qM0 = some (b2 (cap y)) := by decide +kernel
  exact this c h
theorem r_pk {M : qM} {txt : List Nat} (h : rX M txt) (hl : txt.length ≤ 160) {k : Nat} (hk : k ≤ 200) : f_Md_peek (nI k) M = some (eI txt[k]?) := by
  unfold f_Md_peek
  rw [h.1, i_le (by omega) (by omega)]
  by_cases q : txt.length ≤ k
  · rw [if_pos q, List.getElem?_eq_none q]
    rfl
  · rw [if_neg q, g_ix (by omega) (by omega), g_cl (by omega), List.getElem?_eq_getElem (by omega), h.2 k _ (List.getElem?_eq_getElem (by omega))]
    rfl
theorem r_cls {M : qM} {txt : List Nat} (h : rX M txt) (hl : txt.length ≤ 160) (ht : ∀ c ∈ txt, c < 127) : ∀ (L : List Nat) (k f : Nat), txt.drop k = L → k ≤ 200 → L.length < f → f_Md_closed_2 M f (some (-1)) (nI k) = some (eI ((L.idxOf? 62).map fun j => k + j)) := by
  intro L
  induction L with
  | nil =>
    intro k f hL hk hf
    obtain ⟨f, rfl⟩ : ∃ g, f = g + 1 := ⟨f - 1, by simp at hf; omega⟩
    have : txt.length ≤ k := List.drop_eq_nil_iff.mp hL
    rw [f_Md_closed_2, h.1, i_le (by omega) (by omega), if_pos this]
    rfl
  | cons c L ih =>
    intro k f hL hk hf
    obtain ⟨f, rfl⟩ : ∃ g, f = g + 1 := ⟨f - 1, by simp at hf; omega⟩
    have hlt : k < txt.length := by
      refine Nat.lt_of_not_le fun q => ?_
      rw [List.drop_eq_nil_iff.mpr q] at hL
      cases hL
    have hc : txt[k]? = some c := by
      have := congrArg List.head? hL
      rw [List.head?_drop] at this
      exact this
    have hc2 := ht c (List.mem_of_getElem? hc)
    have hL2 : txt.drop (k + 1) = L := by
      have := congrArg List.tail hL
      rw [List.tail_drop] at this
      exact this
    rw [f_Md_closed_2, h.1, i_le (by omega) (by omega), if_neg (by omega), g_ix (by omega) (by omega), g_cl (by omega), h.2 k c hc, show (62 : Int32) = nI 62 from rfl, i_eq (by omega) (by omega), List.idxOf?_cons]
    by_cases q : c = 62
    · rw [if_pos q, if_pos (by simp [q])]
      rfl
    · rw [if_neg q, if_neg (by simp [q]), g_inc, ih (k + 1) f hL2 (by omega) (by simp at hf; omega)]
      cases L.idxOf? 62 with
      | none => rfl
      | some j =>
        show some (nI (k + 1 + j)) = some (nI (k + (j + 1)))
        rw [show k + 1 + j = k + (j + 1) by omega]
theorem idx_no {L : List Nat} (h : 62 ∉ L) : L.idxOf? 62 = none := List.idxOf?_eq_none_iff.mpr h
theorem idx_y {P Q : List Nat} (h : 62 ∉ P) : (P ++ 62 :: Q).idxOf? 62 = some P.length := by
  induction P with
  | nil => simp [List.idxOf?_cons]
  | cons c P ih =>
    rw [List.cons_append, List.idxOf?_cons, if_neg (by simpa using fun q => h (by simp [q])), ih fun m => h (by simp [m])]
    rfl
theorem r_t70 {M : qM} {txt : List Nat} (h : rX M txt) (hl : txt.length ≤ 160) (ht : ∀ c ∈ txt, c < 127) {β : Type} : ∀ (P Q : List Nat) (k f : Nat) (a : Int32) (K : Int32 → Option (Int32 × qM)), txt.drop k = P ++ Q → k + P.length ≤ txt.length → P.length < f → f_Md_tag_70 (nI (k + P.length)) M f K a (nI k) = K (clsF a P) := by
  intro P
  induction P with
  | nil =>
    intro Q k f a K _ hk hf
    obtain ⟨f, rfl⟩ : ∃ g, f = g + 1 := ⟨f - 1, by simp at hf; omega⟩
    simp at hk
    rw [f_Md_tag_70, i_le (by simp; omega) (by omega), if_pos (by simp)]
    rfl
  | cons c P ih =>
    intro Q k f a K hL hk hf
    obtain ⟨f, rfl⟩ : ∃ g, f = g + 1 := ⟨f - 1, by simp at hf; omega⟩
    simp at hk
    have hc : txt[k]? = some c := by
      have := congrArg List.head? hL
      rw [List.head?_drop] at this
      exact this
    have hc2 := ht c (List.mem_of_getElem? hc)
    have hL2 : txt.drop (k + 1) = P ++ Q := by
      have := congrArg List.tail hL
      rw [List.tail_drop] at this
      exact this
    have e := fun a' => ih Q (k + 1) f a' K hL2 (by omega) (by simp at hf; omega)
    rw [show k + 1 + P.length = k + (c :: P).length by simp; omega] at e
    rw [f_Md_tag_70, i_le (by simp; omega) (by omega), if_neg (by simp), g_ix (by omega) (by omega), g_cl (by omega), h.2 k c hc, r_cap M hc2, q_bpE, i_b2, g_inc]
    show _ = K (P.foldl _ (if cap c = true then a ||| (1 <<< ((nI c - 65) &&& 31)) else a))
    by_cases q : cap c = true
    · rw [if_neg (by simp [q]), g_ix (by omega) (by omega), q_ltE, if_pos q]
      exact e _
    · rw [if_pos (by simpa using q), if_neg q]
      exact e _
