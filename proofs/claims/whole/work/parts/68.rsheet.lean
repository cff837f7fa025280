/-! the style sheet read anew, on the reference's side -/
def zF (z : zT) (L : List Nat) : zT := L.foldl z_type z
theorem zF_app (z : zT) (A B : List Nat) : zF z (A ++ B) = zF (zF z A) B := List.foldl_append
theorem zF_c (z : zT) (c : Nat) (B : List Nat) : zF z (c :: B) = zF (z_type z c) B := rfl
theorem zF_open : ∀ (S : List Nat) (rs : List (selT × List Nat)) (pd : Option selT) (hd : List Nat), 123 ∉ S → zF (rs, false, pd, hd) S = (rs, false, pd, hd ++ S)
  | [], rs, pd, hd, _ => by rw [List.append_nil]; rfl
  | c :: S, rs, pd, hd, h => by
    have h1 : c ≠ 123 := fun q => h (by rw [q]; exact List.mem_cons_self)
    have h2 : 123 ∉ S := fun q => h (List.mem_cons_of_mem _ q)
    have e : z_type (rs, false, pd, hd) c = (rs, false, pd, hd ++ [c]) := by
      unfold z_type
      rw [if_pos rfl, if_neg h1]
    rw [zF_c, e, zF_open S rs pd _ h2, List.append_assoc]
    rfl
def nbl (L : List Nat) : List Nat := L.filter fun c => !(c == 32)
theorem zF_body : ∀ (B : List Nat) (rs : List (selT × List Nat)) (pd : Option selT) (hd : List Nat), 125 ∉ B → zF (rs, true, pd, hd) B = (rs, true, pd, hd ++ nbl B)
  | [], rs, pd, hd, _ => by
    show _ = (rs, true, pd, hd ++ [])
    rw [List.append_nil]
    rfl
  | c :: B, rs, pd, hd, h => by
    have h1 : c ≠ 125 := fun q => h (by rw [q]; exact List.mem_cons_self)
    have h2 : 125 ∉ B := fun q => h (List.mem_cons_of_mem _ q)
    by_cases q : c = 32
    · have e : z_type (rs, true, pd, hd) c = (rs, true, pd, hd) := by
        unfold z_type
        rw [if_neg (by simp), if_neg h1, if_pos q]
      have e2 : nbl (c :: B) = nbl B := by
        unfold nbl
        rw [List.filter_cons, if_neg (by simp [q])]
      rw [zF_c, e, zF_body B rs pd _ h2, e2]
    · have e : z_type (rs, true, pd, hd) c = (rs, true, pd, hd ++ [c]) := by
        unfold z_type
        rw [if_neg (by simp), if_neg h1, if_neg q]
      have e2 : nbl (c :: B) = c :: nbl B := by
        unfold nbl
        rw [List.filter_cons, if_pos (by simp [q])]
      rw [zF_c, e, zF_body B rs pd _ h2, e2, List.append_assoc]
      rfl
/-- twelve rules: no more come -/
theorem zF_full : ∀ (L : List Nat) (rs : List (selT × List Nat)) (ib : Bool) (pd : Option selT) (hd : List Nat), 12 ≤ rs.length → (ib = true → pd = none) → (zF (rs, ib, pd, hd) L).1 = rs
  | [], _, _, _, _, _, _ => rfl
  | c :: L, rs, ib, pd, hd, h12, hp => by
    rw [zF_c]
    cases ib with
    | false =>
      by_cases q : c = 123
      · have e : z_type (rs, false, pd, hd) c = (rs, true, none, []) := by
          unfold z_type
          rw [if_pos rfl, if_pos q, if_neg (show ¬ rs.length < 12 by omega)]
        rw [e]
        exact zF_full L rs true none [] h12 fun _ => rfl
      · have e : z_type (rs, false, pd, hd) c = (rs, false, pd, hd ++ [c]) := by
          unfold z_type
          rw [if_pos rfl, if_neg q]
        rw [e]
        exact zF_full L rs false pd _ h12 fun h => (by cases h)
    | true =>
      have hp := hp rfl
      subst hp
      by_cases q : c = 125
      · have e : z_type (rs, true, none, hd) c = (rs, false, none, []) := by
          unfold z_type
          rw [if_neg (by simp), if_pos q]
          rfl
        rw [e]
        exact zF_full L rs false none [] h12 fun h => (by cases h)
      · by_cases q2 : c = 32
        · have e : z_type (rs, true, none, hd) c = (rs, true, none, hd) := by
            unfold z_type
            rw [if_neg (by simp), if_neg q, if_pos q2]
          rw [e]
          exact zF_full L rs true none _ h12 fun _ => rfl
        · have e : z_type (rs, true, none, hd) c = (rs, true, none, hd ++ [c]) := by
            unfold z_type
            rw [if_neg (by simp), if_neg q, if_neg q2]
          rw [e]
          exact zF_full L rs true none _ h12 fun _ => rfl
/-- one rule's text -/
theorem zF_rule {rs : List (selT × List Nat)} {pd : Option selT} {S B rest : List Nat} (hS : 123 ∉ S) (hB : 125 ∉ B) (h : rs.length < 12) : zF (rs, false, pd, []) (S ++ 123 :: (B ++ 125 :: rest)) = zF (z_end (selF S) rs (nbl B), false, selF S, []) rest := by
  rw [zF_app, zF_open S rs pd [] hS, List.nil_append, zF_c]
  have e : z_type (rs, false, pd, S) 123 = (rs, true, selF S, []) := by
    unfold z_type
    rw [if_pos rfl, if_pos rfl]
    show (rs, true, (if rs.length < 12 then selF S else none), []) = _
    rw [if_pos h]
  rw [e, zF_app, zF_body B rs _ [] hB, List.nil_append, zF_c]
  have e2 : z_type (rs, true, selF S, nbl B) 125 = (z_end (selF S) rs (nbl B), false, selF S, []) := by
    unfold z_type
    rw [if_neg (by simp), if_pos rfl]
  rw [e2]
/-- where a character comes next -/
def nxt (c : Nat) (R : List Nat) : Option (List Nat × List Nat) := match R with
  | [] => none
  | x :: R' => if x = c then some ([], R') else (nxt c R').map fun q => (x :: q.1, q.2)
theorem nxt_n {c : Nat} : ∀ {R : List Nat}, nxt c R = none → c ∉ R
  | [], _ => by simp
  | x :: R, h => by
    unfold nxt at h
    split at h
    · cases h
    · rename_i q
      have h' : nxt c R = none := by
        cases hq : nxt c R with
        | none => rfl
        | some y => rw [hq] at h; cases h
      have := nxt_n h'
      intro m
      rcases List.mem_cons.mp m with m | m
      · exact q m.symm
      · exact this m
theorem nxt_s {c : Nat} : ∀ {R S T : List Nat}, nxt c R = some (S, T) → R = S ++ c :: T ∧ c ∉ S
  | [], _, _, h => by cases h
  | x :: R, S, T, h => by
    unfold nxt at h
    split at h
    · rename_i q
      cases h
      exact ⟨by rw [q]; rfl, by simp⟩
    · rename_i q
      cases hq : nxt c R with
      | none => rw [hq] at h; cases h
      | some y =>
        obtain ⟨S', T'⟩ := y
        rw [hq] at h
        cases h
        have := nxt_s hq
        refine ⟨by rw [this.1]; rfl, fun m => ?_⟩
        rcases List.mem_cons.mp m with m | m
        · exact q m.symm
        · exact this.2 m
def rY (M : qM) (T : List Nat) : Prop := M.1 0 2 = nI T.length ∧ yX M T
theorem r_nxt2 {M : qM} {T : List Nat} (hl : T.length ≤ 120) (hL : ∀ c ∈ T, c < 127) (hM : rY M T) {c : Nat} (hc : c < 127) : ∀ (R : List Nat) (k f : Nat), T.drop k = R → k ≤ T.length → R.length < f → f_Md_nextSign_2 M (nI c) f (some (-1)) (nI k) = some (match nxt c R with | none => -1 | some q => nI (k + q.1.length)) := by
  intro R
  induction R with
  | nil =>
    intro k f hR hk hf
    obtain ⟨f, rfl⟩ : ∃ g, f = g + 1 := ⟨f - 1, by simp at hf; omega⟩
    have hk2 : T.length ≤ k := List.drop_eq_nil_iff.mp hR
    rw [f_Md_nextSign_2, hM.1, i_le (by omega) (by omega), if_pos hk2]
    rfl
  | cons x R ih =>
    intro k f hR hk hf
    obtain ⟨f, rfl⟩ : ∃ g, f = g + 1 := ⟨f - 1, by simp at hf; omega⟩
    obtain ⟨h1, h2, h3⟩ := hX_d hR
    have hxb := hL x (List.mem_of_getElem? h2)
    rw [f_Md_nextSign_2, hM.1, i_le (by omega) (by omega), if_neg (by omega), g_ix (by omega) (by omega), g_cl (by omega), hM.2 k x h2, i_eq (by omega) (by omega)]
    by_cases q : x = c
    · rw [if_pos q]
      have e : nxt c (x :: R) = some ([], R) := by
        unfold nxt
        rw [if_pos q]
      rw [e]
      rfl
    · rw [if_neg q, g_inc, ih (k + 1) f h3 (by omega) (by simp at hf; omega)]
      have e : nxt c (x :: R) = (nxt c R).map fun q => (x :: q.1, q.2) := by
        rw [nxt, if_neg q]
      rw [e]
      cases nxt c R with
      | none => rfl
      | some y =>
        show some (nI (k + 1 + y.1.length)) = some (nI (k + (x :: y.1).length))
        congr 2
        simp
        omega
theorem r_nxt {M : qM} {T : List Nat} (hl : T.length ≤ 120) (hL : ∀ c ∈ T, c < 127) (hM : rY M T) {c : Nat} (hc : c < 127) {k : Nat} (hk : k ≤ T.length) : f_Md_nextSign (nI k) (nI c) M = some (match nxt c (T.drop k) with | none => -1 | some q => nI (k + q.1.length)) :=
  r_nxt2 hl hL hM hc (T.drop k) k 1000 rfl hk (by rw [List.length_drop]; omega)
