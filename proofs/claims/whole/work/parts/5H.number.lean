/-! the nodes numbered in document order -/
def nK (M : qM) : Option Nat → Option (Option Nat) := fun (r11 : Option Nat) => q_on r11 (some none) fun o12 => (q_lt (M.2 o12 8) fun r13 => some r13)
theorem Fo_nx {M : qM} {n : Nat} {kd : Nat → List Nat} (h : cLk M n kd) {d : Nat} {is : List Nat} {out : List (Nat × Nat)} (hf : Fo kd d is out) : ∀ (p : Nat) (K1 : List Nat) (N : Option Nat), p < n → kd p = K1 ++ is → (∀ x ∈ fI out, x < n) → (∀ f, d + 1 ≤ f → f_Node_nextInDocument_14 M f (nK M) (some (7 + 5 * p)) = some (oP N)) → ∀ x ∈ fI out, ∃ A S B e, out = A ++ (x, e) :: (S ++ B) ∧ Fo kd (e + 1) (kd x) S ∧ ∀ f, e + 2 ≤ f → f_Node_nextInDocument_14 M f (nK M) (some (7 + 5 * x)) = some (oP ((fI B).head?.or N)) := by
  refine Fo_ind (P := fun d is out => ∀ (p : Nat) (K1 : List Nat) (N : Option Nat), p < n → kd p = K1 ++ is → (∀ x ∈ fI out, x < n) → (∀ f, d + 1 ≤ f → f_Node_nextInDocument_14 M f (nK M) (some (7 + 5 * p)) = some (oP N)) → ∀ x ∈ fI out, ∃ A S B e, out = A ++ (x, e) :: (S ++ B) ∧ Fo kd (e + 1) (kd x) S ∧ ∀ f, e + 2 ≤ f → f_Node_nextInDocument_14 M f (nK M) (some (7 + 5 * x)) = some (oP ((fI B).head?.or N))) (fun d p K1 N _ _ _ _ x hx => by cases hx) (fun d i js L1 L2 g1 g2 p1 p2 p K1 N hp hk hl hN x hx => ?_) hf
  have hi := h.2 p hp K1 i js hk
  have fi : ∀ f, d + 2 ≤ f → f_Node_nextInDocument_14 M f (nK M) (some (7 + 5 * i)) = some (oP ((fI L2).head?.or N)) := by
    intro f hf
    obtain ⟨f, rfl⟩ : ∃ g, f = g + 1 := ⟨f - 1, by omega⟩
    rw [f_Node_nextInDocument_14]
    simp only [q_on, q_lt]
    rw [hi.2.2.2]
    cases js with
    | nil =>
      rw [Fo_nil_inv g2]
      simp only [List.head?_nil, oP_n]
      rw [hi.2.1]
      rw [hN f (by omega)]
      rfl
    | cons j js =>
      obtain ⟨M1, M2, e1, _, _⟩ := Fo_cons_inv g2
      subst e1
      simp only [List.head?_cons, oP_s]
      show nK M (some (7 + 5 * i)) = _
      unfold nK
      simp only [q_on, q_lt]
      rw [hi.2.2.2]
      rfl
  rw [fI_cons, fI_app] at hx
  rcases List.mem_cons.mp hx with rfl | hx
  · exact ⟨[], L1, L2, d, rfl, g1, fi⟩
  · rcases List.mem_append.mp hx with hx | hx
    · obtain ⟨A, S, B, e, rfl, q2, q3⟩ := p1 i [] ((fI L2).head?.or N) hi.1 rfl (fun y hy => hl y (by rw [fI_cons, fI_app]; simp [hy])) fi x hx
      refine ⟨(i, d) :: A, S, B ++ L2, e, by simp, q2, fun f hf => ?_⟩
      rw [q3 f hf, fI_app]
      cases fI B <;> rfl
    · obtain ⟨A, S, B, e, rfl, q2, q3⟩ := p2 p (K1 ++ [i]) N hp (by rw [hk]; simp) (fun y hy => hl y (by rw [fI_cons, fI_app]; simp [hy])) hN x hx
      exact ⟨(i, d) :: (L1 ++ A), S, B, e, by simp, q2, q3⟩
/-- root has no parent and nothing beside it -/
def cRt (M : qM) : Prop := M.2 7 4 = none ∧ M.2 7 8 = none
theorem t_next {M : qM} {s : aT} (c : C M s) (w : Wf s) (rt : cRt M) {pre : List (Nat × Nat)} (ht : wT s pre) {A R : List (Nat × Nat)} {x e : Nat} (hp : pre = A ++ (x, e) :: R) : f_Node_nextInDocument (7 + 5 * x) M = some (oP (fI R).head?) := by
  obtain ⟨t1, t2, t3, t4⟩ := ht
  have hx : x < sN s := (t3 x).mp (by rw [hp, fI_app, fI_cons]; simp)
  have h24 := w.1.1.2
  have hn1 := w.1.1.1
  have r0 : ∀ f, 2 ≤ f → f_Node_nextInDocument_14 M f (nK M) (some 7) = some none := by
    intro f hf
    obtain ⟨f, rfl⟩ : ∃ g, f = g + 2 := ⟨f - 2, by omega⟩
    rw [f_Node_nextInDocument_14]
    simp only [q_on, q_lt, rt.2, rt.1]
    rw [f_Node_nextInDocument_14]
    rfl
  have key : ∃ A S B e, pre = A ++ (x, e) :: (S ++ B) ∧ Fo (sKd s) (e + 1) (sKd s x) S ∧ ∀ f, e + 2 ≤ f → f_Node_nextInDocument_14 M f (nK M) (some (7 + 5 * x)) = some (oP (fI B).head?) := by
    obtain ⟨L1, L2, e1, g1, g2⟩ := Fo_cons_inv t1
    have := Fo_nil_inv g2
    subst this
    rw [List.append_nil] at e1
    subst e1
    have hx' := (t3 x).mpr hx
    rw [fI_cons] at hx'
    rcases List.mem_cons.mp hx' with h | h
    · have h' : x = 0 := h
      subst h'
      exact ⟨[], L1, [], 0, by simp, g1, fun f hf => r0 f (by omega)⟩
    · obtain ⟨A, S, B, e, rfl, q2, q3⟩ := Fo_nx c.2.2.1 g1 0 [] none (by omega) rfl (fun y hy => (t3 y).mp (by rw [fI_cons]; simp [hy])) (fun f hf => r0 f (by omega)) x h
      refine ⟨(0, 0) :: A, S, B, e, rfl, q2, fun f hf => ?_⟩
      rw [q3 f hf]
      cases (fI B).head? <;> rfl
  obtain ⟨A', S, B, e', q1, q2, q3⟩ := key
  have q1' := q1
  rw [hp] at q1
  obtain ⟨u1, u2, u3⟩ := at_uniq q1 (by rw [← hp]; exact t2)
  have he : e' ≤ 24 := by
    have hg : pre[A'.length]? = some (x, e') := by rw [q1']; simp
    have := Fo_idx t1 _ _ hg
    have hl : A'.length < pre.length := (List.getElem?_eq_some_iff.mp hg).1
    have : e' ≤ 0 + A'.length := this
    omega
  unfold f_Node_nextInDocument
  have hk := (c.2.2.1.1 x hx).1
  rw [hk]
  subst u3
  cases hkx : sKd s x with
  | nil =>
    rw [hkx] at q2
    rw [Fo_nil_inv q2]
    simp only [List.head?_nil, oP_n, q_lt, q_on, List.nil_append]
    exact q3 1000 (by omega)
  | cons y L =>
    rw [hkx] at q2
    obtain ⟨L1, L2, e1, _, _⟩ := Fo_cons_inv q2
    subst e1
    simp only [List.head?_cons, oP_s, q_lt, q_on]
    rfl
theorem C_num {M : qM} {s : aT} (c : C M s) (h24 : sN s ≤ 24) {i k : Nat} (hi : i < sN s) (v : Int32) (r : Option Nat) : C (qsR (qsI M (7 + 5 * i) 2 v) 3 k r) s ∧ tF M (qsR (qsI M (7 + 5 * i) 2 v) 3 k r) := by
  obtain ⟨⟨cB, cN⟩, c1, c2, c3, c4, c5⟩ := c
  refine ⟨⟨⟨?_, ?_⟩, ?_, ?_, ?_, ?_, ?_⟩, fun p j hp => ⟨?_, ?_⟩⟩
  · rw [g_R1, g_In (by omega)]; exact cB
  · rw [g_R1, g_In (by omega)]; exact cN
  · exact cNm_cg c1 fun x hx j hj => by rw [g_R1, g_In (by omega)]
  · exact cLk_cg c2 fun x hx j h1 h2 => by rw [g_Rn (by omega), g_I2]
  · exact cSt_cg c3 (by rw [g_R1, g_In (by omega)]) (fun k hk => by rw [g_Rn (by omega), g_I2]) fun x hx => by rw [g_R1, g_In (by omega)]
  · exact cFl_cg c4 (fun x hx => by rw [g_R1, g_In (by omega)]) fun x hx k => by rw [g_Rn (by omega), g_I2]
  · exact cCh_cg c5 (by rw [g_R1, g_In (by omega)]) (fun x hx j h1 h2 => by rw [g_Rn (by omega), g_I2]) fun q hq => ⟨by rw [g_R1, g_In (by omega)], by rw [g_Rn (by omega), g_I2]⟩
  · rw [g_R1, g_In (by omega)]
  · rw [g_Rn (by omega), g_I2]
/-- order and numbers -/
def cO (M : qM) (pre : List (Nat × Nat)) : Prop := ∀ k i e, pre[k]? = some (i, e) → M.2 3 k = some (7 + 5 * i) ∧ M.1 (7 + 5 * i) 2 = nI k
theorem t_num {s : aT} (w : Wf s) {pre : List (Nat × Nat)} (ht : wT s pre) : ∀ (R A : List (Nat × Nat)) (M : qM) (f : Nat), C M s → cRt M → pre = A ++ R → (∀ k i e, A[k]? = some (i, e) → M.2 3 k = some (7 + 5 * i) ∧ M.1 (7 + 5 * i) 2 = nI k) → R.length < f → ∃ M', f_Tree_number_7 f (fun (M12 : qM) => some M12) (oP (fI R).head?) (nI A.length) M = some M' ∧ C M' s ∧ cRt M' ∧ cO M' pre ∧ tF M M' := by
  have h24 := w.1.1.2
  intro R
  induction R with
  | nil =>
    intro A M f c rt hp hA hf
    obtain ⟨f, rfl⟩ : ∃ g, f = g + 1 := ⟨f - 1, by simp at hf; omega⟩
    rw [List.append_nil] at hp
    refine ⟨M, ?_, c, rt, by rw [hp]; exact hA, tF_r M⟩
    have hl : A.length = sN s := by rw [← hp]; exact ht.2.2.2
    rw [f_Tree_number_7, c.1.2, hl, i_le (by omega) (by omega), if_pos (Nat.le_refl _)]
  | cons q R ih =>
    intro A M f c rt hp hA hf
    obtain ⟨x, e⟩ := q
    obtain ⟨f, rfl⟩ : ∃ g, f = g + 1 := ⟨f - 1, by simp at hf; omega⟩
    have hx : x < sN s := (ht.2.2.1 x).mp (by rw [hp, fI_app, fI_cons]; simp)
    have hl : A.length + 1 + R.length = sN s := by
      have := ht.2.2.2
      rw [hp] at this
      simp at this
      omega
    obtain ⟨c', t'⟩ := C_num (k := A.length) c h24 hx (nI A.length) (some (7 + 5 * x))
    have rt' : cRt (qsR (qsI M (7 + 5 * x) 2 (nI A.length)) 3 A.length (some (7 + 5 * x))) := ⟨by rw [g_Rn (by omega)]; exact rt.1, by rw [g_Rn (by omega)]; exact rt.2⟩
    have hA' : ∀ k i e', (A ++ [(x, e)])[k]? = some (i, e') → (qsR (qsI M (7 + 5 * x) 2 (nI A.length)) 3 A.length (some (7 + 5 * x))).2 3 k = some (7 + 5 * i) ∧ (qsR (qsI M (7 + 5 * x) 2 (nI A.length)) 3 A.length (some (7 + 5 * x))).1 (7 + 5 * i) 2 = nI k := by
      intro k i e' hk
      rw [List.getElem?_append] at hk
      split at hk
      · rename_i hlt
        have hne : i ≠ x := fun q => by
          have nd := ht.2.1
          rw [hp, fI_app, fI_cons] at nd
          have m : i ∈ fI A := fI_mem.mpr ⟨e', List.mem_of_getElem? hk⟩
          exact (List.nodup_append.mp nd).2.2 i m x (by simp) q
        have := hA k i e' hk
        rw [g_Rn (by omega), g_R1, g_In (by omega)]
        exact this
      · have : k - A.length = 0 := by
          have := (List.getElem?_eq_some_iff.mp hk).1
          simp at this
          omega
        rw [this] at hk
        have hk' : x = i ∧ e = e' := by simpa using hk
        have hk2 : k = A.length := by omega
        rw [← hk'.1, hk2, g_Re ⟨rfl, rfl⟩, g_R1, g_Ie ⟨rfl, rfl⟩]
        exact ⟨rfl, rfl⟩
    obtain ⟨M', r1, r2, r3, r4, r5⟩ := ih (A ++ [(x, e)]) (qsR (qsI M (7 + 5 * x) 2 (nI A.length)) 3 A.length (some (7 + 5 * x))) f c' rt' (by rw [hp]; simp) hA' (by simp at hf; omega)
    refine ⟨M', ?_, r2, r3, r4, tF_t t' r5⟩
    rw [f_Tree_number_7, c.1.2, i_le (by omega) (by omega), if_neg (by omega), fI_cons]
    simp only [List.head?_cons, oP_s, q_on, q_lt]
    rw [g_ix (by omega) (by omega), g_cl (by omega)]
    have hnx := t_next c' w rt' ht hp
    simp only [q_lt, q_bp, hnx, g_inc]
    have : A.length + 1 = (A ++ [(x, e)]).length := by simp
    rw [this]
    exact r1
theorem t_number {M : qM} {s : aT} (c : C M s) (w : Wf s) (rt : cRt M) {pre : List (Nat × Nat)} (ht : wT s pre) : ∃ M', f_Tree_number M = some M' ∧ C M' s ∧ cRt M' ∧ cO M' pre ∧ tF M M' := by
  have h24 := w.1.1.2
  have h0 : oP (fI pre).head? = some 7 := by
    obtain ⟨L1, L2, e1, _, _⟩ := Fo_cons_inv ht.1
    rw [e1]
    rfl
  have := t_num w ht pre [] M 1000 c rt rfl (fun k i e h => by simp at h) (by rw [ht.2.2.2]; omega)
  rw [h0] at this
  exact this
