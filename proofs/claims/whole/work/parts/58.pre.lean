/-! the flat form when a subtree is put in or taken out -/
def sh (d d' : Nat) (U : List (Nat × Nat)) : List (Nat × Nat) := U.map fun q => (q.1, q.2 - d + d')
theorem sh_fI (d d' : Nat) (U : List (Nat × Nat)) : fI (sh d d' U) = fI U := by
  unfold fI sh
  rw [List.map_map]
  rfl
theorem sh_len (d d' : Nat) (U : List (Nat × Nat)) : (sh d d' U).length = U.length := List.length_map _
theorem fI_sub {a b : List (Nat × Nat)} {x : Nat} (h : x ∈ fI b) (hs : ∀ q ∈ b, q ∈ a) : x ∈ fI a := by
  obtain ⟨e, he⟩ := fI_mem.mp h
  exact fI_mem.mpr ⟨e, hs _ he⟩
/-- a subtree behind the last child of p -/
theorem P_app {kd : Nat → List Nat} {pre U : List (Nat × Nat)} {p c d0 : Nat} (h : Fo kd 0 [0] pre) (nd : (fI pre).Nodup) (hp : p ∈ fI pre) (hU : Fo kd d0 [c] U) (hdis : ∀ x ∈ fI U, x ∉ fI pre) : ∃ A S B e, pre = A ++ (p, e) :: (S ++ B) ∧ Fo kd (e + 1) (kd p) S ∧ (∀ q ∈ B.head?, q.2 ≤ e) ∧ Fo (up kd p (kd p ++ [c])) 0 [0] (A ++ (p, e) :: (S ++ sh d0 (e + 1) U ++ B)) := by
  obtain ⟨A, S, B, e, e1, e2, e3, e4, e5⟩ := Fo_at h p hp
  rw [e1, fI_app, fI_cons, fI_app] at nd
  have nA : p ∉ fI A := fun m => (List.nodup_append.mp nd).2.2 p m p (by simp) rfl
  have nS : p ∉ fI S := fun m => (List.nodup_cons.mp (List.nodup_append.mp nd).2.1).1 (by simp [m])
  have nB : p ∉ fI B := fun m => (List.nodup_cons.mp (List.nodup_append.mp nd).2.1).1 (by simp [m])
  have nU : p ∉ fI U := fun m => hdis p m hp
  refine ⟨A, S, B, e, e1, e2, e4, ?_⟩
  refine e5 (up kd p (kd p ++ [c])) (S ++ sh d0 (e + 1) U) (fun i hi => up_n fun q => nA (q ▸ hi)) (fun i hi => up_n fun q => nB (q ▸ hi)) ?_
  rw [up_e]
  refine Fo_app (Fo_congr (Fo_shift hU (e + 1)) fun i hi => up_n fun q => nU ?_) (Fo_congr e2 fun i hi => up_n fun q => nS (q ▸ hi))
  have := sh_fI d0 (e + 1) U
  unfold sh at this
  rw [this] at hi
  exact q ▸ hi
/-- a subtree ahead of t, a child of p -/
theorem P_ins {kd : Nat → List Nat} {pre U : List (Nat × Nat)} {p c t d0 : Nat} {K1 K2 : List Nat} (h : Fo kd 0 [0] pre) (nd : (fI pre).Nodup) (hp : p ∈ fI pre) (hk : kd p = K1 ++ t :: K2) (hU : Fo kd d0 [c] U) (hdis : ∀ x ∈ fI U, x ∉ fI pre) : ∃ A B e, pre = A ++ (t, e) :: B ∧ 1 ≤ e ∧ Fo (up kd p (K1 ++ c :: t :: K2)) 0 [0] (A ++ sh d0 e U ++ (t, e) :: B) := by
  obtain ⟨A, S, B, e, e1, e2, e3, e4, e5⟩ := Fo_at h p hp
  rw [hk] at e2
  obtain ⟨S1, S2, rfl, g1, g2⟩ := Fo_app_inv e2
  obtain ⟨L1, L2, rfl, g3, g4⟩ := Fo_cons_inv g2
  have nd2 := nd
  rw [e1, fI_app, fI_cons, fI_app] at nd
  have nA : p ∉ fI A := fun m => (List.nodup_append.mp nd).2.2 p m p (by simp) rfl
  have nS : p ∉ fI (S1 ++ (t, e + 1) :: (L1 ++ L2)) := fun m => (List.nodup_cons.mp (List.nodup_append.mp nd).2.1).1 (by simp [m])
  have nB : p ∉ fI B := fun m => (List.nodup_cons.mp (List.nodup_append.mp nd).2.1).1 (by simp [m])
  have nU : p ∉ fI U := fun m => hdis p m hp
  rw [fI_app] at nS
  refine ⟨A ++ (p, e) :: S1, L1 ++ L2 ++ B, e + 1, by rw [e1]; simp, by omega, ?_⟩
  have := e5 (up kd p (K1 ++ c :: t :: K2)) (S1 ++ (sh d0 (e + 1) U ++ (t, e + 1) :: (L1 ++ L2))) (fun i hi => up_n fun q => nA (q ▸ hi)) (fun i hi => up_n fun q => nB (q ▸ hi)) (by
    rw [up_e]
    refine Fo_app ?_ (Fo_congr g1 fun i hi => up_n fun q => nS (by simp [q ▸ hi]))
    refine Fo_app (is := [c]) (Fo_congr g2 fun i hi => up_n fun q => nS (by simp [q ▸ hi])) (Fo_congr (Fo_shift hU (e + 1)) fun i hi => up_n fun q => nU ?_)
    have hi' : i ∈ fI (sh d0 (e + 1) U) := hi
    rw [sh_fI] at hi'
    exact q ▸ hi')
  simpa using this
/-- a subtree taken out -/
theorem P_rem {kd : Nat → List Nat} {pre : List (Nat × Nat)} {p t : Nat} {K1 K2 : List Nat} (h : Fo kd 0 [0] pre) (nd : (fI pre).Nodup) (hp : p ∈ fI pre) (hk : kd p = K1 ++ t :: K2) : ∃ X U Y e, pre = X ++ (t, e) :: (U ++ Y) ∧ Fo kd e [t] ((t, e) :: U) ∧ Fo kd (e + 1) (kd t) U ∧ (∀ q ∈ Y.head?, q.2 ≤ e) ∧ 1 ≤ e ∧ Fo (up kd p (K1 ++ K2)) 0 [0] (X ++ Y) := by
  obtain ⟨A, S, B, e, e1, e2, e3, e4, e5⟩ := Fo_at h p hp
  rw [hk] at e2
  obtain ⟨S1, S2, rfl, g1, g2⟩ := Fo_app_inv e2
  obtain ⟨L1, L2, rfl, g3, g4⟩ := Fo_cons_inv g2
  rw [e1, fI_app, fI_cons, fI_app] at nd
  have nA : p ∉ fI A := fun m => (List.nodup_append.mp nd).2.2 p m p (by simp) rfl
  have nS : p ∉ fI (S1 ++ (t, e + 1) :: (L1 ++ L2)) := fun m => (List.nodup_cons.mp (List.nodup_append.mp nd).2.1).1 (by simp [m])
  have nB : p ∉ fI B := fun m => (List.nodup_cons.mp (List.nodup_append.mp nd).2.1).1 (by simp [m])
  rw [fI_app, fI_cons, fI_app] at nS
  refine ⟨A ++ (p, e) :: S1, L1, L2 ++ B, e + 1, by rw [e1]; simp, ?_, g3, fun q hq => ?_, by omega, ?_⟩
  · have := Fo_cons g3 (Fo_nil (kd := kd) (d := e + 1))
    rwa [List.append_nil] at this
  · cases L2 with
    | nil =>
      have := e4 q hq
      omega
    | cons b L2 =>
      have := Fo_head g4 q hq
      omega
  · have := e5 (up kd p (K1 ++ K2)) (S1 ++ L2) (fun i hi => up_n fun q => nA (q ▸ hi)) (fun i hi => up_n fun q => nB (q ▸ hi)) (by
      rw [up_e]
      exact Fo_app (Fo_congr g4 fun i hi => up_n fun q => nS (by simp [q ▸ hi])) (Fo_congr g1 fun i hi => up_n fun q => nS (by simp [q ▸ hi])))
    simpa using this
/-- children given to a new node that becomes the only child -/
theorem P_give {kd : Nat → List Nat} {pre : List (Nat × Nat)} {p c : Nat} (h : Fo kd 0 [0] pre) (nd : (fI pre).Nodup) (hp : p ∈ fI pre) (hc : c ∉ fI pre) : ∃ A S B e, pre = A ++ (p, e) :: (S ++ B) ∧ Fo kd (e + 1) (kd p) S ∧ (∀ q ∈ B.head?, q.2 ≤ e) ∧ Fo (up (up kd c (kd p)) p [c]) 0 [0] (A ++ (p, e) :: ((c, e + 1) :: sh (e + 1) (e + 2) S ++ B)) := by
  obtain ⟨A, S, B, e, e1, e2, e3, e4, e5⟩ := Fo_at h p hp
  have hcp : c ≠ p := fun q => hc (q ▸ hp)
  rw [e1, fI_app, fI_cons, fI_app] at nd hc
  have nA : p ∉ fI A := fun m => (List.nodup_append.mp nd).2.2 p m p (by simp) rfl
  have nS : p ∉ fI S := fun m => (List.nodup_cons.mp (List.nodup_append.mp nd).2.1).1 (by simp [m])
  have nB : p ∉ fI B := fun m => (List.nodup_cons.mp (List.nodup_append.mp nd).2.1).1 (by simp [m])
  have hu : ∀ i, i ≠ p → i ≠ c → up (up kd c (kd p)) p [c] i = kd i := fun i h1 h2 => by rw [up_n h1, up_n h2]
  refine ⟨A, S, B, e, e1, e2, e4, ?_⟩
  refine e5 _ ((c, e + 1) :: sh (e + 1) (e + 2) S) (fun i hi => hu i (fun q => nA (q ▸ hi)) fun q => hc (by simp [q ▸ hi])) (fun i hi => hu i (fun q => nB (q ▸ hi)) fun q => hc (by simp [q ▸ hi])) ?_
  rw [up_e]
  have := Fo_cons (kd := up (up kd c (kd p)) p [c]) (i := c) (d := e + 1) (js := []) (L1 := sh (e + 1) (e + 2) S) (L2 := []) (by
    rw [up_n hcp, up_e]
    refine Fo_congr (Fo_shift e2 (e + 2)) fun i hi => ?_
    have hi' : i ∈ fI (sh (e + 1) (e + 2) S) := hi
    rw [sh_fI] at hi'
    have hi := hi'
    exact hu i (fun q => nS (q ▸ hi)) fun q => hc (by simp [q ▸ hi])) Fo_nil
  rwa [List.append_nil] at this
/-- a list of children has no node twice -/
theorem Fo_nd {kd : Nat → List Nat} {d : Nat} {is : List Nat} {out : List (Nat × Nat)} (h : Fo kd d is out) : (fI out).Nodup → is.Nodup := by
  refine Fo_ind (P := fun d is out => (fI out).Nodup → is.Nodup) (fun d _ => List.nodup_nil) (fun d i js L1 L2 _ h2 _ p2 nd => ?_) h
  rw [fI_cons, fI_app] at nd
  have a := List.nodup_cons.mp nd
  refine List.nodup_cons.mpr ⟨fun m => a.1 ?_, p2 (List.nodup_append.mp a.2).2.1⟩
  have := fI_mem.mpr ⟨_, Fo_sub h2 i m⟩
  simp [this]
theorem Fo_knd {kd : Nat → List Nat} {pre : List (Nat × Nat)} {p : Nat} (h : Fo kd 0 [0] pre) (nd : (fI pre).Nodup) (hp : p ∈ fI pre) : (kd p).Nodup := by
  obtain ⟨A, S, B, e, e1, e2, _⟩ := Fo_at h p hp
  refine Fo_nd e2 ?_
  rw [e1, fI_app, fI_cons, fI_app] at nd
  exact (List.nodup_append.mp (List.nodup_cons.mp (List.nodup_append.mp nd).2.1).2).1
theorem insB_no {c t : Nat} : ∀ {L : List Nat}, t ∉ L → L.flatMap (fun x => if x = t then [c, t] else [x]) = L
  | [], _ => rfl
  | x :: L, h => by
    rw [List.flatMap_cons, if_neg (fun q => h (by simp [q])), insB_no fun m => h (by simp [m])]
    rfl
def insB (c t : Nat) (L : List Nat) : List Nat := L.flatMap fun x => if x = t then [c, t] else [x]
theorem insB_n {c t : Nat} {L : List Nat} (h : t ∉ L) : insB c t L = L := insB_no h
theorem insB_y {c t : Nat} {A B : List Nat} (hA : t ∉ A) (hB : t ∉ B) : insB c t (A ++ t :: B) = A ++ c :: t :: B := by
  unfold insB
  rw [List.flatMap_append, List.flatMap_cons, insB_no hA, insB_no hB, if_pos rfl]
  rfl
/-- a node has one parent -/
theorem Fo_one {kd : Nat → List Nat} {pre : List (Nat × Nat)} {p q t : Nat} (h : Fo kd 0 [0] pre) (nd : (fI pre).Nodup) (hp : p ∈ fI pre) (hq : q ∈ fI pre) (h1 : t ∈ kd p) (h2 : t ∈ kd q) : p = q := by
  obtain ⟨K1, K2, e⟩ := List.append_of_mem h1
  obtain ⟨A, S, B, d, e1, e2, _, _, _⟩ := Fo_at h p hp
  obtain ⟨A', S', B', d', e1', e2', _, _, _⟩ := Fo_at h q hq
  have m1 : t ∈ fI S := fI_mem.mpr ⟨_, Fo_sub e2 t h1⟩
  have m2 : t ∈ fI S' := fI_mem.mpr ⟨_, Fo_sub e2' t h2⟩
  have d1 : (t, d + 1) ∈ pre := by rw [e1]; simp [Fo_sub e2 t h1]
  have d2 : (t, d' + 1) ∈ pre := by rw [e1']; simp [Fo_sub e2' t h2]
  have hd : d = d' := by
    obtain ⟨i, hi, hi2⟩ := List.mem_iff_getElem.mp d1
    obtain ⟨j, hj, hj2⟩ := List.mem_iff_getElem.mp d2
    have : i = j := nd_inj nd (fI_get ((List.getElem?_eq_getElem hi).trans (congrArg some hi2))) (fI_get ((List.getElem?_eq_getElem hj).trans (congrArg some hj2)))
    subst this
    rw [hi2] at hj2
    simpa using hj2
  subst hd
  -- t stands behind p within p's subtree, behind q within q's
  by_cases hpq : p = q
  · exact hpq
  · exfalso
    have hq' : q ∈ fI A ∨ q ∈ fI S ∨ q ∈ fI B := by
      rw [e1, fI_app, fI_cons, fI_app] at hq
      simp at hq
      rcases hq with h | h | h | h
      · exact Or.inl h
      · exact absurd h.symm hpq
      · exact Or.inr (Or.inl h)
      · exact Or.inr (Or.inr h)
    have len : A.length ≠ A'.length := fun hl => by
      have := congrArg (fun l => l[A.length]?) (e1.symm.trans e1')
      simp only [List.getElem?_append_right (Nat.le_refl _), Nat.sub_self] at this
      rw [hl, List.getElem?_append_right (Nat.le_refl _), Nat.sub_self] at this
      simp at this
      exact hpq this
    -- the one that stands later has depth d and lies in the other's subtree or behind it
    have key : ∀ {P Q : Nat} {A S B A' S' B' : List (Nat × Nat)}, pre = A ++ (P, d) :: (S ++ B) → pre = A' ++ (Q, d) :: (S' ++ B') → (∀ x ∈ S, d + 1 ≤ x.2) → A.length < A'.length → t ∈ fI S → t ∈ fI S' → False := by
      intro P Q A S B A' S' B' a1 a2 a3 hl b1 b2
      -- Q at index A'.length is not in S (depth d), so it is in B; so S' lies in B
      have hidx : A.length + 1 + S.length ≤ A'.length := by
        refine Nat.le_of_not_lt fun hlt => ?_
        have g : pre[A'.length]? = some (Q, d) := by rw [a2]; simp
        rw [a1, List.getElem?_append_right (by omega)] at g
        obtain ⟨k, hk⟩ : ∃ k, A'.length - A.length = k + 1 := ⟨A'.length - A.length - 1, by omega⟩
        rw [hk, List.getElem?_cons_succ, List.getElem?_append_left (by omega)] at g
        have h5 : d + 1 ≤ d := a3 _ (List.mem_of_getElem? g)
        omega
      obtain ⟨i, hi, hi2⟩ := List.mem_iff_getElem.mp b1
      obtain ⟨j, hj, hj2⟩ := List.mem_iff_getElem.mp b2
      rw [fI_len] at hi hj
      have g1 : (fI pre)[A.length + 1 + i]? = some t := by
        rw [a1, fI_app, fI_cons, fI_app, List.getElem?_append_right (by rw [fI_len]; omega), fI_len, show A.length + 1 + i - A.length = i + 1 by omega, List.getElem?_cons_succ, List.getElem?_append_left (by rw [fI_len]; omega), List.getElem?_eq_getElem (by rw [fI_len]; omega), hi2]
      have g2 : (fI pre)[A'.length + 1 + j]? = some t := by
        rw [a2, fI_app, fI_cons, fI_app, List.getElem?_append_right (by rw [fI_len]; omega), fI_len, show A'.length + 1 + j - A'.length = j + 1 by omega, List.getElem?_cons_succ, List.getElem?_append_left (by rw [fI_len]; omega), List.getElem?_eq_getElem (by rw [fI_len]; omega), hj2]
      have := nd_inj nd g1 g2
      omega
    rcases Nat.lt_or_gt_of_ne len with hl | hl
    · exact key e1 e1' (fun x hx => Fo_ge e2 x hx) hl m1 m2
    · exact key e1' e1 (fun x hx => Fo_ge e2' x hx) hl m2 m1
