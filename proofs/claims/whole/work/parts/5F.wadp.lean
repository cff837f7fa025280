/-! an element taken over: the flat form, and what must hold is kept -/
theorem sp_uniq {d : Nat} : ∀ {S S' B B' : List (Nat × Nat)}, S ++ B = S' ++ B' → (∀ q ∈ S, d < q.2) → (∀ q ∈ S', d < q.2) → (∀ q ∈ B.head?, q.2 ≤ d) → (∀ q ∈ B'.head?, q.2 ≤ d) → S = S' ∧ B = B'
  | [], [], B, B', h, _, _, _, _ => ⟨rfl, h⟩
  | [], y :: S', B, B', h, _, h2, h3, _ => by
    have h' : B = y :: (S' ++ B') := h
    have := h3 y (by rw [h']; rfl)
    have := h2 y (by simp)
    omega
  | x :: S, [], B, B', h, h1, _, _, h4 => by
    have h' : B' = x :: (S ++ B) := h.symm
    have := h4 x (by rw [h']; rfl)
    have := h1 x (by simp)
    omega
  | x :: S, y :: S', B, B', h, h1, h2, h3, h4 => by
    have h' : x = y ∧ S ++ B = S' ++ B' := by simpa using h
    obtain ⟨e1, e2⟩ := sp_uniq h'.2 (fun q hq => h1 q (by simp [hq])) (fun q hq => h2 q (by simp [hq])) h3 h4
    exact ⟨by rw [h'.1, e1], e2⟩
/-- the place of a node in a flat form without repetition -/
theorem at_uniq {p e e' : Nat} : ∀ {A A' B B' : List (Nat × Nat)}, A ++ (p, e) :: B = A' ++ (p, e') :: B' → (fI (A ++ (p, e) :: B)).Nodup → A = A' ∧ e = e' ∧ B = B'
  | [], [], B, B', h, _ => by
    have : (p, e) = (p, e') ∧ B = B' := by simpa using h
    exact ⟨rfl, by simpa using this.1, this.2⟩
  | [], y :: A', B, B', h, nd => by
    have h' : (p, e) = y ∧ B = A' ++ (p, e') :: B' := by simpa using h
    have m : p ∈ fI B := by rw [h'.2, fI_app, fI_cons]; simp
    exact absurd m (List.nodup_cons.mp nd).1
  | x :: A, [], B, B', h, nd => by
    have h' : x = (p, e') ∧ A ++ (p, e) :: B = B' := by simpa using h
    have m : p ∈ fI (A ++ (p, e) :: B) := by rw [fI_app, fI_cons]; simp
    have := (List.nodup_cons.mp nd).1
    rw [h'.1] at this
    exact absurd m this
  | x :: A, y :: A', B, B', h, nd => by
    have h' : x = y ∧ A ++ (p, e) :: B = A' ++ (p, e') :: B' := by simpa using h
    obtain ⟨e1, e2⟩ := at_uniq h'.2 (List.nodup_cons.mp nd).2
    exact ⟨by rw [h'.1, e1], e2⟩
theorem adp_pre {s : aT} (w : Wf s) {pre : List (Nat × Nat)} (ht : wT s pre) {e b : Nat} (h1 : 1 ≤ e) (h2 : e < b) (h3 : b < sH s) : ∃ X U Y A B eb d, pre = X ++ (sSf s b, eb) :: (U ++ Y) ∧ Fo (sKd s) (eb + 1) (sKd s (sSf s b)) U ∧ (∀ q ∈ Y.head?, q.2 ≤ eb) ∧ 1 ≤ eb ∧ X ++ Y = A ++ B ∧ Fo (sKd (s_adp3 s e b)) 0 [0] (A ++ (sSf s b, d) :: (sh eb d U ++ B)) ∧ (∀ q ∈ B.head?, q.2 ≤ d) ∧ 1 ≤ d ∧ ((plT (sNm s) (sSf s) e = none ∧ ∃ A' S ep, A = A' ++ (sSf s (e - 1), ep) :: S ∧ (∀ q ∈ S, ep < q.2) ∧ (∀ q ∈ B.head?, q.2 ≤ ep) ∧ d = ep + 1) ∨ ∃ j B', plT (sNm s) (sSf s) e = some j ∧ B = (sSf s j, d) :: B') := by
  have hb : ∀ k, k < sH s → sSf s k < sN s := w.1.2.2.2.1
  have hh : 1 ≤ sH s ∧ sH s ≤ sN s := w.1.2.2.1
  have hJ := w.2.2.2.2.2.2.2.2.2
  have hin := w.1.2.2.2.2
  have hsf : ∀ k, k < e → toF (sSf s) e b k = sSf s k := fun k hk => toF_l hk
  obtain ⟨t1, t2, t3, t4⟩ := ht
  have b0 : sSf s b ≠ 0 := fun q => by
    have := hin b 0 h3 (by omega) (by rw [q, w.2.2.2.2.1.1])
    omega
  obtain ⟨p, K1, K2, p1, p2, p3⟩ := W_par w (hb b h3) b0
  obtain ⟨X, U, Y, eb, g1, g2, g3, g4, g5, g6⟩ := P_rem t1 t2 ((t3 p).mpr p1) p3
  have hdd := List.nodup_append.mp (p3 ▸ W_nd w p1)
  have hA : sSf s b ∉ K1 := fun m => hdd.2.2 _ m _ (by simp) rfl
  have hB : sSf s b ∉ K2 := (List.nodup_cons.mp hdd.2.1).1
  have nd := t2
  rw [g1, fI_app, fI_cons, fI_app] at nd
  -- who lies in X ++ Y
  have mXY : ∀ i, i < sN s → i ≠ sSf s b → i ∉ fI U → i ∈ fI (X ++ Y) := fun i hi h1 h2 => by
    have := (t3 i).mpr hi
    rw [g1, fI_app, fI_cons, fI_app] at this
    rw [fI_app]
    simp at this ⊢
    rcases this with h | h | h | h
    · exact Or.inl h
    · exact absurd h h1
    · exact absurd h h2
    · exact Or.inr h
  have lXY : ∀ i ∈ fI (X ++ Y), i < sN s := fun i hi => (t3 i).mp (by
    rw [g1, fI_app, fI_cons, fI_app]
    rw [fI_app] at hi
    simp at hi ⊢
    rcases hi with h | h
    · exact Or.inl h
    · exact Or.inr (Or.inr (Or.inr h)))
  have dU : ∀ i ∈ fI U, dsc (sKd s) (sSf s b) i := fun i hi => by
    obtain ⟨z, hz, m, hm⟩ := Fo_pth g3 i hi
    exact ⟨m, z, hz, hm⟩
  -- the children's lists without the block
  have ek : ∀ i, i < sN s → (sKd s i).filter (fun z => z != sSf s b) = up (sKd s) p (K1 ++ K2) i := fun i hi => by
    by_cases q : i = p
    · rw [q, up_e, p3, filt_y hA hB]
    · rw [up_n q, filt_n]
      exact fun m => q (Fo_one t1 t2 ((t3 i).mpr hi) ((t3 p).mpr p1) m (by rw [p3]; simp))
  have F1 : Fo (fun q => (sKd s q).filter fun z => z != sSf s b) 0 [0] (X ++ Y) := Fo_congr g6 fun i hi => ek i (lXY i hi)
  have ndXY : (fI (X ++ Y)).Nodup := by
    rw [fI_app]
    have a := List.nodup_append.mp nd
    have c := List.nodup_append.mp (List.nodup_cons.mp a.2.1).2
    exact List.nodup_append.mpr ⟨a.1, c.2.1, fun x hx y hy => a.2.2 x hx y (by simp [hy])⟩
  have nbU : sSf s b ∉ fI U := fun m => (List.nodup_cons.mp (List.nodup_append.mp nd).2.1).1 (by simp [m])
  have pU : p ∉ fI U := fun m => nbU (Fo_kids g3 p m _ (by rw [p3]; simp))
  have FU : Fo (fun q => (sKd s q).filter fun z => z != sSf s b) eb [sSf s b] ((sSf s b, eb) :: U) := Fo_congr g2 fun i hi => by
    rw [fI_cons] at hi
    refine filt_n fun m => ?_
    have hi' : i < sN s := (t3 i).mp (by
      rw [g1, fI_app, fI_cons, fI_app]
      rcases List.mem_cons.mp hi with h | h
      · rw [h]; simp
      · simp [h])
    have : i = p := Fo_one t1 t2 ((t3 i).mpr hi') ((t3 p).mpr p1) m (by rw [p3]; simp)
    rcases List.mem_cons.mp hi with h | h
    · exact p2 (h.symm.trans this)
    · exact pU (this ▸ h)
  have dis : ∀ x ∈ fI ((sSf s b, eb) :: U), x ∉ fI (X ++ Y) := fun x hx hm => by
    rw [fI_cons] at hx
    rw [fI_app] at hm
    have a := List.nodup_append.mp nd
    have c := List.nodup_append.mp (List.nodup_cons.mp a.2.1).2
    rcases List.mem_append.mp hm with m | m
    · exact a.2.2 x m x (by simpa using Or.imp_right Or.inl (List.mem_cons.mp hx)) rfl
    · rcases List.mem_cons.mp hx with h | h
      · rw [h] at m
        exact (List.nodup_cons.mp a.2.1).1 (by simp [m])
      · exact c.2.2 x h x m rfl
  have eSh : ∀ d, sh eb d ((sSf s b, eb) :: U) = (sSf s b, d) :: sh eb d U := fun d => by simp [sh]
  cases hj : plT (sNm s) (sSf s) e with
  | none =>
    have htop : sSf s (e - 1) ∈ fI (X ++ Y) := mXY _ (hb _ (by omega)) (fun q => by have := hin _ _ (by omega) h3 q; omega) fun m => hJ (e - 1) b (by omega) h3 (dU _ m)
    obtain ⟨A, S, B, ep, e1, e2, e3, e4⟩ := P_app F1 ndXY htop FU dis
    refine ⟨X, U, Y, A ++ (sSf s (e - 1), ep) :: S, B, eb, ep + 1, g1, g3, g4, g5, by rw [e1]; simp, ?_, fun q hq => Nat.le_succ_of_le (e3 q hq), by omega, Or.inl ⟨rfl, A, S, ep, rfl, fun q hq => Fo_ge e2 q hq, e3, rfl⟩⟩
    rw [eSh] at e4
    have ekd : sKd (s_adp3 s e b) = up (fun q => (sKd s q).filter fun z => z != sSf s b) (sSf s (e - 1)) ((sKd s (sSf s (e - 1))).filter (fun z => z != sSf s b) ++ [sSf s b]) := by
      show (match plT (sNm s) (toF (sSf s) e b) e with
        | some j => fun q => insB (sSf s b) (toF (sSf s) e b j) ((sKd s q).filter fun z => z != sSf s b)
        | none => up (fun q => (sKd s q).filter fun z => z != sSf s b) (toF (sSf s) e b (e - 1)) ((sKd s (toF (sSf s) e b (e - 1))).filter (fun z => z != sSf s b) ++ [sSf s b])) = _
      rw [plT_sf h1 hsf, hj, hsf _ (by omega)]
    rw [ekd]
    simpa using e4
  | some j =>
    have hl := plT_lt hj
    obtain ⟨p', A', B', q1, q2, q3, q4, q5⟩ := adp_T w h2 h3 hj
    have hp' : p' ∈ fI (X ++ Y) := mXY p' q1 q2 fun m => by
      obtain ⟨m', hm'⟩ := dU _ m
      -- a way from the block to the table
      have ext : ∀ {n x y z : Nat}, pth (sKd s) n x y → z ∈ sKd s y → pth (sKd s) (n + 1) x z := by
        intro n
        induction n with
        | zero =>
          intro x y z h hz
          have h' : x = y := h
          subst h'
          exact ⟨z, hz, rfl⟩
        | succ n ih =>
          intro x y z h hz
          obtain ⟨u, hu, h'⟩ := h
          exact ⟨u, hu, ih h' hz⟩
      exact hJ j b (by omega) h3 ⟨m' + 1, ext hm' (by rw [q5]; simp)⟩
    obtain ⟨A, B, et, e1, e2, e3⟩ := P_ins (K1 := A'.filter fun z => z != sSf s b) (K2 := B'.filter fun z => z != sSf s b) (t := sSf s j) F1 ndXY hp' (by
      show (sKd s p').filter _ = _
      rw [q5, List.filter_append, List.filter_cons, if_pos (by simpa using q4)]) FU dis
    refine ⟨X, U, Y, A, (sSf s j, et) :: B, eb, et, g1, g3, g4, g5, e1, ?_, fun q hq => by cases hq; exact Nat.le_refl _, e2, Or.inr ⟨j, B, rfl, rfl⟩⟩
    rw [eSh] at e3
    have hdd' := List.nodup_append.mp (q5 ▸ W_nd w q1)
    have nA' : sSf s j ∉ A' := fun m => hdd'.2.2 _ m _ (by simp) rfl
    have nB' : sSf s j ∉ B' := (List.nodup_cons.mp hdd'.2.1).1
    have ekd : ∀ i, i < sN s → sKd (s_adp3 s e b) i = up (fun q => (sKd s q).filter fun z => z != sSf s b) p' (A'.filter (fun z => z != sSf s b) ++ sSf s b :: sSf s j :: B'.filter fun z => z != sSf s b) i := fun i hi => by
      show (match plT (sNm s) (toF (sSf s) e b) e with
        | some j => fun q => insB (sSf s b) (toF (sSf s) e b j) ((sKd s q).filter fun z => z != sSf s b)
        | none => up (fun q => (sKd s q).filter fun z => z != sSf s b) (toF (sSf s) e b (e - 1)) ((sKd s (toF (sSf s) e b (e - 1))).filter (fun z => z != sSf s b) ++ [sSf s b])) i = _
      rw [plT_sf h1 hsf, hj]
      show insB (sSf s b) (toF (sSf s) e b j) ((sKd s i).filter fun z => z != sSf s b) = _
      rw [hsf j hl.1]
      by_cases q : i = p'
      · rw [q, up_e, q5, List.filter_append, List.filter_cons, if_pos (by simpa using q4), insB_y (fun m => nA' (List.mem_filter.mp m).1) fun m => nB' (List.mem_filter.mp m).1]
      · rw [up_n q, insB_n]
        exact fun m => q (Fo_one t1 t2 ((t3 i).mpr hi) ((t3 p').mpr q1) (List.mem_filter.mp m).1 (by rw [q5]; simp))
    have e3' := Fo_congr (kd' := sKd (s_adp3 s e b)) e3 fun i hi => ekd i (by
      rw [fI_app, fI_app, fI_cons, sh_fI, fI_cons] at hi
      have hXY : fI (X ++ Y) = fI A ++ sSf s j :: fI B := by rw [e1, fI_app, fI_cons]
      simp at hi
      rcases hi with h | h | h | h | h
      · exact lXY i (by rw [hXY]; simp [h])
      · rw [h]; exact hb b h3
      · exact (t3 i).mp (by rw [g1, fI_app, fI_cons, fI_app]; simp [h])
      · exact lXY i (by rw [hXY]; simp [h])
      · exact lXY i (by rw [hXY]; simp [h]))
    simpa using e3'
theorem pth_ext {kd : Nat → List Nat} {z : Nat} : ∀ {n x y : Nat}, pth kd n x y → z ∈ kd y → pth kd (n + 1) x z
  | 0, x, y, h, hz => by
    have h' : x = y := h
    subst h'
    exact ⟨z, hz, rfl⟩
  | n + 1, x, y, ⟨u, hu, h'⟩, hz => ⟨u, hu, pth_ext h' hz⟩
/-- ways after a block was put below P and its children below n -/
theorem pth_adp {kd kd5 : Nat → List Nat} {b n P : Nat} (h1 : ∀ q z, q < n → q ≠ b → z ∈ kd5 q → z ∈ kd q ∨ (z = b ∧ q = P)) (h2 : ∀ z, z ∈ kd5 b → (z = n ∧ ∀ z', z' ∈ kd5 n → z' ∈ kd b) ∨ z ∈ kd b) (hk : ∀ q z, q < n → z ∈ kd q → z < n) (hb : b < n) {y : Nat} (hy : y ≠ n) : ∀ (m x : Nat), x < n → pth kd5 m x y → (∃ m', pth kd m' x y ∧ (1 ≤ m → 1 ≤ m')) ∨ ((∃ m1, pth kd m1 x P) ∧ ∃ m2, pth kd m2 b y) := by
  intro m
  induction m using Nat.strongRecOn with
  | ind m ih =>
    intro x hx hp
    cases m with
    | zero => exact Or.inl ⟨0, hp, fun h => h⟩
    | succ m =>
      obtain ⟨z, hz, hp'⟩ := hp
      have old : ∀ z' m', m' < m + 1 → z' ∈ kd x → pth kd5 m' z' y → (∃ m', pth kd m' x y ∧ (1 ≤ m + 1 → 1 ≤ m')) ∨ ((∃ m1, pth kd m1 x P) ∧ ∃ m2, pth kd m2 b y) := by
        intro z' m' hm hk' hp''
        rcases ih m' hm z' (hk x z' hx hk') hp'' with ⟨m'', e1, _⟩ | ⟨⟨m1, e1⟩, e2⟩
        · exact Or.inl ⟨m'' + 1, ⟨z', hk', e1⟩, fun _ => by omega⟩
        · exact Or.inr ⟨⟨m1 + 1, z', hk', e1⟩, e2⟩
      by_cases hxb : x = b
      · subst hxb
        rcases h2 z hz with ⟨hzn, h3⟩ | hzk
        · subst hzn
          cases m with
          | zero => exact absurd hp'.symm hy
          | succ m =>
            obtain ⟨z', hz', hp''⟩ := hp'
            exact old z' m (by omega) (h3 z' hz') hp''
        · exact old z m (by omega) hzk hp'
      · rcases h1 x z hx hxb hz with hzk | ⟨rfl, rfl⟩
        · exact old z m (by omega) hzk hp'
        · rcases ih m (by omega) z hb hp' with ⟨m', e1, _⟩ | ⟨_, e2⟩
          · exact Or.inr ⟨⟨0, rfl⟩, m', e1⟩
          · exact Or.inr ⟨⟨0, rfl⟩, e2⟩
/-- where the block comes to lie: below index e's top, or beside its table -/
theorem adp_P {s : aT} (w : Wf s) {e b : Nat} (h1 : 1 ≤ e) (h2 : e < b) (h3 : b < sH s) : ∃ P, P < sN s ∧ P ≠ sSf s b ∧ (P = sSf s (e - 1) ∨ ∃ j, j < e ∧ sSf s j ∈ sKd s P) ∧ sNm s P ≠ 1 ∧ ∀ q z, q < sN s → z ∈ sKd (s_adp3 s e b) q → (z ∈ sKd s q ∧ z ≠ sSf s b) ∨ (z = sSf s b ∧ q = P) := by
  have hb : ∀ k, k < sH s → sSf s k < sN s := w.1.2.2.2.1
  have hin := w.1.2.2.2.2
  have hsf : ∀ k, k < e → toF (sSf s) e b k = sSf s k := fun k hk => toF_l hk
  have ekd : sKd (s_adp3 s e b) = (match plT (sNm s) (sSf s) e with
        | some j => fun q => insB (sSf s b) (toF (sSf s) e b j) ((sKd s q).filter fun z => z != sSf s b)
        | none => up (fun q => (sKd s q).filter fun z => z != sSf s b) (sSf s (e - 1)) ((sKd s (sSf s (e - 1))).filter (fun z => z != sSf s b) ++ [sSf s b])) := by
    show (match plT (sNm s) (toF (sSf s) e b) e with
        | some j => fun q => insB (sSf s b) (toF (sSf s) e b j) ((sKd s q).filter fun z => z != sSf s b)
        | none => up (fun q => (sKd s q).filter fun z => z != sSf s b) (toF (sSf s) e b (e - 1)) ((sKd s (toF (sSf s) e b (e - 1))).filter (fun z => z != sSf s b) ++ [sSf s b])) = _
    rw [plT_sf h1 hsf, hsf (e - 1) (by omega)]
  rw [ekd]
  cases hj : plT (sNm s) (sSf s) e with
  | none =>
    refine ⟨sSf s (e - 1), hb _ (by omega), fun q => by have := hin _ _ (by omega) h3 q; omega, Or.inl rfl, fun q => ?_, fun q z hq hz => ?_⟩
    · by_cases q0 : e - 1 = 0
      · rw [q0, w.2.2.2.2.1.1, w.2.2.2.1.1] at q
        omega
      · have := w.2.2.2.2.1.2 (e - 1) (by omega) (by omega)
        omega
    · have hz' : z ∈ up (fun q => (sKd s q).filter fun z => z != sSf s b) (sSf s (e - 1)) ((sKd s (sSf s (e - 1))).filter (fun z => z != sSf s b) ++ [sSf s b]) q := hz
      by_cases h : q = sSf s (e - 1)
      · rw [h, up_e] at hz'
        rw [h]
        rcases List.mem_append.mp hz' with m | m
        · have := List.mem_filter.mp m
          exact Or.inl ⟨this.1, by simpa using this.2⟩
        · exact Or.inr ⟨List.mem_singleton.mp m, rfl⟩
      · rw [up_n h] at hz'
        have := List.mem_filter.mp hz'
        exact Or.inl ⟨this.1, by simpa using this.2⟩
  | some j =>
    have hl := plT_lt hj
    obtain ⟨p', A', B', q1, q2, q3, q4, q5⟩ := adp_T w h2 h3 hj
    have hm : sSf s j ∈ sKd s p' := by rw [q5]; simp
    refine ⟨p', q1, q2, Or.inr ⟨j, hl.1, hm⟩, fun q => ?_, fun q z hq hz => ?_⟩
    · rw [w.2.2.2.2.2.2.1 p' q1 q] at hm
      cases hm
    · have hz' : z ∈ insB (sSf s b) (toF (sSf s) e b j) ((sKd s q).filter fun z => z != sSf s b) := hz
      rw [hsf j hl.1] at hz'
      obtain ⟨y, hy, hz2⟩ := List.mem_flatMap.mp hz'
      have hy' := List.mem_filter.mp hy
      have hyb : y ≠ sSf s b := by simpa using hy'.2
      split at hz2
      · rename_i e1
        have hq2 : q = p' := by
          obtain ⟨pre, t1, t2, t3, _⟩ := w.2.2.1
          exact Fo_one t1 t2 ((t3 q).mpr hq) ((t3 p').mpr q1) (by rw [← e1]; exact hy'.1) hm
        simp at hz2
        rcases hz2 with h | h
        · exact Or.inr ⟨h, hq2⟩
        · exact Or.inl ⟨by rw [h, ← e1]; exact hy'.1, by rw [h, ← e1]; exact hyb⟩
      · rw [List.mem_singleton.mp hz2]
        exact Or.inl ⟨hy'.1, hyb⟩
theorem adp_pre4 {s : aT} (w : Wf s) {pre : List (Nat × Nat)} (ht : wT s pre) {e b : Nat} (h1 : 1 ≤ e) (h2 : e < b) (h3 : b < sH s) {X U Y A B : List (Nat × Nat)} {eb d : Nat} (g1 : pre = X ++ (sSf s b, eb) :: (U ++ Y)) (g2 : X ++ Y = A ++ B) (g3 : Fo (sKd (s_adp3 s e b)) 0 [0] (A ++ (sSf s b, d) :: (sh eb d U ++ B))) (g4 : ∀ q ∈ B.head?, q.2 ≤ d) (g5 : ∀ q ∈ U, eb < q.2) : (fI (A ++ (sSf s b, d) :: (sh eb d U ++ B))).Perm (fI pre) ∧ Fo (up (up (sKd (s_adp3 s e b)) (sN s) (sKd s (sSf s b))) (sSf s b) [sN s]) 0 [0] (A ++ (sSf s b, d) :: ((sN s, d + 1) :: sh (d + 1) (d + 2) (sh eb d U) ++ B)) := by
  obtain ⟨t1, t2, t3, t4⟩ := ht
  have pm : (fI (A ++ (sSf s b, d) :: (sh eb d U ++ B))).Perm (fI pre) := by
    rw [g1, fI_app, fI_cons, fI_app, sh_fI, fI_app, fI_cons, fI_app]
    have hXY : fI X ++ fI Y = fI A ++ fI B := by rw [← fI_app, g2, fI_app]
    have p1 : (fI A ++ sSf s b :: (fI U ++ fI B)).Perm (sSf s b :: (fI U ++ (fI A ++ fI B))) := by
      refine List.perm_middle.trans (List.Perm.cons _ ?_)
      rw [← List.append_assoc, ← List.append_assoc]
      exact List.Perm.append_right _ List.perm_append_comm
    have p2 : (fI X ++ sSf s b :: (fI U ++ fI Y)).Perm (sSf s b :: (fI U ++ (fI X ++ fI Y))) := by
      refine List.perm_middle.trans (List.Perm.cons _ ?_)
      rw [← List.append_assoc, ← List.append_assoc]
      exact List.Perm.append_right _ List.perm_append_comm
    rw [hXY] at p2
    exact p1.trans p2.symm
  have nd3 : (fI (A ++ (sSf s b, d) :: (sh eb d U ++ B))).Nodup := pm.nodup_iff.mpr t2
  have hc : sN s ∉ fI (A ++ (sSf s b, d) :: (sh eb d U ++ B)) := fun m => by
    have := (t3 _).mp (pm.mem_iff.mp m)
    omega
  obtain ⟨A2, S2, B2, e2, q1, q2, q3, q4⟩ := P_give g3 nd3 (p := sSf s b) (by rw [fI_app, fI_cons]; simp) hc
  obtain ⟨r1, r2, r3⟩ := at_uniq q1 nd3
  subst r2
  subst r1
  obtain ⟨r4, r5⟩ := sp_uniq r3 (fun q hq => by
    obtain ⟨q', hq', rfl⟩ := List.mem_map.mp hq
    have := g5 q' hq'
    show d < q'.2 - eb + d
    omega) (fun q hq => Fo_ge q2 q hq) g4 q3
  subst r4
  subst r5
  rw [adp3_kb w h1 h2 h3] at q4
  exact ⟨pm, q4⟩
theorem W_adp {s : aT} (w : Wf s) {e b : Nat} (h1 : 1 ≤ e) (h2 : e < b) (h3 : b < sH s) (h7 : inS 7 (sNm s (sSf s e)) = true) (hbl : inS 3 (sNm s (sSf s b)) = true) : Wf (s_adp s e b) := by
  have hb : ∀ k, k < sH s → sSf s k < sN s := w.1.2.2.2.1
  have hh : 1 ≤ sH s ∧ sH s ≤ sN s := w.1.2.2.1
  have h24 := w.1.1.2
  have hin := w.1.2.2.2.2
  have hJ := w.2.2.2.2.2.2.2.2.2
  obtain ⟨pre, ht⟩ := W_pre w
  obtain ⟨X, U, Y, A, B, eb, d, g1, g2, g3, g4, g5, g6, g7, g8, g9⟩ := adp_pre w ht h1 h2 h3
  obtain ⟨pm, f4⟩ := adp_pre4 w ht h1 h2 h3 g1 g5 g6 g7 fun q hq => Fo_ge g2 q hq
  obtain ⟨P, P1, P2, P3, P4, P5⟩ := adp_P w h1 h2 h3
  have hx := inS7 h7 (w.1.2.1 _ (hb e (by omega)))
  have hlen : pre.length = sN s := ht.2.2.2
  have toI : ∀ k, k < sH s - (b - e) → ∃ k', k' < sH s ∧ toF (sSf s) e b k = sSf s k' ∧ (k < e ∧ k' = k ∨ e ≤ k ∧ k' = k + (b - e)) := fun k hk => by
    unfold toF
    split
    · exact ⟨k, by omega, rfl, Or.inl ⟨by assumption, rfl⟩⟩
    · exact ⟨k + (b - e), by omega, rfl, Or.inr ⟨by omega, rfl⟩⟩
  -- the parts that do not depend on whether a node is left
  have stk : ∀ (n' : Nat), sN s ≤ n' → (1 ≤ sH s - (b - e) ∧ sH s - (b - e) ≤ n') ∧ (∀ k, k < sH s - (b - e) → toF (sSf s) e b k < n') ∧ ∀ a c, a < sH s - (b - e) → c < sH s - (b - e) → toF (sSf s) e b a = toF (sSf s) e b c → a = c := fun n' hn' => by
    refine ⟨⟨by omega, by omega⟩, fun k hk => ?_, fun a c ha hc q => ?_⟩
    · obtain ⟨k', k1, k2, _⟩ := toI k hk
      rw [k2]
      exact Nat.lt_of_lt_of_le (hb k' k1) hn'
    · obtain ⟨a', a1, a2, a3⟩ := toI a ha
      obtain ⟨c', c1, c2, c3⟩ := toI c hc
      rw [a2, c2] at q
      have := hin a' c' a1 c1 q
      omega
  have nmK : ∀ k, 0 < k → k < sH s - (b - e) → 97 ≤ sNm s (toF (sSf s) e b k) := fun k h0 hk => by
    obtain ⟨k', k1, k2, k3⟩ := toI k hk
    rw [k2]
    exact w.2.2.2.2.1.2 k' (by omega) k1
  have rowK : ∀ k, k < sH s - (b - e) → sNm s (toF (sSf s) e b k) = 114 → 1 ≤ k ∧ sNm s (toF (sSf s) e b (k - 1)) = 116 := fun k hk q => by
    obtain ⟨k', k1, k2, k3⟩ := toI k hk
    rw [k2] at q
    have r := w.2.2.2.2.2.1 k' k1 q
    have hne : k' ≠ b := fun q2 => by
      rw [q2] at q
      rw [q] at hbl
      revert hbl
      decide
    refine ⟨by omega, ?_⟩
    unfold toF
    rcases k3 with ⟨k3, k4⟩ | ⟨k3, k4⟩
    · rw [if_pos (by omega), ← k4]
      exact r.2
    · rw [if_neg (by omega), show k - 1 + (b - e) = k' - 1 by omega]
      exact r.2
  have txt3 : ∀ i, i < sN s → sNm s i = 1 → sKd (s_adp3 s e b) i = [] := fun i hi q => by
    refine List.eq_nil_iff_forall_not_mem.mpr fun z hz => ?_
    rcases P5 i z hi hz with h | h
    · rw [w.2.2.2.2.2.2.1 i hi q] at h
      exact absurd h.1 (by simp)
    · exact P4 (h.2 ▸ q)
  -- no element of the stack lies below a later one
  have jj : ∀ (kd5 : Nat → List Nat), (∀ q z, q < sN s → q ≠ sSf s b → z ∈ kd5 q → z ∈ sKd (s_adp3 s e b) q) → (∀ z, z ∈ kd5 (sSf s b) → (z = sN s ∧ ∀ z', z' ∈ kd5 (sN s) → z' ∈ sKd s (sSf s b)) ∨ z ∈ sKd s (sSf s b)) → ∀ a c, a < c → c < sH s - (b - e) → ¬ dsc kd5 (toF (sSf s) e b c) (toF (sSf s) e b a) := by
    intro kd5 k1 k2 a c hac hc hd
    obtain ⟨a', a1, a2, a3⟩ := toI a (by omega)
    obtain ⟨c', c1, c2, c3⟩ := toI c hc
    have hac' : a' < c' := by omega
    rw [a2, c2] at hd
    obtain ⟨m, hm⟩ := hd
    have key := pth_adp (kd := sKd s) (kd5 := kd5) (b := sSf s b) (n := sN s) (P := P) (fun q z hq q1 hz => by
      rcases P5 q z hq (k1 q z hq q1 hz) with h | h
      · exact Or.inl h.1
      · exact Or.inr h) k2 (fun q z hq hz => W_ks w hq hz) (hb b h3) (y := sSf s a') (by have := hb a' a1; omega) (m + 1) (sSf s c') (hb c' c1) hm
    rcases key with ⟨m', e1, e2⟩ | ⟨⟨m1, e1⟩, ⟨m2, e2⟩⟩
    · obtain ⟨m'', rfl⟩ : ∃ q, m' = q + 1 := ⟨m' - 1, by have := e2 (by omega); omega⟩
      exact hJ a' c' hac' c1 ⟨m'', e1⟩
    · have hca : b ≤ a' := by
        refine Nat.le_of_not_lt fun hlt => ?_
        cases m2 with
        | zero =>
          have := hin b a' h3 a1 e2
          omega
        | succ m2 => exact hJ a' b hlt h3 ⟨m2, e2⟩
      rcases P3 with hP | ⟨j, hj1, hj2⟩
      · rw [hP] at e1
        cases m1 with
        | zero =>
          have := hin c' (e - 1) c1 (by omega) e1
          omega
        | succ m1 => exact hJ (e - 1) c' (by omega) c1 ⟨m1, e1⟩
      · exact hJ j c' (by omega) c1 ⟨m1, pth_ext e1 hj2⟩
  unfold s_adp
  by_cases hn : sN s < 24
  · rw [if_pos hn]
    have hnm : ∀ i, i < sN s → up (sNm s) (sN s) (sNm s (sSf s e)) i = sNm s i := fun i hi => up_lt hi
    obtain ⟨s1, s2, s3⟩ := stk (sN s + 1) (by omega)
    have p4len : (A ++ (sSf s b, d) :: ((sN s, d + 1) :: sh (d + 1) (d + 2) (sh eb d U) ++ B)).length = sN s + 1 := by
      have h1 := congrArg List.length g1
      have h2 := congrArg List.length g5
      simp [sh_len] at h1 h2 ⊢
      omega
    have pm4 : (fI (A ++ (sSf s b, d) :: ((sN s, d + 1) :: sh (d + 1) (d + 2) (sh eb d U) ++ B))).Perm (sN s :: fI pre) := by
      refine List.Perm.trans ?_ (List.Perm.cons (sN s) pm)
      rw [fI_app, fI_cons, fI_app, fI_cons, sh_fI, fI_app, fI_cons, fI_app]
      have q : fI A ++ sSf s b :: (sN s :: fI (sh eb d U) ++ fI B) = (fI A ++ [sSf s b]) ++ sN s :: (fI (sh eb d U) ++ fI B) := by simp
      have q2 : sN s :: (fI A ++ sSf s b :: (fI (sh eb d U) ++ fI B)) = sN s :: ((fI A ++ [sSf s b]) ++ (fI (sh eb d U) ++ fI B)) := by simp
      show (fI A ++ sSf s b :: (sN s :: fI (sh eb d U) ++ fI B)).Perm _
      rw [q, q2]
      exact List.perm_middle
    have nN : sN s ∉ fI pre := fun m => by
      have := (ht.2.2.1 _).mp m
      omega
    refine ⟨⟨⟨show 1 ≤ sN s + 1 by omega, show sN s + 1 ≤ 24 by omega⟩, fun i hi => ?_, s1, s2, s3⟩, ⟨fun q hq => ⟨Nat.lt_succ_of_lt (w.2.1.1 q hq).1, Nat.lt_succ_of_lt (w.2.1.1 q hq).2⟩, w.2.1.2.1, w.2.1.2.2.1, Nat.lt_succ_of_lt w.2.1.2.2.2⟩, ⟨_, f4, pm4.nodup_iff.mpr (List.nodup_cons.mpr ⟨nN, ht.2.1⟩), fun i => ?_, p4len⟩, ⟨?_, fun i h0 hi => ?_⟩, ⟨?_, fun k h0 hk => ?_⟩, fun k hk => ?_, fun i hi => ?_, ⟨fun q hq => ?_, w.2.2.2.2.2.2.2.1.2⟩, fun q hq => ?_, ?_⟩
    · show up (sNm s) (sN s) _ i < 200
      by_cases q : i = sN s
      · rw [q, up_e]; exact w.1.2.1 _ (hb e (by omega))
      · rw [up_n q]
        have : i < sN s + 1 := hi
        exact w.1.2.1 i (by omega)
    · rw [pm4.mem_iff, List.mem_cons, ht.2.2.1]
      show _ ↔ i < sN s + 1
      omega
    · show up (sNm s) (sN s) _ 0 = 0
      rw [hnm 0 (by omega)]
      exact w.2.2.2.1.1
    · show up (sNm s) (sN s) _ i = 1 ∨ (97 ≤ up (sNm s) (sN s) _ i ∧ up (sNm s) (sN s) _ i ≤ 122)
      by_cases q : i = sN s
      · rw [q, up_e]; right; omega
      · rw [up_n q]
        have : i < sN s + 1 := hi
        exact w.2.2.2.1.2 i h0 (by omega)
    · show toF (sSf s) e b 0 = 0
      rw [toF_l (by omega)]
      exact w.2.2.2.2.1.1
    · show 97 ≤ up (sNm s) (sN s) _ (toF (sSf s) e b k)
      obtain ⟨k', k1, k2, _⟩ := toI k hk
      rw [hnm _ (by rw [k2]; exact hb k' k1)]
      exact nmK k h0 hk
    · show up (sNm s) (sN s) _ (toF (sSf s) e b k) = 114 → 1 ≤ k ∧ up (sNm s) (sN s) _ (toF (sSf s) e b (k - 1)) = 116
      have hk' : k < sH s - (b - e) := hk
      obtain ⟨k', k1, k2, _⟩ := toI k hk
      obtain ⟨k'', k3, k4, _⟩ := toI (k - 1) (by omega)
      rw [hnm _ (by rw [k2]; exact hb k' k1), hnm _ (by rw [k4]; exact hb k'' k3)]
      exact rowK k hk
    · show up (sNm s) (sN s) _ i = 1 → up (up (sKd (s_adp3 s e b)) (sN s) _) (sSf s b) [sN s] i = []
      by_cases q : i = sN s
      · rw [q, up_e]; intro h; omega
      · have hi' : i < sN s + 1 := hi
        rw [up_n q]
        intro h
        have hib : i ≠ sSf s b := fun h2 => by
          have := w.2.2.2.2.1.2 b (by omega) h3
          rw [← h2] at this
          omega
        rw [up_n hib, up_n q]
        exact txt3 i (by omega) h
    · show (sCf s q).2 < sN s + 1 ∧ up (sNm s) (sN s) _ (sCf s q).2 = 1 ∧ (sCf s q).1 < 200
      have := w.2.2.2.2.2.2.2.1.1 q hq
      rw [hnm _ this.1]
      exact ⟨Nat.lt_succ_of_lt this.1, this.2⟩
    · show inS 7 (up (sNm s) (sN s) _ q.1) = true
      rw [hnm _ (w.2.1.1 q hq).1]
      exact w.2.2.2.2.2.2.2.2.1 q hq
    · refine jj _ (fun q z hq q1 hz => ?_) (fun z hz => Or.inl ⟨?_, fun z' hz2 => ?_⟩)
      · have hz' : z ∈ up (up (sKd (s_adp3 s e b)) (sN s) (sKd s (sSf s b))) (sSf s b) [sN s] q := hz
        rw [up_n q1, up_lt hq] at hz'
        exact hz'
      · have hz' : z ∈ up (up (sKd (s_adp3 s e b)) (sN s) (sKd s (sSf s b))) (sSf s b) [sN s] (sSf s b) := hz
        rw [up_e] at hz'
        simpa using hz'
      · have hz' : z' ∈ up (up (sKd (s_adp3 s e b)) (sN s) (sKd s (sSf s b))) (sSf s b) [sN s] (sN s) := hz2
        rw [up_n (by have := hb b h3; omega), up_e] at hz'
        exact hz'
  · rw [if_neg hn]
    obtain ⟨s1, s2, s3⟩ := stk (sN s) (Nat.le_refl _)
    have p3len : (A ++ (sSf s b, d) :: (sh eb d U ++ B)).length = sN s := by
      have h1 := congrArg List.length g1
      have h2 := congrArg List.length g5
      simp [sh_len] at h1 h2 ⊢
      omega
    refine ⟨⟨w.1.1, w.1.2.1, s1, s2, s3⟩, w.2.1, ⟨_, g6, pm.nodup_iff.mpr ht.2.1, fun i => ?_, p3len⟩, w.2.2.2.1, ⟨?_, nmK⟩, rowK, txt3, w.2.2.2.2.2.2.2.1, w.2.2.2.2.2.2.2.2.1, ?_⟩
    · rw [pm.mem_iff, ht.2.2.1]
      rfl
    · show toF (sSf s) e b 0 = 0
      rw [toF_l (by omega)]
      exact w.2.2.2.2.1.1
    · refine jj _ (fun q z hq q1 hz => hz) (fun z hz => Or.inr ?_)
      have hz' : z ∈ sKd (s_adp3 s e b) (sSf s b) := hz
      rwa [adp3_kb w h1 h2 h3] at hz'
