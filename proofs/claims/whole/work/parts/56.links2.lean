/-- a child taken out -/
theorem l_leave {M : qM} {n p t : Nat} {kd : Nat → List Nat} {A B : List Nat} (hp0 : 0 ∉ kd p) (h : cLk M n kd) (hp : p < n) (hd : (kd p).Nodup) (hkp : kd p = A ++ t :: B) (htp : t ≠ p) : ∃ M', f_Node_leaveParent (7 + 5 * t) M = some M' ∧ cLk M' n (up kd p (A ++ B)) ∧ M'.1 = M.1 ∧ (∀ q j, (4 ≤ j → j ≤ 8 → ∀ i, i < n → q ≠ 7 + 5 * i) → M'.2 q j = M.2 q j) ∧ M'.2 7 4 = M.2 7 4 ∧ M'.2 7 8 = M.2 7 8 := by
  have mt := h.2 p hp A t B hkp
  have ht0 : t ≠ 0 := fun e => hp0 (by rw [hkp, e]; simp)
  have hdd := List.nodup_append.mp (hkp ▸ hd)
  have htB : t ∉ B := (List.nodup_cons.mp hdd.2.1).1
  have htA : t ∉ A := fun m => hdd.2.2 t m t (by simp) rfl
  have hAB : ∀ a ∈ A, ∀ b ∈ B, a ≠ b := fun a ha b hb => hdd.2.2 a ha b (by simp [hb])
  have hin : ∀ x ∈ A ++ B, ∀ q, q < n → q ≠ p → x ∉ kd q := by
    intro x hx q hq hne m2
    have m : x ∈ kd p := by
      rw [hkp]
      simp at hx ⊢
      rcases hx with hx | hx
      · exact Or.inl hx
      · exact Or.inr (Or.inr hx)
    obtain ⟨A1, B1, e2⟩ := List.append_of_mem m
    obtain ⟨A2, B2, e3⟩ := List.append_of_mem m2
    have := (h.2 p hp A1 x B1 e2).2.1.symm.trans (h.2 q hq A2 x B2 e3).2.1
    simp at this
    omega
  have e4 := mt.2.1
  cases hl : A.getLast? with
  | none =>
    have e0 : A = [] := l_none hl
    subst e0
    have e7 : M.2 (7 + 5 * t) 7 = none := mt.2.2.1
    cases B with
    | nil =>
      have e8 : M.2 (7 + 5 * t) 8 = none := mt.2.2.2
      refine ⟨qsR (qsR (qsR (qsR (qsR M (7 + 5 * p) 5 none) (7 + 5 * p) 6 none) (7 + 5 * t) 4 none) (7 + 5 * t) 7 none) (7 + 5 * t) 8 none, ?_, ?_, rfl, fun q j hq => ?_, ?_, ?_⟩
      · unfold f_Node_leaveParent
        simp (disch := omega) only [q_lt, q_on, q_nn, g_Rn, g_Re, e4, e7, e8]
      · refine cLk_up h hp ?_ ?_ ?_ hin ?_ ?_
        · simp (disch := omega) only [g_Rn, g_Re]
          rfl
        · simp (disch := omega) only [g_Rn, g_Re]
          rfl
        · intro K1 x K2 e
          simp at e
        · intro q hq hne
          constructor <;> simp (disch := omega) only [g_Rn]
        · intro x hx h1 h2
          have a2 : x ≠ t := fun e => h1 (by rw [hkp, e]; simp)
          refine ⟨?_, ?_, ?_⟩ <;> simp (disch := omega) only [g_Rn]
      · by_cases hj : 4 ≤ j ∧ j ≤ 8
        · have a := hq hj.1 hj.2 p hp
          have d := hq hj.1 hj.2 t mt.1
          simp (disch := omega) only [g_Rn]
        · simp (disch := omega) only [g_Rn]
      · simp (disch := omega) only [g_Rn]
      · simp (disch := omega) only [g_Rn]
    | cons b B =>
      have e8 : M.2 (7 + 5 * t) 8 = some (7 + 5 * b) := mt.2.2.2
      have mb := h.2 p hp [t] b B hkp
      have hbt : b ≠ t := fun e => htB (by simp [e])
      refine ⟨qsR (qsR (qsR (qsR (qsR M (7 + 5 * p) 5 (some (7 + 5 * b))) (7 + 5 * b) 7 none) (7 + 5 * t) 4 none) (7 + 5 * t) 7 none) (7 + 5 * t) 8 none, ?_, ?_, rfl, fun q j hq => ?_, ?_, ?_⟩
      · unfold f_Node_leaveParent
        simp (disch := omega) only [q_lt, q_on, q_nn, g_Rn, g_Re, e4, e7, e8]
      · refine cLk_up h hp ?_ ?_ ?_ hin ?_ ?_
        · simp (disch := omega) only [g_Rn, g_Re]
          rfl
        · simp (disch := omega) only [g_Rn, g_Re]
          rw [(h.1 p hp).2, hkp]
          simp [List.getLast?_cons]
        · intro K1 x K2 e
          have e' : b :: B = K1 ++ x :: K2 := e
          have a := h.2 p hp (t :: K1) x K2 (by rw [hkp, e']; rfl)
          have hxt : x ≠ t := fun q => htB (by rw [e', q]; simp)
          refine ⟨a.1, ?_, ?_, ?_⟩
          · simp (disch := omega) only [g_Rn]
            exact a.2.1
          · cases K1 with
            | nil =>
              have : x = b := by
                simp at e'
                exact e'.1.symm
              subst this
              simp (disch := omega) only [g_Rn, g_Re]
              rfl
            | cons z K1 =>
              have : x ≠ b := fun q => by
                subst q
                have := (List.nodup_cons.mp hdd.2.1).2
                simp at e'
                exact (List.nodup_cons.mp this).1 (by rw [e'.2]; simp)
              simp (disch := omega) only [g_Rn]
              rw [a.2.2.1]
              simp [List.getLast?_cons]
          · simp (disch := omega) only [g_Rn]
            exact a.2.2.2
        · intro q hq hne
          constructor <;> simp (disch := omega) only [g_Rn]
        · intro x hx h1 h2
          have a2 : x ≠ t := fun e => h1 (by rw [hkp, e]; simp)
          have a3 : x ≠ b := fun e => h2 (by simp [e])
          refine ⟨?_, ?_, ?_⟩ <;> simp (disch := omega) only [g_Rn]
      · by_cases hj : 4 ≤ j ∧ j ≤ 8
        · have a := hq hj.1 hj.2 p hp
          have d := hq hj.1 hj.2 t mt.1
          have f := hq hj.1 hj.2 b mb.1
          simp (disch := omega) only [g_Rn]
        · simp (disch := omega) only [g_Rn]
      · simp (disch := omega) only [g_Rn]
      · simp (disch := omega) only [g_Rn]
  | some l =>
    obtain ⟨A', e0⟩ := List.getLast?_eq_some_iff.mp hl
    have ml := h.2 p hp A' l (t :: B) (by rw [hkp, e0]; simp)
    have hlt : l ≠ t := fun e => htA (by rw [e0, e]; simp)
    have hl0 : l ≠ 0 := fun e => hp0 (by rw [hkp, e0, e]; simp)
    have e7 : M.2 (7 + 5 * t) 7 = some (7 + 5 * l) := by rw [mt.2.2.1, hl]; rfl
    have hA := hdd.1
    cases B with
    | nil =>
      have e8 : M.2 (7 + 5 * t) 8 = none := mt.2.2.2
      refine ⟨qsR (qsR (qsR (qsR (qsR M (7 + 5 * l) 8 none) (7 + 5 * p) 6 (some (7 + 5 * l))) (7 + 5 * t) 4 none) (7 + 5 * t) 7 none) (7 + 5 * t) 8 none, ?_, ?_, rfl, fun q j hq => ?_, ?_, ?_⟩
      · unfold f_Node_leaveParent
        simp (disch := omega) only [q_lt, q_on, q_nn, g_Rn, g_Re, e4, e7, e8]
      · refine cLk_up h hp ?_ ?_ ?_ hin ?_ ?_
        · simp (disch := omega) only [g_Rn, g_Re]
          rw [(h.1 p hp).1, hkp, e0]
          cases A' <;> rfl
        · simp (disch := omega) only [g_Rn, g_Re]
          rw [List.append_nil, hl]
          rfl
        · intro K1 x K2 e
          have e' : A = K1 ++ x :: K2 := by simpa using e
          have a := h.2 p hp K1 x (K2 ++ [t]) (by rw [hkp, e']; simp)
          have hxt : x ≠ t := fun q => htA (by rw [e', q]; simp)
          refine ⟨a.1, ?_, ?_, ?_⟩
          · simp (disch := omega) only [g_Rn]
            exact a.2.1
          · simp (disch := omega) only [g_Rn]
            exact a.2.2.1
          · cases K2 with
            | nil =>
              have : x = l := by
                rw [e'] at hl
                simpa using hl
              subst this
              simp (disch := omega) only [g_Rn, g_Re]
              rfl
            | cons z K2 =>
              have : x ≠ l := fun q => by
                subst q
                rw [e'] at hl hA
                have m : x ∈ z :: K2 := List.mem_of_getLast? (by
                  rw [List.getLast?_append] at hl
                  simpa using hl)
                exact (List.nodup_cons.mp (List.nodup_append.mp hA).2.1).1 m
              simp (disch := omega) only [g_Rn]
              exact a.2.2.2
        · intro q hq hne
          constructor <;> simp (disch := omega) only [g_Rn]
        · intro x hx h1 h2
          have a2 : x ≠ t := fun e => h1 (by rw [hkp, e]; simp)
          have a3 : x ≠ l := fun e => h1 (by rw [hkp, e0, e]; simp)
          refine ⟨?_, ?_, ?_⟩ <;> simp (disch := omega) only [g_Rn]
      · by_cases hj : 4 ≤ j ∧ j ≤ 8
        · have a := hq hj.1 hj.2 p hp
          have d := hq hj.1 hj.2 t mt.1
          have f := hq hj.1 hj.2 l ml.1
          simp (disch := omega) only [g_Rn]
        · simp (disch := omega) only [g_Rn]
      · simp (disch := omega) only [g_Rn]
      · simp (disch := omega) only [g_Rn]
    | cons b B =>
      have e8 : M.2 (7 + 5 * t) 8 = some (7 + 5 * b) := mt.2.2.2
      have mb := h.2 p hp (A ++ [t]) b B (by rw [hkp]; simp)
      have hbt : b ≠ t := fun e => htB (by simp [e])
      have hbl : b ≠ l := fun e => hAB l (by rw [e0]; simp) b (by simp) e.symm
      refine ⟨qsR (qsR (qsR (qsR (qsR M (7 + 5 * l) 8 (some (7 + 5 * b))) (7 + 5 * b) 7 (some (7 + 5 * l))) (7 + 5 * t) 4 none) (7 + 5 * t) 7 none) (7 + 5 * t) 8 none, ?_, ?_, rfl, fun q j hq => ?_, ?_, ?_⟩
      · unfold f_Node_leaveParent
        simp (disch := omega) only [q_lt, q_on, q_nn, g_Rn, g_Re, e4, e7, e8]
      · refine cLk_up h hp ?_ ?_ ?_ hin ?_ ?_
        · simp (disch := omega) only [g_Rn, g_Re]
          rw [(h.1 p hp).1, hkp, e0]
          cases A' <;> rfl
        · simp (disch := omega) only [g_Rn, g_Re]
          rw [(h.1 p hp).2, hkp]
          simp [List.getLast?_append, List.getLast?_cons]
        · intro K1 x K2 e
          rcases sp_mid e with ⟨K3, e2, rfl⟩ | ⟨rfl, rfl, rfl⟩ | ⟨K3, rfl, e2⟩
          · have a := h.2 p hp K1 x (K3 ++ t :: b :: B) (by rw [hkp, e2]; simp)
            have hxt : x ≠ t := fun q => htA (by rw [e2, q]; simp)
            have hxb : x ≠ b := fun q => hAB x (by rw [e2]; simp) b (by simp) q
            refine ⟨a.1, ?_, ?_, ?_⟩
            · simp (disch := omega) only [g_Rn]
              exact a.2.1
            · simp (disch := omega) only [g_Rn]
              exact a.2.2.1
            · cases K3 with
              | nil =>
                have : x = l := by
                  rw [e2] at hl
                  simpa using hl
                subst this
                simp (disch := omega) only [g_Rn, g_Re]
                rfl
              | cons z K3 =>
                have : x ≠ l := fun q => by
                  subst q
                  rw [e2] at hl hA
                  have m : x ∈ z :: K3 := List.mem_of_getLast? (by
                    rw [List.getLast?_append] at hl
                    simpa using hl)
                  exact (List.nodup_cons.mp (List.nodup_append.mp hA).2.1).1 m
                simp (disch := omega) only [g_Rn]
                exact a.2.2.2
          · refine ⟨mb.1, ?_, ?_, ?_⟩
            · simp (disch := omega) only [g_Rn]
              exact mb.2.1
            · simp (disch := omega) only [g_Rn, g_Re]
              rw [hl]
              rfl
            · simp (disch := omega) only [g_Rn]
              exact mb.2.2.2
          · have a := h.2 p hp (A ++ t :: b :: K3) x K2 (by rw [hkp, e2]; simp)
            have hxt : x ≠ t := fun q => htB (by rw [e2, q]; simp)
            have hxl : x ≠ l := fun q => hAB l (by rw [e0]; simp) x (by rw [e2]; simp) q.symm
            have hxb : x ≠ b := fun q => by
              have := (List.nodup_cons.mp (List.nodup_cons.mp hdd.2.1).2).1
              exact this (by rw [e2, q]; simp)
            refine ⟨a.1, ?_, ?_, ?_⟩
            · simp (disch := omega) only [g_Rn]
              exact a.2.1
            · simp (disch := omega) only [g_Rn]
              rw [a.2.2.1]
              simp [List.getLast?_append, List.getLast?_cons]
            · simp (disch := omega) only [g_Rn]
              exact a.2.2.2
        · intro q hq hne
          constructor <;> simp (disch := omega) only [g_Rn]
        · intro x hx h1 h2
          have a2 : x ≠ t := fun e => h1 (by rw [hkp, e]; simp)
          have a3 : x ≠ l := fun e => h1 (by rw [hkp, e0, e]; simp)
          have a4 : x ≠ b := fun e => h1 (by rw [hkp, e]; simp)
          refine ⟨?_, ?_, ?_⟩ <;> simp (disch := omega) only [g_Rn]
      · by_cases hj : 4 ≤ j ∧ j ≤ 8
        · have a := hq hj.1 hj.2 p hp
          have d := hq hj.1 hj.2 t mt.1
          have f := hq hj.1 hj.2 b mb.1
          have g := hq hj.1 hj.2 l ml.1
          simp (disch := omega) only [g_Rn]
        · simp (disch := omega) only [g_Rn]
      · simp (disch := omega) only [g_Rn]
      · simp (disch := omega) only [g_Rn]
/-- children given to another -/
theorem l_give5 {n c : Nat} : ∀ (K2 : List Nat) (f : Nat) (K : qM → Option qM) (M : qM) , (∀ K1 x K3, K2 = K1 ++ x :: K3 → M.2 (7 + 5 * x) 8 = oP K3.head?) → K2.length < f → ∃ M', f_Node_giveChildrenTo_5 (7 + 5 * c) f K (oP K2.head?) M = K M' ∧ M'.1 = M.1 ∧ (∀ x ∈ K2, M'.2 (7 + 5 * x) 4 = some (7 + 5 * c)) ∧ ∀ q j, (j = 4 → ∀ x ∈ K2, q ≠ 7 + 5 * x) → M'.2 q j = M.2 q j := by
  intro K2
  induction K2 with
  | nil =>
    intro f K M _ hf
    obtain ⟨f, rfl⟩ : ∃ g, f = g + 1 := ⟨f - 1, by simp at hf; omega⟩
    refine ⟨M, ?_, rfl, fun x hx => (by cases hx), fun _ _ _ => rfl⟩
    rw [f_Node_giveChildrenTo_5]
    rfl
  | cons y K2 ih =>
    intro f K M hM hf
    obtain ⟨f, rfl⟩ : ∃ g, f = g + 1 := ⟨f - 1, by simp at hf; omega⟩
    obtain ⟨M', e1, e2, e3, e4⟩ := ih f K (qsR M (7 + 5 * y) 4 (some (7 + 5 * c))) (fun K1 x K3 e => by rw [g_Rn (by omega)]; exact hM (y :: K1) x K3 (by rw [e]; rfl)) (by simp at hf; omega)
    refine ⟨M', ?_, e2, fun x hx => ?_, fun q j hq => ?_⟩
    · rw [f_Node_giveChildrenTo_5]
      simp only [List.head?_cons, oP_s, q_on, q_lt]
      rw [g_Rn (by omega), hM [] y K2 rfl]
      exact e1
    · by_cases hm : x ∈ K2
      · exact e3 x hm
      · have : x = y := (List.mem_cons.mp hx).resolve_right hm
        rw [this] at hm ⊢
        rw [e4 _ _ (fun _ z hz e => hm (by rw [show y = z by omega]; exact hz)), g_Re ⟨rfl, rfl⟩]
    · rw [e4 q j (fun h z hz => hq h z (by simp [hz]))]
      refine g_Rn fun e => hq e.2 y (by simp) e.1
theorem l_give {M : qM} {n p c : Nat} {kd : Nat → List Nat} (hp0 : 0 ∉ kd p) (h : cLk M n kd) (hp : p < n) (hc : c < n) (hcp : c ≠ p) (hk : kd c = []) (hl : (kd p).length ≤ 24) : ∃ M', f_Node_giveChildrenTo (7 + 5 * p) (7 + 5 * c) M = some M' ∧ cLk M' n (up (up kd c (kd p)) p []) ∧ M'.1 = M.1 ∧ (∀ q j, (4 ≤ j → j ≤ 8 → ∀ i, i < n → q ≠ 7 + 5 * i) → M'.2 q j = M.2 q j) ∧ M'.2 7 4 = M.2 7 4 ∧ M'.2 7 8 = M.2 7 8 := by
  obtain ⟨M1, e1, e2, e3, e4⟩ := l_give5 (n := n) (c := c) (kd p) 1000 (fun (M9 : qM) => q_lt (M9.2 (7 + 5 * p) 5) fun r10 => q_lt (qsR M9 (7 + 5 * c) 5 r10) fun M11 => q_lt (M11.2 (7 + 5 * p) 6) fun r12 => q_lt (qsR M11 (7 + 5 * c) 6 r12) fun M13 => q_lt (qsR M13 (7 + 5 * p) 5 none) fun M14 => q_lt (qsR M14 (7 + 5 * p) 6 none) fun M15 => some M15) M (fun K1 x K3 e => (h.2 p hp K1 x K3 e).2.2.2) (by omega)
  have hx : ∀ x ∈ kd p, x < n := fun x hx => by
    obtain ⟨A, B, e⟩ := List.append_of_mem hx
    exact (h.2 p hp A x B e).1
  have r5 : M1.2 (7 + 5 * p) 5 = oP (kd p).head? := by rw [e4 _ _ (by omega)]; exact (h.1 p hp).1
  have r6 : M1.2 (7 + 5 * p) 6 = oP (kd p).getLast? := by rw [e4 _ _ (by omega)]; exact (h.1 p hp).2
  refine ⟨qsR (qsR (qsR (qsR M1 (7 + 5 * c) 5 (oP (kd p).head?)) (7 + 5 * c) 6 (oP (kd p).getLast?)) (7 + 5 * p) 5 none) (7 + 5 * p) 6 none, ?_, ⟨fun q hq => ?_, fun q hq K1 x K2 e => ?_⟩, e2, fun q j hq => ?_, ?_, ?_⟩
  · unfold f_Node_giveChildrenTo
    rw [(h.1 p hp).1]
    show f_Node_giveChildrenTo_5 _ _ _ _ _ = _
    rw [e1]
    simp (disch := omega) only [q_lt, r5, r6, g_Rn]
  · by_cases a : q = p
    · subst a
      rw [up_e]
      constructor <;> simp (disch := omega) only [g_Rn, g_Re] <;> rfl
    · rw [up_n a]
      by_cases b : q = c
      · subst b
        rw [up_e]
        constructor <;> simp (disch := omega) only [g_Rn, g_Re]
      · rw [up_n b]
        have := h.1 q hq
        constructor <;> simp (disch := omega) only [g_Rn]
        · rw [e4 _ _ (by omega)]; exact this.1
        · rw [e4 _ _ (by omega)]; exact this.2
  · by_cases a : q = p
    · subst a
      rw [up_e] at e
      simp at e
    · rw [up_n a] at e
      by_cases b : q = c
      · subst b
        rw [up_e] at e
        have := h.2 p hp K1 x K2 e
        refine ⟨this.1, ?_, ?_, ?_⟩ <;> simp (disch := omega) only [g_Rn]
        · exact e3 x (by rw [e]; simp)
        · rw [e4 _ _ (by omega)]; exact this.2.2.1
        · rw [e4 _ _ (by omega)]; exact this.2.2.2
      · rw [up_n b] at e
        have := h.2 q hq K1 x K2 e
        refine ⟨this.1, ?_, ?_, ?_⟩ <;> simp (disch := omega) only [g_Rn]
        · rw [e4 _ _ (fun _ z hz ez => ?_)]
          · exact this.2.1
          · obtain ⟨A2, B2, e5⟩ := List.append_of_mem hz
            have u := (h.2 p hp A2 z B2 e5).2.1
            rw [show 7 + 5 * z = 7 + 5 * x from ez.symm] at u
            have := u.symm.trans this.2.1
            simp at this
            omega
        · rw [e4 _ _ (by omega)]; exact this.2.2.1
        · rw [e4 _ _ (by omega)]; exact this.2.2.2
  · by_cases hj : 4 ≤ j ∧ j ≤ 8
    · have a := hq hj.1 hj.2 p hp
      have d := hq hj.1 hj.2 c hc
      simp (disch := omega) only [g_Rn]
      exact e4 q j fun _ x hx' => hq hj.1 hj.2 x (hx x hx')
    · simp (disch := omega) only [g_Rn]
      exact e4 q j (by omega)
  · simp (disch := omega) only [g_Rn]
    exact e4 7 4 fun _ x hx' e => hp0 (by rw [show (0 : Nat) = x by omega]; exact hx')
  · simp (disch := omega) only [g_Rn]
    exact e4 7 8 (by omega)
