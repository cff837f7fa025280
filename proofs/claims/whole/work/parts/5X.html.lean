/-! an empty page; one more character -/
def s00 : aT := (false, 1, fun _ => 0, fun _ => 0, fun _ => [], fun _ => 0, 1, [], fun _ => (0, 0), 0)
def s01 : aT := (false, 1, fun _ => 0, fun _ => 0, fun _ => [], fun _ => 0, 0, [], fun _ => (0, 0), 0)
theorem wT_00 : wT s00 [(0, 0)] := by
  refine ⟨?_, by simp [fI], fun i => ?_, rfl⟩
  · have := Fo_cons (kd := sKd s00) (i := 0) (d := 0) (js := []) (L1 := []) (L2 := []) Fo_nil Fo_nil
    exact this
  · show i ∈ [0] ↔ i < 1
    simp
theorem W_00 : Wf s00 := by
  refine ⟨⟨⟨by decide, by decide⟩, fun i _ => by show (0 : Nat) < 200; omega, ⟨by decide, by decide⟩, fun k _ => by show (0 : Nat) < 1; omega, fun a b ha hb _ => ?_⟩, ⟨fun q hq => (by cases hq), fun o => by show (0 : Nat) ≤ 4; omega, List.nodup_nil, by decide⟩, ⟨_, wT_00⟩, ⟨rfl, fun i h0 hi => ?_⟩, ⟨rfl, fun k h0 hk => ?_⟩, fun k _ e => ?_, fun i _ _ => rfl, ⟨fun q hq => ?_, by decide⟩, fun q hq => (by cases hq), fun a b hab hb => ?_⟩
  · have ha' : a < 1 := ha
    have hb' : b < 1 := hb
    omega
  · have hi' : i < 1 := hi
    omega
  · have hk' : k < 1 := hk
    omega
  · have e' : (0 : Nat) = 114 := e
    omega
  · have hq' : q < 0 := hq
    omega
  · have hb' : b < 1 := hb
    omega
theorem t_anew (M : qM) : ∃ M', f_Pg_startAnew M = some M' ∧ C M' s00 ∧ cRt M' ∧ cO M' [(0, 0)] ∧ M'.1 287 0 = 0 ∧ (M'.1 288 3 = 0 ∧ M'.1 288 4 = 0 ∧ M'.1 288 6 = 0) ∧ (M'.1 0 4 = 0 ∧ M'.1 0 5 = 0 ∧ M'.1 0 6 = 0 ∧ M'.1 0 7 = 0) ∧ ∀ p j, 289 ≤ p → M'.1 p j = M.1 p j ∧ M'.2 p j = M.2 p j := by
  obtain ⟨M4, b0, b1, b2', b3, b4, b5, b6, b7⟩ := f_become 7 0 0 (qsI (qsI (qsI M 1 7 0) 1 6 0) 1 5 1)
  have c5 : C (qsI M4 5 1 0) s01 := by
    refine ⟨⟨?_, ?_⟩, fun i hi => ?_, ⟨fun p hp => ?_, fun p hp K1 x K2 e => ?_⟩, ⟨g_Ie ⟨rfl, rfl⟩, fun k hk => ?_, fun i hi => ?_⟩, fun i hi => ?_, ⟨?_, fun i hi => ?_, fun q hq => ?_⟩⟩
    · rw [g_In (by omega), b6 1 7 (by omega) (by omega), g_In (by omega), g_In (by omega), g_Ie ⟨rfl, rfl⟩]
      rfl
    · rw [g_In (by omega), b6 1 5 (by omega) (by omega), g_Ie ⟨rfl, rfl⟩]
      rfl
    · have hi' : i < 1 := hi
      have : i = 0 := by omega
      subst this
      rw [g_In (by omega), g_In (by omega)]
      exact ⟨b1, b2'⟩
    · have hp' : p < 1 := hp
      have : p = 0 := by omega
      subst this
      exact ⟨b5 5 (by omega) (by omega), b5 6 (by omega) (by omega)⟩
    · have e' : ([] : List Nat) = K1 ++ x :: K2 := e
      simp at e'
    · have hk' : k < 0 := hk
      omega
    · have hi' : i < 1 := hi
      have : i = 0 := by omega
      subst this
      rw [g_In (by omega)]
      exact b3
    · have hi' : i < 1 := hi
      have : i = 0 := by omega
      subst this
      rw [g_In (by omega)]
      refine ⟨b4, fun k e he => ?_⟩
      have he' : ([] : List Nat)[k]? = some e := he
      simp at he'
    · rw [g_In (by omega), b6 1 6 (by omega) (by omega), g_In (by omega), g_Ie ⟨rfl, rfl⟩]
      rfl
    · have hi' : i < 1 := hi
      have : i = 0 := by omega
      subst this
      exact ⟨b5 9 (by omega) (by omega), b5 10 (by omega) (by omega)⟩
    · have hq' : q < 0 := hq
      omega
  obtain ⟨M6, p1, p2, p3⟩ := s_pushT (s := s01) (i := 0) c5 (by decide) (by decide) (by decide)
  have es : s_push s01 0 = s00 := by
    have : up (fun _ : Nat => (0 : Nat)) 0 0 = fun _ => 0 := by
      funext j
      unfold up
      split <;> rfl
    show (false, 1, _, _, _, up (fun _ : Nat => (0 : Nat)) 0 0, _, _, _, _) = s00
    rw [this]
    rfl
  rw [es] at p2
  have rt : cRt M6 := by
    refine ⟨?_, ?_⟩
    · rw [(p3 7 4 (by omega)).2]
      exact b5 4 (by omega) (by omega)
    · rw [(p3 7 8 (by omega)).2]
      exact b5 8 (by omega) (by omega)
  obtain ⟨M7, q1, q2, q3, q4, q5⟩ := t_number p2 W_00 rt wT_00
  have f7 : ∀ p j, 287 ≤ p → M7.1 p j = M.1 p j ∧ M7.2 p j = M.2 p j := fun p j hp => by
    rw [(q5 p j (by omega)).1, (q5 p j (by omega)).2, (p3 p j (by omega)).1, (p3 p j (by omega)).2, g_In (by omega), b6 p j (by omega) (by omega), g_In (by omega), g_In (by omega), g_In (by omega)]
    exact ⟨rfl, b7 p j (by omega)⟩
  refine ⟨qsI (qsI (qsI (qsI (qsI (qsI (qsI (qsI M7 287 0 0) 288 3 0) 288 4 0) 288 6 0) 0 4 0) 0 5 0) 0 7 0) 0 6 0, ?_, ?_, ?_, ?_, ?_, ?_, ?_, fun p j hp => ?_⟩
  · have p1' : f_OpenStack_push 7 (qsI M4 5 1 0) = some M6 := p1
    unfold f_Pg_startAnew f_Tree_empty
    simp only [q_lt, b0, q_cv, p1', q1]
    rfl
  · obtain ⟨⟨cB, cN⟩, c1, c2, c3, c4, c5⟩ := q2
    have k : ∀ p j, 1 ≤ p → p ≤ 286 → (qsI (qsI (qsI (qsI (qsI (qsI (qsI (qsI M7 287 0 0) 288 3 0) 288 4 0) 288 6 0) 0 4 0) 0 5 0) 0 7 0) 0 6 0).1 p j = M7.1 p j := fun p j h1 h2 => by
      simp (disch := omega) only [g_In]
    refine ⟨⟨?_, ?_⟩, ?_, ?_, ?_, ?_, ?_⟩
    · rw [k _ _ (by omega) (by omega)]; exact cB
    · rw [k _ _ (by omega) (by omega)]; exact cN
    · exact cNm_cg c1 fun x hx j hj => k _ _ (by omega) (by have hx' : x < 1 := hx; omega)
    · exact cLk_cg c2 fun x hx j h1 h2 => rfl
    · exact cSt_cg c3 (k _ _ (by omega) (by omega)) (fun k hk => rfl) fun x hx => k _ _ (by omega) (by have hx' : x < 1 := hx; omega)
    · exact cFl_cg c4 (fun x hx => k _ _ (by omega) (by have hx' : x < 1 := hx; omega)) fun x hx k => rfl
    · exact cCh_cg c5 (k _ _ (by omega) (by omega)) (fun x hx j h1 h2 => rfl) fun q hq => by have hq' : q < 0 := hq; omega
  · exact q3
  · intro k i e hk
    have := q4 k i e hk
    refine ⟨this.1, ?_⟩
    have hk' : i = 0 := by
      cases k with
      | zero =>
        have : (0, 0) = (i, e) := by simpa using hk
        exact (congrArg Prod.fst this).symm
      | succ k => simp at hk
    subst hk'
    simp (disch := omega) only [g_In]
    exact this.2
  · simp (disch := omega) only [g_In, g_Ie]
  · refine ⟨?_, ?_, ?_⟩ <;> simp (disch := omega) only [g_In, g_Ie]
  · refine ⟨?_, ?_, ?_, ?_⟩ <;> simp (disch := omega) only [g_In, g_Ie]
  · have := f7 p j (by omega)
    refine ⟨?_, this.2⟩
    simp (disch := omega) only [g_In]
    exact this.1
theorem r_reset (M : qM) : ∃ M', f_Md_reset M = some M' ∧ R M' s00 [(0, 0)] ∧ ∀ p j, ((p = 0 ∧ j ≠ 4 ∧ j ≠ 5 ∧ j ≠ 7 ∧ j ≠ 13 ∧ j ≠ 16 ∧ j ≠ 17) ∨ p = 1 ∨ p = 2 ∨ 13 ≤ p) → M'.1 p j = M.1 p j := by
  have e : f_Md_reset M = some (qsI (qsI (qsI (qsI (qsI (qsI (qsI (qsI (qsI (qsI (qsI M 0 4 0) 0 5 1) 3 0 0) 0 7 1) 4 0 0) 5 0 0) 6 0 0) 8 0 0) 0 13 1) 0 16 0) 0 17 0) := by
    unfold f_Md_reset
    have h0 : (0 : Int32) = nI 0 := rfl
    simp only [q_lt]
    rfl
  refine ⟨_, e, ⟨⟨?_, rfl⟩, ⟨?_, fun i hi => ?_⟩, ⟨?_, fun k i e hk => ?_⟩, ⟨?_, fun k hk => ?_⟩, ⟨?_, fun k x y hk => ?_⟩, ⟨?_, fun q hq => ?_⟩⟩, fun p j h => ?_⟩
  · simp (disch := omega) only [g_In, g_Ie]
  · simp (disch := omega) only [g_In, g_Ie]; rfl
  · have hi' : i < 1 := hi
    have : i = 0 := by omega
    subst this
    constructor <;> simp (disch := omega) only [g_In, g_Ie] <;> rfl
  · simp (disch := omega) only [g_In, g_Ie]; rfl
  · cases k with
    | zero =>
      have hk' : i = 0 ∧ e = 0 := by
        have : (0, 0) = (i, e) := by simpa using hk
        exact ⟨(congrArg Prod.fst this).symm, (congrArg Prod.snd this).symm⟩
      rw [hk'.1, hk'.2]
      constructor <;> simp (disch := omega) only [g_In, g_Ie] <;> rfl
    | succ k => simp at hk
  · simp (disch := omega) only [g_In, g_Ie]; rfl
  · have hk' : k < 1 := hk
    have : k = 0 := by omega
    subst this
    simp (disch := omega) only [g_In, g_Ie]; rfl
  · simp (disch := omega) only [g_In, g_Ie]; rfl
  · have hk' : ([] : List (Nat × Nat))[k]? = some (x, y) := hk
    simp at hk'
  · simp (disch := omega) only [g_In, g_Ie]; rfl
  · have hq' : q < 0 := hq
    omega
  · simp (disch := omega) only [g_In]
/-! the tree's part of the relation -/
def tS (txt : List Nat) (r : Nat × Nat × Int32) : aT × yT := yF (s00, (0, r)) txt
def TI (Mx Mm : qM) (txt : List Nat) : Prop := (txt.length ≤ 160 ∧ ∀ c ∈ txt, 32 ≤ c ∧ c < 127) ∧ rX Mm txt ∧ Mx.1 0 4 = nI txt.length ∧ ∃ r pre, C Mx (tS txt r).1 ∧ Wf (tS txt r).1 ∧ cT Mx (tS txt r).2 ∧ cRt Mx ∧ wT (tS txt r).1 pre ∧ cO Mx pre ∧ ((sB (tS txt r).1 = false ∧ R Mm (tS txt r).1 pre) ∨ (sB (tS txt r).1 = true ∧ Mm.1 0 4 = 1))
