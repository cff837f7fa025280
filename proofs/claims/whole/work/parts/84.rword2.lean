/-! layout on the reference's side: a word put, whole -/
section RW2
variable {n nc : Nat} {I pj : Nat → Nat} {Z : lT} {it : List kT2}
theorem lh_put (sz : Nat → Int32) (L : List Nat) {a : Int32} (h : 0 ≤ a) : L.foldl (fun x q => mx x (sz q)) a = mx a (L.foldl (fun x q => mx x (sz q)) 0) := by
  have e := mx_fold sz L a 0
  rw [mx_0 h] at e
  exact e
theorem pwj_eq (a1 a2 a3 a4 x9 : Int32) (M : qM) : pw_J a1 a2 a3 a4 x9 M = f_Md_putWord_106 a3 a1 1000 (pw_K a1 a2 a3 x9) (if M.1 0 57 = 0 then 0 else M.1 0 55 + a4) a2 M := by
  unfold pw_J
  by_cases h : M.1 0 57 = 0
  · rw [if_pos h, if_pos h]
  · rw [if_neg h, if_neg h]
theorem r_pwj (hW : wZ2 n nc I pj Z) (hit : ∀ t ∈ it, iW n nc Z t) (h200 : it.length < 200) {t k x3 : Nat} (ht : t ≤ it.length) (hk : k < n) (h05 : zV Z 0 5 = 0) {Sc : Nat → Prop} (hSc : ∀ t ∈ it, t.1 < 2 → Sc t.2) {M : qM} {lb a4 : Int32} {u : uT} (hZ : rZ M n nc I pj Z) (hX : iX M it) (h29 : M.1 29 k = zL Z k) (hw : (it.take t).drop x3 = (uWd u).map lw) (hx3 : x3 + (uWd u).length = t) (hne : uWd u ≠ []) (hst : (if M.1 0 57 = 0 then 0 else M.1 0 55 + a4) = uUs u) (h53 : M.1 0 53 = uY u) (h56 : M.1 0 56 = uLh u) (h39 : M.1 0 39 = lb + uNl u) (hlh : 0 ≤ uLh u) (hL : ∀ q, q < nc → Sc q → rLt M k u q) : ∃ M', pw_J (nI k) (nI x3) (nI t) a4 ((uWd u).foldl (fun x q => mx x (zSz Z q)) 0) M = some M' ∧ rU M' nc k lb Sc (uPut (zSz Z) (zCl Z k) u) ∧ M'.1 0 54 = M.1 0 54 ∧ rF2 Sc M M' := by
  obtain ⟨M1, e1, e2, e3⟩ := r_pw106 hW hit h200 ht hk h05 hSc (pw_K (nI k) (nI x3) (nI t) ((uWd u).foldl (fun x q => mx x (zSz Z q)) 0)) (uWd u) x3 1000 M (uUs u, uLh u, uPx u) hw hx3 hZ hX h29 (fun q hq hs => ⟨(hL q hq hs).1, fun x hx => ⟨((hL q hq hs).2 x hx).1, ((hL q hq hs).2 x hx).2.1⟩⟩) (by omega)
  have e1' : pw_J (nI k) (nI x3) (nI t) a4 ((uWd u).foldl (fun x q => mx x (zSz Z q)) 0) M = pw_K (nI k) (nI x3) (nI t) ((uWd u).foldl (fun x q => mx x (zSz Z q)) 0) ((uWd u).foldl (uPl (zSz Z) (zCl Z k)) (uUs u, uLh u, uPx u)).1 M1 := by
    rw [pwj_eq, hst]
    exact e1
  have elh : uLh (uPut (zSz Z) (zCl Z k) u) = mx (uLh u) ((uWd u).foldl (fun x q => mx x (zSz Z q)) 0) := by
    show ((uWd u).foldl (uPl (zSz Z) (zCl Z k)) (uUs u, uLh u, uPx u)).2.1 = _
    rw [pl_lh]
    exact lh_put _ _ hlh
  have s56 : (qsI M1 0 55 ((uWd u).foldl (uPl (zSz Z) (zCl Z k)) (uUs u, uLh u, uPx u)).1).1 0 56 = uLh u := by rw [g_In (by omega), e3 _ _ (by omega), h56]
  refine ⟨qsI (qsI (qsI M1 0 55 ((uWd u).foldl (uPl (zSz Z) (zCl Z k)) (uUs u, uLh u, uPx u)).1) 0 56 (uLh (uPut (zSz Z) (zCl Z k) u))) 0 57 1, ?_, ⟨⟨?_, ?_, ?_, ?_, ?_⟩, fun q hq hs => ?_⟩, ?_, fun p j q1 q2 => ?_⟩
  · rw [e1']
    unfold pw_K
    rw [q_ltE, s56, elh, ← mx_le (uLh u)]
    by_cases h : (uWd u).foldl (fun x q => mx x (zSz Z q)) 0 ≤ uLh u
    · rw [if_pos h, if_pos h]
      rfl
    · rw [if_neg h, if_neg h]
      rfl
  · rw [g_In (by omega), g_In (by omega), g_In (by omega), e3 _ _ (by omega)]
    exact h53
  · rw [g_In (by omega), g_In (by omega), g_Ie ⟨rfl, rfl⟩]
    rfl
  · rw [g_In (by omega), g_Ie ⟨rfl, rfl⟩]
  · rw [g_Ie ⟨rfl, rfl⟩]
    show _ = b2 (!(uLn u ++ uWd u).isEmpty)
    cases hu : uWd u with
    | nil => exact absurd hu hne
    | cons a b => cases uLn u <;> rfl
  · rw [g_In (by omega), g_In (by omega), g_In (by omega), e3 _ _ (by omega)]
    exact h39
  · have kk : ∀ p j, p ≠ 0 → (qsI (qsI (qsI M1 0 55 ((uWd u).foldl (uPl (zSz Z) (zCl Z k)) (uUs u, uLh u, uPx u)).1) 0 56 (uLh (uPut (zSz Z) (zCl Z k) u))) 0 57 1).1 p j = M1.1 p j := fun p j hp => by rw [g_In (by omega), g_In (by omega), g_In (by omega)]
    obtain ⟨f1, f2⟩ := e2 q hq hs
    refine ⟨by rw [kk _ _ (by omega)]; exact f1, fun x hx => ?_⟩
    obtain ⟨f3, f4⟩ := f2 x hx
    refine ⟨by rw [kk _ _ (by omega)]; exact f3, by rw [kk _ _ (by omega)]; exact f4, fun hn => ?_⟩
    have hn1 : q ∉ uLn u ++ uWd u := hn
    rw [List.mem_append] at hn1
    have hpx : uPx u q = some x := by
      rw [← hx]
      show _ = ((uWd u).foldl (uPl (zSz Z) (zCl Z k)) (uUs u, uLh u, uPx u)).2.2 q
      have : ∀ (L : List Nat) (s : ulT), q ∉ L → (L.foldl (uPl (zSz Z) (zCl Z k)) s).2.2 q = s.2.2 q := by
        intro L
        induction L with
        | nil => intro s _; rfl
        | cons a L ih =>
          intro s hq
          rw [List.mem_cons] at hq
          show (L.foldl _ (uPl (zSz Z) (zCl Z k) s a)).2.2 q = _
          rw [ih _ (fun h => hq (Or.inr h))]
          exact up_n (fun h => hq (Or.inl h))
      exact (this (uWd u) (uUs u, uLh u, uPx u) (fun h => hn1 (Or.inr h))).symm
    rw [kk _ _ (by omega), e3 _ _ (by omega), ((hL q hq hs).2 x hpx).2.2 (fun h => hn1 (Or.inl h))]
    rfl
  · rw [g_In (by omega), g_In (by omega), g_In (by omega), e3 _ _ (by omega)]
  · rw [g_In (by omega), g_In (by omega), g_In (by omega), e3 _ _ (fun h => q2 ⟨by omega, by omega, h.2⟩)]
theorem b2_ne {L : List Nat} : (b2 (!L.isEmpty) : Int32) = 0 ↔ L = [] := by
  cases L with
  | nil => exact ⟨fun _ => rfl, fun _ => rfl⟩
  | cons a l => exact ⟨fun h => absurd (show (1 : Int32) = 0 from h) (by decide), fun h => absurd h (by simp)⟩
theorem r_pw (hW : wZ2 n nc I pj Z) (hit : ∀ t ∈ it, iW n nc Z t) (h200 : it.length < 200) {t k x3 ls : Nat} (ht : t ≤ it.length) (hk : k < n) (h05 : zV Z 0 5 = 0) {Sc : Nat → Prop} (hSc : ∀ t ∈ it, t.1 < 2 → Sc t.2) {M : qM} {lb : Int32} {u : uT} (hZ : rZ M n nc I pj Z) (hX : iX M it) (h29 : M.1 29 k = zL Z k) (h30 : M.1 30 k = zW Z k) (hw : (it.take t).drop x3 = (uWd u).map lw) (hx3 : x3 + (uWd u).length = t) (hne : uWd u ≠ []) (hU : rU M nc k lb Sc u) (hI : uI (zSz Z) u) (h54 : M.1 0 54 = nI ls) (hls : ls ≤ x3) (hL : iL ((it.take x3).drop ls) = uLn u) : ∃ M' ls', f_Md_putWord (nI k) (nI x3) (nI t) (uGp u) M = some M' ∧ rU M' nc k lb Sc (uPut (zSz Z) (zCl Z k) (uFit (zSz Z) (zW Z k) u)) ∧ M'.1 0 54 = nI ls' ∧ ls' ≤ t ∧ iL ((it.take t).drop ls') = uLn (uPut (zSz Z) (zCl Z k) (uFit (zSz Z) (zW Z k) u)) ∧ rF2 Sc M M' := by
  obtain ⟨i1, i2, i3, i4⟩ := hI
  have hn : n ≤ 24 := hW.1.2.1
  have hU' := hU
  obtain ⟨⟨u1, u2, u3, u4, u5⟩, u6⟩ := hU
  have e9 := fun K => r_pw9 hW hit h200 ht hZ hX K (uWd u) x3 1000 0 0 hw hx3 (by omega)
  have hdr : ∀ ls, ls ≤ x3 → iL ((it.take t).drop ls) = iL ((it.take x3).drop ls) ++ uWd u := fun ls h => by
    have : (it.take t).drop ls = (it.take x3).drop ls ++ (it.take t).drop x3 := by
      have h1 : it.take x3 = (it.take t).take x3 := by rw [List.take_take, Nat.min_eq_left (by omega)]
      rw [h1]
      conv => lhs; rw [← List.take_append_drop x3 (it.take t)]
      rw [List.drop_append_of_le_length (by rw [List.length_take, List.length_take]; omega)]
    rw [this, iL_app, hw]
    congr 1
    exact iL_map _
  have hsl : ∀ v, M.1 0 57 = v → (v = 0 ↔ uLn u = []) := fun v h => by rw [← h, u4]; exact b2_ne
  rw [pw_eq, e9, ← i4]
  by_cases hl : uLn u = []
  · have h57 : M.1 0 57 = 0 := (hsl _ rfl).mpr hl
    rw [if_pos h57]
    have ef : uFit (zSz Z) (zW Z k) u = u := if_pos hl
    rw [ef]
    obtain ⟨M', a1, a2, a3, a4⟩ := r_pwj (a4 := uGp u) hW hit h200 ht hk h05 hSc hZ hX h29 hw hx3 hne (by rw [if_pos h57, i1 hl]) u1 u3 u5 i3 u6
    exact ⟨M', ls, a1, a2, by rw [a3]; exact h54, by omega, by rw [hdr ls hls, hL]; rfl, a4⟩
  · have h57 : M.1 0 57 ≠ 0 := fun h => hl ((hsl _ rfl).mp h)
    rw [if_neg h57, g_ix (by omega) (by omega), g_cl (by omega), h30, u2]
    by_cases hf : uUs u + uGp u + uWw u ≤ zW Z k
    · rw [if_pos hf]
      have ef : uFit (zSz Z) (zW Z k) u = ((uY u, uLn u, uUs u + uGp u, uLh u), u.2) := by
        unfold uFit
        rw [if_neg hl, if_pos hf]
      rw [ef]
      obtain ⟨M', a1, a2, a3, a4⟩ := r_pwj (a4 := uGp u) (u := ((uY u, uLn u, uUs u + uGp u, uLh u), u.2)) hW hit h200 ht hk h05 hSc hZ hX h29 hw hx3 hne (by rw [if_neg h57, u2]; rfl) u1 u3 u5 i3 u6
      exact ⟨M', ls, a1, a2, by rw [a3]; exact h54, by omega, by rw [hdr ls hls, hL]; rfl, a4⟩
    · rw [if_neg hf]
      have ef : uFit (zSz Z) (zW Z k) u = uEl (zSz Z) u := by
        unfold uFit
        rw [if_neg hl, if_neg hf]
      rw [ef]
      obtain ⟨M1, c1, c2, c3, c4⟩ := r_el hW hit h200 (a1 := x3) (by omega) hls hSc hZ hX hU' h54 hL
      obtain ⟨⟨v1, v2, v3, v4, v5⟩, v6⟩ := c2
      obtain ⟨M', a1, a2, a3, a4⟩ := r_pwj (a4 := uGp u) (u := uEl (zSz Z) u) hW hit h200 ht hk h05 hSc (rZ_k hZ (rF2_Z c4)) (iX_k hX (c4 _ _ (by omega) (by omega)) fun j => c4 _ _ (by omega) (by omega)) (by rw [c4 _ _ (by omega) (by omega)]; exact h29) hw hx3 hne (by rw [if_pos (b2_ne.mpr rfl |> fun h => v4.trans h)]; rfl) v1 v3 v5 (by show (0 : Int32) ≤ 0; decide) v6
      refine ⟨M', x3, ?_, a2, by rw [a3]; exact c3, by omega, by rw [hdr x3 (by omega), List.drop_eq_nil_iff.mpr (by rw [List.length_take]; omega)]; rfl, rF2_t c4 a4⟩
      rw [c1, q_cvE]
      exact a1
end RW2
