/-! layout on the reference's side: a word put -/
section RW
variable {n nc : Nat} {I pj : Nat → Nat} {Z : lT} {it : List kT2}
def lw (q : Nat) : kT2 := (0, q)
theorem r_pw9 (hW : wZ2 n nc I pj Z) (hit : ∀ t ∈ it, iW n nc Z t) (h200 : it.length < 200) {t : Nat} (ht : t ≤ it.length) {M : qM} (hZ : rZ M n nc I pj Z) (hX : iX M it) (K : Int32 → Int32 → Option qM) : ∀ (L : List Nat) (x f : Nat) (a b : Int32), (it.take t).drop x = L.map lw → x + L.length = t → L.length < f → f_Md_putWord_9 (nI t) M f K a b (nI x) = K (L.foldl (fun a q => a + zSz Z q) a) (L.foldl (fun a q => mx a (zSz Z q)) b) := by
  intro L
  induction L with
  | nil =>
    intro x f a b hL hx hf
    obtain ⟨f, rfl⟩ : ∃ g, f = g + 1 := ⟨f - 1, by simp at hf; omega⟩
    have hx' : x = t := hx
    rw [f_Md_putWord_9, i_le (by omega) (by omega), if_pos (by omega)]
    rfl
  | cons q L ih =>
    intro x f a b hL hx hf
    obtain ⟨f, rfl⟩ : ∃ g, f = g + 1 := ⟨f - 1, by simp at hf; omega⟩
    have hx' : x + (L.length + 1) = t := hx
    obtain ⟨d1, d2, d3⟩ := dr_s (show (it.take t).drop x = lw q :: L.map lw from hL)
    rw [List.getElem?_take, if_pos (by omega)] at d2
    have hs := r_size hZ hW (x := x) (by omega) (hX.2 x _ d2) (hit _ (List.mem_of_getElem? d2))
    have hs' : tSz Z (lw q) = zSz Z q := if_neg (by show ¬ (0 : Nat) = 2; omega)
    rw [f_Md_putWord_9, i_le (by omega) (by omega), if_neg (by omega), hs, hs', q_bpE, g_inc]
    have e1 := ih (x + 1) f (a + zSz Z q) (mx b (zSz Z q)) d3 (by omega) (by simp at hf; omega)
    rw [← mx_le b (zSz Z q)] at e1
    by_cases h : zSz Z q ≤ b
    · rw [if_pos h]
      rw [if_pos h] at e1
      rw [e1]
      show _ = K (L.foldl _ (a + zSz Z q)) (L.foldl _ (mx b (zSz Z q)))
      rw [← mx_le b (zSz Z q), if_pos h]
    · rw [if_neg h]
      rw [if_neg h] at e1
      rw [e1]
      show _ = K (L.foldl _ (a + zSz Z q)) (L.foldl _ (mx b (zSz Z q)))
      rw [← mx_le b (zSz Z q), if_neg h]
def rPx (M : qM) (nc k : Nat) (Sc : Nat → Prop) (px : Nat → Option Int32) : Prop := ∀ q, q < nc → Sc q → M.1 33 q = b2 (px q).isSome ∧ ∀ x, px q = some x → M.1 34 q = x ∧ M.1 36 q = nI k
theorem r_bor {M : qM} {k p : Nat} {v : Int32} (hk : k < 24) (hp : p < 7) (h : M.1 25 (40 * p + k) = v) (h0 : k = 0 → v = 0) : f_Md_border (nI k) (nI p) M = some v := by
  unfold f_Md_border
  rw [← l_0, i_eq (by omega) (by omega)]
  by_cases q : k = 0
  · rw [if_pos q, h0 q]
    rfl
  · rw [if_neg q, g_40, g_ix (by omega) (by omega), g_cl (by omega), h]
theorem r_pw106 (hW : wZ2 n nc I pj Z) (hit : ∀ t ∈ it, iW n nc Z t) (h200 : it.length < 200) {t k : Nat} (ht : t ≤ it.length) (hk : k < n) (h05 : zV Z 0 5 = 0) {Sc : Nat → Prop} (hSc : ∀ t ∈ it, t.1 < 2 → Sc t.2) (K : Int32 → qM → Option qM) : ∀ (L : List Nat) (x f : Nat) (M : qM) (s : ulT), (it.take t).drop x = L.map lw → x + L.length = t → rZ M n nc I pj Z → iX M it → M.1 29 k = zL Z k → rPx M nc k Sc s.2.2 → L.length < f → ∃ M', f_Md_putWord_106 (nI t) (nI k) f K s.1 (nI x) M = K (L.foldl (uPl (zSz Z) (zCl Z k)) s).1 M' ∧ rPx M' nc k Sc (L.foldl (uPl (zSz Z) (zCl Z k)) s).2.2 ∧ ∀ p j, ¬ ((p = 33 ∨ p = 34 ∨ p = 36) ∧ Sc j) → M'.1 p j = M.1 p j := by
  have hn : n ≤ 24 := hW.1.2.1
  have hnc : nc ≤ 160 := hW.1.2.2
  intro L
  induction L with
  | nil =>
    intro x f M s hL hx hZ hX h29 hP hf
    obtain ⟨f, rfl⟩ : ∃ g, f = g + 1 := ⟨f - 1, by simp at hf; omega⟩
    have hx' : x = t := hx
    refine ⟨M, ?_, hP, fun _ _ _ => rfl⟩
    rw [f_Md_putWord_106, i_le (by omega) (by omega), if_pos (by omega)]
    rfl
  | cons q L ih =>
    intro x f M s hL hx hZ hX h29 hP hf
    obtain ⟨f, rfl⟩ : ∃ g, f = g + 1 := ⟨f - 1, by simp at hf; omega⟩
    have hx' : x + (L.length + 1) = t := hx
    obtain ⟨d1, d2, d3⟩ := dr_s (show (it.take t).drop x = lw q :: L.map lw from hL)
    rw [List.getElem?_take, if_pos (by omega)] at d2
    have hiw := hit _ (List.mem_of_getElem? d2)
    have hq : q < nc := by
      rcases hiw with ⟨h1, _⟩ | ⟨_, h2, _⟩
      · exact absurd h1 (by show ¬ (0 : Nat) = 2; omega)
      · exact h2
    have hsq : Sc q := hSc _ (List.mem_of_getElem? d2) (by show (0 : Nat) < 2; omega)
    have e37 : M.1 37 x = nI q := by
      rw [hX.2 x _ d2]
      exact if_neg (by show ¬ (0 : Nat) = 2; omega)
    have k3 : ∀ p j, ¬ ((p = 33 ∨ p = 34 ∨ p = 36) ∧ j = q) → (qsI (qsI (qsI M 33 q 1) 36 q (nI k)) 34 q (zL Z k + zV Z k 5 + s.1)).1 p j = M.1 p j := fun p j h => by rw [g_In (by omega), g_In (by omega), g_In (by omega)]
    have hZ3 : rZ (qsI (qsI (qsI M 33 q 1) 36 q (nI k)) 34 q (zL Z k + zV Z k 5 + s.1)) n nc I pj Z := rZ_k hZ ⟨⟨k3 _ _ (by omega), k3 _ _ (by omega)⟩, fun p j hp => k3 _ _ (by omega)⟩
    have hX3 : iX (qsI (qsI (qsI M 33 q 1) 36 q (nI k)) 34 q (zL Z k + zV Z k 5 + s.1)) it := iX_k hX (k3 _ _ (by omega)) fun j => k3 _ _ (by omega)
    have hs := r_size hZ3 hW (x := x) (by omega) (hX3.2 x _ d2) hiw
    have hs' : tSz Z (lw q) = zSz Z q := if_neg (by show ¬ (0 : Nat) = 2; omega)
    obtain ⟨M', e1, e2, e3⟩ := ih (x + 1) f _ (uPl (zSz Z) (zCl Z k) s q) d3 (by omega) hZ3 hX3 (by rw [k3 _ _ (by omega)]; exact h29) (fun q' hq' hs' => by
      show _ = b2 (up s.2.2 q (some (zCl Z k + s.1)) q').isSome ∧ ∀ x, up s.2.2 q (some (zCl Z k + s.1)) q' = some x → _
      by_cases e : q' = q
      · rw [e, up_e]
        refine ⟨by rw [g_In (by omega), g_In (by omega), g_Ie ⟨rfl, rfl⟩]; rfl, fun x hx => ?_⟩
        have hx2 : zCl Z k + s.1 = x := Option.some.inj hx
        rw [g_Ie ⟨rfl, rfl⟩, g_In (by omega), g_Ie ⟨rfl, rfl⟩, ← hx2]
        exact ⟨rfl, rfl⟩
      · rw [up_n e, k3 _ _ (by omega), k3 _ _ (by omega), k3 _ _ (by omega)]
        exact hP q' hq' hs') (by simp at hf; omega)
    refine ⟨M', ?_, e2, fun p j h => by rw [e3 p j h, k3 p j (fun h' => h ⟨h'.1, by rw [h'.2]; exact hsq⟩)]⟩
    have c1 : (qsI M 33 q 1).1 37 x = nI q := by rw [g_In (by omega)]; exact e37
    have c2 : (qsI (qsI M 33 q 1) 36 q (nI k)).1 37 x = nI q := by rw [g_In (by omega)]; exact c1
    have c3 : (qsI (qsI M 33 q 1) 36 q (nI k)).1 29 k = zL Z k := by rw [g_In (by omega), g_In (by omega)]; exact h29
    have c4 : f_Md_border (nI k) 5 (qsI (qsI M 33 q 1) 36 q (nI k)) = some (zV Z k 5) := r_bor (p := 5) (by omega) (by omega) (by rw [g_In (by omega), g_In (by omega)]; exact (hZ.2.1 k hk).2.2.2.1 5 (by omega)) (fun h => by rw [h]; exact h05)
    rw [f_Md_putWord_106, i_le (by omega) (by omega), if_neg (by omega), g_ix (by omega) (by omega), g_cl (by omega), e37, g_ix (by omega) (by omega), g_cl (by omega), q_ltE, g_ix (by omega) (by omega), c1, g_ix (by omega) (by omega), g_cl (by omega), q_ltE, g_ix (by omega) (by omega), g_ix (by omega) (by omega), g_cl (by omega), c4, q_bpE, c2, c3, g_ix (by omega) (by omega), g_cl (by omega), q_ltE, hs, hs', q_bpE, g_inc]
    exact e1
def pw_K (a1 a2 a3 : Int32) (x9 : Int32) : Int32 → qM → Option qM := fun (x29 : Int32) (M30 : qM) => q_lt (qsI M30 0 55 x29) fun M31 => if x9 ≤ (M31.1 0 56) then (q_lt (qsI M31 0 56 (M31.1 0 56)) fun M33 => q_lt (qsI M33 0 57 1) fun M34 => some M34) else (q_lt (qsI M31 0 56 x9) fun M33 => q_lt (qsI M33 0 57 1) fun M34 => some M34)
def pw_J (a1 a2 a3 a4 x9 : Int32) (M10 : qM) : Option qM := if (M10.1 0 57) = 0 then (f_Md_putWord_106 a3 a1 1000 (pw_K a1 a2 a3 x9) 0 a2 M10) else (f_Md_putWord_106 a3 a1 1000 (pw_K a1 a2 a3 x9) ((M10.1 0 55) + a4) a2 M10)
theorem pw_eq (a1 a2 a3 a4 : Int32) (M : qM) : f_Md_putWord a1 a2 a3 a4 M = f_Md_putWord_9 a3 M 1000 (fun (x8 x9 : Int32) => if (M.1 0 57) = 0 then (pw_J a1 a2 a3 a4 x9 M) else (q_ix a1 40 <| if (((M.1 0 55) + a4) + x8) ≤ (M.1 30 a1.toNatClampNeg) then (pw_J a1 a2 a3 a4 x9 M) else (q_cv (f_Md_endLine a2 M) fun M43 => pw_J a1 a2 a3 a4 x9 M43))) 0 0 a2 := by
  unfold f_Md_putWord
  rfl
end RW
