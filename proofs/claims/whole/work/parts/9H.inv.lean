/-! both sides together -/
def TJ (Mx Mm : qM) (txt : List Nat) (r : Nat × Nat × Int32) (pre : List (Nat × Nat)) : Prop := (txt.length ≤ 160 ∧ ∀ c ∈ txt, 32 ≤ c ∧ c < 127) ∧ rX Mm txt ∧ Mx.1 0 4 = nI txt.length ∧ C Mx (tS txt r).1 ∧ Wf (tS txt r).1 ∧ cT Mx (tS txt r).2 ∧ cRt Mx ∧ wT (tS txt r).1 pre ∧ cO Mx pre ∧ ((sB (tS txt r).1 = false ∧ R Mm (tS txt r).1 pre) ∨ (sB (tS txt r).1 = true ∧ Mm.1 0 4 = 1))
theorem ti_of {Mx Mm : qM} {txt : List Nat} {r : Nat × Nat × Int32} {pre : List (Nat × Nat)} (h : TJ Mx Mm txt r pre) : TI Mx Mm txt := by
  obtain ⟨a, b, c, d⟩ := h
  exact ⟨a, b, c, r, pre, d⟩
theorem tj_of {Mx Mm : qM} {txt : List Nat} (h : TI Mx Mm txt) : ∃ r pre, TJ Mx Mm txt r pre := by
  obtain ⟨a, b, c, r, pre, d⟩ := h
  exact ⟨r, pre, a, b, c, d⟩
theorem tj_k {Mx Mm Mx' Mm' : qM} {txt : List Nat} {r : Nat × Nat × Int32} {pre : List (Nat × Nat)} (h : TJ Mx Mm txt r pre) (k : kT Mx Mx') (k' : kR Mm Mm') : TJ Mx' Mm' txt r pre := by
  obtain ⟨hl, hX, h4, c0, w, hT, rt, hwT, hO, hR⟩ := h
  have hn : sN (tS txt r).1 ≤ 24 := w.1.1.2
  refine ⟨hl, ⟨by rw [k' _ _ (by omega)]; exact hX.1, fun x c hx => by rw [k' _ _ (by omega)]; exact hX.2 x c hx⟩, by rw [k.1 _ _ (by omega)]; exact h4, C_k c0 w k, w, cT_k hT k, ⟨by rw [k.2 _ _ (by omega)]; exact rt.1, by rw [k.2 _ _ (by omega)]; exact rt.2⟩, hwT, cO_k hO (fun i hi => by have := (hwT.2.2.1 i).mp hi; omega) k, ?_⟩
  rcases hR with ⟨a, b⟩ | ⟨a, b⟩
  · exact Or.inl ⟨a, R_k b k'⟩
  · exact Or.inr ⟨a, by rw [k' _ _ (by omega)]; exact b⟩
/-- values of a page -/
def vJ (s : aT) (pre : List (Nat × Nat)) (T : List Nat) : Nat → Nat → Int32 := vF (kE s pre) (zF z00 T).1
def DJ (Mx : qM) (s : aT) (pre : List (Nat × Nat)) (T : List Nat) : Prop := Mx.1 0 6 = 0 ∨ (Mx.1 0 6 = 1 ∧ cV Mx (sN s) (kI pre) (kE s pre) (vJ s pre T))
def LJ1 (Mx Mm : qM) (s : aT) (pre : List (Nat × Nat)) (T : List Nat) : Prop := sB s = false ∧ cV Mx (sN s) (kI pre) (kE s pre) (vJ s pre T) ∧ rV Mm (sN s) (vJ s pre T) ∧ (∀ k, k < sN s → Mm.1 22 k = pI (kE s pre) k) ∧ ∃ Z Ta wn, (1 ≤ wn ∧ wn ≤ 64) ∧ EV (sN s) (sNc s) (kI pre) (kP pre) (kD pre) Z Ta (nI wn) ∧ stE (zS s pre (zF z00 T).1) Z ∧ cLd Mx (sN s) (sNc s) (kI pre) Z Ta ∧ rLd Mm (sN s) (sNc s) Z Ta ∧ Mx.1 364 1 = nI wn ∧ Mm.1 0 38 = nI wn
def LJ (Mx Mm : qM) (s : aT) (pre : List (Nat × Nat)) (T : List Nat) : Prop := (Mx.1 0 7 = 0 ∧ Mm.1 0 37 = 0) ∨ (Mx.1 0 7 = 1 ∧ Mm.1 0 37 = 1 ∧ LJ1 Mx Mm s pre T)
def Inv (Mx Mm : qM) : Prop := ∃ txt T r pre, TJ Mx Mm txt r pre ∧ SI Mx Mm T ∧ DJ Mx (tS txt r).1 pre T ∧ LJ Mx Mm (tS txt r).1 pre T
/-- the reference's side moved where layout does not look -/
theorem rLd_k {M M' : qM} {n nc : Nat} {Z : lT} {Ta : Nat → Int32} (h : rLd M n nc Z Ta) (k : ∀ p j, ((p = 0 ∧ j = 39) ∨ (26 ≤ p ∧ p ≤ 37)) → M'.1 p j = M.1 p j) : rLd M' n nc Z Ta := by
  obtain ⟨h1, h2, h3⟩ := h
  refine ⟨by rw [k _ _ (by omega)]; exact h1, fun i hi => ?_, fun q hq => ?_⟩
  · rw [k _ _ (by omega), k _ _ (by omega), k _ _ (by omega), k _ _ (by omega), k _ _ (by omega)]
    exact h2 i hi
  · rw [k _ _ (by omega), k _ _ (by omega), k _ _ (by omega)]
    exact h3 q hq
theorem lj_m {Mx Mm Mm' : qM} {s : aT} {pre : List (Nat × Nat)} {T : List Nat} (h : LJ Mx Mm s pre T) (k : ∀ p j, ((p = 0 ∧ (j = 37 ∨ j = 38 ∨ j = 39)) ∨ (26 ≤ p ∧ p ≤ 37)) → Mm'.1 p j = Mm.1 p j) (k2 : rV Mm (sN s) (vJ s pre T) → rV Mm' (sN s) (vJ s pre T)) (k3 : (∀ k, k < sN s → Mm.1 22 k = pI (kE s pre) k) → ∀ k, k < sN s → Mm'.1 22 k = pI (kE s pre) k) : LJ Mx Mm' s pre T := by
  rcases h with ⟨h1, h2⟩ | ⟨h1, h2, a1, a2, a3, a4, Z, Ta, wn, a5, a6, a7, a8, a9, a10, a11⟩
  · exact Or.inl ⟨h1, by rw [k _ _ (by omega)]; exact h2⟩
  · exact Or.inr ⟨h1, by rw [k _ _ (by omega)]; exact h2, a1, a2, k2 a3, k3 a4, Z, Ta, wn, a5, a6, a7, a8, rLd_k a9 (fun p j h => k p j (by omega)), a10, by rw [k _ _ (by omega)]; exact a11⟩
theorem si_00 {Mx Mm : qM} (h1 : Mm.1 0 2 = 0) (h2 : Mx.1 0 5 = 0) (h3 : Mx.1 288 3 = 0 ∧ Mx.1 288 4 = 0 ∧ Mx.1 288 6 = 0) : SI Mx Mm [] := by
  refine ⟨⟨Nat.zero_le _, fun c hc => (by cases hc)⟩, ⟨h1, fun k c hk => (by cases hk)⟩, h2, ?_, ?_⟩
  · refine ⟨⟨h3.1, h3.2.1, h3.2.2, by show 0 ≤ 12; omega⟩, fun k c hk => (by cases hk), fun i r hr => (by cases hr), fun h => (by cases h)⟩
  · exact ⟨fun i r hr => (by cases hr), fun s hs => (by cases hs), fun c hc => (by cases hc), Nat.zero_le _⟩
theorem inv_new (Mx Mm : qM) : ∃ Mx1 Mm1, f_Pg_startAnew Mx = some Mx1 ∧ f_Md_reset Mm = some Mm1 ∧ (∀ p j, ((p = 0 ∧ j ≠ 4 ∧ j ≠ 5 ∧ j ≠ 7 ∧ j ≠ 13 ∧ j ≠ 16 ∧ j ≠ 17) ∨ p = 1 ∨ p = 2 ∨ 13 ≤ p) → Mm1.1 p j = Mm.1 p j) ∧ (Mm.1 0 0 = 0 → Mm.1 0 2 = 0 → Mm.1 0 37 = 0 → Inv Mx1 Mm1) := by
  obtain ⟨Mx1, a1, a2, a3, a4, a5, a6, a7, a8⟩ := t_anew Mx
  obtain ⟨Mm1, b1, b2', b3⟩ := r_reset Mm
  refine ⟨Mx1, Mm1, a1, b1, b3, fun h0 h2 h37 => ⟨[], [], (0, 0, 0), [(0, 0)], ⟨⟨Nat.zero_le _, fun c hc => (by cases hc)⟩, ⟨by rw [b3 _ _ (by omega)]; exact h0, fun k c hk => (by cases hk)⟩, a7.1, a2, W_00, ⟨⟨a5, Nat.zero_le _⟩, fun h => absurd (show (0 : Nat) = 2 from h) (by omega), fun h => absurd (show (0 : Nat) = 5 ∨ (0 : Nat) = 6 from h) (by omega)⟩, a3, wT_00, a4, Or.inl ⟨rfl, b2'⟩⟩, si_00 (by rw [b3 _ _ (by omega)]; exact h2) a7.2.1 a6, Or.inl a7.2.2.1, Or.inl ⟨a7.2.2.2, by rw [b3 _ _ (by omega)]; exact h37⟩⟩⟩
theorem inv_0 : Inv Mx0 Mm0 := by
  obtain ⟨Mx1, Mm1, a1, a2, a3, a4⟩ := inv_new qM0 qM0
  have e1 : Mx0 = Mx1 := by
    have := mx0_ok
    rw [a1] at this
    exact (Option.some.inj this).symm
  have e2 : Mm0 = Mm1 := by
    have := mm0_ok
    rw [a2] at this
    exact (Option.some.inj this).symm
  rw [e1, e2]
  exact a4 rfl rfl rfl
theorem op_clear (Mx Mm : qM) : ∃ Mx1 Mm1, f_Pg_clear Mx = some Mx1 ∧ f_Md_clear Mm = some Mm1 ∧ Inv Mx1 Mm1 := by
  obtain ⟨Mx1, Mm1, a1, a2, a3, a4⟩ := inv_new Mx (qsI (qsI (qsI Mm 0 0 0) 0 2 0) 0 37 0)
  refine ⟨Mx1, Mm1, ?_, ?_, a4 ?_ ?_ ?_⟩
  · unfold f_Pg_clear
    rw [a1, q_cvE]
  · unfold f_Md_clear
    rw [q_ltE, q_ltE, q_ltE, a2, q_cvE]
  · simp (disch := omega) only [g_In, g_Ie]
  · simp (disch := omega) only [g_In, g_Ie]
  · simp (disch := omega) only [g_In, g_Ie]
theorem op_html {Mx Mm : qM} (h : Inv Mx Mm) (c : Int32) : ∃ r Mx1 Mm1, f_Pg_html c Mx = some (r, Mx1) ∧ f_Md_html c Mm = some (r, Mm1) ∧ Inv Mx1 Mm1 := by
  rcases q_chars c with h1 | h1 | ⟨n, h1, h2, rfl⟩
  · exact ⟨0, Mx, Mm, by simp [f_Pg_html, f_Pg_canBeTyped, q_bp, h1], by simp [f_Md_html, h1], h⟩
  · by_cases h0 : c < 32
    · exact ⟨0, Mx, Mm, by simp [f_Pg_html, f_Pg_canBeTyped, q_bp, h0], by simp [f_Md_html, h0], h⟩
    · exact ⟨0, Mx, Mm, by simp [f_Pg_html, f_Pg_canBeTyped, q_bp, h0, h1], by simp [f_Md_html, h0, h1], h⟩
  · have h' := h
    obtain ⟨txt, T, r, pre, tj, si, dj, lj⟩ := h
    obtain ⟨r', Mx1, Mm1, e1, e2, e3⟩ := ti_html (ti_of tj) (c := n) h2 h1
    refine ⟨r', Mx1, Mm1, e1, e2, ?_⟩
    rcases e3 with ⟨a, b⟩ | ⟨a, ⟨b1, b2', b3, b4⟩, c1, c2⟩
    · rw [a, b]; exact h'
    · obtain ⟨r2, pre2, tj2⟩ := tj_of a
      exact ⟨txt ++ [n], T, r2, pre2, tj2, si_k si b3 (fun p j q1 _ _ => (b4 p j q1).1) (fun p j q => c2 p j (by omega)), Or.inl b1, Or.inl ⟨b2', c1⟩⟩
theorem op_css {Mx Mm : qM} (h : Inv Mx Mm) (c : Int32) : ∃ r Mx1 Mm1, f_Pg_css c Mx = some (r, Mx1) ∧ f_Md_css c Mm = some (r, Mm1) ∧ Inv Mx1 Mm1 := by
  rcases q_chars c with h1 | h1 | ⟨n, h1, h2, rfl⟩
  · exact ⟨0, Mx, Mm, by simp [f_Pg_css, f_Pg_canBeTyped, q_bp, h1], by simp [f_Md_css, h1], h⟩
  · by_cases h0 : c < 32
    · exact ⟨0, Mx, Mm, by simp [f_Pg_css, f_Pg_canBeTyped, q_bp, h0], by simp [f_Md_css, h0], h⟩
    · exact ⟨0, Mx, Mm, by simp [f_Pg_css, f_Pg_canBeTyped, q_bp, h0, h1], by simp [f_Md_css, h0, h1], h⟩
  · have h' := h
    obtain ⟨txt, T, r, pre, tj, si, dj, lj⟩ := h
    obtain ⟨r', Mx1, Mm1, e1, e2, e3⟩ := si_css si (c := n) h2 h1
    refine ⟨r', Mx1, Mm1, e1, e2, ?_⟩
    rcases e3 with ⟨a, b⟩ | ⟨a, ⟨b1, b2', b3⟩, c1, c2⟩
    · rw [a, b]; exact h'
    · exact ⟨txt, T ++ [n], r, pre, tj_k tj b3 c2, a, Or.inl b1, Or.inl ⟨b2', c1⟩⟩
theorem op_rules {Mx Mm : qM} (h : Inv Mx Mm) : ∃ r Mm1, f_Pg_rules Mx = some r ∧ f_Md_rules Mm = some (r, Mm1) ∧ Inv Mx Mm1 := by
  obtain ⟨txt, T, r, pre, tj, si, dj, lj⟩ := h
  obtain ⟨r', Mm1, e1, e2, e3, e4⟩ := si_rules si
  refine ⟨r', Mm1, e1, e2, txt, T, r, pre, tj_k tj ⟨fun _ _ _ => rfl, fun _ _ _ => rfl⟩ (fun p j q => e4 p j (by omega) (by omega)), si_k si rfl (fun _ _ _ _ _ => rfl) (fun p j q => e4 p j (by omega) (by omega)), dj, lj_m lj (fun p j q => e4 p j (by omega) (by omega)) (fun hv k hk p hp => by rw [e4 _ _ (by omega) (by omega)]; exact hv k hk p hp) (fun hp k hk => by rw [e4 _ _ (by omega) (by omega)]; exact hp k hk)⟩
