/-! one declaration read and put into force; a rule's body -/
def dc_0 (a1 x3 x4 : Int32) (M5 : qM) (x7 : Int32) : Option qM := q_ix a1 12 <| q_ix a1 12 <| q_lt ((x7 + (10 * (M5.1 17 a1.toNatClampNeg))) + (M5.1 18 a1.toNatClampNeg)) fun x10 => f_Md_declare_112 a1 x3 x10 x4 1000 (fun (M24 : qM) => some M24) 0 M5
def dc_1 (a1 : Int32) (M : qM) (x1 x2 x3 : Int32) : Option qM := q_bp (f_Md_declared x3 x2 M) fun x4 => q_lt (qsI M 0 32 0) fun M5 => if 0 ≤ x4 then (if x1 = 0 then (dc_0 a1 x3 x4 M5 0) else (dc_0 a1 x3 x4 M5 100000)) else (some M5)
def dc_2 (a1 : Int32) (M : qM) (x1 x2 : Int32) : Option qM := if x2 ≤ 0 then (dc_1 a1 M x1 x2 (-1)) else (q_ix (0 : Int32) 120 <| q_bp (f_Md_propertyIndex (M.1 21 (0 : Int32).toNatClampNeg) M) fun x30 => dc_1 a1 M x1 x2 x30)
def dc_3 (a1 : Int32) (M : qM) (x1 : Int32) : Option qM := if x1 = 0 then (dc_2 a1 M x1 (M.1 0 32)) else (dc_2 a1 M x1 ((M.1 0 32) - 1))
theorem dcr_eq (a1 : Int32) (M : qM) : f_Md_declare a1 M = if (M.1 0 32) ≤ 0 then (dc_3 a1 M 0) else (q_ix ((M.1 0 32) - 1) 120 <| if (M.1 21 ((M.1 0 32) - 1).toNatClampNeg) = 33 then (dc_3 a1 M 1) else (dc_3 a1 M 0)) := by
  unfold f_Md_declare
  rfl
def midF (E : eT) (r : selT × List Nat) (bs : Nat → Nat → bT) (a : dT) (k p : Nat) : bT := if fitF E r.1.1 r.1.1.length k = true then (comb (bs k p).1 (wgt r.1) (a.1 p), comb (bs k p).2 (wgt r.1) (a.2 p)) else bs k p
theorem nI_m1 {u : Nat} (h : u < 2147483648) : nI u ≠ -1 := fun e => by
  have := g_m1 h
  rw [this] at e
  exact e
theorem mid_up {E : eT} {r : selT × List Nat} {bs : Nat → Nat → bT} {a : dT} {imp : Bool} {p u : Nat} (hu : u < 200) (k q : Nat) : (if q = p ∧ 0 ≤ k ∧ fitF E r.1.1 r.1.1.length k = true then bUp imp (wgt r.1) (nI u) (midF E r bs a k q) else midF E r bs a k q) = midF E r bs (if imp = true then (a.1, up a.2 p (nI u)) else (up a.1 p (nI u), a.2)) k q := by
  have hu1 : nI u ≠ -1 := nI_m1 (by omega)
  by_cases hF : fitF E r.1.1 r.1.1.length k = true
  · by_cases hq : q = p
    · rw [if_pos ⟨hq, Nat.zero_le _, hF⟩]
      unfold midF bUp
      rw [if_pos hF, if_pos hF, hq]
      cases imp with
      | true =>
        rw [if_pos rfl, if_pos rfl]
        dsimp only
        rw [up_e, comb_c hu1]
      | false =>
        rw [if_neg (by decide), if_neg (by decide)]
        dsimp only
        rw [up_e, comb_c hu1]
    · rw [if_neg (fun h => hq h.1)]
      unfold midF
      rw [if_pos hF, if_pos hF]
      cases imp with
      | true =>
        rw [if_pos rfl]
        dsimp only
        rw [up_n hq]
      | false =>
        rw [if_neg (by decide)]
        dsimp only
        rw [up_n hq]
  · rw [if_neg (fun h => hF h.2.2)]
    unfold midF
    rw [if_neg hF, if_neg hF]
/-- what a rule's body needs of the reference's memory -/
def rBd (M : qM) (n i : Nat) (E : eT) (r : selT × List Nat) : Prop := M.1 0 5 = nI n ∧ (M.1 16 i = nI r.1.1.length ∧ M.1 17 i = nI r.1.2.1 ∧ M.1 18 i = nI r.1.2.2) ∧ ∀ j, j < n → M.1 23 (40 * r.1.1.length + j) = b2 (fitF E r.1.1 r.1.1.length j)
theorem rBd_k {M M' : qM} {n i : Nat} {E : eT} {r : selT × List Nat} (h : rBd M n i E r) (k0 : M'.1 0 5 = M.1 0 5) (k : ∀ p j, (p = 16 ∨ p = 17 ∨ p = 18 ∨ p = 23) → M'.1 p j = M.1 p j) : rBd M' n i E r := by
  obtain ⟨h1, ⟨h2, h3, h4⟩, h5⟩ := h
  refine ⟨by rw [k0]; exact h1, ⟨by rw [k _ _ (by omega)]; exact h2, by rw [k _ _ (by omega)]; exact h3, by rw [k _ _ (by omega)]; exact h4⟩, fun j hj => by rw [k _ _ (by omega)]; exact h5 j hj⟩
theorem r_dc2 {n i : Nat} (h24 : n ≤ 24) (hi : i < 12) {E : eT} {r : selT × List Nat} (wr : wRu r) {M : qM} {D : List Nat} (hB : dB M D) (hD : ∀ c ∈ D, c < 127) (hl : D.length ≤ 120) (hb : rBd M n i E r) {bs : Nat → Nat → bT} {a : dT} (hV : rVb M n (midF E r bs a)) (imp : Bool) : ∃ M', dc_2 (nI i) M (b2 imp) (nI D.length) = some M' ∧ rVb M' n (midF E r bs (dSet (declC imp D) a)) ∧ M'.1 0 32 = 0 ∧ ∀ p j, ¬ (p = 0 ∧ j = 32) → p ≠ 24 → p ≠ 25 → M'.1 p j = M.1 p j := by
  obtain ⟨w1, w2, w3, w4⟩ := wr
  obtain ⟨d1, d2⟩ := r_dcl hB hD hl
  have e1 : dc_2 (nI i) M (b2 imp) (nI D.length) = dc_1 (nI i) M (b2 imp) (nI D.length) (eI (pX D)) := by
    unfold dc_2
    cases D with
    | nil => rw [if_pos (show nI ([] : List Nat).length ≤ 0 by decide)]; rfl
    | cons x D =>
      have hx := hD x (by simp)
      have b0 : M.1 21 (0 : Int32).toNatClampNeg = nI x := hB 0 x rfl
      rw [if_neg (show ¬ nI (x :: D).length ≤ 0 by
        rw [← l_0, g_le (by simp at hl ⊢; omega) (by omega)]
        simp), b0, r_prI M hx, q_bpE]
      exact g_ix (n := 0) (by decide) (by decide)
  rw [e1]
  unfold dc_1
  rw [d1, q_bpE, q_ltE]
  have k5 : ∀ p j, ¬ (p = 0 ∧ j = 32) → (qsI M 0 32 0).1 p j = M.1 p j := fun p j h => g_In h
  have hV5 : rVb (qsI M 0 32 0) n (midF E r bs a) := fun p k hp hk => by
    rw [k5 _ _ (by omega), k5 _ _ (by omega)]
    exact hV p k hp hk
  cases hd : dcV D with
  | none =>
    rw [dcV_imp, hd]
    show ∃ M', (if (0 : Int32) ≤ -1 then _ else some (qsI M 0 32 0)) = some M' ∧ _
    rw [if_neg (by decide)]
    exact ⟨_, rfl, hV5, g_Ie ⟨rfl, rfl⟩, fun p j h _ _ => k5 p j h⟩
  | some q =>
    obtain ⟨p, u⟩ := q
    obtain ⟨x1, x2, x3⟩ := d2 p u hd
    rw [dcV_imp, hd, x1]
    show ∃ M', (if (0 : Int32) ≤ nI u then (if b2 imp = 0 then (dc_0 (nI i) (nI p) (nI u) (qsI M 0 32 0) 0) else (dc_0 (nI i) (nI p) (nI u) (qsI M 0 32 0) 100000)) else _) = some M' ∧ rVb M' n (midF E r bs (if imp = true then (a.1, up a.2 p (nI u)) else (up a.1 p (nI u), a.2))) ∧ _
    rw [i_p0 (by omega), i_b2]
    obtain ⟨b1, ⟨b2', b3, b4⟩, b5⟩ := hb
    have wgtB : wgt r.1 < 100000 := by unfold wgt; omega
    obtain ⟨M', y1, y2, y3⟩ := r_112 (n := n) (i := i) (m := r.1.1.length) (p := p) (w := wgt r.1) h24 hi w1.2.1 x2 wgtB (imp := imp) (u := nI u) (nI_m1 (by omega)) (F := fitF E r.1.1 r.1.1.length) n 0 1000 (qsI M 0 32 0) (fun (M24 : qM) => some M24) (midF E r bs a) (by omega) (by rw [k5 _ _ (by omega)]; exact b1) (by rw [k5 _ _ (by omega)]; exact b2') (fun j hj => by rw [k5 _ _ (by omega)]; exact b5 j hj) hV5 (by omega)
    have e0 : ∀ x7 : Nat, x7 = off imp → dc_0 (nI i) (nI p) (nI u) (qsI M 0 32 0) (nI x7) = some M' := fun x7 hx7 => by
      unfold dc_0
      rw [g_ix (by omega) (by omega), g_ix (by omega) (by omega), g_cl (by omega), k5 _ _ (by omega), k5 _ _ (by omega), b3, b4, show (10 : Int32) = nI 10 from rfl, g_mul, g_add, g_add, q_ltE, show x7 + 10 * r.1.2.1 + r.1.2.2 = off imp + wgt r.1 by rw [hx7]; unfold wgt; omega]
      exact y1
    refine ⟨M', ?_, rVb_cg y2 fun k q hk hq => (mid_up x3 k q).symm, ?_, fun P j h h1 h2 => by rw [y3 P j h1 h2, k5 P j h]⟩
    · cases imp with
      | true => rw [if_neg (by decide)]; exact e0 100000 rfl
      | false => rw [if_pos rfl]; exact e0 0 rfl
    · rw [y3 _ _ (by omega) (by omega), g_Ie ⟨rfl, rfl⟩]
theorem declF_S (D : List Nat) (a : dT) : declF D a = dSet (declV D) a := rfl
theorem r_declare {n i : Nat} (h24 : n ≤ 24) (hi : i < 12) {E : eT} {r : selT × List Nat} (wr : wRu r) {M : qM} {D : List Nat} (hB : dB M D) (h32 : M.1 0 32 = nI D.length) (hD : ∀ c ∈ D, c < 127) (hl : D.length ≤ 120) (hb : rBd M n i E r) {bs : Nat → Nat → bT} {a : dT} (hV : rVb M n (midF E r bs a)) : ∃ M', f_Md_declare (nI i) M = some M' ∧ rVb M' n (midF E r bs (declF D a)) ∧ M'.1 0 32 = 0 ∧ ∀ p j, ¬ (p = 0 ∧ j = 32) → p ≠ 24 → p ≠ 25 → M'.1 p j = M.1 p j := by
  rw [declF_S]
  unfold declV
  have c0 := r_dc2 h24 hi wr hB hD hl hb hV false
  by_cases hl0 : D = []
  · subst hl0
    rw [dcr_eq, h32, if_pos (by decide), if_neg (by simp)]
    unfold dc_3
    rw [if_pos rfl, h32]
    exact c0
  · obtain ⟨D', z, rfl⟩ : ∃ D' z, D = D' ++ [z] := ⟨D.dropLast, D.getLast hl0, (List.dropLast_concat_getLast hl0).symm⟩
    have hlen : (D' ++ [z]).length = D'.length + 1 := by simp
    have hz : M.1 21 D'.length = nI z := hB D'.length z (by simp)
    have hzb := hD z (by simp)
    have npos : ¬ nI (D' ++ [z]).length ≤ 0 := by
      rw [← l_0, g_le (by omega) (by omega)]
      omega
    have em : nI (D' ++ [z]).length - 1 = nI D'.length := by rw [hlen, d_k, d_s]
    rw [dcr_eq, h32, if_neg npos, em, g_ix (by omega) (by omega), g_cl (by omega), hz, show (33 : Int32) = nI 33 from rfl, i_eq (by omega) (by omega), List.getLast?_append, show (([z].getLast?).or D'.getLast?) = some z from rfl, List.dropLast_concat]
    by_cases q : z = 33
    · rw [if_pos q, if_pos (by rw [q])]
      unfold dc_3
      rw [if_neg (show ¬ (1 : Int32) = 0 by decide), h32, em]
      exact r_dc2 h24 hi wr (fun j c h => hB j c (by rw [List.getElem?_append_left (List.getElem?_eq_some_iff.mp h).1]; exact h)) (fun c hc => hD c (List.mem_append_left _ hc)) (by omega) hb hV true
    · rw [if_neg q, if_neg (fun h => q (Option.some.inj h))]
      unfold dc_3
      rw [if_pos rfl, h32]
      exact c0
