/-! pixel -/
theorem vF_01 {E : eT} {rs : List (selT × List Nat)} (h0 : (E 0).1 = 0) : vF E rs 0 1 = 0 := by
  rw [vF_e (fun h => absurd h (by omega))]
  unfold vS stF
  rw [stF_0 h0]
  show fxD E 0 1 (dfl E (vF E rs) 0 1) = 0
  unfold dfl fxD
  rw [if_neg (fun h => absurd h.1 (by omega)), if_neg (by omega), if_neg (by omega), if_neg (by omega)]
theorem and1 (v : Int32) : v &&& 1 = 0 ∨ v &&& 1 = 1 := by
  have h : ∀ w : BitVec 32, w &&& 1#32 = 0#32 ∨ w &&& 1#32 = 1#32 := fun w => by
    cases hb : w.getLsbD 0 with
    | false =>
      refine Or.inl (BitVec.eq_of_getLsbD_eq fun i hi => ?_)
      rw [BitVec.getLsbD_and, BitVec.getLsbD_one, BitVec.getLsbD_zero]
      by_cases e : i = 0
      · rw [e, hb]; rfl
      · simp [e]
    | true =>
      refine Or.inr (BitVec.eq_of_getLsbD_eq fun i hi => ?_)
      rw [BitVec.getLsbD_and, BitVec.getLsbD_one]
      by_cases e : i = 0
      · rw [e, hb]; rfl
      · simp [e]
  rcases h v.toBitVec with h | h
  · exact Or.inl (Int32.toBitVec_inj.mp h)
  · exact Or.inr (Int32.toBitVec_inj.mp h)
def ink (x y l t sz cd : Int32) : Bool := if x - l < 0 then false else if sz ≤ x - l then false else if y - t < 0 then false else if y - t < sz then (if ((cd >>> (((2 * ((2 * (y - t)) / sz)) + ((2 * (x - l)) / sz)) &&& 31)) &&& 1) = 1 then true else false) else false
theorem t_ink {M : qM} {o : Nat} {x y l t sz cd : Int32} (h0 : M.1 o 0 = cd) (h3 : M.1 o 3 = sz) (h4 : M.1 o 4 = l) (h5 : M.1 o 5 = t) (hs : sz ≠ 0) : f_Layout_marks o x y M = some (b2 (ink x y l t sz cd)) := by
  unfold f_Layout_marks ink
  rw [h0, h3, h4, h5]
  by_cases q1 : x - l < 0
  · rw [if_pos q1, if_pos q1]; rfl
  · rw [if_neg q1, if_neg q1]
    by_cases q2 : sz ≤ x - l
    · rw [if_pos q2, if_pos q2]; rfl
    · rw [if_neg q2, if_neg q2]
      by_cases q3 : y - t < 0
      · rw [if_pos q3, if_pos q3]; rfl
      · rw [if_neg q3, if_neg q3]
        by_cases q4 : y - t < sz
        · rw [if_pos q4, if_pos q4]
          unfold q_dk
          rw [if_neg hs, if_neg hs, q_ltE]
          rcases and1 (cd >>> (((2 * ((2 * (y - t)) / sz)) + ((2 * (x - l)) / sz)) &&& 31)) with e | e
          · rw [e, if_pos rfl, if_neg (by decide)]; rfl
          · rw [e, if_neg (by decide), if_pos rfl]; rfl
        · rw [if_neg q4, if_neg q4]; rfl
theorem r_ink {M : qM} {q : Nat} {x y l t sz cd : Int32} (hq : q < 160) (h0 : M.1 11 q = cd) (h4 : M.1 34 q = l) (h5 : M.1 35 q = t) (hs : sz ≠ 0) : f_Md_inked (nI q) x y sz M = some (b2 (ink x y l t sz cd)) := by
  unfold f_Md_inked ink
  rw [g_ix (by omega) (by omega), g_cl (by omega), h4, q_ltE, g_ix (by omega) (by omega), h5, q_ltE, g_ix (by omega) (by omega), h0]
  by_cases q1 : x - l < 0
  · rw [if_pos q1, if_pos q1]; rfl
  · rw [if_neg q1, if_neg q1]
    by_cases q2 : sz ≤ x - l
    · rw [if_pos q2, if_pos q2]; rfl
    · rw [if_neg q2, if_neg q2]
      by_cases q3 : y - t < 0
      · rw [if_pos q3, if_pos q3]; rfl
      · rw [if_neg q3, if_neg q3]
        by_cases q4 : y - t < sz
        · rw [if_pos q4, if_pos q4]
          unfold q_dk
          rw [if_neg hs, if_neg hs]
          by_cases q5 : ((cd >>> (((2 * ((2 * (y - t)) / sz)) + ((2 * (x - l)) / sz)) &&& 31)) &&& 1) = 1
          · rw [if_pos q5, if_pos q5]; rfl
          · rw [if_neg q5, if_neg q5]; rfl
        · rw [if_neg q4, if_neg q4]; rfl
/-- what a box paints -/
def cov (Z : lT) (Ta : Nat → Int32) (x y : Int32) (k : Nat) : Bool := if x < zL Z k then false else if zL Z k + (zW Z k + 2 * zV Z k 5) ≤ x then false else if y < Ta k then false else if Ta k + zH Z k ≤ y then false else true
def pB (Z : lT) (Ta : Nat → Int32) (x y : Int32) (c : Int32) (k : Nat) : Int32 := if zIb Z k = true ∧ cov Z Ta x y k = true ∧ zV Z k 1 ≠ 0 then zV Z k 1 else c
/-- what a letter paints -/
def pL (pj : Nat → Nat) (Z : lT) (Ta : Nat → Int32) (x y : Int32) (k : Nat) (c : Int32) (q : Nat) : Int32 := match zPx Z q with
  | none => c
  | some l => if ink x y l (oF Z Ta (zBo Z (zNq Z q)) + zPy Z q) (zSz Z q) (nI (zCd Z q)) = true then zV Z (pj k) 0 else c
theorem pL_n {pj : Nat → Nat} {Z : lT} {Ta : Nat → Int32} {x y : Int32} {k q : Nat} {c : Int32} (h : zPx Z q = none) : pL pj Z Ta x y k c q = c := by
  unfold pL
  rw [h]
theorem pL_s {pj : Nat → Nat} {Z : lT} {Ta : Nat → Int32} {x y : Int32} {k q : Nat} {c l : Int32} (h : zPx Z q = some l) : pL pj Z Ta x y k c q = if ink x y l (oF Z Ta (zBo Z (zNq Z q)) + zPy Z q) (zSz Z q) (nI (zCd Z q)) = true then zV Z (pj k) 0 else c := by
  unfold pL
  rw [h]
def pN (pj : Nat → Nat) (Z : lT) (Ta : Nat → Int32) (x y : Int32) (c : Int32) (k : Nat) : Int32 := (zLt Z k).foldl (pL pj Z Ta x y k) c
section PX
variable {n nc : Nat} {I pj dp : Nat → Nat} {Z : lT} {Ta : Nat → Int32} {w x y : Int32}
theorem t_p6 (hV : EV n nc I pj dp Z Ta w) {M : qM} (h5 : M.1 1 5 = nI n) (h3 : ∀ k, k < n → M.2 3 k = some (7 + 5 * I k)) (hv : ∀ k, k < n → zNm Z k ≠ 1 → ∀ p, p < 7 → M.1 (7 + 5 * I k + 3) p = zV Z k p) (hL : cLd M n nc I Z Ta) (K : Int32 → Option Int32) : ∀ (m k f : Nat) (c : Int32), k + m = n → m < f → f_Layout_paintedAt_6 M x y f K c (nI k) = K ((rgF k m).foldl (pB Z Ta x y) c) := by
  obtain ⟨hW, hP, hQ, hT⟩ := hV
  have hn : n ≤ 24 := hW.1.2.1
  intro m
  induction m with
  | zero =>
    intro k f c hk hf
    obtain ⟨f, rfl⟩ : ∃ g, f = g + 1 := ⟨f - 1, by omega⟩
    rw [f_Layout_paintedAt_6, h5, i_le (by omega) (by omega), if_pos (by omega)]
    rfl
  | succ m ih =>
    intro k f c hk hf
    obtain ⟨f, rfl⟩ : ∃ g, f = g + 1 := ⟨f - 1, by omega⟩
    rw [f_Layout_paintedAt_6, h5, i_le (by omega) (by omega), if_neg (by omega), g_ix (by omega) (by omega), g_cl (by omega), h3 k (by omega), q_ltE, q_nnE, g_inc]
    show _ = K ((rgF (k + 1) m).foldl (pB Z Ta x y) (pB Z Ta x y c k))
    by_cases hi : zIb Z k = true
    · obtain ⟨b0, b1, b2', b3, b4⟩ := (hL.2.1 k (by omega)).1 hi
      have v1 := hv k (by omega) (ib_h hQ.1 (by omega) hi).2.1 1 (by omega)
      rw [if_neg (show ¬ M.1 (7 + 5 * I k + 4) 0 = 0 by rw [b0]; decide), show (1 : Int32) = nI 1 from rfl, g_ix (by omega) (by omega), g_cl (by omega), v1]
      by_cases q0 : zV Z k 1 = 0
      · have ep : pB Z Ta x y c k = c := if_neg (fun h => h.2.2 q0)
        rw [if_pos q0, ep]
        exact ih (k + 1) f c (by omega) (by omega)
      · rw [if_neg q0]
        have ec : f_Layout_covers (7 + 5 * I k + 4) x y M = some (b2 (cov Z Ta x y k)) := by
          unfold f_Layout_covers cov
          rw [b1, b2', b3, b4]
          by_cases q1 : x < zL Z k
          · rw [if_pos q1, if_pos q1]; rfl
          · rw [if_neg q1, if_neg q1]
            by_cases q2 : zL Z k + (zW Z k + 2 * zV Z k 5) ≤ x
            · rw [if_pos q2, if_pos q2]; rfl
            · rw [if_neg q2, if_neg q2]
              by_cases q3 : y < Ta k
              · rw [if_pos q3, if_pos q3]; rfl
              · rw [if_neg q3, if_neg q3]
                by_cases q4 : Ta k + zH Z k ≤ y
                · rw [if_pos q4, if_pos q4]; rfl
                · rw [if_neg q4, if_neg q4]; rfl
        rw [ec, q_bpE, i_b2]
        by_cases qc : cov Z Ta x y k = true
        · have ep : pB Z Ta x y c k = zV Z k 1 := if_pos ⟨hi, qc, q0⟩
          rw [if_neg (by rw [qc]; simp), g_ix (by omega) (by omega), q_ltE, ep]
          exact ih (k + 1) f _ (by omega) (by omega)
        · have ep : pB Z Ta x y c k = c := if_neg (fun h => qc h.2.1)
          rw [if_pos (Bool.eq_false_iff.mpr qc), ep]
          exact ih (k + 1) f c (by omega) (by omega)
    · have ep : pB Z Ta x y c k = c := if_neg (fun h => hi h.1)
      rw [if_pos ((hL.2.1 k (by omega)).2 (Bool.eq_false_iff.mpr hi)), ep]
      exact ih (k + 1) f c (by omega) (by omega)
theorem r_p36 (hn : n ≤ 24) {M : qM} (h5 : M.1 0 5 = nI n) (hv : ∀ k, k < n → ∀ p, p < 7 → M.1 25 (40 * p + k) = zV Z k p) (hL : rLd M n nc Z Ta) (K : Int32 → Option Int32) : ∀ (m k f : Nat) (c : Int32), k + m = n → m < f → f_Md_pixel_36 M x y f K c (nI k) = K ((rgF k m).foldl (pB Z Ta x y) c) := by
  intro m
  induction m with
  | zero =>
    intro k f c hk hf
    obtain ⟨f, rfl⟩ : ∃ g, f = g + 1 := ⟨f - 1, by omega⟩
    rw [f_Md_pixel_36, h5, i_le (by omega) (by omega), if_pos (by omega)]
    rfl
  | succ m ih =>
    intro k f c hk hf
    obtain ⟨f, rfl⟩ : ∃ g, f = g + 1 := ⟨f - 1, by omega⟩
    obtain ⟨g1, g2⟩ := hL.2.1 k (by omega)
    have v1 : M.1 25 (40 + k) = zV Z k 1 := hv k (by omega) 1 (by omega)
    have v5 : M.1 25 (200 + k) = zV Z k 5 := hv k (by omega) 5 (by omega)
    have go : ∀ b : Bool, (if b2 b = 0 then (f_Md_pixel_36 M x y f K c (nI (k + 1))) else (q_ix (40 + nI k) 280 <| if (M.1 25 (40 + nI k).toNatClampNeg) = 0 then (f_Md_pixel_36 M x y f K c (nI (k + 1))) else (q_ix (40 + nI k) 280 <| q_lt (M.1 25 (40 + nI k).toNatClampNeg) fun x16 => f_Md_pixel_36 M x y f K x16 (nI (k + 1))))) = K ((rgF (k + 1) m).foldl (pB Z Ta x y) (if b = true ∧ zV Z k 1 ≠ 0 then zV Z k 1 else c)) := fun b => by
      rw [i_b2]
      cases b with
      | false =>
        rw [if_pos rfl, if_neg (fun h => by cases h.1)]
        exact ih (k + 1) f c (by omega) (by omega)
      | true =>
        rw [if_neg (by simp), show (40 : Int32) = nI 40 from rfl, g_add, g_ix (by omega) (by omega), g_cl (by omega), v1]
        by_cases q0 : zV Z k 1 = 0
        · rw [if_pos q0, if_neg (fun h => h.2 q0)]
          exact ih (k + 1) f c (by omega) (by omega)
        · rw [if_neg q0, if_pos ⟨rfl, q0⟩, g_ix (by omega) (by omega), q_ltE]
          exact ih (k + 1) f _ (by omega) (by omega)
    have g0 := go false
    have g1' := go true
    show _ = K ((rgF (k + 1) m).foldl (pB Z Ta x y) (pB Z Ta x y c k))
    have ef : (if false = true ∧ zV Z k 1 ≠ 0 then zV Z k 1 else c) = c := if_neg (fun h => by cases h.1)
    rw [ef] at g0
    rw [f_Md_pixel_36, h5, i_le (by omega) (by omega), if_neg (by omega), g_ix (by omega) (by omega), q_ltE, q_ltE, g_cl (by omega), g1, i_b2, g_inc]
    by_cases hi : zIb Z k = true
    · obtain ⟨g3, g4, g5, g6⟩ := g2 hi
      rw [if_neg (show ¬ zIb Z k = false by rw [hi]; simp), g_ix (by omega) (by omega), g3, g_ix (by omega) (by omega), g_ix (by omega) (by omega), show (200 : Int32) = nI 200 from rfl, g_add, g_ix (by omega) (by omega), g_cl (by omega), v5, g4, g_ix (by omega) (by omega), g6, g_ix (by omega) (by omega), g_ix (by omega) (by omega), g5]
      by_cases q1 : x < zL Z k
      · have ep : pB Z Ta x y c k = c := if_neg (fun h => by
          have := h.2.1
          unfold cov at this
          rw [if_pos q1] at this
          cases this)
        rw [if_pos q1, ep]
        exact g0
      · rw [if_neg q1]
        by_cases q2 : zL Z k + zW Z k + 2 * zV Z k 5 ≤ x
        · have ep : pB Z Ta x y c k = c := if_neg (fun h => by
            have := h.2.1
            unfold cov at this
            rw [if_neg q1, if_pos (by rw [← Int32.add_assoc]; exact q2)] at this
            cases this)
          rw [if_pos q2, ep]
          exact g0
        · rw [if_neg q2]
          by_cases q3 : y < Ta k
          · have ep : pB Z Ta x y c k = c := if_neg (fun h => by
              have := h.2.1
              unfold cov at this
              rw [if_neg q1, if_neg (by rw [← Int32.add_assoc]; exact q2), if_pos q3] at this
              cases this)
            rw [if_pos q3, ep]
            exact g0
          · rw [if_neg q3]
            by_cases q4 : Ta k + zH Z k ≤ y
            · have ep : pB Z Ta x y c k = c := if_neg (fun h => by
                have := h.2.1
                unfold cov at this
                rw [if_neg q1, if_neg (by rw [← Int32.add_assoc]; exact q2), if_neg q3, if_pos q4] at this
                cases this)
              rw [if_pos q4, ep]
              exact g0
            · have ec : cov Z Ta x y k = true := by
                unfold cov
                rw [if_neg q1, if_neg (by rw [← Int32.add_assoc]; exact q2), if_neg q3, if_neg q4]
              have ep : pB Z Ta x y c k = if true = true ∧ zV Z k 1 ≠ 0 then zV Z k 1 else c := by
                unfold pB
                rw [hi, ec]
                simp
              rw [if_neg q4, ep]
              exact g1'
    · have ep : pB Z Ta x y c k = c := if_neg (fun h => hi h.1)
      rw [if_pos (Bool.eq_false_iff.mpr hi), ep]
      exact g0
theorem t_p101 (hV : EV n nc I pj dp Z Ta w) {M : qM} {k : Nat} (hk0 : 0 < k) (hk : k < n) (hp4 : M.2 (7 + 5 * I k) 4 = some (7 + 5 * I (pj k))) (hv : M.1 (7 + 5 * I (pj k) + 3) 0 = zV Z (pj k) 0) (hL : cLd M n nc I Z Ta) (K : Int32 → Option Int32) : ∀ (L : List Nat) (f : Nat) (c : Int32), L.length < f → (∀ q ∈ L, q < nc ∧ zNq Z q = k) → cLs M Z L → f_Layout_paintedAt_101 M (7 + 5 * I k) x y f K c (L.head?.map (127 + ·)) = K (L.foldl (pL pj Z Ta x y k) c) := by
  obtain ⟨hW, hP, hQ, hT⟩ := hV
  intro L
  induction L with
  | nil =>
    intro f c hf _ _
    obtain ⟨f, rfl⟩ : ∃ g, f = g + 1 := ⟨f - 1, by simp at hf; omega⟩
    rw [f_Layout_paintedAt_101]
    rfl
  | cons q L ih =>
    intro f c hf hq hc
    obtain ⟨f, rfl⟩ : ∃ g, f = g + 1 := ⟨f - 1, by simp at hf; omega⟩
    obtain ⟨hqn, hqk⟩ := hq q List.mem_cons_self
    obtain ⟨c0, c1⟩ := hc [] q L rfl
    obtain ⟨l1, l2⟩ := hL.2.2 q hqn
    have hsz := sz_ne hW hqn
    have e := fun c => ih f c (by simp at hf; omega) (fun x hx => hq x (List.mem_cons_of_mem _ hx)) (cLs_t hc)
    have ehd : ((q :: L).head?.map (127 + ·)) = some (127 + q) := rfl
    rw [ehd, f_Layout_paintedAt_101, q_onS, l1, i_b2, c1]
    show _ = K (L.foldl (pL pj Z Ta x y k) (pL pj Z Ta x y k c q))
    cases hx : zPx Z q with
    | none =>
      rw [if_pos (show (none : Option Int32).isSome = false from rfl), q_ltE, pL_n hx]
      exact e c
    | some l =>
      obtain ⟨l3, l4, l5⟩ := l2 l hx
      rw [if_neg (by simp), q_ltE, hp4, q_onS, t_ink c0 l4 l3 l5 hsz, q_bpE, i_b2, pL_s hx]
      by_cases qi : ink x y l (oF Z Ta (zBo Z (zNq Z q)) + zPy Z q) (zSz Z q) (nI (zCd Z q)) = true
      · rw [if_neg (show ¬ ink x y l (oF Z Ta (zBo Z (zNq Z q)) + zPy Z q) (zSz Z q) (nI (zCd Z q)) = false by rw [qi]; simp), if_pos qi, q_ltE, q_nnE, show (0 : Int32) = nI 0 from rfl, g_ix (by omega) (by omega), g_cl (by omega), hv, q_ltE, q_ltE]
        exact e _
      · rw [if_pos (Bool.eq_false_iff.mpr qi), if_neg qi, q_ltE]
        exact e c
theorem t_p76 (hV : EV n nc I pj dp Z Ta w) {M : qM} (hS : cZs M n nc I pj Z) (h3 : ∀ k, k < n → M.2 3 k = some (7 + 5 * I k)) (hp4 : ∀ k, 0 < k → k < n → M.2 (7 + 5 * I k) 4 = some (7 + 5 * I (pj k)) ∧ zNm Z (pj k) ≠ 1) (hL : cLd M n nc I Z Ta) (K : Int32 → Option Int32) : ∀ (m k f : Nat) (c : Int32), k + m = n → m < f → f_Layout_paintedAt_76 M x y f K c (nI k) = K ((rgF k m).foldl (pN pj Z Ta x y) c) := by
  have hV' := hV
  obtain ⟨hW, hP, hQ, hT⟩ := hV
  have hn : n ≤ 24 := hW.1.2.1
  have hnc : nc ≤ 160 := hW.1.2.2
  intro m
  induction m with
  | zero =>
    intro k f c hk hf
    obtain ⟨f, rfl⟩ : ∃ g, f = g + 1 := ⟨f - 1, by omega⟩
    rw [f_Layout_paintedAt_76, hS.1.1, i_le (by omega) (by omega), if_pos (by omega)]
    rfl
  | succ m ih =>
    intro k f c hk hf
    obtain ⟨f, rfl⟩ : ∃ g, f = g + 1 := ⟨f - 1, by omega⟩
    obtain ⟨s1, s2, s3, s4, s5, s6⟩ := hS.2 k (by omega)
    rw [f_Layout_paintedAt_76, hS.1.1, i_le (by omega) (by omega), if_neg (by omega), g_ix (by omega) (by omega), g_cl (by omega), h3 k (by omega), q_ltE, q_nnE, s4, q_ltE, g_inc]
    show _ = K ((rgF (k + 1) m).foldl (pN pj Z Ta x y) (pN pj Z Ta x y c k))
    have hlen : (zLt Z k).length ≤ 160 := by
      rw [hW.2.2.2.2.2.1 k (by omega)]
      have := List.length_filter_le (fun q => zNq Z q == k) (rgF 0 nc)
      rw [rg_len] at this
      omega
    rcases Nat.eq_zero_or_pos k with e0 | e0
    · have hl0 : zLt Z k = [] := by
        rw [hW.2.2.2.2.2.1 k (by omega)]
        refine List.filter_eq_nil_iff.mpr fun q hq h => ?_
        have hq' := rgF_mem.mp hq
        have h1 : zNq Z q = k := by simpa using h
        have := (hW.2.2.2.1 q (by omega)).2.1
        omega
      have ep : pN pj Z Ta x y c k = c := by
        unfold pN
        rw [hl0]
        rfl
      rw [hl0, ep]
      show f_Layout_paintedAt_101 M (7 + 5 * I k) x y (999 + 1) (fun (x43 : Int32) => f_Layout_paintedAt_76 M x y f K x43 (nI (k + 1))) c none = _
      rw [f_Layout_paintedAt_101, q_onN]
      exact ih (k + 1) f c (by omega) (by omega)
    · obtain ⟨p1, p2⟩ := hp4 k e0 (by omega)
      have hpk := hW.2.2.1 k e0 (by omega)
      have hv := (hS.2 (pj k) (by omega)).2.1 p2 0 (by omega)
      rw [t_p101 hV' e0 (by omega) p1 hv hL _ (zLt Z k) 1000 c (by omega) (lt_pl hW (by omega)) s6]
      exact ih (k + 1) f _ (by omega) (by omega)
theorem r_p186 (hW : wZ2 n nc I pj Z) {M : qM} (hZ : rZ M n nc I pj Z) (hL : rLd M n nc Z Ta) {k : Nat} (hk0 : 0 < k) (hk : k < n) (h1 : zNm Z k = 1) (K : Int32 → Option Int32) : ∀ (m q f : Nat) (c : Int32), q + m = nc → m < f → f_Md_pixel_186 M (nI k) x y f K c (nI q) = K (((rgF q m).filter fun q => zNq Z q == k).foldl (pL pj Z Ta x y k) c) := by
  have hn : n ≤ 24 := hW.1.2.1
  have hnc : nc ≤ 160 := hW.1.2.2
  obtain ⟨z1, z2, z3, z4, z5⟩ := hZ.2.1 k hk
  rw [if_neg (by omega)] at z3
  have hI := (hW.2.1 k hk).1
  have hpk := hW.2.2.1 k hk0 hk
  have vp := (hZ.2.1 (pj k) (by omega)).2.2.2.1
  have vp2 : M.1 25 (80 + pj k) = zV Z (pj k) 2 := vp 2 (by omega)
  have vp0 : M.1 25 (pj k) = zV Z (pj k) 0 := by
    have := vp 0 (by omega)
    rw [show 40 * 0 + pj k = pj k by omega] at this
    exact this
  intro m
  induction m with
  | zero =>
    intro q f c hq hf
    obtain ⟨f, rfl⟩ : ∃ g, f = g + 1 := ⟨f - 1, by omega⟩
    rw [f_Md_pixel_186, hZ.1.2, i_le (by omega) (by omega), if_pos (by omega)]
    rfl
  | succ m ih =>
    intro q f c hq hf
    obtain ⟨f, rfl⟩ : ∃ g, f = g + 1 := ⟨f - 1, by omega⟩
    obtain ⟨b1, b2', b3⟩ := hZ.2.2 q (by omega)
    obtain ⟨c1, c2, c3, c4⟩ := hW.2.2.2.1 q (by omega)
    have hIq := (hW.2.1 _ c3).1
    obtain ⟨l1, l2⟩ := hL.2.2 q (by omega)
    rw [f_Md_pixel_186, hZ.1.2, i_le (by omega) (by omega), if_neg (by omega), g_ix (by omega) (by omega), g_cl (by omega), z1, g_ix (by omega) (by omega), g_cl (by omega), z2, h1, if_pos (show nI 1 = (1 : Int32) from rfl), g_ix (by omega) (by omega), g_cl (by omega), b2', g_ix (by omega) (by omega), i_eq (by omega) (by omega), g_inc, rgF, List.filter_cons]
    by_cases e : zNq Z q = k
    · have eI : I (zNq Z q) = I k := by rw [e]
      rw [if_pos eI, if_pos (show (zNq Z q == k) = true by simpa using e), g_ix (by omega) (by omega), l1, i_b2]
      show _ = K (((rgF (q + 1) m).filter fun q => zNq Z q == k).foldl (pL pj Z Ta x y k) (pL pj Z Ta x y k c q))
      cases hx : zPx Z q with
      | none =>
        rw [if_pos (show (none : Option Int32).isSome = false from rfl), pL_n hx]
        exact ih (q + 1) f c (by omega) (by omega)
      | some l =>
        obtain ⟨l3, l4⟩ := l2 l hx
        have esz : zV Z (pj k) 2 = zSz Z q := by rw [c4, e]
        have l4' : M.1 35 q = oF Z Ta (zBo Z (zNq Z q)) + zPy Z q := by rw [l4, Int32.add_comm]; rfl
        rw [if_neg (by simp), g_ix (by omega) (by omega), z3, show (80 : Int32) = nI 80 from rfl, g_add, g_ix (by omega) (by omega), g_cl (by omega), vp2, esz, r_ink (by omega) b1 l3 l4' (sz_ne hW (by omega)), q_bpE, i_b2, g_ix (by omega) (by omega), g_ix (by omega) (by omega), g_cl (by omega), vp0, q_ltE]
        by_cases qi : ink x y l (oF Z Ta (zBo Z (zNq Z q)) + zPy Z q) (zSz Z q) (nI (zCd Z q)) = true
        · rw [if_neg (show ¬ ink x y l (oF Z Ta (zBo Z (zNq Z q)) + zPy Z q) (zSz Z q) (nI (zCd Z q)) = false by rw [qi]; simp), pL_s hx, if_pos qi]
          exact ih (q + 1) f _ (by omega) (by omega)
        · rw [if_pos (Bool.eq_false_iff.mpr qi), pL_s hx, if_neg qi]
          exact ih (q + 1) f c (by omega) (by omega)
    · rw [if_neg (fun h => e (hW.2.2.2.2.1 _ _ c3 hk h)), if_neg (show ¬ (zNq Z q == k) = true by simpa using e)]
      exact ih (q + 1) f c (by omega) (by omega)
theorem r_p174 (hV : EV n nc I pj dp Z Ta w) {M : qM} (hZ : rZ M n nc I pj Z) (hL : rLd M n nc Z Ta) (K : Int32 → Option Int32) : ∀ (m k f : Nat) (c : Int32), k + m = n → 0 < k → m < f → f_Md_pixel_174 M x y f K c (nI k) = K ((rgF k m).foldl (pN pj Z Ta x y) c) := by
  obtain ⟨hW, hP, hQ, hT⟩ := hV
  have hn : n ≤ 24 := hW.1.2.1
  have hnc : nc ≤ 160 := hW.1.2.2
  intro m
  induction m with
  | zero =>
    intro k f c hk h0 hf
    obtain ⟨f, rfl⟩ : ∃ g, f = g + 1 := ⟨f - 1, by omega⟩
    rw [f_Md_pixel_174, hZ.1.1, i_le (by omega) (by omega), if_pos (by omega)]
    rfl
  | succ m ih =>
    intro k f c hk h0 hf
    obtain ⟨f, rfl⟩ : ∃ g, f = g + 1 := ⟨f - 1, by omega⟩
    have hkn : k < n := by omega
    obtain ⟨z1, z2, z3, z4, z5⟩ := hZ.2.1 k hkn
    obtain ⟨hI, hnm, _⟩ := hW.2.1 k hkn
    rw [f_Md_pixel_174, hZ.1.1, i_le (by omega) (by omega), if_neg (by omega), g_inc]
    show _ = K ((rgF (k + 1) m).foldl (pN pj Z Ta x y) (pN pj Z Ta x y c k))
    by_cases h1 : zNm Z k = 1
    · have e := r_p186 (x := x) (y := y) hW hZ hL h0 hkn h1 (fun (x55 : Int32) => f_Md_pixel_174 M x y f K x55 (nI (k + 1))) nc 0 1000 c (by omega) (by omega)
      rw [← hW.2.2.2.2.2.1 k hkn] at e
      refine Eq.trans e ?_
      exact ih (k + 1) f _ (by omega) (by omega) (by omega)
    · have hl0 : zLt Z k = [] := by
        rw [hW.2.2.2.2.2.1 k hkn]
        refine List.filter_eq_nil_iff.mpr fun q hq h => ?_
        have hq' := rgF_mem.mp hq
        have h2 : zNq Z q = k := by simpa using h
        have := hT.2.2.2.2.2 q (by omega)
        rw [h2] at this
        exact h1 this
      have ep : pN pj Z Ta x y c k = c := by
        unfold pN
        rw [hl0]
        rfl
      rw [ep]
      have e186 : ∀ (KK : Int32 → Option Int32), f_Md_pixel_186 M (nI k) x y (999 + 1) KK c (nI 0) = KK c := fun KK => by
        rw [f_Md_pixel_186, hZ.1.2, i_le (by omega) (by omega), g_ix (by omega) (by omega), g_cl (by omega), z1, g_ix (by omega) (by omega), g_cl (by omega), z2, i_eq1 (by omega), if_neg h1]
        by_cases q : nc ≤ 0
        · rw [if_pos q]
        · rw [if_neg q]
      refine Eq.trans (e186 _) ?_
      exact ih (k + 1) f c (by omega) (by omega) (by omega)
end PX
