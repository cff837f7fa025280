/-! layout on the reference's side: heights, step by step -/
section RH2
variable {n nc : Nat} {I pj : Nat → Nat} {Z : lT}
def h47_T (x6 a1 x4 : Int32) (n : Nat) (K12 : Int32 → Int32 → Int32 → qM → Option qM) (x9 x10 x30 : Int32) (M28 : qM) (x31 : Int32) : Option qM := q_ix x10 40 <| q_lt (qsI M28 32 x10.toNatClampNeg x31) fun M33 => q_ix x10 40 <| q_ix x10 40 <| q_lt ((M33.1 32 x10.toNatClampNeg) + (M33.1 31 x10.toNatClampNeg)) fun x36 => q_ix x10 40 <| if x9 ≤ ((2 * x30) + (M33.1 31 x10.toNatClampNeg)) then (q_ix x10 40 <| f_Md_heights_47 x6 a1 x4 n K12 x36 x30 ((2 * x30) + (M33.1 31 x10.toNatClampNeg)) (x10 + 1) M33) else (f_Md_heights_47 x6 a1 x4 n K12 x36 x30 x9 (x10 + 1) M33)
def h47_F (x6 a1 x4 : Int32) (n : Nat) (K12 : Int32 → Int32 → Int32 → qM → Option qM) (x9 x10 x25 x27 : Int32) (M26 : qM) : Option qM := q_lt (qsI M26 0 52 0) fun M28 => q_ix (160 + x10) 280 <| q_lt (M28.1 25 (160 + x10).toNatClampNeg) fun x30 => if x4 = 114 then (h47_T x6 a1 x4 n K12 x9 x10 x30 M28 x30) else (if x27 ≤ x30 then (h47_T x6 a1 x4 n K12 x9 x10 x30 M28 (x25 + x30)) else (h47_T x6 a1 x4 n K12 x9 x10 x30 M28 (x25 + x27)))
def h47_N (x6 a1 x4 : Int32) (n : Nat) (K12 : Int32 → Int32 → Int32 → qM → Option qM) (x7 x8 x9 x10 : Int32) (M11 : qM) : Option qM := q_ix x10 40 <| if (M11.1 28 x10.toNatClampNeg) = a1 then (q_ix x10 40 <| if (M11.1 26 x10.toNatClampNeg) = 0 then (q_cv (f_Md_gather x10 M11) fun M19 => f_Md_heights_47 x6 a1 x4 n K12 x7 x8 x9 (x10 + 1) M19) else (f_Md_heights_47 x6 a1 x4 n K12 x7 x8 x9 (x10 + 1) M11)) else (f_Md_heights_47 x6 a1 x4 n K12 x7 x8 x9 (x10 + 1) M11)
theorem h47_eq (x6 a1 x4 : Int32) (n : Nat) (K12 : Int32 → Int32 → Int32 → qM → Option qM) (x7 x8 x9 x10 : Int32) (M11 : qM) : f_Md_heights_47 x6 a1 x4 (n + 1) K12 x7 x8 x9 x10 M11 = if x6 ≤ x10 then (K12 x7 x8 x9 M11) else (q_ix x10 40 <| if (M11.1 28 x10.toNatClampNeg) = a1 then (q_ix x10 40 <| if (M11.1 27 x10.toNatClampNeg) = 0 then (h47_N x6 a1 x4 n K12 x7 x8 x9 x10 M11) else (q_bp (f_Md_runs M11) fun x24 => if x24 = 0 then (if x24 = 0 then (h47_F x6 a1 x4 n K12 x9 x10 x7 x8 M11) else (h47_F x6 a1 x4 n K12 x9 x10 x7 0 M11)) else (q_cl (f_Md_lay a1 (x7 + x8) M11) fun x49 M50 => if x24 = 0 then (h47_F x6 a1 x4 n K12 x9 x10 x49 x8 M50) else (h47_F x6 a1 x4 n K12 x9 x10 x49 0 M50)))) else (h47_N x6 a1 x4 n K12 x7 x8 x9 x10 M11)) := by
  rw [f_Md_heights_47]
  rfl
theorem gAt_s (Z : lT) (k m : Nat) : gAt Z k (m + 1) = (tkF Z k (k + 1 + m)).foldl (gTk Z k) (gAt Z k m) := by
  unfold gAt
  rw [tkR_add, List.foldl_append, tkR_s]
  show (tkF Z k (k + 1 + m) ++ []).foldl _ _ = _
  rw [List.append_nil]
theorem mx_cm (a b : Int32) : mx a b = mx b a := by
  unfold mx
  simp only [Int32.lt_iff_toInt_lt]
  by_cases h1 : a.toInt < b.toInt <;> by_cases h2 : b.toInt < a.toInt <;> simp only [h1, h2, if_true, if_false]
  · omega
  · exact Int32.toInt_inj.mp (by omega)
theorem gFl_ln (Z : lT) (k : Nat) (g : gT) : uLn (gFl Z k g).2.1 = [] := by
  unfold gFl
  by_cases h : uHs (uEnd (zSz Z) (zCl Z k) (zW Z k) g.2.1) = true
  · rw [if_pos h]; exact uE_ln _
  · rw [if_neg h]; exact uE_ln _
theorem tkF_W (hW : wZ2 n nc I pj Z) {j : Nat} (hj : j < n) : ∀ t ∈ tkG Z j, iW n nc Z t ∧ (t.1 < 2 → zNq Z t.2 = j) := by
  intro t ht
  unfold tkG at ht
  rw [List.mem_append] at ht
  rcases ht with ht | ht
  · by_cases h : zNm Z j = 107
    · rw [if_pos h, List.mem_singleton] at ht
      rw [ht]
      exact ⟨Or.inl ⟨rfl, hj⟩, fun h => absurd h (by show ¬ 2 < 2; omega)⟩
    · rw [if_neg h] at ht
      cases ht
  · by_cases h : zNm Z j = 1
    · rw [if_pos h, List.mem_map] at ht
      obtain ⟨q, hq, e⟩ := ht
      rw [hW.2.2.2.2.2.1 j hj, List.mem_filter, rgF_mem] at hq
      have hq2 : zNq Z q = j := by simpa using hq.2
      unfold kLet at e
      by_cases hc : zCd Z q = 32
      · rw [if_pos hc] at e
        rw [← e]
        exact ⟨Or.inr ⟨by show 1 < 2; omega, by show q < nc; omega, ⟨fun _ => hc, fun _ => rfl⟩⟩, fun _ => hq2⟩
      · rw [if_neg hc] at e
        rw [← e]
        exact ⟨Or.inr ⟨by show 0 < 2; omega, by show q < nc; omega, ⟨fun h => absurd h (by show ¬ (0 : Nat) = 1; omega), fun h => absurd h hc⟩⟩, fun _ => hq2⟩
    · rw [if_neg h] at ht
      cases ht
theorem r_h1 (hW : wZ2 n nc I pj Z) (hbo : ∀ j, 0 < j → j < n → zBo Z j < j) {k : Nat} (hk : k < n) (hib : zIb Z k = true) (h05 : zV Z 0 5 = 0) {lb : Int32} {j : Nat} (hj : j < zBh Z k) (hkj : k < j) {pend : List kT2} {g : gT} {M : qM} (h : rHt M n nc I pj Z k lb j pend g) (f : Nat) (K : Int32 → Int32 → Int32 → qM → Option qM) : ∃ M' pend' g', f_Md_heights_47 (nI (zBh Z k)) (nI k) (nI (zNm Z k)) (f + 1) K g.1.1 g.1.2.1 g.1.2.2 (nI j) M = f_Md_heights_47 (nI (zBh Z k)) (nI k) (nI (zNm Z k)) f K g'.1.1 g'.1.2.1 g'.1.2.2 (nI (j + 1)) M' ∧ rHt M' n nc I pj Z k lb (j + 1) pend' g' ∧ rF5 Z k M M' := by
  have hn : n ≤ 24 := hW.1.2.1
  obtain ⟨_, hnm, _, hbh, _⟩ := hW.2.1 k hk
  have hjn : j < n := by omega
  have hboj := hbo j (by omega) hjn
  have h' := h
  obtain ⟨hB, ⟨hX, hp, hln⟩, hg, hu, h39, hL, h32⟩ := h
  obtain ⟨w1, w2, w3, w4⟩ := hB.2.1 j hjn
  have w3 := w3 (by omega)
  have ej : j + 1 - (k + 1) = j - (k + 1) + 1 := by omega
  have ea : k + 1 + (j - (k + 1)) = j := by omega
  have eg := gAt_s Z k (j - (k + 1))
  rw [ea] at eg
  have etr : tkR Z k (k + 1) (j - (k + 1) + 1) = tkR Z k (k + 1) (j - (k + 1)) ++ tkF Z k j := by
    rw [tkR_add, ea, tkR_s]
    show _ ++ (tkF Z k j ++ []) = _
    rw [List.append_nil]
  have skip : tkF Z k j = [] → (zBo Z j = k → zIb Z j = true → False) → ∃ M' pend' g', f_Md_heights_47 (nI (zBh Z k)) (nI k) (nI (zNm Z k)) f K g.1.1 g.1.2.1 g.1.2.2 (nI (j + 1)) M = f_Md_heights_47 (nI (zBh Z k)) (nI k) (nI (zNm Z k)) f K g'.1.1 g'.1.2.1 g'.1.2.2 (nI (j + 1)) M' ∧ rHt M' n nc I pj Z k lb (j + 1) pend' g' ∧ rF5 Z k M M' := fun et hno => by
    refine ⟨M, pend, g, rfl, ⟨hB, ⟨hX, hp, ?_⟩, ?_, hu, h39, hL, fun i h1 h2 h3 h4 => ?_⟩, fun _ _ _ _ _ _ => rfl⟩
    · rw [ej, etr, et, List.append_nil]
      exact hln
    · rw [ej, eg, et]
      exact hg
    · by_cases e : i = j
      · rw [e] at h3 h4
        exact absurd (hno h3 h4) id
      · exact h32 i h1 (by omega) h3 h4
  rw [h47_eq, i_le (by omega) (by omega), if_neg (by omega), g_ix (by omega) (by omega), g_cl (by omega), w3, i_eq (by omega) (by omega)]
  by_cases hb : zBo Z j = k
  · rw [if_pos hb, g_ix (by omega) (by omega), w2, i_b2]
    by_cases hi : zIb Z j = true
    · rw [if_neg (by rw [hi]; simp)]
      have et : tkF Z k j = [(3, j)] := by
        unfold tkF
        rw [if_pos hb, if_pos hi]
      obtain ⟨M1, b, r1, r2, r3, r4, r5, r6, r7, r8⟩ := r_fl hW hk hib h05 (by omega) hkj h'
      have heq : (q_bp (f_Md_runs M) fun x24 => if x24 = 0 then (if x24 = 0 then (h47_F (nI (zBh Z k)) (nI k) (nI (zNm Z k)) f K g.1.2.2 (nI j) g.1.1 g.1.2.1 M) else (h47_F (nI (zBh Z k)) (nI k) (nI (zNm Z k)) f K g.1.2.2 (nI j) g.1.1 0 M)) else (q_cl (f_Md_lay (nI k) (g.1.1 + g.1.2.1) M) fun x49 M50 => if x24 = 0 then (h47_F (nI (zBh Z k)) (nI k) (nI (zNm Z k)) f K g.1.2.2 (nI j) x49 g.1.2.1 M50) else (h47_F (nI (zBh Z k)) (nI k) (nI (zNm Z k)) f K g.1.2.2 (nI j) x49 0 M50))) = h47_F (nI (zBh Z k)) (nI k) (nI (zNm Z k)) f K (gFl Z k (gAt Z k (j - (k + 1)))).1.2.2 (nI j) (gFl Z k (gAt Z k (j - (k + 1)))).1.1 (gFl Z k (gAt Z k (j - (k + 1)))).1.2.1 M1 := by
        rw [r1, q_bpE, r4]
        cases b with
        | true =>
          rw [i_b2, if_neg (by simp), (r2 rfl).1, q_clE, (r2 rfl).2]
          rfl
        | false =>
          rw [i_b2, if_pos rfl, i_b2, if_pos rfl, (r3 rfl).1, (r3 rfl).2]
      rw [heq]
      have f1 := rF5_2 r8
      have hB1 := rBs_k hB f1
      have ev : (qsI M1 0 52 0).1 25 (160 + j) = zV Z j 4 := by
        rw [g_In (by omega)]
        exact (hB1.1.2.1 j hjn).2.2.2.1 4 (by omega)
      have eh : ∀ t, (qsI (qsI M1 0 52 0) 32 j t).1 31 j = zH Z j := fun t => by
        rw [g_In (by omega), g_In (by omega)]
        exact hB1.2.2 j hkj hjn hi
      have eT : ∀ t x9, h47_T (nI (zBh Z k)) (nI k) (nI (zNm Z k)) f K x9 (nI j) (zV Z j 4) (qsI M1 0 52 0) t = f_Md_heights_47 (nI (zBh Z k)) (nI k) (nI (zNm Z k)) f K (t + zH Z j) (zV Z j 4) (mx x9 (2 * zV Z j 4 + zH Z j)) (nI (j + 1)) (qsI (qsI M1 0 52 0) 32 j t) := fun t x9 => by
        unfold h47_T
        rw [g_ix (by omega) (by omega), g_cl (by omega), q_ltE, g_ix (by omega) (by omega), g_ix (by omega) (by omega), eh, g_Ie ⟨rfl, rfl⟩, q_ltE, g_ix (by omega) (by omega), g_ix (by omega) (by omega), g_inc, mx_cm x9, ← mx_le (2 * zV Z j 4 + zH Z j) x9]
        by_cases q : x9 ≤ 2 * zV Z j 4 + zH Z j
        · rw [if_pos q, if_pos q]
        · rw [if_neg q, if_neg q]
      have eF : h47_F (nI (zBh Z k)) (nI k) (nI (zNm Z k)) f K (gFl Z k (gAt Z k (j - (k + 1)))).1.2.2 (nI j) (gFl Z k (gAt Z k (j - (k + 1)))).1.1 (gFl Z k (gAt Z k (j - (k + 1)))).1.2.1 M1 = h47_T (nI (zBh Z k)) (nI k) (nI (zNm Z k)) f K (gFl Z k (gAt Z k (j - (k + 1)))).1.2.2 (nI j) (zV Z j 4) (qsI M1 0 52 0) (gTp Z k j (gFl Z k (gAt Z k (j - (k + 1))))) := by
        unfold h47_F
        rw [q_ltE, show (160 : Int32) = nI 160 from rfl, g_add, g_ix (by omega) (by omega), g_cl (by omega), ev, q_ltE, show (114 : Int32) = nI 114 from rfl, i_eq (by omega) (by omega)]
        unfold gTp
        by_cases q : zNm Z k = 114
        · rw [if_pos q, if_pos q]
        · rw [if_neg q, if_neg q, mx_cm (gFl Z k (gAt Z k (j - (k + 1)))).1.2.1, ← mx_le (zV Z j 4)]
          by_cases q2 : (gFl Z k (gAt Z k (j - (k + 1)))).1.2.1 ≤ zV Z j 4
          · rw [if_pos q2, if_pos q2]
          · rw [if_neg q2, if_neg q2]
      rw [eF, eT]
      have f2 : rF5 Z k M1 (qsI (qsI M1 0 52 0) 32 j (gTp Z k j (gFl Z k (gAt Z k (j - (k + 1)))))) := fun p i q1 q2 q3 q4 => by
        rw [g_In (fun h => q4 ⟨h.1, by omega, by rw [h.2]; exact hb, by rw [h.2]; exact hi⟩), g_In (by omega)]
      refine ⟨_, [], gBx Z k j (gFl Z k (gAt Z k (j - (k + 1)))), rfl, ⟨rBs_k hB1 f2, ⟨⟨?_, fun x t hx => ?_⟩, fun t ht => (by cases ht), Nat.zero_le _⟩, ?_, rfl, ?_, fun q hq hs => ?_, fun i h1 h2 h3 h4 => ?_⟩, rF5_t f1 f2⟩
      · rw [g_In (by omega), g_Ie ⟨rfl, rfl⟩]; rfl
      · rw [List.getElem?_nil] at hx; cases hx
      · rw [ej, eg, et]
        rfl
      · rw [g_In (by omega), g_In (by omega)]
        exact r6
      · have r := rLt_n (r7 q hq hs) (gFl_ln Z k _) (gTp Z k j (gFl Z k (gAt Z k (j - (k + 1)))) + zH Z j + zV Z j 4) (uNl (gFl Z k (gAt Z k (j - (k + 1)))).2.1)
        unfold rLt at r ⊢
        rw [g_In (by omega), g_In (by omega), g_In (by omega), g_In (by omega), g_In (by omega), g_In (by omega), g_In (by omega), g_In (by omega)]
        exact r
      · show _ = up (gFl Z k (gAt Z k (j - (k + 1)))).2.2 j (gTp Z k j (gFl Z k (gAt Z k (j - (k + 1))))) i
        by_cases e : i = j
        · rw [e, up_e, g_Ie ⟨rfl, rfl⟩]
        · rw [up_n e, g_In (by omega), g_In (by omega), r8 _ _ (by omega) (by omega), r5]
          exact h32 i h1 (by omega) h3 h4
    · have hi' : zIb Z j = false := Bool.eq_false_iff.mpr hi
      rw [if_pos hi']
      unfold h47_N
      rw [g_ix (by omega) (by omega), g_cl (by omega), w3, i_eq (by omega) (by omega), if_pos hb, g_ix (by omega) (by omega), w1, i_b2, g_inc]
      by_cases hh : zHd Z j = true
      · rw [if_neg (by rw [hh]; simp)]
        exact skip (by unfold tkF; rw [if_pos hb, if_neg hi, if_pos hh]) (fun _ h => hi h)
      · have hh' : zHd Z j = false := Bool.eq_false_iff.mpr hh
        rw [if_pos hh']
        have et : tkF Z k j = tkG Z j := by
          unfold tkF
          rw [if_pos hb, if_neg hi, if_neg hh]
          rfl
        have hl2 := tk_l2 hW k (m := j - (k + 1) + 1) (a := k + 1) (by omega)
        rw [etr, et, List.length_append] at hl2
        obtain ⟨M', e1, e2, e3⟩ := r_ga hW hjn hB.1 hX (by omega)
        have f1 : rF5 Z k M M' := rF5_4 e3
        refine ⟨M', pend ++ tkG Z j, g, by rw [e1, q_cvE], ⟨rBs_k hB f1, ⟨e2, fun t ht => ?_, ?_⟩, ?_, hu, ?_, fun q hq hs => ?_, fun i h1 h2 h3 h4 => ?_⟩, f1⟩
        · rcases List.mem_append.mp ht with ht | ht
          · exact hp t ht
          · obtain ⟨c1, c2⟩ := tkF_W hW hjn t ht
            exact ⟨c1, fun h => by show zBo Z (zNq Z t.2) = k; rw [c2 h]; exact hb⟩
        · rw [ej, etr, et, List.length_append, List.length_append]
          omega
        · rw [ej, eg, et, List.foldl_append, hg]
        · rw [e3 _ _ (by omega) (by omega)]
          exact h39
        · have r := hL q hq hs
          unfold rLt at r ⊢
          rw [e3 _ _ (by omega) (by omega), e3 _ _ (by omega) (by omega), e3 _ _ (by omega) (by omega), e3 _ _ (by omega) (by omega)]
          exact r
        · rw [e3 _ _ (by omega) (by omega)]
          refine h32 i h1 ?_ h3 h4
          by_cases e : i = j
          · rw [e] at h4
            exact absurd h4 hi
          · omega
  · rw [if_neg hb]
    unfold h47_N
    rw [g_ix (by omega) (by omega), g_cl (by omega), w3, i_eq (by omega) (by omega), if_neg hb, g_inc]
    exact skip (by unfold tkF; rw [if_neg hb]) (fun h _ => hb h)
end RH2
