/-! layout on the class's side: letters, breaks, the ends of a run -/
section CR3
variable {nc : Nat} {Z : lT}
def uJ (u : uT) : Prop := uGp u ≠ -1
theorem uJ_wo {sz : Nat → Int32} {cl W : Int32} {u : uT} (h : uJ u) : uJ (uWo sz cl W u) := by
  unfold uWo
  by_cases q : uWd u = []
  · rw [if_pos q]; exact h
  · rw [if_neg q]
    show (0 : Int32) ≠ -1
    decide
theorem uJ_gap {u : uT} (h : uJ u) {s : Int32} (hs : s ≠ -1) : uJ (uGap u s) := by
  show (if uGp u = 0 then s else uGp u) ≠ -1
  by_cases q : uGp u = 0
  · rw [if_pos q]; exact hs
  · rw [if_neg q]; exact h
theorem uJ_hgt {u : uT} (h : uJ u) (s : Int32) : uJ (uHgt u s) := by
  unfold uHgt
  by_cases q : uLn u = []
  · rw [if_pos q]; exact h
  · rw [if_neg q]; exact h
theorem gpE_eq {g : Int32} (h : g ≠ -1) : gpE g = -1 ↔ g = 0 := by
  unfold gpE
  by_cases q : g = 0
  · rw [if_pos q]; exact ⟨fun _ => q, fun _ => rfl⟩
  · rw [if_neg q]; exact ⟨fun e => absurd e h, fun e => absurd e q⟩
/-- the run of a box -/
def cUx (M : qM) (nc : Nat) (Z : lT) (k : Nat) (off lb : Int32) (Sc : Nat → Prop) (u : uT) (b : Nat) : Prop := ∃ rw ls ws, cU M nc (zSz Z) (zCl Z k) (zW Z k) off lb Sc u rw ls ws ∧ rw.length ≤ b ∧ uI (zSz Z) u ∧ uJ u
theorem q_onS {β : Type} (o : Nat) (a : Option β) (k : Nat → Option β) : q_on (some o) a k = k o := rfl
theorem q_onN {β : Type} (a : Option β) (k : Nat → Option β) : q_on none a k = a := rfl
def cLs (M : qM) (Z : lT) (L : List Nat) : Prop := ∀ A q B, L = A ++ q :: B → M.1 (127 + q) 0 = nI (zCd Z q) ∧ M.2 (127 + q) 1 = B.head?.map (127 + ·)
theorem cLs_t {M : qM} {q : Nat} {L : List Nat} (h : cLs M Z (q :: L)) : cLs M Z L := fun A x B e => h (q :: A) x B (by rw [e]; rfl)
theorem cLs_k {M M' : qM} {L : List Nat} {Sc : Nat → Prop} (h : cLs M Z L) (hL : ∀ q ∈ L, q < 160) (f : cF1 Sc M M') : cLs M' Z L := fun A q B e => by
  have hq := hL q (by rw [e]; simp)
  obtain ⟨h1, h2⟩ := h A q B e
  exact ⟨by rw [f.1 _ _ (by omega) (fun ⟨_, _, _, _, h⟩ => (by omega))]; exact h1, by rw [f.2 _ _ (by omega)]; exact h2⟩
theorem t_at5 (hnc : nc ≤ 160) {k : Nat} {off lb : Int32} {Sc : Nat → Prop} {a2 : Int32} (ha : a2 ≠ 0 ∧ a2 ≠ -1) (K : qM → Option qM) : ∀ (L : List Nat) (f : Nat) (M : qM) (u : uT) (b : Nat), L.length < f → cLs M Z L → (∀ q ∈ L, q < nc ∧ Sc q ∧ zSz Z q = a2 ∧ zCd Z q < 200) → cUx M nc Z k off lb Sc u b → b + (iL (L.map (kLet Z))).length ≤ 160 → ∃ M', f_Run_addText_5 a2 f K (L.head?.map (127 + ·)) M = K M' ∧ cUx M' nc Z k off lb Sc ((L.map (kLet Z)).foldl (uTk Z k) u) (b + (iL (L.map (kLet Z))).length) ∧ cF1 Sc M M' := by
  intro L
  induction L with
  | nil =>
    intro f M u b hf hc hL hU hb
    obtain ⟨f, rfl⟩ : ∃ g, f = g + 1 := ⟨f - 1, by simp at hf; omega⟩
    refine ⟨M, ?_, hU, cF1_r _ _⟩
    rw [f_Run_addText_5]
    rfl
  | cons q L ih =>
    intro f M u b hf hc hL hU hb
    obtain ⟨f, rfl⟩ : ∃ g, f = g + 1 := ⟨f - 1, by simp at hf; omega⟩
    obtain ⟨rw, ls, ws, hU, hrl, hI, hJ⟩ := hU
    obtain ⟨hq, hsq, hz, hcd⟩ := hL q List.mem_cons_self
    obtain ⟨c0, c1⟩ := hc [] q L rfl
    have hL' : ∀ x ∈ L, x < nc ∧ Sc x ∧ zSz Z x = a2 ∧ zCd Z x < 200 := fun x hx => hL x (List.mem_cons_of_mem _ hx)
    have ehd : ((q :: L).head?.map (127 + ·)) = some (127 + q) := rfl
    rw [ehd, f_Run_addText_5, q_onS, c0, show (32 : Int32) = nI 32 from rfl, i_eq (by omega) (by omega)]
    by_cases q32 : zCd Z q = 32
    · have ek : kLet Z q = (1, q) := if_pos q32
      have el : iL ((q :: L).map (kLet Z)) = iL (L.map (kLet Z)) := by
        rw [List.map_cons, ek]
        rfl
      rw [el] at hb ⊢
      rw [if_pos q32]
      obtain ⟨M1, ls1, e1, e2, e3⟩ := t_ew hnc (by omega) hI hU
      have ew := uI_wo (zCl Z k) (zW Z k) hI
      have h9 := e2.1.2.2.2.2.2.2.1
      have hJw := uJ_wo (sz := zSz Z) (cl := zCl Z k) (W := zW Z k) hJ
      have kk : ∀ x p j, ¬ (p = 365 ∧ j = 9) → (qsI M1 365 9 x).1 p j = M1.1 p j := fun x p j h => g_In h
      have e9 : ∀ x, x = gpE (uGp (uGap (uWo (zSz Z) (zCl Z k) (zW Z k) u) a2)) → cUx (qsI M1 365 9 x) nc Z k off lb Sc (uBlk (zSz Z) (zCl Z k) (zW Z k) u q) b := fun x hx => by
        refine ⟨rw, ls1, rw.length, ?_, hrl, ?_, ?_⟩
        · obtain ⟨⟨a1, a2', a3, a4, a5, a6, a7, a8, a9⟩, ⟨b1, b2', b3, b4, b5, b6, b7⟩, hR, hsc, hLt⟩ := e2
          refine ⟨⟨?_, ?_, ?_, ?_, ?_, ?_, ?_, ?_, ?_⟩, ⟨?_, ?_, ?_, b4, b5, b6, b7⟩, ⟨hR.1, fun q hq => ⟨(hR.2 q hq).1, ?_⟩⟩, hsc, fun q hq hs => ?_⟩
          · rw [kk _ _ _ (by omega)]; exact a1
          · rw [kk _ _ _ (by omega)]; exact a2'
          · rw [kk _ _ _ (by omega)]; exact a3
          · rw [kk _ _ _ (by omega)]; exact a4
          · rw [kk _ _ _ (by omega)]; exact a5
          · rw [kk _ _ _ (by omega)]; exact a6
          · rw [g_Ie ⟨rfl, rfl⟩, hx, ← hz]; rfl
          · rw [kk _ _ _ (by omega)]; exact a8
          · rw [kk _ _ _ (by omega)]; exact a9
          · rw [kk _ _ _ (by omega)]; exact b1
          · rw [kk _ _ _ (by omega)]; exact b2'
          · rw [kk _ _ _ (by omega)]; exact b3
          · have := (hR.2 q hq).1
            rw [kk _ _ _ (by omega)]; exact (hR.2 q hq).2
          · have l := hLt q hq hs
            show _ ∧ _
            unfold cLt at l
            rw [kk _ _ _ (by omega), kk _ _ _ (by omega), kk _ _ _ (by omega), kk _ _ _ (by omega)]
            exact l
        · exact uI_gap ew (by rw [hz]; exact ha.1)
        · exact uJ_gap hJw (by rw [hz]; exact ha.2)
      have fr : ∀ x, cF1 Sc M (qsI M1 365 9 x) := fun x => cF1_t e3 ⟨fun p j q1 _ => kk x p j (fun h => q1 h.1), fun _ _ _ => rfl⟩
      have go : ∀ x, x = gpE (uGp (uGap (uWo (zSz Z) (zCl Z k) (zW Z k) u) a2)) → ∃ M', (q_lt (qsI M1 365 9 x) fun M17 => q_lt (M17.2 (127 + q) 1) fun r18 => f_Run_addText_5 a2 f K r18 M17) = K M' ∧ cUx M' nc Z k off lb Sc ((((q :: L).map (kLet Z)).foldl (uTk Z k) u)) (b + (iL (L.map (kLet Z))).length) ∧ cF1 Sc M M' := fun x hx => by
        obtain ⟨M', g1, g2, g3⟩ := ih f (qsI M1 365 9 x) (uBlk (zSz Z) (zCl Z k) (zW Z k) u q) b (by simp at hf; omega) (cLs_k (cLs_t hc) (fun x hx => by have := (hL' x hx).1; omega) (fr x)) hL' (e9 x hx) hb
        refine ⟨M', ?_, ?_, cF1_t (fr x) g3⟩
        · have : (qsI M1 365 9 x).2 (127 + q) 1 = L.head?.map (127 + ·) := by rw [(fr x).2 _ _ (by omega)]; exact c1
          rw [q_ltE, this, q_ltE]
          exact g1
        · rw [List.map_cons, ek]
          exact g2
      rw [e1, q_cvE, h9]
      by_cases g0 : uGp (uWo (zSz Z) (zCl Z k) (zW Z k) u) = 0
      · rw [q_ltE, if_pos ((gpE_eq hJw).mpr g0)]
        refine go a2 ?_
        show a2 = gpE (if uGp (uWo (zSz Z) (zCl Z k) (zW Z k) u) = 0 then a2 else uGp (uWo (zSz Z) (zCl Z k) (zW Z k) u))
        rw [if_pos g0]
        exact (if_neg ha.1).symm
      · rw [q_ltE, if_neg (fun h => g0 ((gpE_eq hJw).mp h))]
        refine go (gpE (uGp (uWo (zSz Z) (zCl Z k) (zW Z k) u))) ?_
        show _ = gpE (if uGp (uWo (zSz Z) (zCl Z k) (zW Z k) u) = 0 then a2 else uGp (uWo (zSz Z) (zCl Z k) (zW Z k) u))
        rw [if_neg g0]
    · have ek : kLet Z q = (0, q) := if_neg q32
      have el : (iL ((q :: L).map (kLet Z))).length = (iL (L.map (kLet Z))).length + 1 := by
        rw [List.map_cons, ek]
        rfl
      rw [el] at hb ⊢
      rw [if_neg q32]
      obtain ⟨⟨a1, a2', a3, a4, a5, a6, a7, a8, a9⟩, ⟨b1, b2', b3, b4, b5, b6, b7⟩, hR, hsc, hLt⟩ := hU
      rw [b1, show (160 : Int32) = nI 160 from rfl, i_le (by omega) (by omega), if_neg (by omega), q_ltE]
      have v1 : (qsI M (127 + q) 3 a2).1 365 3 = nI rw.length := by rw [g_In (by omega)]; exact b1
      rw [v1, g_ix (by omega) (by omega), g_cl (by omega), q_ltE]
      have v2 : (qsR (qsI M (127 + q) 3 a2) 366 rw.length (some (127 + q))).1 365 3 = nI rw.length := v1
      rw [v2, g_inc, q_ltE]
      have v3 : (qsI (qsR (qsI M (127 + q) 3 a2) 366 rw.length (some (127 + q))) 365 3 (nI (rw.length + 1))).1 365 7 = uWw u := by
        rw [g_In (by omega), g_R1, g_In (by omega)]
        exact a6
      rw [v3, q_ltE]
      have kk : ∀ p j, ¬ (p = 365 ∧ (j = 3 ∨ j = 7)) → ¬ (p = 127 + q ∧ j = 3) → (qsI (qsI (qsR (qsI M (127 + q) 3 a2) 366 rw.length (some (127 + q))) 365 3 (nI (rw.length + 1))) 365 7 (uWw u + a2)).1 p j = M.1 p j := fun p j h1 h2 => by
        rw [g_In (by omega), g_In (by omega), g_R1, g_In (by omega)]
      have kr : ∀ p j, ¬ (p = 366 ∧ j = rw.length) → (qsI (qsI (qsR (qsI M (127 + q) 3 a2) 366 rw.length (some (127 + q))) 365 3 (nI (rw.length + 1))) 365 7 (uWw u + a2)).2 p j = M.2 p j := fun p j h => g_Rn h
      have k3 : (qsI (qsI (qsR (qsI M (127 + q) 3 a2) 366 rw.length (some (127 + q))) 365 3 (nI (rw.length + 1))) 365 7 (uWw u + a2)).1 (127 + q) 3 = a2 := by
        rw [g_In (by omega), g_In (by omega), g_R1, g_Ie ⟨rfl, rfl⟩]
      have fr : cF1 Sc M (qsI (qsI (qsR (qsI M (127 + q) 3 a2) 366 rw.length (some (127 + q))) 365 3 (nI (rw.length + 1))) 365 7 (uWw u + a2)) := ⟨fun p j q1 q2 => kk p j (fun h => q1 h.1) (fun h => q2 ⟨q, by omega, hsq, h.1, by omega, by omega⟩), fun p j q1 => kr p j (fun h => q1 h.1)⟩
      have k3' : ∀ q', q' < nc → M.1 (127 + q') 3 = zSz Z q' → (qsI (qsI (qsR (qsI M (127 + q) 3 a2) 366 rw.length (some (127 + q))) 365 3 (nI (rw.length + 1))) 365 7 (uWw u + a2)).1 (127 + q') 3 = zSz Z q' := fun q' hq' h' => by
        by_cases e : q' = q
        · rw [e, k3, hz]
        · rw [kk _ _ (by omega) (by omega)]; exact h'
      have hU' : cUx (qsI (qsI (qsR (qsI M (127 + q) 3 a2) 366 rw.length (some (127 + q))) 365 3 (nI (rw.length + 1))) 365 7 (uWw u + a2)) nc Z k off lb Sc (uChr (zSz Z) u q) (b + 1) := by
        refine ⟨rw ++ [q], ls, ws, ⟨⟨?_, ?_, ?_, ?_, ?_, ?_, ?_, ?_, ?_⟩, ⟨?_, ?_, ?_, b4, ?_, ?_, ?_⟩, ⟨fun x q' hx => ?_, fun q' hq' => ?_⟩, fun q' hq' => ?_, fun q' hq' hs' => ?_⟩, ?_, uI_chr hI q, hJ⟩
        · rw [kk _ _ (by omega) (by omega)]; exact a1
        · rw [kk _ _ (by omega) (by omega)]; exact a2'
        · rw [kk _ _ (by omega) (by omega)]; exact a3
        · rw [kk _ _ (by omega) (by omega)]; exact a4
        · rw [kk _ _ (by omega) (by omega)]; exact a5
        · rw [g_Ie ⟨rfl, rfl⟩, ← hz]; rfl
        · rw [kk _ _ (by omega) (by omega)]; exact a7
        · rw [kk _ _ (by omega) (by omega)]; exact a8
        · rw [kk _ _ (by omega) (by omega)]; exact a9
        · rw [g_In (by omega), g_Ie ⟨rfl, rfl⟩, List.length_append]; rfl
        · rw [kk _ _ (by omega) (by omega)]; exact b2'
        · rw [kk _ _ (by omega) (by omega)]; exact b3
        · rw [List.length_append]; omega
        · rw [List.take_append_of_le_length b5]; exact b6
        · rw [List.drop_append_of_le_length b5, b7]; rfl
        · by_cases e : x < rw.length
          · rw [List.getElem?_append_left e] at hx
            rw [kr _ _ (by omega)]
            exact hR.1 x q' hx
          · rw [List.getElem?_append_right (by omega)] at hx
            by_cases e2 : x = rw.length
            · rw [e2, Nat.sub_self] at hx
              have : q = q' := Option.some.inj hx
              rw [e2, ← this]
              exact g_Re ⟨rfl, rfl⟩
            · rw [List.getElem?_eq_none (by show 1 ≤ x - rw.length; omega)] at hx
              cases hx
        · rcases List.mem_append.mp hq' with h | h
          · exact ⟨(hR.2 q' h).1, k3' q' (hR.2 q' h).1 (hR.2 q' h).2⟩
          · rw [List.mem_singleton] at h
            rw [h]
            exact ⟨hq, by rw [k3, hz]⟩
        · rcases List.mem_append.mp hq' with h | h
          · exact hsc q' h
          · rw [List.mem_singleton] at h
            rw [h]
            exact hsq
        · obtain ⟨l1, l2⟩ := hLt q' hq' hs'
          refine ⟨by rw [kk _ _ (by omega) (by omega)]; exact l1, fun x hx => ?_⟩
          obtain ⟨l3, l4, l5⟩ := l2 x hx
          refine ⟨by rw [kk _ _ (by omega) (by omega)]; exact l3, k3' q' hq' l4, fun hn => ?_⟩
          rw [kk _ _ (by omega) (by omega)]
          exact l5 hn
        · rw [List.length_append]; show rw.length + 1 ≤ b + 1; omega
      obtain ⟨M', g1, g2, g3⟩ := ih f _ (uChr (zSz Z) u q) (b + 1) (by simp at hf; omega) (cLs_k (cLs_t hc) (fun x hx => by have := (hL' x hx).1; omega) fr) hL' hU' (by omega)
      refine ⟨M', ?_, ?_, cF1_t fr g3⟩
      · rw [kr _ _ (by omega), c1, q_ltE]
        exact g1
      · rw [List.map_cons, ek, show b + ((iL (L.map (kLet Z))).length + 1) = b + 1 + (iL (L.map (kLet Z))).length by omega]
        exact g2
end CR3
