/-! layout on the reference's side: heights of a box, and of all -/
section RH3
variable {n nc : Nat} {I pj : Nat → Nat} {Z : lT}
theorem r_h47 (hW : wZ2 n nc I pj Z) (hbo : ∀ j, 0 < j → j < n → zBo Z j < j) {k : Nat} (hk : k < n) (hib : zIb Z k = true) (h05 : zV Z 0 5 = 0) {lb : Int32} (K : Int32 → Int32 → Int32 → qM → Option qM) : ∀ (m j f : Nat) (pend : List kT2) (g : gT) (M : qM), j + m = zBh Z k → k < j → rHt M n nc I pj Z k lb j pend g → ∃ M' pend' g', f_Md_heights_47 (nI (zBh Z k)) (nI k) (nI (zNm Z k)) (m + (f + 1)) K g.1.1 g.1.2.1 g.1.2.2 (nI j) M = K g'.1.1 g'.1.2.1 g'.1.2.2 M' ∧ rHt M' n nc I pj Z k lb (zBh Z k) pend' g' ∧ rF5 Z k M M' := by
  have hn : n ≤ 24 := hW.1.2.1
  obtain ⟨_, hnm, _, hbh, _⟩ := hW.2.1 k hk
  intro m
  induction m with
  | zero =>
    intro j f pend g M hj hkj h
    have e : j = zBh Z k := hj
    refine ⟨M, pend, g, ?_, by rw [← e]; exact h, fun _ _ _ _ _ _ => rfl⟩
    rw [Nat.zero_add, h47_eq, i_le (by omega) (by omega), if_pos (by omega)]
  | succ m ih =>
    intro j f pend g M hj hkj h
    obtain ⟨M1, p1, g1, e1, e2, e3⟩ := r_h1 hW hbo hk hib h05 (by omega) hkj h (m + (f + 1)) K
    obtain ⟨M2, p2, g2, f1, f2, f3⟩ := ih (j + 1) f p1 g1 M1 (by omega) (by omega) e2
    exact ⟨M2, p2, g2, by rw [show m + 1 + (f + 1) = m + (f + 1) + 1 by omega, e1, f1], f2, rF5_t e3 f3⟩
def hg_W (a1 x1 x59 : Int32) (M58 : qM) : Option qM := q_ix a1 40 <| q_lt (qsI M58 31 a1.toNatClampNeg ((2 * x1) + x59)) fun M61 => some M61
def hg_E (a1 x1 x4 x53 x56 x57 : Int32) (M58 : qM) : Option qM := if x4 = 104 then (hg_W a1 x1 1 M58) else (if x4 = 114 then (hg_W a1 x1 x53 M58) else (hg_W a1 x1 (x56 + x57) M58))
def hg_K (a1 x1 x4 : Int32) : Int32 → Int32 → Int32 → qM → Option qM := fun x51 x52 x53 M54 => q_bp (f_Md_runs M54) fun x55 => if x55 = 0 then (hg_E a1 x1 x4 x53 x51 x52 M54) else (q_cl (f_Md_lay a1 (x51 + x52) M54) fun x67 M68 => hg_E a1 x1 x4 x53 x67 0 M68)
theorem hg_eq (a1 : Int32) (M : qM) : f_Md_heights a1 M = (q_bp (f_Md_border a1 5 M) fun x1 => q_ix a1 40 <| q_ix (M.1 3 a1.toNatClampNeg) 40 <| q_lt (M.1 4 (M.1 3 a1.toNatClampNeg).toNatClampNeg) fun x4 => q_lt (qsI M 0 52 0) fun M5 => q_bp (f_Md_behind a1 M5) fun x6 => f_Md_heights_47 x6 a1 x4 1000 (hg_K a1 x1 x4) 0 0 0 (a1 + 1) M5) := by
  unfold f_Md_heights
  rfl
def rF6 (Z : lT) (k : Nat) (M M' : qM) : Prop := ∀ p i, ¬ (p = 0 ∧ (i = 39 ∨ (52 ≤ i ∧ i ≤ 57))) → ¬ p = 37 → ¬ (33 ≤ p ∧ p ≤ 36 ∧ Sk Z k i) → ¬ (p = 32 ∧ k < i ∧ zBo Z i = k ∧ zIb Z i = true) → ¬ (p = 31 ∧ i = k) → M'.1 p i = M.1 p i
theorem r_hts (hW : wZ2 n nc I pj Z) (hbo : ∀ j, 0 < j → j < n → zBo Z j < j) {k : Nat} (hk : k < n) (hib : zIb Z k = true) (h05 : zV Z 0 5 = 0) {lb : Int32} {M : qM} (hB : rBs M n nc I pj Z k) (h39 : M.1 0 39 = lb) (hL : ∀ q, q < nc → Sk Z k q → M.1 33 q = 0) : ∃ M', f_Md_heights (nI k) M = some M' ∧ M'.1 31 k = 2 * zV Z k 5 + hCt Z k ∧ M'.1 0 39 = lb + uNl (gOf Z k).2.1 ∧ (∀ q, q < nc → Sk Z k q → rLt M' k (gOf Z k).2.1 q) ∧ (∀ i, k < i → i < zBh Z k → zBo Z i = k → zIb Z i = true → M'.1 32 i = (gOf Z k).2.2 i) ∧ rF6 Z k M M' := by
  have hn : n ≤ 24 := hW.1.2.1
  obtain ⟨hI, hnm, hkb, hbh, _⟩ := hW.2.1 k hk
  obtain ⟨z1, z2, z3, z4, z5⟩ := hB.1.2.1 k hk
  have f0 : rF5 Z k M (qsI M 0 52 0) := fun p i q1 q2 q3 q4 => g_In (by omega)
  have hB0 := rBs_k hB f0
  have hb : f_Md_border (nI k) 5 M = some (zV Z k 5) := r_bor (p := 5) (by omega) (by omega) (z4 5 (by omega)) (fun h => by rw [h]; exact h05)
  have h0 : rHt (qsI M 0 52 0) n nc I pj Z k lb (k + 1) [] g0 := by
    refine ⟨hB0, ⟨⟨g_Ie ⟨rfl, rfl⟩, fun x t hx => (by rw [List.getElem?_nil] at hx; cases hx)⟩, fun t ht => (by cases ht), Nat.zero_le _⟩, by rw [Nat.sub_self]; rfl, by show g0.2.1 = uNew (0 + 0) _ _ _; rw [Int32.add_zero]; rfl, ?_, fun q hq hs => ?_, fun i h1 h2 => (by omega)⟩
    · rw [g_In (by omega), h39]
      show lb = lb + 0
      rw [Int32.add_zero]
    · refine ⟨?_, fun x hx => (by cases hx)⟩
      rw [g_In (by omega), hL q hq hs]
      rfl
  obtain ⟨M1, p1, g1, e1, e2, e3⟩ := r_h47 hW hbo hk hib h05 (hg_K (nI k) (zV Z k 5) (nI (zNm Z k))) (zBh Z k - (k + 1)) (k + 1) (999 - (zBh Z k - (k + 1))) [] g0 _ (by omega) (by omega) h0
  obtain ⟨M2, b, r1, r2, r3, r4, r5, r6, r7, r8⟩ := r_fl hW hk hib h05 (by omega) (by omega) e2
  have eO : gFl Z k (gAt Z k (zBh Z k - (k + 1))) = gOf Z k := rfl
  rw [eO] at r2 r3 r4 r5 r6 r7
  have eK : hg_K (nI k) (zV Z k 5) (nI (zNm Z k)) g1.1.1 g1.1.2.1 g1.1.2.2 M1 = hg_E (nI k) (zV Z k 5) (nI (zNm Z k)) (gOf Z k).1.2.2 (gOf Z k).1.1 (gOf Z k).1.2.1 M2 := by
    unfold hg_K
    rw [r1, q_bpE, r4, i_b2]
    cases b with
    | true => rw [if_neg (by simp), (r2 rfl).1, q_clE, (r2 rfl).2]
    | false => rw [if_pos rfl, (r3 rfl).1, (r3 rfl).2]
  have eE : hg_E (nI k) (zV Z k 5) (nI (zNm Z k)) (gOf Z k).1.2.2 (gOf Z k).1.1 (gOf Z k).1.2.1 M2 = some (qsI M2 31 k (2 * zV Z k 5 + hCt Z k)) := by
    have eW : ∀ x, hg_W (nI k) (zV Z k 5) x M2 = some (qsI M2 31 k (2 * zV Z k 5 + x)) := fun x => by
      unfold hg_W
      rw [g_ix (by omega) (by omega), g_cl (by omega), q_ltE]
    unfold hg_E hCt
    rw [eW, eW, eW, show (104 : Int32) = nI 104 from rfl, i_eq (by omega) (by omega), show (114 : Int32) = nI 114 from rfl, i_eq (by omega) (by omega)]
    by_cases q : zNm Z k = 104
    · rw [if_pos q, if_pos q]
    · rw [if_neg q, if_neg q]
      by_cases q' : zNm Z k = 114
      · rw [if_pos q', if_pos q']
      · rw [if_neg q', if_neg q']
  have kk : ∀ p i, ¬ (p = 31 ∧ i = k) → (qsI M2 31 k (2 * zV Z k 5 + hCt Z k)).1 p i = M2.1 p i := fun p i h => g_In h
  have ff := rF5_t (rF5_t f0 e3) (rF5_2 r8)
  refine ⟨_, ?_, g_Ie ⟨rfl, rfl⟩, by rw [kk _ _ (by omega)]; exact r6, fun q hq hs => ?_, fun i h1 h2 h3 h4 => ?_, fun p i q1 q2 q3 q4 q5 => by rw [kk _ _ q5, ff p i q1 q2 q3 q4]⟩
  · rw [hg_eq, hb, q_bpE, g_ix (by omega) (by omega), g_cl (by omega), z1, g_ix (by omega) (by omega), g_cl (by omega), z2, q_ltE, q_ltE, (hB0.1.2.1 k hk).2.2.2.2, q_bpE, g_inc]
    refine Eq.trans ?_ (eK.trans eE)
    rw [show 1000 = (zBh Z k - (k + 1)) + (999 - (zBh Z k - (k + 1)) + 1) by omega]
    exact e1
  · have r := r7 q hq hs
    unfold rLt at r ⊢
    rw [kk _ _ (by omega), kk _ _ (by omega), kk _ _ (by omega), kk _ _ (by omega)]
    exact r
  · rw [kk _ _ (by omega), r8 _ _ (by omega) (by omega), r5]
    exact e2.2.2.2.2.2.2 i h1 h2 h3 h4
/-! other heights -/
def zsH (Z : lT) (H : Nat → Int32) : lT := (Z.1, Z.2.1, Z.2.2.1, Z.2.2.2.1, Z.2.2.2.2.1, Z.2.2.2.2.2.1, Z.2.2.2.2.2.2.1, Z.2.2.2.2.2.2.2.1, Z.2.2.2.2.2.2.2.2.1, Z.2.2.2.2.2.2.2.2.2.1, H, Z.2.2.2.2.2.2.2.2.2.2.2.1, Z.2.2.2.2.2.2.2.2.2.2.2.2)
theorem fold_cg {α β : Type} (f g : α → β → α) : ∀ (L : List β) (a : α), (∀ t ∈ L, ∀ a, f a t = g a t) → L.foldl f a = L.foldl g a
  | [], _, _ => rfl
  | t :: L, a, h => by
    show L.foldl f (f a t) = L.foldl g (g a t)
    rw [h t List.mem_cons_self a]
    exact fold_cg f g L _ fun t' ht' => h t' (List.mem_cons_of_mem _ ht')
theorem tkb3 {k : Nat} {t : kT2} : ∀ {m a : Nat}, t ∈ tkR Z k a m → t.1 = 3 → a ≤ t.2 ∧ t.2 < a + m
  | 0, a, h, _ => by cases h
  | m + 1, a, h, h3 => by
    rw [tkR_s, List.mem_append] at h
    rcases h with h | h
    · have : t = (3, a) ∨ t.1 ≠ 3 := by
        unfold tkF at h
        by_cases h1 : zBo Z a = k
        · rw [if_pos h1] at h
          by_cases h2 : zIb Z a = true
          · rw [if_pos h2, List.mem_singleton] at h
            exact Or.inl h
          · rw [if_neg h2] at h
            by_cases h3 : zHd Z a = true
            · rw [if_pos h3] at h; cases h
            · rw [if_neg h3, List.mem_append] at h
              rcases h with h | h
              · by_cases h4 : zNm Z a = 107
                · rw [if_pos h4, List.mem_singleton] at h
                  rw [h]
                  exact Or.inr (by show (2 : Nat) ≠ 3; omega)
                · rw [if_neg h4] at h; cases h
              · by_cases h4 : zNm Z a = 1
                · rw [if_pos h4, List.mem_map] at h
                  obtain ⟨q, _, e⟩ := h
                  refine Or.inr ?_
                  rw [← e]
                  unfold kLet
                  by_cases h5 : zCd Z q = 32
                  · rw [if_pos h5]; show (1 : Nat) ≠ 3; omega
                  · rw [if_neg h5]; show (0 : Nat) ≠ 3; omega
                · rw [if_neg h4] at h; cases h
        · rw [if_neg h1] at h; cases h
      rcases this with e | e
      · rw [e]
        show a ≤ a ∧ a < a + (m + 1)
        omega
      · exact absurd h3 e
    · have := tkb3 h h3
      omega
theorem gOf_cg (Z : lT) (H : Nat → Int32) {k : Nat} (h : ∀ j, k < j → H j = zH Z j) : gOf (zsH Z H) k = gOf Z k := by
  have e : gAt (zsH Z H) k (zBh Z k - (k + 1)) = gAt Z k (zBh Z k - (k + 1)) := by
    show (tkR Z k (k + 1) (zBh Z k - (k + 1))).foldl (gTk (zsH Z H) k) g0 = (tkR Z k (k + 1) (zBh Z k - (k + 1))).foldl (gTk Z k) g0
    refine fold_cg _ _ _ _ fun t ht g => ?_
    by_cases h3 : t.1 = 3
    · have hj := (tkb3 ht h3).1
      have e1 : gTk (zsH Z H) k g t = gBx (zsH Z H) k t.2 (gFl Z k g) := if_pos h3
      have e2 : gTk Z k g t = gBx Z k t.2 (gFl Z k g) := if_pos h3
      rw [e1, e2]
      show ((gTp Z k t.2 (gFl Z k g) + H t.2, zV Z t.2 4, mx (gFl Z k g).1.2.2 (2 * zV Z t.2 4 + H t.2)), uNew (gTp Z k t.2 (gFl Z k g) + H t.2 + zV Z t.2 4) (uNl (gFl Z k g).2.1) (uPx (gFl Z k g).2.1) (uPy (gFl Z k g).2.1), up (gFl Z k g).2.2 t.2 (gTp Z k t.2 (gFl Z k g))) = _
      rw [h t.2 (by omega)]
      rfl
    · have e1 : gTk (zsH Z H) k g t = (g.1, uTk Z k g.2.1 t, g.2.2) := if_neg h3
      have e2 : gTk Z k g t = (g.1, uTk Z k g.2.1 t, g.2.2) := if_neg h3
      rw [e1, e2]
  show gFl Z k (gAt (zsH Z H) k (zBh Z k - (k + 1))) = gFl Z k (gAt Z k (zBh Z k - (k + 1)))
  rw [e]
end RH3
