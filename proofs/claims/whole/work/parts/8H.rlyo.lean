/-! layout on the reference's side, whole -/
section RLo
variable {n nc : Nat} {I pj : Nat → Nat} {Z : lT}
theorem r_41 (hnc : nc ≤ 160) (K : qM → Option (Int32 × qM)) : ∀ (m x f : Nat) (M : qM), x + m = nc → m < f → M.1 0 17 = nI nc → (∀ q, q < x → M.1 33 q = 0) → ∃ M', f_Md_layout_41 f K (nI x) M = K M' ∧ (∀ q, q < nc → M'.1 33 q = 0) ∧ (∀ p i, ¬ p = 33 → M'.1 p i = M.1 p i) := by
  intro m
  induction m with
  | zero =>
    intro x f M hx hf h17 h
    obtain ⟨f, rfl⟩ : ∃ g, f = g + 1 := ⟨f - 1, by omega⟩
    refine ⟨M, ?_, fun q hq => h q (by omega), fun _ _ _ => rfl⟩
    rw [f_Md_layout_41, h17, i_le (by omega) (by omega), if_pos (by omega)]
  | succ m ih =>
    intro x f M hx hf h17 h
    obtain ⟨f, rfl⟩ : ∃ g, f = g + 1 := ⟨f - 1, by omega⟩
    obtain ⟨M', e1, e2, e3⟩ := ih (x + 1) f (qsI M 33 x 0) (by omega) (by omega) (by rw [g_In (by omega)]; exact h17) (fun q hq => by
      by_cases e : q = x
      · rw [e, g_Ie ⟨rfl, rfl⟩]
      · rw [g_In (by omega)]; exact h q (by omega))
    refine ⟨M', ?_, e2, fun p i hp => by rw [e3 p i hp, g_In (by omega)]⟩
    rw [f_Md_layout_41, h17, i_le (by omega) (by omega), if_neg (by omega), g_ix (by omega) (by omega), g_cl (by omega), q_ltE, g_inc]
    exact e1
/-- what the layout is -/
def eqZ (n : Nat) (pj : Nat → Nat) (Z : lT) (Ta : Nat → Int32) (w : Int32) : Prop := (∀ i, i < n → eWj pj Z w i) ∧ (∀ i, i < n → zIb Z i = true → zH Z i = 2 * zV Z i 5 + hCt Z i) ∧ Ta 0 = 0 ∧ ∀ i, 0 < i → i < n → zIb Z i = true → Ta i = zTr Z i + (Ta (zBo Z i) + zV Z (zBo Z i) 5)
def rLd (M : qM) (n nc : Nat) (Z : lT) (Ta : Nat → Int32) : Prop := M.1 0 39 = sumF (zNl Z) 0 n ∧ (∀ i, i < n → M.1 27 i = b2 (zIb Z i) ∧ (zIb Z i = true → M.1 29 i = zL Z i ∧ M.1 30 i = zW Z i ∧ M.1 31 i = zH Z i ∧ M.1 32 i = Ta i)) ∧ ∀ q, q < nc → M.1 33 q = b2 (zPx Z q).isSome ∧ ∀ x, zPx Z q = some x → M.1 34 q = x ∧ M.1 35 q = zPy Z q + (Ta (zBo Z (zNq Z q)) + zV Z (zBo Z (zNq Z q)) 5)
theorem r_plc (hW : wZ2 n nc I pj Z) (hP : wP2 n pj Z) {w : Int32} (hE : ∀ i, i < n → eWj pj Z w i) {M : qM} (hZ : rZ M n nc I pj Z) (hD : rWd M n Z) (hN : rDn M n nc Z 0) : ∃ M' Ta, f_Md_places M = some M' ∧ eqZ n pj Z Ta w ∧ rLd M' n nc Z Ta ∧ (∀ p i, ¬ (p = 32 ∨ p = 35) → M'.1 p i = M.1 p i) := by
  have hn : n ≤ 24 := hW.1.2.1
  have hn1 : 1 ≤ n := hW.1.1
  have hnc : nc ≤ 160 := hW.1.2.2
  have hbk := bo_ok hW hP (Nat.le_refl n) hE
  have hbo : ∀ j, 0 < j → j < n → zBo Z j < j := fun j h1 h2 => (hbk j j (Nat.le_refl _) h1 h2).1
  have h05 := hP.2.2.1.1
  have hib0 := ib_0 hW hP (hE 0 (by omega))
  obtain ⟨d1, d2, d3⟩ := hN
  have k0 : ∀ p i, ¬ (p = 32 ∧ i = 0) → (qsI M 32 0 0).1 p i = M.1 p i := fun p i h => g_In h
  have kz : kZ M (qsI M 32 0 0) := ⟨⟨k0 _ _ (by omega), k0 _ _ (by omega)⟩, fun p i hp => k0 _ _ (by omega)⟩
  obtain ⟨M1, e1, e2, e3⟩ := r_p9 hW hbo h05 (fun (M16 : qM) => f_Md_places_66 1000 (fun (M30 : qM) => some M30) 0 M16) (zTr Z) (n - 1) 1 1000 (qsI M 32 0 0) (by omega) (by omega) (by omega) (rZ_k hZ kz) (fun i hi => by
      rw [k0 _ _ (by omega), k0 _ _ (by omega), k0 _ _ (by omega), k0 _ _ (by omega), k0 _ _ (by omega)]
      exact hD i hi) (fun i h1 h2 => (by omega)) (fun i h1 h2 h3 => by
      obtain ⟨o1, o2, o3, o4⟩ := hbk i i (Nat.le_refl _) (by omega) h2
      rw [k0 _ _ (by omega)]
      exact (d1 (zBo Z i) (by omega) (by omega) o2).2.2 i o1 o3 rfl h3)
  have kz1 : kZ M M1 := kZ_t kz ⟨⟨e3 _ _ (by omega), e3 _ _ (by omega)⟩, fun p i hp => e3 _ _ (by omega)⟩
  have kq : ∀ p i, ¬ p = 32 → M1.1 p i = M.1 p i := fun p i h => by rw [e3 _ _ (by omega), k0 _ _ (by omega)]
  obtain ⟨M2, f1, f2, f3⟩ := r_p66 hW hbo h05 (fun (M30 : qM) => some M30) (zPx Z) (zPy Z) (M1.1 32) nc 0 1000 M1 (by omega) (by omega) (rZ_k hZ kz1) (fun _ _ => rfl) (fun q hq => by
    obtain ⟨_, c2, c3, _⟩ := hW.2.2.2.1 q hq
    obtain ⟨o1, o2, o3, o4⟩ := hbk _ _ (Nat.le_refl _) c2 c3
    have r := (d1 (zBo Z (zNq Z q)) (by omega) (by omega) o2).2.1 q hq rfl
    refine ⟨by rw [kq _ _ (by omega)]; exact r.1, fun v hv => ?_⟩
    obtain ⟨r1, r2, r3⟩ := r.2 v hv
    refine ⟨by rw [kq _ _ (by omega)]; exact r1, by rw [kq _ _ (by omega)]; exact r2, ?_⟩
    rw [if_neg (by omega), kq _ _ (by omega)]
    exact r3 (by rw [show uLn (gOf Z (zBo Z (zNq Z q))).2.1 = [] from gFl_ln Z _ _]; exact List.not_mem_nil))
  have t0 : M1.1 32 0 = 0 := by rw [e3 _ _ (by omega), g_Ie ⟨rfl, rfl⟩]
  refine ⟨M2, M1.1 32, ?_, ⟨hE, fun i h1 h2 => (d1 i (by omega) h1 h2).1.2, t0, e2⟩, ⟨?_, fun i hi => ?_, f2⟩, fun p i h => by rw [f3 p i (by omega), kq p i (by omega)]⟩
  · unfold f_Md_places
    rw [← l_0, g_ix (by omega) (by omega), g_cl (by omega), q_ltE]
    refine Eq.trans e1 ?_
    exact f1
  · rw [f3 _ _ (by omega), kq _ _ (by omega), d3, Nat.sub_zero]
  · obtain ⟨w1, w2, w3, w4⟩ := hD i hi
    rw [f3 _ _ (by omega), f3 _ _ (by omega), f3 _ _ (by omega), f3 _ _ (by omega), f3 _ _ (by omega), kq _ _ (by omega), kq _ _ (by omega), kq _ _ (by omega), kq _ _ (by omega)]
    exact ⟨w2, fun h => ⟨(w4 h).1, (w4 h).2, (d1 i (by omega) hi h).1.1, rfl⟩⟩
theorem zsH_ex (Z : lT) (H : Nat → Int32) : stE Z (zsH Z H) ∧ zHd (zsH Z H) = zHd Z ∧ zIb (zsH Z H) = zIb Z ∧ zBo (zsH Z H) = zBo Z ∧ zL (zsH Z H) = zL Z ∧ zW (zsH Z H) = zW Z := ⟨⟨⟨rfl, rfl, rfl, rfl, rfl⟩, rfl, rfl⟩, rfl, rfl, rfl, rfl, rfl⟩
def lo_K (M20 : qM) : Option (Int32 × qM) := f_Md_layout_91 1000 (fun (M28 : qM) => q_cv (f_Md_places M28) fun M29 => q_ix (0 : Int32) 40 <| some (M29.1 31 (0 : Int32).toNatClampNeg, M29)) ((M20.1 0 5) - 1) M20
theorem r_lyo (hW : wZ2 n nc I pj Z) (hP : wP2 n pj Z) {w : Nat} (hw : 1 ≤ w) (hw2 : w ≤ 64) {M M4 : qM} (h4 : M.1 0 4 = 0) (hs : f_Md_style M = some M4) (hZ : rZ M4 n nc I pj Z) : ∃ M' Z' Ta, f_Md_layout (nI w) M = some (zH Z' 0, M') ∧ stE Z Z' ∧ eqZ n pj Z' Ta (nI w) ∧ rLd M' n nc Z' Ta ∧ M'.1 0 37 = 1 ∧ M'.1 0 38 = nI w ∧ (∀ p i, ¬ (p = 0 ∧ (i = 37 ∨ i = 38 ∨ i = 39 ∨ (52 ≤ i ∧ i ≤ 57))) → ¬ (26 ≤ p ∧ p ≤ 37) → M'.1 p i = M4.1 p i) := by
  have hn : n ≤ 24 := hW.1.2.1
  have hn1 : 1 ≤ n := hW.1.1
  have hnc : nc ≤ 160 := hW.1.2.2
  have k7 : ∀ p i, ¬ (p = 0 ∧ (i = 37 ∨ i = 38 ∨ i = 39)) → (qsI (qsI (qsI M4 0 37 1) 0 38 (nI w)) 0 39 0).1 p i = M4.1 p i := fun p i h => by rw [g_In (by omega), g_In (by omega), g_In (by omega)]
  obtain ⟨M1, e1, e2, e3⟩ := r_41 hnc (fun (M14 : qM) => f_Md_layout_64 (nI w) 1000 lo_K 0 M14) nc 0 1000 (qsI (qsI (qsI M4 0 37 1) 0 38 (nI w)) 0 39 0) (by omega) (by omega) (by rw [k7 _ _ (by omega)]; exact hZ.1.2) (fun q hq => (by omega))
  have hZ1 : rZ M1 n nc I pj Z := rZ_k hZ ⟨⟨by rw [e3 _ _ (by omega), k7 _ _ (by omega)], by rw [e3 _ _ (by omega), k7 _ _ (by omega)]⟩, fun p i hp => by rw [e3 _ _ (by omega), k7 _ _ (by omega)]⟩
  obtain ⟨M2, Z2, f1, f2, f3, f4, f5⟩ := r_64 (I := I) (nc := nc) (nI w) lo_K n 0 1000 M1 Z (by omega) (by omega) hW hP hZ1 (fun i hi => (by omega)) (fun i hi => (by omega))
  have hW2 := wZ2_st f2 hW
  have hP2 := wP2_st f2 hP
  have hZ2 : rZ M2 n nc I pj Z2 := rZ_st f2 (rZ_k hZ1 ⟨⟨f5 _ _ (by omega), f5 _ _ (by omega)⟩, fun p i hp => f5 _ _ (by omega)⟩)
  have hbk := bo_ok hW2 hP2 (Nat.le_refl n) f4
  obtain ⟨M3, H, g1, g2, g3⟩ := r_91 hW2 (fun j h1 h2 => (hbk j j (Nat.le_refl _) h1 h2).1) hP2.2.2.1.1 (fun (M28 : qM) => q_cv (f_Md_places M28) fun M29 => q_ix (0 : Int32) 40 <| some (M29.1 31 (0 : Int32).toNatClampNeg, M29)) n (zH Z2) M2 1000 (Nat.le_refl _) (by omega) hZ2 f3 (by
    refine ⟨fun i h1 h2 => (by omega), fun q hq _ => ?_, ?_⟩
    · rw [f5 _ _ (by omega)]; exact e2 q hq
    · rw [f5 _ _ (by omega), e3 _ _ (by omega), g_Ie ⟨rfl, rfl⟩, Nat.sub_self]; rfl)
  obtain ⟨s3, x1, x2, x3, x4, x5⟩ := zsH_ex Z2 H
  obtain ⟨Z3, hZ3⟩ : ∃ Z3, Z3 = zsH Z2 H := ⟨_, rfl⟩
  rw [← hZ3] at s3 x1 x2 x3 x4 x5 g2
  have hE3 : ∀ i, i < n → eWj pj Z3 (nI w) i := fun i hi => eW_cg s3 (fun x hx => by rw [x1, x2, x3, x4, x5]; exact ⟨rfl, rfl, rfl, rfl, rfl⟩) (fun h => hW.2.2.1 i h hi) (fun h => (hbk i i (Nat.le_refl _) h hi).1) (f4 i hi)
  have hZM3 : rZ M3 n nc I pj Z3 := rZ_st s3 (rZ_k hZ2 (rF7_Z g3))
  have hD3 : rWd M3 n Z3 := by
    have := rWd_7 f3 g3
    unfold rWd at this ⊢
    rw [x1, x2, x3, x4, x5]
    exact this
  obtain ⟨M', Ta, p1, p2, p3, p4⟩ := r_plc (wZ2_st s3 hW2) (wP2_st s3 hP2) hE3 hZM3 hD3 g2
  have hib0 := ib_0 (wZ2_st s3 hW2) (wP2_st s3 hP2) (hE3 0 (by omega))
  refine ⟨M', Z3, Ta, ?_, stE_t f2 s3, p2, p3, ?_, ?_, fun p i h1 h2 => ?_⟩
  · have c1 : ¬ (nI w < (1 : Int32)) := by
      rw [show (1 : Int32) = nI 1 from rfl, g_lt (by omega) (by omega)]
      omega
    have c2 : ¬ ((64 : Int32) < nI w) := by
      rw [show (64 : Int32) = nI 64 from rfl, g_lt (by omega) (by omega)]
      omega
    unfold f_Md_layout
    rw [if_neg c1, if_neg c2, if_pos h4, hs, q_cvE, q_ltE, q_ltE, q_ltE]
    refine Eq.trans e1 ?_
    refine Eq.trans f1 ?_
    unfold lo_K
    rw [hZ2.1.1, g1, p1, q_cvE, ← l_0, g_ix (by omega) (by omega), g_cl (by omega), ((p3.2.1 0 (by omega)).2 hib0).2.2.1]
  · rw [p4 _ _ (by omega), g3 _ _ (by omega) (by omega), f5 _ _ (by omega), e3 _ _ (by omega), g_In (by omega), g_In (by omega), g_Ie ⟨rfl, rfl⟩]
  · rw [p4 _ _ (by omega), g3 _ _ (by omega) (by omega), f5 _ _ (by omega), e3 _ _ (by omega), g_In (by omega), g_Ie ⟨rfl, rfl⟩]
  · rw [p4 _ _ (by omega), g3 _ _ (by omega) (by omega), f5 _ _ (by omega), e3 _ _ (by omega), k7 _ _ (by omega)]
end RLo
