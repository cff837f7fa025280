/-! layout on the class's side: items of a box, the pieces -/
section CL3
variable {n nc : Nat} {I pj dp : Nat → Nat} {Z : lT} {Ta : Nat → Int32} {w : Int32}
def Sn (Z : lT) (nc k : Nat) : Nat → Prop := fun q => q < nc ∧ zBo Z (zNq Z q) = k
def SG (M : qM) (nc : Nat) (I : Nat → Nat) (Z : lT) (Ta : Nat → Int32) (k a : Nat) (L0 : Int32) : Prop := (M.1 (7 + 5 * I k + 4) 5 = zCl Z k ∧ M.1 (7 + 5 * I k + 4) 7 = zW Z k ∧ M.1 (7 + 5 * I k + 4) 8 = oF Z Ta k + (gAt Z k (a - (k + 1))).1.1 ∧ M.1 (7 + 5 * I k + 4) 9 = (gAt Z k (a - (k + 1))).1.2.1) ∧ cUx M nc Z k (oF Z Ta k) (L0 + sumF (zNl Z) (k + 1) (a - (k + 1))) (Sn Z nc k) (gAt Z k (a - (k + 1))).2.1 (iL (tkR Z k (k + 1) (a - (k + 1)))).length
def fK (n nc : Nat) (I : Nat → Nat) (Z : lT) (k lo hi : Nat) (M M' : qM) : Prop := (∀ p j, ¬ p = 365 → ¬ (∃ i, lo ≤ i ∧ i < hi ∧ i < n ∧ zIb Z i = true ∧ p = 7 + 5 * I i + 4) → ¬ (∃ q, q < nc ∧ lo ≤ zNq Z q ∧ zNq Z q < hi ∧ p = 127 + q ∧ 2 ≤ j ∧ j ≤ 5) → ¬ (∃ q, Sn Z nc k q ∧ p = 127 + q ∧ 2 ≤ j ∧ j ≤ 5) → ¬ (p = 7 + 5 * I k + 4 ∧ (j = 8 ∨ j = 9)) → M'.1 p j = M.1 p j) ∧ ∀ p j, ¬ p = 366 → M'.2 p j = M.2 p j
theorem fK_r (k lo hi : Nat) (M : qM) : fK n nc I Z k lo hi M M := ⟨fun _ _ _ _ _ _ _ => rfl, fun _ _ _ => rfl⟩
theorem fK_t {k lo hi : Nat} {M M' M'' : qM} (h : fK n nc I Z k lo hi M M') (h' : fK n nc I Z k lo hi M' M'') : fK n nc I Z k lo hi M M'' := ⟨fun p j q1 q2 q3 q4 q5 => by rw [h'.1 p j q1 q2 q3 q4 q5, h.1 p j q1 q2 q3 q4 q5], fun p j q => by rw [h'.2 p j q, h.2 p j q]⟩
theorem fK_w {k lo hi lo' hi' : Nat} {M M' : qM} (h : fK n nc I Z k lo hi M M') (h1 : lo' ≤ lo) (h2 : hi ≤ hi') : fK n nc I Z k lo' hi' M M' := ⟨fun p j q1 q2 q3 q4 q5 => h.1 p j q1 (fun ⟨i, a, b, c⟩ => q2 ⟨i, by omega, by omega, c⟩) (fun ⟨q, a, b, c, d⟩ => q3 ⟨q, a, by omega, by omega, d⟩) q4 q5, h.2⟩
theorem fK_1 {k lo hi : Nat} {M M' : qM} (h : cF1 (Sn Z nc k) M M') : fK n nc I Z k lo hi M M' := ⟨fun p j q1 _ _ q4 _ => h.1 p j q1 (fun ⟨q, _, hs, e⟩ => q4 ⟨q, hs, e⟩), h.2⟩
theorem fK_2 {k lo hi : Nat} {M M' : qM} (h : cF2 (Sn Z nc k) (7 + 5 * I k + 4) M M') : fK n nc I Z k lo hi M M' := ⟨fun p j q1 _ _ q4 q5 => h.1 p j q1 (fun ⟨q, _, hs, e⟩ => q4 ⟨q, hs, e⟩) q5, h.2⟩
theorem fK_R {k lo hi : Nat} {M M' : qM} (h : fR n nc I Z lo hi M M') : fK n nc I Z k lo hi M M' := ⟨fun p j q1 q2 q3 _ _ => h.1 p j q1 q2 q3, h.2⟩
/-- within its box, what items change is what a box changes -/
theorem fR_K (hW : wZ2 n nc I pj Z) (hP : wP2 n pj Z) (hE : ∀ i, i < n → eWj pj Z w i) {k lo hi : Nat} (hk : k < n) (hib : zIb Z k = true) (h1 : k ≤ lo) (h2 : hi ≤ zBh Z k) {M M' : qM} (h : fK n nc I Z k lo hi M M') : fR n nc I Z k (zBh Z k) M M' := by
  obtain ⟨_, _, hk2, _, _⟩ := hW.2.1 k hk
  refine ⟨fun p j q1 q2 q3 => h.1 p j q1 (fun ⟨i, a, b, c⟩ => q2 ⟨i, by omega, by omega, c⟩) (fun ⟨q, a, b, c, d⟩ => q3 ⟨q, a, by omega, by omega, d⟩) (fun ⟨q, ⟨s1, s2⟩, e⟩ => ?_) (fun ⟨e, _⟩ => q2 ⟨k, Nat.le_refl _, hk2, hk, hib, e⟩), h.2⟩
  obtain ⟨_, c2, c3, _⟩ := hW.2.2.2.1 q s1
  obtain ⟨o1, o2, o3, _⟩ := bo_ok hW hP (Nat.le_refl n) hE _ _ (Nat.le_refl _) c2 c3
  rw [s2] at o1 o3
  exact q3 ⟨q, s1, by omega, o3, e⟩
theorem cZs_K (hW : wZ2 n nc I pj Z) {k lo hi : Nat} (hk : k < n) {M M' : qM} (h : cZs M n nc I pj Z) (f : fK n nc I Z k lo hi M M') : cZs M' n nc I pj Z := by
  have hnc : nc ≤ 160 := hW.1.2.2
  have k1 : ∀ p j, p < 127 → (∀ i, i < n → p ≠ 7 + 5 * I i + 4) → M'.1 p j = M.1 p j := fun p j h1 h2 => f.1 p j (by omega) (fun ⟨i, _, _, hi, _, e⟩ => h2 i hi e) (fun ⟨q, _, _, _, e, _⟩ => (by omega)) (fun ⟨q, _, e, _⟩ => (by omega)) (fun e => h2 k hk e.1)
  refine ⟨⟨by rw [k1 _ _ (by omega) (fun i _ => by omega)]; exact h.1.1, by rw [k1 _ _ (by omega) (fun i _ => by omega)]; exact h.1.2⟩, fun k' hk' => ?_⟩
  obtain ⟨a1, a2, a3, a4, a5, a6⟩ := h.2 k' hk'
  have hI := (hW.2.1 k' hk').1
  have hIk := (hW.2.1 k hk).1
  refine ⟨by rw [k1 _ _ (by omega) (fun i _ => by omega)]; exact a1, fun hm p hp => by rw [k1 _ _ (by omega) (fun i _ => by omega)]; exact a2 hm p hp, by rw [f.2 _ _ (by omega)]; exact a3, by rw [f.2 _ _ (by omega)]; exact a4, fun h0 => by rw [f.2 _ _ (by omega)]; exact a5 h0, fun A q B e => ?_⟩
  have hq := (lt_pl hW hk' q (by rw [e]; simp)).1
  obtain ⟨b1, b2'⟩ := a6 A q B e
  refine ⟨?_, by rw [f.2 _ _ (by omega)]; exact b2'⟩
  rw [f.1 _ _ (by omega) (fun ⟨i, _, _, hi, _, e⟩ => by have := (hW.2.1 i hi).1; omega) (fun ⟨_, _, _, _, _, h⟩ => (by omega)) (fun ⟨_, _, _, h⟩ => (by omega)) (by omega)]
  exact b1
/-- tokens without boxes -/
theorem SG_adv {M M' : qM} {k a a' : Nat} {L0 : Int32} (hka : k < a) (haa : a ≤ a') (h : SG M nc I Z Ta k a L0) (T : List kT2) (hT : tkR Z k a (a' - a) = T) (h3 : ∀ t ∈ T, t.1 ≠ 3) (hs : sumF (zNl Z) a (a' - a) = 0) (hB : ∀ j, M'.1 (7 + 5 * I k + 4) j = M.1 (7 + 5 * I k + 4) j) (hU : cUx M' nc Z k (oF Z Ta k) (L0 + sumF (zNl Z) (k + 1) (a - (k + 1))) (Sn Z nc k) (T.foldl (uTk Z k) (gAt Z k (a - (k + 1))).2.1) ((iL (tkR Z k (k + 1) (a - (k + 1)))).length + (iL T).length)) : SG M' nc I Z Ta k a' L0 := by
  obtain ⟨⟨b1, b2', b3, b4⟩, _⟩ := h
  have e : a' - (k + 1) = (a - (k + 1)) + (a' - a) := by omega
  have e2 : k + 1 + (a - (k + 1)) = a := by omega
  have eg : gAt Z k (a' - (k + 1)) = ((gAt Z k (a - (k + 1))).1, T.foldl (uTk Z k) (gAt Z k (a - (k + 1))).2.1, (gAt Z k (a - (k + 1))).2.2) := by
    rw [e, gAt_a, e2, hT, gTk_fold k T _ h3]
  unfold SG
  rw [eg, hB, hB, hB, hB]
  refine ⟨⟨b1, b2', b3, b4⟩, ?_⟩
  rw [e, tkR_add, sum_add, e2, hT, hs, Int32.add_zero, iL_app, List.length_append]
  exact hU
def li_J (q1 : Nat) (FB : Nat → Int32 → Int32 → Int32 → Int32 → qM → Option qM) (q2 : Nat) (a3 : Int32) (FR : Nat → Nat → Int32 → qM → Option qM) (n : Nat) (K5 : qM → Option qM) (o6 : Nat) (M4 : qM) : Option qM := q_ix (3 : Int32) 7 <| if (M4.1 (o6 + 3) (3 : Int32).toNatClampNeg) = 105 then (q_cv (FR o6 q2 (a3 + 1) M4) fun M14 => q_lt (M14.2 o6 8) fun r15 => f_Layout_layItems_13 q1 FB q2 a3 FR n K5 r15 M14) else (q_lt (M4.2 o6 8) fun r13 => f_Layout_layItems_13 q1 FB q2 a3 FR n K5 r13 M4)
theorem li_eq (q1 : Nat) (FB : Nat → Int32 → Int32 → Int32 → Int32 → qM → Option qM) (q2 : Nat) (a3 : Int32) (FR : Nat → Nat → Int32 → qM → Option qM) (n : Nat) (K5 : qM → Option qM) (o6 : Nat) (M4 : qM) : f_Layout_layItems_13 q1 FB q2 a3 FR (n + 1) K5 (some o6) M4 = (if (M4.1 o6 0) = 1 then (q_ix (2 : Int32) 7 <| q_cv (f_Run_addText o6 (M4.1 (q1 + 3) (2 : Int32).toNatClampNeg) M4) fun M25 => q_lt (M25.2 o6 8) fun r26 => f_Layout_layItems_13 q1 FB q2 a3 FR n K5 r26 M25) else (q_ix (3 : Int32) 7 <| if (M4.1 (o6 + 3) (3 : Int32).toNatClampNeg) = 98 then (q_cv (f_Layout_layBelow FB o6 q2 a3 M4) fun M22 => q_lt (M22.2 o6 8) fun r23 => f_Layout_layItems_13 q1 FB q2 a3 FR n K5 r23 M22) else (q_ix (3 : Int32) 7 <| if (M4.1 (o6 + 3) (3 : Int32).toNatClampNeg) = 105 then (if (M4.1 o6 0) = 107 then (q_ix (2 : Int32) 7 <| q_cv (f_Run_addBreak (M4.1 (o6 + 3) (2 : Int32).toNatClampNeg) M4) fun M20 => q_lt (M20.2 o6 8) fun r21 => f_Layout_layItems_13 q1 FB q2 a3 FR n K5 r21 M20) else (li_J q1 FB q2 a3 FR n K5 o6 M4)) else (li_J q1 FB q2 a3 FR n K5 o6 M4)))) := by
  rw [f_Layout_layItems_13]
  rfl
end CL3
