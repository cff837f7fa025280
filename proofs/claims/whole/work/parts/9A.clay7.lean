/-! layout on the class's side: a box -/
section CL7
variable {n nc : Nat} {I pj dp : Nat → Nat} {Z : lT} {Ta : Nat → Int32} {w : Int32}
def lb_J (q1 : Nat) (x5 : Int32) (M18 : qM) : Option qM := q_lt (qsI M18 (q1 + 4) 4 ((((M18.1 (q1 + 4) 8) + (M18.1 (q1 + 4) 9)) - (M18.1 (q1 + 4) 6)) + (2 * x5))) fun M19 => some M19
def lb_T (FR : Nat → Int32 → Int32 → Int32 → Int32 → qM → Option qM) (q1 : Nat) (a5 x5 : Int32) (M17 : qM) : Option qM := if (M17.1 q1 0) = 104 then (q_lt (qsI M17 (q1 + 4) 8 ((M17.1 (q1 + 4) 8) + 1)) fun M29 => lb_J q1 x5 M29) else (if (M17.1 q1 0) = 114 then (q_cl (f_Layout_layCells FR q1 a5 M17) fun x26 M27 => q_lt (qsI M27 (q1 + 4) 8 ((M17.1 (q1 + 4) 8) + x26)) fun M28 => lb_J q1 x5 M28) else (q_cv (f_Run_beginIn (q1 + 4) M17) fun M23 => q_cv (f_Layout_layItems FR 27 q1 (q1 + 4) a5 M23) fun M24 => q_cv (f_Run_endIn (q1 + 4) M24) fun M25 => lb_J q1 x5 M25))
def lb_W (FR : Nat → Int32 → Int32 → Int32 → Int32 → qM → Option qM) (q1 : Nat) (a5 x5 : Int32) (M12 : qM) (x13 : Int32) : Option qM := q_lt (qsI M12 (q1 + 4) 7 x13) fun M14 => q_lt (qsI M14 (q1 + 4) 3 ((M14.1 (q1 + 4) 7) + (2 * x5))) fun M15 => q_lt (qsI M15 (q1 + 4) 8 (M15.1 (q1 + 4) 6)) fun M16 => q_lt (qsI M16 (q1 + 4) 9 0) fun M17 => lb_T FR q1 a5 x5 M17
theorem lb_eq (d q1 : Nat) (a2 a3 a4 a5 : Int32) (M : qM) : f_Layout_layBox (d + 1) q1 a2 a3 a4 a5 M = if a5 ≤ 24 then (q_ix (4 : Int32) 7 <| q_lt (M.1 (q1 + 3) (4 : Int32).toNatClampNeg) fun x3 => q_ix (5 : Int32) 7 <| q_lt (M.1 (q1 + 3) (5 : Int32).toNatClampNeg) fun x5 => q_ix (6 : Int32) 7 <| q_lt (M.1 (q1 + 3) (6 : Int32).toNatClampNeg) fun x7 => q_lt (qsI M (q1 + 4) 0 1) fun M8 => q_lt (qsI M8 (q1 + 4) 1 (a2 + x3)) fun M9 => q_lt (qsI M9 (q1 + 4) 2 a3) fun M10 => q_lt (qsI M10 (q1 + 4) 5 ((M10.1 (q1 + 4) 1) + x5)) fun M11 => q_lt (qsI M11 (q1 + 4) 6 (a3 + x5)) fun M12 => if x7 = (-1) then (lb_W (f_Layout_layBox d) q1 a5 x5 M12 (if 0 < ((a4 - (2 * x3)) - (2 * x5)) then (a4 - (2 * x3)) - (2 * x5) else 0)) else (lb_W (f_Layout_layBox d) q1 a5 x5 M12 x7)) else (some M) := by
  rw [f_Layout_layBox]
  rfl
theorem wd_lt (x v4 v5 v6 : Int32) : (if v6 = -1 then (if 0 < ((x - (2 * v4)) - (2 * v5)) then (x - (2 * v4)) - (2 * v5) else 0) else v6) = wdF x v4 v5 v6 := by
  unfold wdF
  by_cases q : v6 = -1
  · rw [if_pos q, if_pos q]
    by_cases h : 0 < x - 2 * v4 - 2 * v5
    · rw [if_pos h, if_pos (by rw [Int32.lt_iff_toInt_lt] at h; rw [Int32.le_iff_toInt_le]; omega)]
    · rw [if_neg h]
      by_cases h2 : 0 ≤ x - 2 * v4 - 2 * v5
      · rw [if_pos h2]
        refine Int32.toInt_inj.mp ?_
        rw [Int32.lt_iff_toInt_lt] at h
        rw [Int32.le_iff_toInt_le] at h2
        omega
      · rw [if_neg h2]
  · rw [if_neg q, if_neg q]
theorem adsb (a c p : Int32) : a + c - a + 2 * p = 2 * p + c := by
  rw [Int32.add_comm a c, Int32.add_sub_cancel, Int32.add_comm]
/-- a box with nothing in it yet -/
def bx0 (M : qM) (B : Nat) (l t p d : Int32) : qM := qsI (qsI (qsI (qsI (qsI (qsI (qsI (qsI (qsI M B 0 1) B 1 l) B 2 t) B 5 (l + p)) B 6 (t + p)) B 7 d) B 3 (d + 2 * p)) B 8 (t + p)) B 9 0
theorem lb_0 (hV : EV n nc I pj dp Z Ta w) {i db : Nat} {x wd : Int32} {M : qM} (hi : i < n) (hib : zIb Z i = true) (hzL : zL Z i = x + zV Z i 4) (hzW : zW Z i = wdF wd (zV Z i 4) (zV Z i 5) (zV Z i 6)) (hS : cZs M n nc I pj Z) : f_Layout_layBox (db + 1) (7 + 5 * I i) x (Ta i) wd (nI (dp i)) M = lb_T (f_Layout_layBox db) (7 + 5 * I i) (nI (dp i)) (zV Z i 5) (bx0 M (7 + 5 * I i + 4) (zL Z i) (Ta i) (zV Z i 5) (zW Z i)) := by
  obtain ⟨hW, hP, hQ, hT⟩ := hV
  have hdp := hT.2.2.2.1 i hi
  have hn1 := (ib_h hQ.1 hi hib).2.1
  have v := (hS.2 i hi).2.1 hn1
  have v4 := v 4 (by omega)
  have v5 := v 5 (by omega)
  have v6 := v 6 (by omega)
  have eW : ∀ M, (if zV Z i 6 = -1 then (lb_W (f_Layout_layBox db) (7 + 5 * I i) (nI (dp i)) (zV Z i 5) M (if 0 < ((wd - (2 * zV Z i 4)) - (2 * zV Z i 5)) then (wd - (2 * zV Z i 4)) - (2 * zV Z i 5) else 0)) else (lb_W (f_Layout_layBox db) (7 + 5 * I i) (nI (dp i)) (zV Z i 5) M (zV Z i 6))) = lb_W (f_Layout_layBox db) (7 + 5 * I i) (nI (dp i)) (zV Z i 5) M (zW Z i) := fun M => by
    rw [hzW, ← wd_lt]
    by_cases q : zV Z i 6 = -1
    · rw [if_pos q, if_pos q]
    · rw [if_neg q, if_neg q]
  rw [lb_eq, show (24 : Int32) = nI 24 from rfl, i_le (by omega) (by omega), if_pos (by omega), show (4 : Int32) = nI 4 from rfl, g_ix (by omega) (by omega), g_cl (by omega), v4, q_ltE, show (5 : Int32) = nI 5 from rfl, g_ix (by omega) (by omega), g_cl (by omega), v5, q_ltE, show (6 : Int32) = nI 6 from rfl, g_ix (by omega) (by omega), g_cl (by omega), v6, q_ltE, q_ltE, q_ltE, q_ltE, ← hzL, g_In (by omega), g_Ie ⟨rfl, rfl⟩, q_ltE, q_ltE, eW]
  unfold lb_W
  rw [q_ltE, g_Ie ⟨rfl, rfl⟩, q_ltE, g_In (by omega), g_In (by omega), g_Ie ⟨rfl, rfl⟩, q_ltE, q_ltE]
  rfl
theorem bx0_n {M : qM} {B : Nat} {l t p d : Int32} {q j : Nat} (h : q ≠ B) : (bx0 M B l t p d).1 q j = M.1 q j := by
  unfold bx0
  simp (disch := omega) only [g_In]
theorem bx0_s (M : qM) (B : Nat) (l t p d : Int32) : (bx0 M B l t p d).1 B 0 = 1 ∧ (bx0 M B l t p d).1 B 1 = l ∧ (bx0 M B l t p d).1 B 2 = t ∧ (bx0 M B l t p d).1 B 3 = d + 2 * p ∧ (bx0 M B l t p d).1 B 5 = l + p ∧ (bx0 M B l t p d).1 B 6 = t + p ∧ (bx0 M B l t p d).1 B 7 = d ∧ (bx0 M B l t p d).1 B 8 = t + p ∧ (bx0 M B l t p d).1 B 9 = 0 := by
  unfold bx0
  refine ⟨?_, ?_, ?_, ?_, ?_, ?_, ?_, ?_, ?_⟩ <;> simp (disch := omega) only [g_In, g_Ie]
/-- the box's end -/
theorem lb_f (hV : EV n nc I pj dp Z Ta w) {i : Nat} {M M18 : qM} (hi : i < n) (hib : zIb Z i = true) (h0 : M18.1 (7 + 5 * I i + 4) 0 = 1) (h1 : M18.1 (7 + 5 * I i + 4) 1 = zL Z i) (h2 : M18.1 (7 + 5 * I i + 4) 2 = Ta i) (h3 : M18.1 (7 + 5 * I i + 4) 3 = zW Z i + 2 * zV Z i 5) (h6 : M18.1 (7 + 5 * I i + 4) 6 = oF Z Ta i) (h89 : M18.1 (7 + 5 * I i + 4) 8 + M18.1 (7 + 5 * I i + 4) 9 = oF Z Ta i + hCt Z i) (hb : ∀ j, i < j → j < zBh Z i → zIb Z j = true → cBf M18 I Z Ta j) (hq : ∀ q, q < nc → i ≤ zNq Z q → zNq Z q < zBh Z i → cLf M18 Z Ta q) (h12 : M18.1 365 12 = M.1 365 12 + sumF (zNl Z) i (zBh Z i - i)) (hf : fR n nc I Z i (zBh Z i) M M18) : ∃ M', lb_J (7 + 5 * I i) (zV Z i 5) M18 = some M' ∧ (∀ j, i ≤ j → j < zBh Z i → zIb Z j = true → cBf M' I Z Ta j) ∧ (∀ q, q < nc → i ≤ zNq Z q → zNq Z q < zBh Z i → cLf M' Z Ta q) ∧ M'.1 365 12 = M.1 365 12 + sumF (zNl Z) i (zBh Z i - i) ∧ fR n nc I Z i (zBh Z i) M M' := by
  obtain ⟨hW, hP, hQ, hT⟩ := hV
  obtain ⟨hIi, _, hbi1, hbi2, _⟩ := hW.2.1 i hi
  have kk : ∀ p j, ¬ (p = 7 + 5 * I i + 4 ∧ j = 4) → (qsI M18 (7 + 5 * I i + 4) 4 (zH Z i)).1 p j = M18.1 p j := fun p j h => g_In h
  refine ⟨qsI M18 (7 + 5 * I i + 4) 4 (zH Z i), ?_, fun j j1 j2 j3 => ?_, fun q q1 q2 q3 => ?_, by rw [kk _ _ (by omega)]; exact h12, ?_⟩
  · unfold lb_J
    rw [h89, h6, adsb, ← hQ.2.1 i hi hib, q_ltE]
  · by_cases e : j = i
    · rw [e]
      exact ⟨by rw [kk _ _ (by omega)]; exact h0, by rw [kk _ _ (by omega)]; exact h1, by rw [kk _ _ (by omega)]; exact h2, by rw [kk _ _ (by omega)]; exact h3, g_Ie ⟨rfl, rfl⟩⟩
    · refine cBf_k (hb j (by omega) j2 j3) (fun x hx => kk _ _ (fun h => ?_))
      have := hW.2.2.2.2.1 j i (by omega) hi (by omega)
      exact e this
  · exact cLf_k (hq q q1 q2 q3) (fun x _ _ => kk _ _ (by omega))
  · refine fR_t hf ⟨fun p j q1 q2 q3 => kk p j (fun h => q2 ⟨i, Nat.le_refl _, hbi1, hi, hib, h.1⟩), fun _ _ _ => rfl⟩
end CL7
