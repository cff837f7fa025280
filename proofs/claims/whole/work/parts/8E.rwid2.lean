/-! layout on the reference's side: widths, the pieces -/
section RWd2
variable {n nc : Nat} {I pj : Nat → Nat} {Z : lT}
def wdF (x v4 v5 v6 : Int32) : Int32 := if v6 = -1 then (if 0 ≤ (x - 2 * v4) - 2 * v5 then (x - 2 * v4) - 2 * v5 else 0) else v6
def cWb (pj : Nat → Nat) (Z : lT) (b j : Nat) : Int32 × Int32 := if zNm Z b = 114 then (zCl Z b + nI (cnC pj Z b (b + 1) (j - (b + 1))) * (zW Z b / nI (cnC pj Z b (b + 1) (zBh Z b - (b + 1)))), zW Z b / nI (cnC pj Z b (b + 1) (zBh Z b - (b + 1)))) else (zCl Z b, zW Z b)
def eWj (pj : Nat → Nat) (Z : lT) (w : Int32) (j : Nat) : Prop := (zHd Z j = if j = 0 then false else (zHd Z (pj j) || (!(zNm Z j == 1) && (zV Z j 3 == 110)))) ∧ (zIb Z j = (!(zNm Z j == 1) && !(zHd Z j) && (zV Z j 3 == 98))) ∧ (0 < j → zBo Z j = if zIb Z (pj j) = true then pj j else zBo Z (pj j)) ∧ (j = 0 → zL Z j = 0 ∧ zW Z j = w) ∧ (0 < j → zIb Z j = true → zL Z j = (cWb pj Z (zBo Z j) j).1 + zV Z j 4 ∧ zW Z j = wdF (cWb pj Z (zBo Z j) j).2 (zV Z j 4) (zV Z j 5) (zV Z j 6))
def wd_A (a1 : Int32) (M36 : qM) (x37 : Int32) : Option qM := q_ix a1 40 <| q_lt (qsI M36 30 a1.toNatClampNeg x37) fun M39 => some M39
def wd_B (a1 : Int32) (M14 : qM) (x27 x28 : Int32) : Option qM := q_ix (160 + a1) 280 <| q_lt (M14.1 25 (160 + a1).toNatClampNeg) fun x30 => q_ix (240 + a1) 280 <| q_lt (M14.1 25 (240 + a1).toNatClampNeg) fun x32 => q_ix (200 + a1) 280 <| q_lt ((x28 - (2 * x30)) - (2 * (M14.1 25 (200 + a1).toNatClampNeg))) fun x34 => q_ix a1 40 <| q_lt (qsI M14 29 a1.toNatClampNeg (x27 + x30)) fun M36 => if x32 = (-1) then (if 0 ≤ x34 then (wd_A a1 M36 x34) else (wd_A a1 M36 0)) else (wd_A a1 M36 x32)
def wd_C (a1 : Int32) (M14 : qM) : Option qM := q_ix a1 40 <| q_lt (M14.1 28 a1.toNatClampNeg) fun x19 => q_ix x19 40 <| q_bp (f_Md_border x19 5 M14) fun x21 => q_lt ((M14.1 29 x19.toNatClampNeg) + x21) fun x22 => q_ix x19 40 <| q_lt (M14.1 30 x19.toNatClampNeg) fun x24 => q_ix x19 40 <| q_ix (M14.1 3 x19.toNatClampNeg) 40 <| if (M14.1 4 (M14.1 3 x19.toNatClampNeg).toNatClampNeg) = 114 then (f_Md_widths_247 x19 M14 a1 1000 (fun (x54 : Int32) (x55 : Int32) => q_dk x54 <| q_lt (x22 + (x55 * (x24 / x54))) fun x57 => wd_B a1 M14 x57 (x24 / x54)) 0 0 (x19 + 1)) else (wd_B a1 M14 x22 x24)
def wd_D (a1 a2 : Int32) (M11 : qM) (x12 : Int32) : Option qM := q_ix a1 40 <| q_lt (qsI M11 28 a1.toNatClampNeg x12) fun M14 => if a1 = 0 then (q_ix (0 : Int32) 40 <| q_lt (qsI M14 29 (0 : Int32).toNatClampNeg 0) fun M59 => q_ix (0 : Int32) 40 <| q_lt (qsI M59 30 (0 : Int32).toNatClampNeg a2) fun M61 => some M61) else (q_ix a1 40 <| if (M14.1 27 a1.toNatClampNeg) = 0 then (some M14) else (wd_C a1 M14))
def wd_E (a1 a2 : Int32) (M7 : qM) (x8 : Int32) : Option qM := q_ix a1 40 <| q_zk x8 <| q_lt (qsI M7 27 a1.toNatClampNeg x8) fun M11 => if a1 = 0 then (wd_D a1 a2 M11 (-1)) else (q_ix a1 40 <| q_ix (M11.1 22 a1.toNatClampNeg) 40 <| if (M11.1 27 (M11.1 22 a1.toNatClampNeg).toNatClampNeg) = 0 then (q_ix a1 40 <| q_ix (M11.1 22 a1.toNatClampNeg) 40 <| wd_D a1 a2 M11 (M11.1 28 (M11.1 22 a1.toNatClampNeg).toNatClampNeg)) else (q_ix a1 40 <| wd_D a1 a2 M11 (M11.1 22 a1.toNatClampNeg)))
def wd_F (a1 a2 x3 : Int32) (M : qM) (x4 : Int32) : Option qM := q_ix a1 40 <| q_zk x4 <| q_lt (qsI M 26 a1.toNatClampNeg x4) fun M7 => if x3 = 0 then (wd_E a1 a2 M7 0) else (q_ix a1 40 <| if (M7.1 26 a1.toNatClampNeg) = 0 then (q_ix (120 + a1) 280 <| if (M7.1 25 (120 + a1).toNatClampNeg) = 98 then (wd_E a1 a2 M7 1) else (wd_E a1 a2 M7 0)) else (wd_E a1 a2 M7 0))
def wd_G (a1 a2 : Int32) (M : qM) (x3 : Int32) : Option qM := if a1 ≤ 0 then (wd_F a1 a2 x3 M 0) else (q_ix a1 40 <| q_ix (M.1 22 a1.toNatClampNeg) 40 <| if (M.1 26 (M.1 22 a1.toNatClampNeg).toNatClampNeg) = 0 then (if x3 = 0 then (wd_F a1 a2 x3 M 0) else (q_ix (120 + a1) 280 <| if (M.1 25 (120 + a1).toNatClampNeg) = 110 then (wd_F a1 a2 x3 M 1) else (wd_F a1 a2 x3 M 0))) else (wd_F a1 a2 x3 M 1))
theorem wd_eq (a1 a2 : Int32) (M : qM) : f_Md_widths a1 a2 M = (q_ix a1 40 <| q_ix (M.1 3 a1.toNatClampNeg) 40 <| if (M.1 4 (M.1 3 a1.toNatClampNeg).toNatClampNeg) = 1 then (wd_G a1 a2 M 0) else (wd_G a1 a2 M 1)) := by
  unfold f_Md_widths
  rfl
theorem wd_Be {M : qM} (hn : n ≤ 24) (hZ : rZ M n nc I pj Z) {j : Nat} (hj : j < n) (x27 x28 : Int32) : wd_B (nI j) M x27 x28 = some (qsI (qsI M 29 j (x27 + zV Z j 4)) 30 j (wdF x28 (zV Z j 4) (zV Z j 5) (zV Z j 6))) := by
  have hv := (hZ.2.1 j hj).2.2.2.1
  have e4 : M.1 25 (160 + j) = zV Z j 4 := hv 4 (by omega)
  have e5 : M.1 25 (200 + j) = zV Z j 5 := hv 5 (by omega)
  have e6 : M.1 25 (240 + j) = zV Z j 6 := hv 6 (by omega)
  have eA : ∀ M x, wd_A (nI j) M x = some (qsI M 30 j x) := fun M x => by
    unfold wd_A
    rw [g_ix (by omega) (by omega), g_cl (by omega), q_ltE]
  unfold wd_B wdF
  rw [show (160 : Int32) = nI 160 from rfl, g_add, g_ix (by omega) (by omega), g_cl (by omega), e4, q_ltE, show (240 : Int32) = nI 240 from rfl, g_add, g_ix (by omega) (by omega), g_cl (by omega), e6, q_ltE, show (200 : Int32) = nI 200 from rfl, g_add, g_ix (by omega) (by omega), g_cl (by omega), e5, q_ltE, g_ix (by omega) (by omega), g_cl (by omega), q_ltE, eA, eA, eA]
  by_cases q : zV Z j 6 = -1
  · rw [if_pos q, if_pos q]
    by_cases q2 : 0 ≤ (x28 - 2 * zV Z j 4) - 2 * zV Z j 5
    · rw [if_pos q2, if_pos q2]
    · rw [if_neg q2, if_neg q2]
  · rw [if_neg q, if_neg q]
theorem q_dkn {β : Type} {c : Nat} (h : 0 < c) (h' : c < 2147483648) (k : Option β) : q_dk (nI c) k = k := by
  unfold q_dk
  rw [if_neg]
  rw [show (0 : Int32) = nI 0 from rfl, g_eq h' (by omega)]
  omega
theorem wd_Ce (hW : wZ2 n nc I pj Z) (hP : wP n pj Z) (h05 : zV Z 0 5 = 0) {M : qM} (hZ : rZ M n nc I pj Z) {b j : Nat} (hj : j < n) (hbj : b < j) (hj2 : j < zBh Z b) (h28 : M.1 28 j = nI b) (h29 : M.1 29 b = zL Z b) (h30 : M.1 30 b = zW Z b) (hc : zNm Z b = 114 → inC pj Z b j = true) : wd_C (nI j) M = some (qsI (qsI M 29 j ((cWb pj Z b j).1 + zV Z j 4)) 30 j (wdF (cWb pj Z b j).2 (zV Z j 4) (zV Z j 5) (zV Z j 6))) := by
  have hn : n ≤ 24 := hW.1.2.1
  obtain ⟨hI, hnm, _, hbh, _⟩ := hW.2.1 b (by omega)
  obtain ⟨z1, z2, z3, z4, z5⟩ := hZ.2.1 b (by omega)
  have hb : f_Md_border (nI b) 5 M = some (zV Z b 5) := r_bor (p := 5) (by omega) (by omega) (z4 5 (by omega)) (fun h => by rw [h]; exact h05)
  unfold wd_C
  rw [g_ix (by omega) (by omega), g_cl (by omega), h28, q_ltE, g_ix (by omega) (by omega), hb, q_bpE, g_cl (by omega), h29, q_ltE, g_ix (by omega) (by omega), h30, q_ltE, g_ix (by omega) (by omega), z1, g_ix (by omega) (by omega), g_cl (by omega), z2, show (114 : Int32) = nI 114 from rfl, i_eq (by omega) (by omega), g_inc]
  unfold cWb
  by_cases q : zNm Z b = 114
  · rw [if_pos q, if_pos q]
    have e := r_247 hW hP hZ (b := b) (j := j) (by omega) q hbj (by omega) (fun (x54 : Int32) (x55 : Int32) => q_dk x54 <| q_lt ((zL Z b + zV Z b 5) + (x55 * (zW Z b / x54))) fun x57 => wd_B (nI j) M x57 (zW Z b / x54)) (zBh Z b - (b + 1)) (b + 1) 1000 0 0 (by omega) (by omega) (by omega)
    rw [Nat.zero_add, Nat.zero_add] at e
    refine Eq.trans e ?_
    have hc1 : 0 < cnC pj Z b (b + 1) (zBh Z b - (b + 1)) := by
      unfold cnC
      refine List.length_pos_iff.mpr fun h => ?_
      have : j ∈ (rgF (b + 1) (zBh Z b - (b + 1))).filter (inC pj Z b) := List.mem_filter.mpr ⟨rgF_mem.mpr ⟨by omega, by omega⟩, hc q⟩
      rw [h] at this
      cases this
    have hc2 : cnC pj Z b (b + 1) (zBh Z b - (b + 1)) ≤ 24 := by
      unfold cnC
      have := List.length_filter_le (inC pj Z b) (rgF (b + 1) (zBh Z b - (b + 1)))
      rw [rg_len] at this
      omega
    rw [q_dkn hc1 (by omega), q_ltE, wd_Be hn hZ hj]
    rfl
  · rw [if_neg q, if_neg q, wd_Be hn hZ hj]
    rfl
end RWd2
