/-! layout on the class's side: a box, whole -/
section CL8
variable {n nc : Nat} {I pj dp : Nat → Nat} {Z : lT} {Ta : Nat → Int32} {w : Int32}
theorem lc_eq (FB : Nat → Int32 → Int32 → Int32 → Int32 → qM → Option qM) (q1 : Nat) (a2 : Int32) (M : qM) : f_Layout_layCells FB q1 a2 M = f_Layout_layCells_14 M 1000 (fun (x11 : Int32) => if x11 = 0 then (f_Layout_layCells_73 FB q1 0 a2 1000 (fun (x29 : Int32) (M30 : qM) => some (x29, M30)) (M.1 (q1 + 4) 5) 0 (M.2 q1 5) M) else (q_dk x11 <| f_Layout_layCells_73 FB q1 ((M.1 (q1 + 4) 7) / x11) a2 1000 (fun (x29 : Int32) (M30 : qM) => some (x29, M30)) (M.1 (q1 + 4) 5) 0 (M.2 q1 5) M)) 0 (M.2 q1 5) := by
  unfold f_Layout_layCells
  rw [q_ltE]
  congr 1
theorem t_lb (hV : EV n nc I pj dp Z Ta w) {m : Nat} (hL : LIp n nc I pj dp Z Ta m) (hC : LCp n nc I pj dp Z Ta m) : LBp n nc I pj dp Z Ta (m + 1) := by
  intro i db x wd M hi hib hm hdb hzL hzW hS hz
  have hV' := hV
  obtain ⟨hW, hP, hQ, hT⟩ := hV
  have hn : n ≤ 24 := hW.1.2.1
  have hnc : nc ≤ 160 := hW.1.2.2
  have hdp := hT.2.2.2.1 i hi
  obtain ⟨db, rfl⟩ : ∃ g, db = g + 1 := ⟨db - 1, by omega⟩
  obtain ⟨hIi, hnm, hbi1, hbi2, _⟩ := hW.2.1 i hi
  have hn1 := (ib_h hQ.1 hi hib).2.1
  rw [lb_0 hV' hi hib hzL hzW hS]
  obtain ⟨M17, hM17⟩ : ∃ M17, M17 = bx0 M (7 + 5 * I i + 4) (zL Z i) (Ta i) (zV Z i 5) (zW Z i) := ⟨_, rfl⟩
  obtain ⟨t0, t1, t2, t3, t5, t6, t7, t8, t9⟩ := bx0_s M (7 + 5 * I i + 4) (zL Z i) (Ta i) (zV Z i 5) (zW Z i)
  have kn : ∀ q j, q ≠ 7 + 5 * I i + 4 → M17.1 q j = M.1 q j := fun q j h => by rw [hM17]; exact bx0_n h
  have k2 : M17.2 = M.2 := by rw [hM17]; rfl
  rw [← hM17] at t0 t1 t2 t3 t5 t6 t7 t8 t9 ⊢
  have f17 : fR n nc I Z i (zBh Z i) M M17 := ⟨fun p j q1 q2 q3 => kn p j (fun h => q2 ⟨i, Nat.le_refl _, hbi1, hi, hib, h⟩), fun p j _ => by rw [k2]⟩
  have hS17 := cZs_k hW hS f17
  have z17 : ∀ q, q < nc → i ≤ zNq Z q → zNq Z q < zBh Z i → M17.1 (127 + q) 2 = 0 := fun q q1 q2 q3 => by rw [kn _ _ (by omega)]; exact hz q q1 q2 q3
  have l17 : M17.1 365 12 = M.1 365 12 := kn _ _ (by omega)
  obtain ⟨s1, s2, s3, s4, s5, s6⟩ := hS17.2 i hi
  have esm : sumF (zNl Z) i (zBh Z i - i) = zNl Z i + sumF (zNl Z) (i + 1) (zBh Z i - (i + 1)) := by
    rw [show zBh Z i - i = (zBh Z i - (i + 1)) + 1 by omega]
    rfl
  have enl : zNl Z i = uNl (gOf Z i).2.1 := if_pos hib
  unfold lb_T
  rw [s1, show (104 : Int32) = nI 104 from rfl, i_eq (by omega) (by omega), show (114 : Int32) = nI 114 from rfl, i_eq (by omega) (by omega)]
  by_cases h104 : zNm Z i = 104
  · rw [if_pos h104, q_ltE, t8]
    have hbh : zBh Z i = i + 1 := hT.2.2.2.2.1 i hi (Or.inr (Or.inl h104))
    have kk : ∀ p j, ¬ (p = 7 + 5 * I i + 4 ∧ j = 8) → (qsI M17 (7 + 5 * I i + 4) 8 (Ta i + zV Z i 5 + 1)).1 p j = M17.1 p j := fun p j h => g_In h
    refine lb_f hV' hi hib (by rw [kk _ _ (by omega)]; exact t0) (by rw [kk _ _ (by omega)]; exact t1) (by rw [kk _ _ (by omega)]; exact t2) (by rw [kk _ _ (by omega)]; exact t3) (by rw [kk _ _ (by omega)]; exact t6) ?_ (fun j j1 j2 => (by omega)) (fun q q1 q2 q3 => ?_) ?_ (fR_t f17 ⟨fun p j q1 q2 q3 => kk p j (fun h => q2 ⟨i, Nat.le_refl _, hbi1, hi, hib, h.1⟩), fun _ _ _ => rfl⟩)
    · rw [g_Ie ⟨rfl, rfl⟩, kk _ _ (by omega), t9, Int32.add_zero, show hCt Z i = 1 from if_pos h104]
      rfl
    · have := (in_box hV' hi hib q1 q2 q3).1
      omega
    · rw [kk _ _ (by omega), l17, esm, enl]
      have eg : gOf Z i = gFl Z i g0 := by
        unfold gOf
        rw [show zBh Z i - (i + 1) = 0 by omega]
        rfl
      have e0 : uNl (gOf Z i).2.1 = 0 := by
        rw [eg]
        rfl
      rw [e0, show zBh Z i - (i + 1) = 0 by omega]
      show _ = M.1 365 12 + (0 + 0)
      rw [Int32.add_zero, Int32.add_zero]
  · rw [if_neg h104]
    by_cases h114 : zNm Z i = 114
    · rw [if_pos h114]
      have ec14 := fun K => t_c14 hV' hi hib h114 hS17 K (zBh Z i - (i + 1)) (i + 1) 0 1000 (Nat.le_refl _) (by omega) (by omega) (fun h => hT.1 i hi h) (by omega)
      have hcn : cnC pj Z i (i + 1) (zBh Z i - (i + 1)) ≤ 24 := by
        unfold cnC
        have := List.length_filter_le (inC pj Z i) (rgF (i + 1) (zBh Z i - (i + 1)))
        rw [rg_len] at this
        omega
      have key : ∀ x12, (cnC pj Z i (i + 1) (zBh Z i - (i + 1)) ≠ 0 → x12 = zW Z i / nI (cnC pj Z i (i + 1) (zBh Z i - (i + 1)))) → ∃ M', f_Layout_layCells_73 (f_Layout_layBox db) (7 + 5 * I i) x12 (nI (dp i)) 1000 (fun (x29 : Int32) (M30 : qM) => some (x29, M30)) (zL Z i + zV Z i 5) 0 (if i + 1 < zBh Z i then some (7 + 5 * I (i + 1)) else none) M17 = some ((gAt Z i (zBh Z i - (i + 1))).1.2.2, M') ∧ M'.1 365 12 = M.1 365 12 + sumF (zNl Z) (i + 1) (zBh Z i - (i + 1)) ∧ (∀ j, i + 1 ≤ j → j < zBh Z i → zIb Z j = true → cBf M' I Z Ta j) ∧ (∀ q, q < nc → i + 1 ≤ zNq Z q → zNq Z q < zBh Z i → zBo Z (zNq Z q) ≠ i → cLf M' Z Ta q) ∧ (∀ q, q < nc → zBo Z (zNq Z q) = i → ∀ x, M'.1 (127 + q) x = M17.1 (127 + q) x) ∧ fR n nc I Z (i + 1) (zBh Z i) M17 M' := fun x12 hx => by
        have := hC (i + 1) i db 1000 (M.1 365 12) x12 M17 (fun (x29 : Int32) (M30 : qM) => some (x29, M30)) hi hib h114 (by omega) (by omega) (fun h => hT.1 i hi h) (by omega) (by omega) (by omega) hx hS17 t6 (by rw [l17, Nat.sub_self]; show _ = M.1 365 12 + 0; rw [Int32.add_zero]) (fun q q1 q2 q3 _ => z17 q q1 (by omega) q3)
        have ez : zCl Z i + nI (cnC pj Z i (i + 1) (i + 1 - (i + 1))) * x12 = zL Z i + zV Z i 5 := by
          rw [Nat.sub_self]
          show zL Z i + zV Z i 5 + 0 * x12 = _
          rw [Int32.zero_mul, Int32.add_zero]
        have eg : (gAt Z i (i + 1 - (i + 1))).1.2.2 = 0 := by
          rw [Nat.sub_self]
          rfl
        rw [ez, eg] at this
        exact this
      have elc : ∃ M27, f_Layout_layCells (f_Layout_layBox db) (7 + 5 * I i) (nI (dp i)) M17 = some ((gAt Z i (zBh Z i - (i + 1))).1.2.2, M27) ∧ M27.1 365 12 = M.1 365 12 + sumF (zNl Z) (i + 1) (zBh Z i - (i + 1)) ∧ (∀ j, i + 1 ≤ j → j < zBh Z i → zIb Z j = true → cBf M27 I Z Ta j) ∧ (∀ q, q < nc → i + 1 ≤ zNq Z q → zNq Z q < zBh Z i → zBo Z (zNq Z q) ≠ i → cLf M27 Z Ta q) ∧ (∀ q, q < nc → zBo Z (zNq Z q) = i → ∀ x, M27.1 (127 + q) x = M17.1 (127 + q) x) ∧ fR n nc I Z (i + 1) (zBh Z i) M17 M27 := by
        rw [lc_eq, s3, ← l_0, ec14, Nat.zero_add, i_eq (by omega) (by omega), t5, t7]
        by_cases q : cnC pj Z i (i + 1) (zBh Z i - (i + 1)) = 0
        · rw [if_pos q, l_0]
          exact key 0 (fun h => absurd q h)
        · rw [if_neg q, q_dkn (by omega) (by omega), l_0]
          exact key _ (fun _ => rfl)
      obtain ⟨M27, c1, c2, c3, c4, c5, c6⟩ := elc
      rw [c1, q_clE, t8, q_ltE]
      have nB : ¬ (∃ j, i + 1 ≤ j ∧ j < zBh Z i ∧ j < n ∧ zIb Z j = true ∧ 7 + 5 * I i + 4 = 7 + 5 * I j + 4) := fun ⟨j, h1, h2, h3, _, h5⟩ => by
        have := hW.2.2.2.2.1 j i h3 hi (by omega)
        omega
      have kB : ∀ j, M27.1 (7 + 5 * I i + 4) j = M17.1 (7 + 5 * I i + 4) j := fun j => c6.1 _ _ (by omega) nB (fun ⟨q, _, _, _, h4, _⟩ => (by omega))
      have kk : ∀ p j, ¬ (p = 7 + 5 * I i + 4 ∧ j = 8) → (qsI M27 (7 + 5 * I i + 4) 8 (Ta i + zV Z i 5 + (gAt Z i (zBh Z i - (i + 1))).1.2.2)).1 p j = M27.1 p j := fun p j h => g_In h
      obtain ⟨y, hy⟩ := row_of hW hP hQ.1 hi h114
      refine lb_f hV' hi hib (by rw [kk _ _ (by omega), kB]; exact t0) (by rw [kk _ _ (by omega), kB]; exact t1) (by rw [kk _ _ (by omega), kB]; exact t2) (by rw [kk _ _ (by omega), kB]; exact t3) (by rw [kk _ _ (by omega), kB]; exact t6) ?_ (fun j j1 j2 j3 => ?_) (fun q q1 q2 q3 => ?_) ?_ (fR_t f17 (fR_t (fR_w c6 (by omega) (Nat.le_refl _)) ⟨fun p j q1 q2 q3 => kk p j (fun h => q2 ⟨i, Nat.le_refl _, hbi1, hi, hib, h.1⟩), fun _ _ _ => rfl⟩))
      · rw [g_Ie ⟨rfl, rfl⟩, kk _ _ (by omega), kB, t9, Int32.add_zero]
        have : hCt Z i = (gAt Z i (zBh Z i - (i + 1))).1.2.2 := by
          unfold hCt
          rw [if_neg h104, if_pos h114]
          unfold gOf
          rw [gFl_rh]
        rw [this]
        rfl
      · refine cBf_k (c3 j (by omega) j2 j3) (fun x hx => kk _ _ (by omega))
      · obtain ⟨p1, p2⟩ := in_box hV' hi hib q1 q2 q3
        refine cLf_k ?_ (fun x _ _ => kk _ _ (by omega))
        by_cases e : zBo Z (zNq Z q) = i
        · have epx : zPx Z q = none := by
            unfold zPx
            rw [e, hy]
            rfl
          refine ⟨?_, fun x hx => ?_⟩
          · rw [c5 q q1 e, z17 q q1 q2 q3, epx]
            rfl
          · rw [epx] at hx
            cases hx
        · exact c4 q q1 (by omega) q3 e
      · rw [kk _ _ (by omega), c2, esm, enl, hy]
        show _ = M.1 365 12 + (0 + sumF (zNl Z) (i + 1) (zBh Z i - (i + 1)))
        rw [Int32.zero_add]
    · rw [if_neg h114]
      obtain ⟨M23, b1, b2', b3, b4⟩ := t_beg (Z := Z) (k := i) (B := 7 + 5 * I i + 4) (off := oF Z Ta i) (lb := M.1 365 12) (e := 0) (l := 0) (nl := 0) (px := fun _ => none) (py := fun _ => 0) (Sc := Sn Z nc i) (M := M17) hnc (by omega) t5 t7 (by rw [t8, Int32.add_zero]; rfl) t9 (by rw [l17, Int32.add_zero]) (fun y q hq hs => by
        refine ⟨?_, fun x hx => (by cases hx)⟩
        obtain ⟨_, r2, r3, _⟩ := hW.2.2.2.1 q hq
        obtain ⟨o1, o2, o3, o4⟩ := bo_ok hW hP (Nat.le_refl n) hQ.1 _ _ (Nat.le_refl _) r2 r3
        rw [hs.2] at o1 o3
        rw [z17 q hq (by omega) o3]
        rfl)
      have f23 : fR n nc I Z i (zBh Z i) M17 M23 := ⟨fun p j q1 _ _ => b3 p j q1, fun p j _ => by rw [b4]⟩
      have hS23 := cZs_k hW hS17 f23
      have k23 : ∀ j, M23.1 (7 + 5 * I i + 4) j = M17.1 (7 + 5 * I i + 4) j := fun j => b3 _ _ (by omega)
      have hG : SG M23 nc I Z Ta i (i + 1) (M.1 365 12) := by
        unfold SG
        rw [Nat.sub_self]
        refine ⟨⟨by rw [k23]; exact t5, by rw [k23]; exact t7, ?_, ?_⟩, ?_⟩
        · rw [k23, t8]
          show _ = oF Z Ta i + 0
          rw [Int32.add_zero]
          rfl
        · rw [k23, t9]
          rfl
        · have e0 : M.1 365 12 + sumF (zNl Z) (i + 1) 0 = M.1 365 12 := Int32.add_zero _
          rw [e0]
          have e1 : (gAt Z i 0).2.1 = uNew (0 + 0) 0 (fun _ => none) (fun _ => 0) := by rw [Int32.add_zero]; rfl
          rw [e1]
          exact b2'
      obtain ⟨M24, c1, c2, c3, c4, c5⟩ := hL i (i + 1) i db 26 1000 (M.1 365 12) M23 (fun M28 => some M28) hi hi hib h114 (Or.inl rfl) (by omega) (by omega) (fun h => hT.1 i hi h) (by omega) (by omega) (by omega) hn1 (by omega) hS23 hG (fun q q1 q2 q3 _ => by rw [b3 _ _ (by omega)]; exact z17 q q1 (by omega) q3)
      have eli : f_Layout_layItems (f_Layout_layBox db) 27 (7 + 5 * I i) (7 + 5 * I i + 4) (nI (dp i)) M23 = some M24 := by
        rw [f_Layout_layItems, q_ltE, show (24 : Int32) = nI 24 from rfl, i_le (by omega) (by omega), if_pos (by omega), (hS23.2 i hi).2.2.1, q_ltE]
        exact c1
      obtain ⟨⟨g5, g7, g8, g9⟩, hU⟩ := c2
      obtain ⟨M25, d1, d2, d3, d4, d5⟩ := t_endI (B := 7 + 5 * I i + 4) hnc (by omega) (iL_160 hW i (m := zBh Z i - (i + 1)) (a := i + 1) (by omega)) hU
      rw [b1, q_cvE, eli, q_cvE, d1, q_cvE]
      have u1 : (gOf Z i).2.1 = uEnd (zSz Z) (zCl Z i) (zW Z i) (gAt Z i (zBh Z i - (i + 1))).2.1 := by
        unfold gOf gFl
        by_cases q : uHs (uEnd (zSz Z) (zCl Z i) (zW Z i) (gAt Z i (zBh Z i - (i + 1))).2.1) = true
        · rw [if_pos q]
        · rw [if_neg q]
      have u8 : M25.1 (7 + 5 * I i + 4) 8 = oF Z Ta i + (gOf Z i).1.1 := by
        rw [d3]
        unfold gOf gFl
        by_cases q : uHs (uEnd (zSz Z) (zCl Z i) (zW Z i) (gAt Z i (zBh Z i - (i + 1))).2.1) = true
        · rw [if_pos q, if_pos q]
        · rw [if_neg q, if_neg q, g8]
      have u9 : M25.1 (7 + 5 * I i + 4) 9 = (gOf Z i).1.2.1 := by
        rw [d4]
        unfold gOf gFl
        by_cases q : uHs (uEnd (zSz Z) (zCl Z i) (zW Z i) (gAt Z i (zBh Z i - (i + 1))).2.1) = true
        · rw [if_pos q, if_pos q]
        · rw [if_neg q, if_neg q, g9]
      rw [← u1] at d2
      have f24 : fK n nc I Z i (i + 1) (zBh Z i) M23 M25 := fK_t c5 (fK_2 d5)
      have k25 : ∀ j, ¬ (j = 8 ∨ j = 9) → M25.1 (7 + 5 * I i + 4) j = M17.1 (7 + 5 * I i + 4) j := fun j hj => by
        rw [f24.1 _ _ (by omega) (fun ⟨j, h1, h2, h3, _, h5⟩ => by
          have := hW.2.2.2.2.1 j i h3 hi (by omega)
          omega) (fun ⟨q, _, _, _, h4, _⟩ => (by omega)) (fun ⟨q, ⟨hq, _⟩, h4, _⟩ => (by omega)) (by omega), k23]
      refine lb_f hV' hi hib (by rw [k25 _ (by omega)]; exact t0) (by rw [k25 _ (by omega)]; exact t1) (by rw [k25 _ (by omega)]; exact t2) (by rw [k25 _ (by omega)]; exact t3) (by rw [k25 _ (by omega)]; exact t6) ?_ (fun j j1 j2 j3 => ?_) (fun q q1 q2 q3 => ?_) ?_ (fR_t f17 (fR_t f23 (fR_K hW hP hQ.1 hi hib (by omega) (Nat.le_refl _) f24)))
      · rw [u8, u9, Int32.add_assoc]
        have : hCt Z i = (gOf Z i).1.1 + (gOf Z i).1.2.1 := by
          unfold hCt
          rw [if_neg h104, if_neg h114]
        rw [this]
      · refine cBf_k (c3 j (by omega) j2 j3) (fun x hx => d5.1 _ _ (by have := (hW.2.1 j (by omega)).1; omega) (fun ⟨q, _, _, h4, _⟩ => by have := (hW.2.1 j (by omega)).1; omega) (by omega))
      · obtain ⟨p1, p2⟩ := in_box hV' hi hib q1 q2 q3
        by_cases e : zBo Z (zNq Z q) = i
        · have l := d2.2 q q1 ⟨q1, e⟩
          unfold cLf zPx zPy
          rw [e]
          refine ⟨l.1, fun x hx => ?_⟩
          obtain ⟨l1, l2, l3⟩ := l.2 x hx
          exact ⟨l1, l2, l3 (by rw [show uLn (gOf Z i).2.1 = [] from gFl_ln Z i _]; exact List.not_mem_nil)⟩
        · refine cLf_k (c4 q q1 (by omega) q3 e) (fun x _ _ => d5.1 _ _ (by omega) (fun ⟨q', _, hs, h4, _⟩ => ?_) (by omega))
          have : q' = q := by omega
          rw [this] at hs
          exact e hs.2
      · rw [d2.1, esm, enl, Int32.add_assoc, Int32.add_comm (sumF (zNl Z) (i + 1) (zBh Z i - (i + 1)))]
theorem t_all (hV : EV n nc I pj dp Z Ta w) : ∀ m, LIp n nc I pj dp Z Ta m ∧ LCp n nc I pj dp Z Ta m
  | 0 => ⟨t_li0, t_lc0⟩
  | m + 1 => by
    obtain ⟨h1, h2⟩ := t_all hV m
    have hB := t_lb hV h1 h2
    exact ⟨t_li hV hB h1, t_lcs hV hB h2⟩
theorem t_box (hV : EV n nc I pj dp Z Ta w) (m : Nat) : LBp n nc I pj dp Z Ta (m + 1) := t_lb hV (t_all hV m).1 (t_all hV m).2
end CL8
