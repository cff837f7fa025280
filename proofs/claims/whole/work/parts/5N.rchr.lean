/-! the reference's side: characters -/
theorem plT_tr {s : aT} (w : Wf s) : (plT (sNm s) (sSf s) (sH s)).isSome = trS (sNm s (sSf s (sH s - 1))) := by
  have hh : 1 ≤ sH s ∧ sH s ≤ sN s := w.1.2.2.1
  unfold plT trS
  by_cases h : sNm s (sSf s (sH s - 1)) = 116 ∨ sNm s (sSf s (sH s - 1)) = 114
  · rw [if_pos h]
    simp only [h, decide_true]
    cases hl : lastI (fun j => sNm s (sSf s j) == 116) (sH s) with
    | some j => rfl
    | none =>
      exfalso
      rcases h with h | h
      · have := lastI_no hl (sH s - 1) (by omega)
        simp [h] at this
      · have r := w.2.2.2.2.2.1 (sH s - 1) (by omega) h
        have := lastI_no hl (sH s - 1 - 1) (by omega)
        simp [r.2] at this
  · rw [if_neg h]
    simp [h]
/-- what stands ahead of the place -/
theorem prv {s : aT} (w : Wf s) {pre A B : List (Nat × Nat)} {d : Nat} (ht : wT s pre) (hp : plc s (sH s) pre A B d) : ∃ A1 z e1 S1, A = A1 ++ (z, e1) :: S1 ∧ (∀ q ∈ S1, d < q.2) ∧ ((e1 = d ∧ s_nbp s = some z) ∨ (e1 < d ∧ s_nbp s = none ∧ sNm s z ≠ 1)) := by
  have hb : ∀ k, k < sH s → sSf s k < sN s := w.1.2.2.2.1
  have hh : 1 ≤ sH s ∧ sH s ≤ sN s := w.1.2.2.1
  obtain ⟨t1, t2, t3, t4⟩ := ht
  obtain ⟨hl, ⟨hp1, A', S, ep, hA, hS, hB, hd⟩ | ⟨j, B', hp1, hB⟩⟩ := hp
  · have htop := hb (sH s - 1) (by omega)
    obtain ⟨A2, S2, B2, e2, q1, q2, _, q4, _⟩ := Fo_at t1 _ ((t3 _).mpr htop)
    have e0 : A' ++ (sSf s (sH s - 1), ep) :: (S ++ B) = A2 ++ (sSf s (sH s - 1), e2) :: (S2 ++ B2) := by
      rw [← q1, hl, hA]
      simp
    obtain ⟨u1, u2, u3⟩ := at_uniq e0 (by rw [e0, ← q1]; exact t2)
    subst u2
    obtain ⟨u4, u5⟩ := sp_uniq u3 hS (fun q hq => Fo_ge q2 q hq) hB q4
    subst u4
    have hnbp : s_nbp s = (sKd s (sSf s (sH s - 1))).getLast? := by unfold s_nbp; rw [hp1]
    rcases List.eq_nil_or_concat (sKd s (sSf s (sH s - 1))) with hk | ⟨K, t, hk⟩
    · rw [hk] at q2
      have := Fo_nil_inv q2
      subst this
      refine ⟨A', sSf s (sH s - 1), ep, [], hA, fun q hq => (by cases hq), Or.inr ⟨by omega, by rw [hnbp, hk]; rfl, fun q => ?_⟩⟩
      by_cases q0 : sH s - 1 = 0
      · rw [q0, w.2.2.2.2.1.1, w.2.2.2.1.1] at q
        omega
      · have := w.2.2.2.2.1.2 (sH s - 1) (by omega) (by omega)
        omega
    · rw [List.concat_eq_append] at hk
      rw [hk] at q2
      obtain ⟨o1, o2, e3, g1, g2⟩ := Fo_app_inv q2
      obtain ⟨L1, L2, e4, g3, g4⟩ := Fo_cons_inv g2
      have := Fo_nil_inv g4
      subst this
      subst e4
      subst e3
      refine ⟨A' ++ (sSf s (sH s - 1), ep) :: o1, t, ep + 1, L1, by rw [hA]; simp, fun q hq => by have := Fo_ge g3 q hq; omega, Or.inl ⟨hd.symm, by rw [hnbp, hk]; simp⟩⟩
  · obtain ⟨p, K1, K2, p1, p2, p3⟩ := W_tab w (Nat.le_refl _) hp1
    obtain ⟨A2, S2, B2, e2, q1, q2, _, q4, _⟩ := Fo_at t1 _ ((t3 _).mpr p1)
    rw [p3] at q2
    obtain ⟨o1, o2, e3, g1, g2⟩ := Fo_app_inv q2
    obtain ⟨L1, L2, e4, g3, g4⟩ := Fo_cons_inv g2
    subst e4
    subst e3
    have e0 : A ++ (sSf s j, d) :: B' = (A2 ++ (p, e2) :: o1) ++ (sSf s j, e2 + 1) :: (L1 ++ L2 ++ B2) := by
      rw [← hB, ← hl, q1]
      simp
    obtain ⟨u1, u2, u3⟩ := at_uniq e0 (by rw [← hB, ← hl]; exact t2)
    have hnbp : s_nbp s = K1.getLast? := by
      unfold s_nbp
      rw [hp1]
      exact s_bef_s w p1 p3
    rcases List.eq_nil_or_concat K1 with hk | ⟨K, t, hk⟩
    · rw [hk] at g1
      have := Fo_nil_inv g1
      subst this
      refine ⟨A2, p, e2, [], u1, fun q hq => (by cases hq), Or.inr ⟨by omega, by rw [hnbp, hk]; rfl, fun q => ?_⟩⟩
      rw [w.2.2.2.2.2.2.1 p p1 q] at p3
      simp at p3
    · rw [List.concat_eq_append] at hk
      rw [hk] at g1
      obtain ⟨o3, o4, e5, g5, g6⟩ := Fo_app_inv g1
      obtain ⟨L3, L4, e6, g7, g8⟩ := Fo_cons_inv g6
      have := Fo_nil_inv g8
      subst this
      subst e6
      subst e5
      refine ⟨A2 ++ (p, e2) :: o3, t, e2 + 1, L3, by rw [u1]; simp, fun q hq => by have := Fo_ge g7 q hq; omega, Or.inl ⟨u2.symm, by rw [hnbp, hk]; simp⟩⟩
theorem r_ch54 {M : qM} {pre A1 S1 B : List (Nat × Nat)} {z e1 d : Nat} (ho : rO M pre) (hl : pre.length ≤ 24) (hid : ∀ q ∈ pre, q.1 < 24 ∧ q.2 < 99) (hd : d < 99) (hA : pre = (A1 ++ (z, e1) :: S1) ++ B) (h21 : M.1 0 21 = nI d) (hS : ∀ q ∈ S1, d < q.2) (he : e1 ≤ d) : ∀ m f K, m ≤ S1.length → m < f → f_Md_character_54 M f K (nI (A1.length + m)) = K (nI A1.length) := by
  have hll : pre.length = A1.length + 1 + S1.length + B.length := by rw [hA]; simp; omega
  intro m
  induction m with
  | zero =>
    intro f K _ hf
    obtain ⟨f, rfl⟩ : ∃ g, f = g + 1 := ⟨f - 1, by omega⟩
    have e0 : pre[A1.length]? = some (z, e1) := by rw [hA]; simp
    have a := ho.2 _ _ _ e0
    have hz := hid _ (List.mem_of_getElem? e0)
    have hz1 : z < 24 := hz.1
    have hz2 : e1 < 99 := hz.2
    rw [f_Md_character_54, ← l_0, i_le (by omega) (by omega)]
    by_cases q : A1.length + 0 ≤ 0
    · rw [if_pos q]
      rfl
    · rw [if_neg q, Nat.add_zero]
      simp (disch := omega) only [g_ix, g_cl, a.1, a.2, h21, g_le]
      rw [if_pos he]
  | succ m ih =>
    intro f K hm hf
    obtain ⟨f, rfl⟩ : ∃ g, f = g + 1 := ⟨f - 1, by omega⟩
    have hm2 : m < S1.length := by omega
    have e0 : pre[A1.length + (m + 1)]? = some (S1[m].1, S1[m].2) := by
      rw [hA, List.append_assoc, List.getElem?_append_right (by omega), show A1.length + (m + 1) - A1.length = m + 1 by omega, List.cons_append, List.getElem?_cons_succ, List.getElem?_append_left hm2]
      exact List.getElem?_eq_getElem hm2
    have a := ho.2 _ _ _ e0
    have hz := hid _ (List.mem_of_getElem? e0)
    have hz1 : S1[m].1 < 24 := hz.1
    have hz2 : S1[m].2 < 99 := hz.2
    have hgt := hS _ (List.getElem_mem hm2)
    rw [f_Md_character_54, ← l_0, i_le (by omega) (by omega), if_neg (by omega)]
    simp (disch := omega) only [g_ix, g_cl, a.1, a.2, h21, g_le]
    rw [if_neg (by omega), d_m, show A1.length + (m + 1) = (A1.length + m) + 1 by omega, d_s]
    exact ih f K (by omega) (by omega)
theorem R_let {M : qM} {s : aT} {pre : List (Nat × Nat)} (r : R M s pre) (hnc : sNc s < 160) (t c : Nat) : ∃ M', (q_ix (M.1 0 17) 160 <| q_lt (qsI M 11 (M.1 0 17).toNatClampNeg (nI c)) fun M17 => q_ix (M17.1 0 17) 160 <| q_lt (qsI M17 12 (M17.1 0 17).toNatClampNeg (nI t)) fun M19 => q_lt (qsI M19 0 17 ((M19.1 0 17) + 1)) fun M20 => some M20) = some M' ∧ R M' (s_let s t c) pre ∧ rF M M' := by
  obtain ⟨⟨a1, a2⟩, b, cc, d, e, f⟩ := r
  have k : ∀ p j, ¬ (p = 0 ∧ j = 17) → ¬ ((p = 11 ∨ p = 12) ∧ j = sNc s) → (qsI (qsI (qsI M 11 (sNc s) (nI c)) 12 (sNc s) (nI t)) 0 17 (nI (sNc s + 1))).1 p j = M.1 p j := fun p j h1 h2 => by
    rw [g_In h1, g_In (by omega), g_In (by omega)]
  refine ⟨qsI (qsI (qsI M 11 (sNc s) (nI c)) 12 (sNc s) (nI t)) 0 17 (nI (sNc s + 1)), ?_, ?_, fun p j h => k p j (by omega) (by omega)⟩
  · simp (disch := omega) only [f.1, g_ix, g_cl, q_lt, g_In, g_inc]
  · unfold s_let
    rw [if_pos hnc]
    refine ⟨⟨by rw [k _ _ (by omega) (by omega)]; exact a1, a2⟩, ⟨by rw [k _ _ (by omega) (by omega)]; exact b.1, fun i hi => ?_⟩, ⟨by rw [k _ _ (by omega) (by omega)]; exact cc.1, fun i x y hi => ?_⟩, ⟨by rw [k _ _ (by omega) (by omega)]; exact d.1, fun i hi => ?_⟩, ⟨by rw [k _ _ (by omega) (by omega)]; exact e.1, fun i x y hi => ?_⟩, ⟨g_Ie ⟨rfl, rfl⟩, fun q hq => ?_⟩⟩
    · rw [k _ _ (by omega) (by omega), k _ _ (by omega) (by omega)]
      exact b.2 i hi
    · rw [k _ _ (by omega) (by omega), k _ _ (by omega) (by omega)]
      exact cc.2 i x y hi
    · rw [k _ _ (by omega) (by omega)]
      exact d.2 i hi
    · rw [k _ _ (by omega) (by omega), k _ _ (by omega) (by omega)]
      exact e.2 i x y hi
    · have hq' : q < sNc s + 1 := hq
      show _ = nI (up (sCf s) (sNc s) (c, t) q).1 ∧ _ = nI (up (sCf s) (sNc s) (c, t) q).2
      by_cases h : q = sNc s
      · subst h
        rw [up_e]
        constructor <;> simp (disch := omega) only [g_In, g_Ie]
      · rw [up_n h, k _ _ (by omega) (by omega), k _ _ (by omega) (by omega)]
        exact f.2 q (by omega)
theorem renL_nc : ∀ (es : List Nat) (s : aT), sNc (renL es s) = sNc s
  | [], _ => rfl
  | e :: es, s => by
    unfold renL
    split
    · rw [renL_nc es]
      rfl
    · rfl
/-- a character behind the renewing -/
theorem r_chr2 {M : qM} {s : aT} {pre : List (Nat × Nat)} (r : R M s pre) (w : Wf s) (ht : wT s pre) (hnc : sNc s < 160) {c : Nat} : ∃ M', (q_cv (f_Md_findPlace (M.1 0 13) M) fun M3 => f_Md_character_54 M3 1000 (fun (x10 : Int32) => q_ix x10 40 <| q_ix (M3.1 3 x10.toNatClampNeg) 40 <| q_lt (fun (x13 : Int32) (M14 : qM) => if (M14.1 0 4) = 0 then (q_ix (M14.1 0 17) 160 <| q_lt (qsI M14 11 (M14.1 0 17).toNatClampNeg (nI c)) fun M17 => q_ix (M17.1 0 17) 160 <| q_lt (qsI M17 12 (M17.1 0 17).toNatClampNeg x13) fun M19 => q_lt (qsI M19 0 17 ((M19.1 0 17) + 1)) fun M20 => some M20) else (some M14)) fun (j21 : Int32 → qM → Option qM) => q_lt (q_cl (f_Md_create 1 0 M3) fun x22 M23 => j21 x22 M23) fun (j24 : Option qM) => if (M3.1 4 (M3.1 3 x10.toNatClampNeg).toNatClampNeg) = 1 then (q_ix (M3.1 3 x10.toNatClampNeg) 40 <| if (M3.1 6 (M3.1 3 x10.toNatClampNeg).toNatClampNeg) = (M3.1 0 21) then (j21 (M3.1 3 x10.toNatClampNeg) M3) else (j24)) else (j24)) ((M3.1 0 20) - 1)) = some M' ∧ RO M M' (s_chr2 s c) := by
  have hh : 1 ≤ sH s ∧ sH s ≤ sN s := w.1.2.2.1
  have h24 := w.1.1.2
  obtain ⟨A, B, d, hp, hd, ht'⟩ := new_pre w ht 1 0
  have hid := wT_id w ht
  have hid' : ∀ q ∈ pre, q.1 < 24 ∧ q.2 < 99 := fun q hq => by have := hid q hq; omega
  have hlen : pre.length = sN s := ht.2.2.2
  have e1 := r_fp w r.2.1 r.2.2.2.1 hh.1 (Nat.le_refl _) r.2.2.1 (by omega) hid' ht.2.1 hp
  obtain ⟨A1, z, ez, S1, hA, hS, hz⟩ := prv w ht hp
  obtain ⟨r1, f1⟩ := R_pl r (nI A.length) (nI d)
  obtain ⟨M1, n1, n2, n3, n4⟩ := r_newT r w ht 1 0
  rw [e1] at n1
  have n1' := Option.some.inj n1
  subst n1'
  have e20 : (qsI (qsI M 0 20 (nI A.length)) 0 21 (nI d)).1 0 20 = nI A.length := by rw [g_In (by omega), g_Ie ⟨rfl, rfl⟩]
  have e21 : (qsI (qsI M 0 20 (nI A.length)) 0 21 (nI d)).1 0 21 = nI d := g_Ie ⟨rfl, rfl⟩
  have hAl : A.length = (A1.length + S1.length) + 1 := by rw [hA]; simp; omega
  have hpl : pre.length = A.length + B.length := by rw [hp.1]; simp
  have hez : ez ≤ d := by rcases hz with h | h <;> omega
  have ho1 := r1.2.2.1
  have eZ : pre[A1.length]? = some (z, ez) := by rw [hp.1, hA]; simp
  have aZ := ho1.2 _ _ _ eZ
  have hzm := hid _ (List.mem_of_getElem? eZ)
  have hz1 : z < sN s := hzm.1
  have hz2 : ez < 24 := hzm.2
  have nZ := (r1.2.1.2 z hz1).1
  have hnm := w.1.2.1 z hz1
  rw [r.2.2.2.1.1, e1]
  simp only [q_cv]
  rw [e20, hAl, show nI (A1.length + S1.length + 1) - 1 = nI (A1.length + S1.length) from d_s _, ← hAl]
  rw [r_ch54 ho1 (by omega) hid' hd (by rw [hp.1, hA]) e21 hS hez S1.length 1000 _ (Nat.le_refl _) (by omega)]
  simp (disch := omega) only [g_ix, g_cl, aZ.1, aZ.2, nZ, q_lt, e21, g_eq]
  rw [show (1 : Int32) = nI 1 from rfl]
  simp (disch := omega) only [g_eq]
  -- a new text
  have new : ∃ M', (q_cl (f_Md_create (nI 1) 0 (qsI (qsI M 0 20 (nI A.length)) 0 21 (nI d))) fun x22 M23 => if (M23.1 0 4) = 0 then (q_ix (M23.1 0 17) 160 <| q_lt (qsI M23 11 (M23.1 0 17).toNatClampNeg (nI c)) fun M17 => q_ix (M17.1 0 17) 160 <| q_lt (qsI M17 12 (M17.1 0 17).toNatClampNeg x22) fun M19 => q_lt (qsI M19 0 17 ((M19.1 0 17) + 1)) fun M20 => some M20) else (some M23)) = some M' ∧ RO M M' (s_chr3 s c) := by
    unfold s_chr3
    rcases n4 with ⟨hn, M2, pre', b1, b2', b3, b4⟩ | ⟨hn, b1⟩
    · rw [b1, if_pos hn]
      simp only [q_cl]
      rw [if_pos b2'.1.1]
      obtain ⟨M', c1, c2, c3⟩ := R_let b2' (show sNc s < 160 from hnc) (sN s) c
      refine ⟨M', c1, Or.inl ⟨?_, pre', c2, ?_⟩, rF_t f1 (rF_t b4 c3)⟩
      · exact c2.1.2
      · unfold s_let
        rw [if_pos (show sNc (s_new s 1 0) < 160 from hnc)]
        exact b3
    · rw [b1, if_neg (by omega)]
      simp only [q_cl]
      rw [g_Ie ⟨rfl, rfl⟩, if_neg (by decide)]
      exact ⟨_, rfl, Or.inr ⟨rfl, g_Ie ⟨rfl, rfl⟩⟩, rF_t f1 fun p j h => g_In (by omega)⟩
  simp only [q_lt] at new
  rcases hz with ⟨hz3, hz4⟩ | ⟨hz3, hz4, hz5⟩
  · unfold s_chr2
    rw [hz4]
    show ∃ M', _ ∧ RO M M' (if sNm s z = 1 then s_let s z c else s_chr3 s c)
    by_cases q : sNm s z = 1
    · rw [if_pos q, if_pos q, if_pos hz3, if_pos r1.1.1]
      obtain ⟨M', c1, c2, c3⟩ := R_let r1 hnc z c
      simp only [q_lt] at c1
      refine ⟨M', c1, Or.inl ⟨c2.1.2, pre, c2, ?_⟩, rF_t f1 c3⟩
      unfold s_let
      rw [if_pos hnc]
      exact ht
    · rw [if_neg q, if_neg q]
      exact new
  · unfold s_chr2
    rw [hz4, if_neg hz5]
    exact new
theorem r_chr {M : qM} {s : aT} {pre : List (Nat × Nat)} (r : R M s pre) (w : Wf s) (ht : wT s pre) (hnc : sNc s < 160) {c : Nat} (hc : c < 200) (wr : Wf (s_renew s)) : ∃ M', f_Md_character (nI c) M = some M' ∧ RO M M' (s_chr s c) := by
  have hh : 1 ≤ sH s ∧ sH s ≤ sN s := w.1.2.2.1
  have h24 := w.1.1.2
  obtain ⟨M1, a1, a2, a3⟩ := r_renew r w ht
  have hncr : sNc (s_renew s) < 160 := by
    unfold s_renew
    rw [renL_nc]
    exact hnc
  have key : ∃ M', (q_cv (f_Md_renew M) fun M1 => if (M1.1 0 4) = 0 then (q_cv (f_Md_findPlace (M1.1 0 13) M1) fun M3 => f_Md_character_54 M3 1000 (fun (x10 : Int32) => q_ix x10 40 <| q_ix (M3.1 3 x10.toNatClampNeg) 40 <| q_lt (fun (x13 : Int32) (M14 : qM) => if (M14.1 0 4) = 0 then (q_ix (M14.1 0 17) 160 <| q_lt (qsI M14 11 (M14.1 0 17).toNatClampNeg (nI c)) fun M17 => q_ix (M17.1 0 17) 160 <| q_lt (qsI M17 12 (M17.1 0 17).toNatClampNeg x13) fun M19 => q_lt (qsI M19 0 17 ((M19.1 0 17) + 1)) fun M20 => some M20) else (some M14)) fun (j21 : Int32 → qM → Option qM) => q_lt (q_cl (f_Md_create 1 0 M3) fun x22 M23 => j21 x22 M23) fun (j24 : Option qM) => if (M3.1 4 (M3.1 3 x10.toNatClampNeg).toNatClampNeg) = 1 then (q_ix (M3.1 3 x10.toNatClampNeg) 40 <| if (M3.1 6 (M3.1 3 x10.toNatClampNeg).toNatClampNeg) = (M3.1 0 21) then (j21 (M3.1 3 x10.toNatClampNeg) M3) else (j24)) else (j24)) ((M3.1 0 20) - 1)) else (some M1)) = some M' ∧ RO M M' (s_chr2 (s_renew s) c) := by
    rw [a1]
    simp only [q_cv]
    rcases a2 with ⟨b1, pre1, b2', b3⟩ | ⟨b1, b2'⟩
    · rw [if_pos b2'.1.1]
      obtain ⟨M', c1, c2, c3⟩ := r_chr2 (c := c) b2' wr b3 hncr
      exact ⟨M', c1, c2, rF_t a3 c3⟩
    · rw [if_neg (by rw [b2']; decide)]
      refine ⟨M1, rfl, Or.inr ⟨?_, b2'⟩, a3⟩
      -- a broken page stays broken
      have l1 : ∀ t u, sB (s_let (s_renew s) t u) = true := fun t u => by unfold s_let; split <;> exact b1
      unfold s_chr2
      cases s_nbp (s_renew s) with
      | none =>
        show sB (s_chr3 (s_renew s) c) = true
        unfold s_chr3
        split
        · unfold s_let
          split <;> exact b1
        · rfl
      | some t =>
        show sB (if sNm (s_renew s) t = 1 then s_let (s_renew s) t c else s_chr3 (s_renew s) c) = true
        split
        · exact l1 t c
        · unfold s_chr3
          split
          · unfold s_let
            split <;> exact b1
          · rfl
  obtain ⟨M', k1, k2⟩ := key
  have e0 : M.1 0 13 - 1 = nI (sH s - 1) := by
    rw [r.2.2.2.1.1]
    obtain ⟨k, hk⟩ : ∃ k, sH s = k + 1 := ⟨sH s - 1, by omega⟩
    rw [hk]
    exact d_s k
  have hX : f_Md_character (nI c) M = if nI c = nI 32 then (q_ix ((M.1 0 13) - 1) 40 <| q_bp (f_Md_named (M.1 8 ((M.1 0 13) - 1).toNatClampNeg) 655360 M) fun x31 => if x31 = 0 then (some M') else (some M)) else (some M') := by
    rw [← k1]
    rfl
  unfold s_chr
  rw [hX, i_eq (by omega) (by omega), e0]
  have htop := w.1.2.2.2.1 (sH s - 1) (by omega)
  by_cases h32 : c = 32
  · rw [if_pos h32, g_ix (by omega) (by omega), g_cl (by omega), r.2.2.2.1.2 _ (by omega), r_named w r.2.1 htop bit_tr, plT_tr w]
    show ∃ M'', (if b2 (trS (sNm s (sSf s (sH s - 1)))) = 0 then (some M') else (some M)) = some M'' ∧ _
    rw [i_b2]
    by_cases ht' : trS (sNm s (sSf s (sH s - 1))) = true
    · rw [if_neg (by simp [ht']), if_pos ⟨h32, ht'⟩]
      exact ⟨M, rfl, Or.inl ⟨r.1.2, pre, r, ht⟩, rF_r M⟩
    · rw [if_pos (by simpa using ht'), if_neg (fun h => ht' h.2)]
      exact ⟨M', rfl, k2⟩
  · rw [if_neg h32, if_neg (fun h => h32 h.1)]
    exact ⟨M', rfl, k2⟩
