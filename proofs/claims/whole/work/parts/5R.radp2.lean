/-! the reference's side: an element taken over, put together -/
theorem adp_wT {s : aT} (w : Wf s) {pre : List (Nat × Nat)} (ht : wT s pre) {e b : Nat} (h1 : 1 ≤ e) (h2 : e < b) (h3 : b < sH s) (hn : sN s < 24) {X U Y A B : List (Nat × Nat)} {eb d : Nat} (g1 : pre = X ++ (sSf s b, eb) :: (U ++ Y)) (g2 : X ++ Y = A ++ B) (g3 : Fo (sKd (s_adp3 s e b)) 0 [0] (A ++ (sSf s b, d) :: (sh eb d U ++ B))) (g4 : ∀ q ∈ B.head?, q.2 ≤ d) (g5 : ∀ q ∈ U, eb < q.2) : wT (s_adp s e b) (A ++ (sSf s b, d) :: (sN s, d + 1) :: (sh eb (d + 1) U ++ B)) := by
  obtain ⟨pm, f4⟩ := adp_pre4 w ht h1 h2 h3 g1 g2 g3 g4 g5
  have eS : sh (d + 1) (d + 2) (sh eb d U) = sh eb (d + 1) U := by
    unfold sh
    rw [List.map_map]
    refine List.map_congr_left fun q hq => ?_
    have := g5 q hq
    show (q.1, q.2 - eb + d - (d + 1) + (d + 2)) = (q.1, q.2 - eb + (d + 1))
    rw [show q.2 - eb + d - (d + 1) + (d + 2) = q.2 - eb + (d + 1) by omega]
  rw [eS] at f4
  have e1 : A ++ (sSf s b, d) :: ((sN s, d + 1) :: sh eb (d + 1) U ++ B) = A ++ (sSf s b, d) :: (sN s, d + 1) :: (sh eb (d + 1) U ++ B) := rfl
  rw [e1] at f4
  have pm4 : (fI (A ++ (sSf s b, d) :: (sN s, d + 1) :: (sh eb (d + 1) U ++ B))).Perm (sN s :: fI pre) := by
    refine List.Perm.trans ?_ (List.Perm.cons (sN s) pm)
    rw [fI_app, fI_cons, fI_cons, fI_app, sh_fI, fI_app, fI_cons, fI_app, sh_fI]
    have q : fI A ++ sSf s b :: sN s :: (fI U ++ fI B) = (fI A ++ [sSf s b]) ++ sN s :: (fI U ++ fI B) := by simp
    have q2 : sN s :: (fI A ++ sSf s b :: (fI U ++ fI B)) = sN s :: ((fI A ++ [sSf s b]) ++ (fI U ++ fI B)) := by simp
    show (fI A ++ sSf s b :: sN s :: (fI U ++ fI B)).Perm _
    rw [q, q2]
    exact List.perm_middle
  have nN : sN s ∉ fI pre := fun m => by
    have := (ht.2.2.1 _).mp m
    omega
  have hlen : pre.length = sN s := ht.2.2.2
  unfold s_adp
  rw [if_pos hn]
  refine ⟨f4, pm4.nodup_iff.mpr (List.nodup_cons.mpr ⟨nN, ht.2.1⟩), fun i => ?_, ?_⟩
  · rw [pm4.mem_iff, List.mem_cons, ht.2.2.1]
    show _ ↔ i < sN s + 1
    omega
  · have h1 := congrArg List.length g1
    have h2 := congrArg List.length g2
    show _ = sN s + 1
    simp [sh_len] at h1 h2 ⊢
    omega
def ad_E (a1 a2 x7 b8 : Int32) (M28 : qM) : qM → Option qM := fun M62 => q_lt (qsI M62 0 13 ((M62.1 0 13) - (x7 - a1))) fun M63 => q_lt (qsI M63 0 20 ((M28.1 0 20) + 1)) fun M64 => q_ix b8 40 <| q_lt (qsI M64 0 21 ((M64.1 6 b8.toNatClampNeg) + 1)) fun M66 => q_ix a2 40 <| q_ix a2 40 <| q_cl (f_Md_create (M66.1 4 a2.toNatClampNeg) (M66.1 5 a2.toNatClampNeg) M66) fun x69 M70 => q_ix (0 : Int32) 40 <| q_lt (qsI M70 7 (0 : Int32).toNatClampNeg x69) fun M72 => some M72
def ad_D (a1 a2 x7 x9 x10 b8 : Int32) (M28 : qM) (x30 : Int32) : qM → Option qM := fun M38 => q_lt (qsI M38 0 5 ((M38.1 0 5) + (x10 - x9))) fun M39 => f_Md_adopt_217 x10 x9 M28 x30 1000 (fun (M54 : qM) => f_Md_adopt_279 a1 x7 1000 (ad_E a1 a2 x7 b8 M28) x7 M54) 0 M39
def ad_C (a1 a2 x7 x9 x10 b8 : Int32) : qM → Option qM := fun M27 => q_cv (f_Md_findPlace a1 M27) fun M28 => q_ix b8 40 <| q_lt ((M28.1 0 21) - (M28.1 6 b8.toNatClampNeg)) fun x30 => f_Md_adopt_173 M28 x10 x9 1000 (ad_D a1 a2 x7 x9 x10 b8 M28 x30) ((M28.1 0 5) - 1) M28
def ad_B (a1 a2 x7 x9 x10 b8 : Int32) : qM → Option qM := fun M18 => q_lt (qsI M18 0 5 ((M18.1 0 5) - (x10 - x9))) fun M19 => f_Md_adopt_108 x10 x9 1000 (ad_C a1 a2 x7 x9 x10 b8) x9 M19
def ad_A (a1 a2 : Int32) (M : qM) : Int32 → Option qM := fun x7 => q_ix x7 40 <| q_bp (f_Md_seat (M.1 8 x7.toNatClampNeg) M) fun x9 => q_bp (f_Md_behind x9 M) fun x10 => f_Md_adopt_63 x10 x9 1000 (ad_B a1 a2 x7 x9 x10 (M.1 8 x7.toNatClampNeg)) 0 M
theorem ad_eq (a1 a2 : Int32) (M : qM) : f_Md_adopt a1 a2 M = f_Md_adopt_4 M 1000 (ad_A a1 a2 M) (a1 + 1) := rfl
theorem r_adp {M : qM} {s : aT} {pre : List (Nat × Nat)} (r : R M s pre) (w : Wf s) (ht : wT s pre) {e b : Nat} (h1 : 1 ≤ e) (h2 : e < b) (h3 : b < sH s) (hf : fstI (fun j => inS 3 (sNm s (sSf s j))) (sH s - (e + 1)) (e + 1) = some b) : ∃ M', f_Md_adopt (nI e) (nI (sSf s e)) M = some M' ∧ RO M M' (s_adp s e b) := by
  have hh : 1 ≤ sH s ∧ sH s ≤ sN s := w.1.2.2.1
  have h24 := w.1.1.2
  have hb : ∀ k, k < sH s → sSf s k < sN s := w.1.2.2.2.1
  have hbb := hb b h3
  have hbe := hb e (by omega)
  have hid := wT_id w ht
  have hid' : ∀ q ∈ pre, q.1 < 24 ∧ q.2 < 99 := fun q hq => by have := hid q hq; omega
  have hlen : pre.length = sN s := ht.2.2.2
  obtain ⟨X, U, Y, A, B, eb, d, g1, g2, g3, g4, g5, g6, g7, g8, g9⟩ := adp_pre w ht h1 h2 h3
  have hU : ∀ q ∈ U, eb < q.2 := fun q hq => Fo_ge g2 q hq
  have l1 : X.length + (U.length + 1) + Y.length = sN s := by
    have := congrArg List.length g1
    simp at this
    omega
  have l2 : A.length + B.length = X.length + Y.length := by
    have := congrArg List.length g5
    simp at this
    omega
  have heb : eb < 24 := (hid (sSf s b, eb) (by rw [g1]; simp)).2
  have hplc : plc s e (X ++ Y) A B d := ⟨g5, g9⟩
  have hd99 : d < 99 := by
    rcases g9 with ⟨_, A', S, ep, hA, _, _, hd⟩ | ⟨j, B', _, hB⟩
    · have m : (sSf s (e - 1), ep) ∈ X ++ Y := by rw [g5, hA]; simp
      have := (hid' (sSf s (e - 1), ep) (by rw [g1]; simp at m ⊢; rcases m with m | m <;> simp [m])).2
      have : ep < 99 := this
      have h24' : (hid (sSf s (e - 1), ep) (by rw [g1]; simp at m ⊢; rcases m with m | m <;> simp [m])).2 = _ := rfl
      have := (hid (sSf s (e - 1), ep) (by rw [g1]; simp at m ⊢; rcases m with m | m <;> simp [m])).2
      have : ep < 24 := this
      omega
    · have m : (sSf s j, d) ∈ X ++ Y := by rw [g5, hB]; simp
      have := (hid (sSf s j, d) (by rw [g1]; simp at m ⊢; rcases m with m | m <;> simp [m])).2
      have : d < 24 := this
      omega
  -- the block and where it ends
  have e8 : M.1 8 b = nI (sSf s b) := r.2.2.2.1.2 b h3
  have eseat := r_seat r.2.2.1 (by omega) (fun q hq => (hid' q hq).1) ht.2.1 g1
  have ebeh := r_beh r.2.2.1 (by omega) hid' g1 hU g3
  rw [show X.length + 1 + U.length = X.length + (U.length + 1) by omega] at ebeh
  have es : nI (X.length + (U.length + 1)) - nI X.length = nI (U.length + 1) := by rw [g_sub (by omega), Nat.add_sub_cancel_left]
  -- moved
  obtain ⟨M18, a1, a2, a3, a4⟩ := r_ad63 (x := X.length) (n := U.length + 1) (by omega) (U.length + 1) 0 1000 (ad_B (nI e) (nI (sSf s e)) (nI b) (nI X.length) (nI (X.length + (U.length + 1))) (nI (sSf s b))) M (by omega) (by omega)
  have c5 : M18.1 0 5 - (nI (X.length + (U.length + 1)) - nI X.length) = nI (X.length + Y.length) := by
    rw [a2 _ _ (by omega), r.2.2.1.1, es, g_sub (by omega)]
    congr 1
    omega
  -- taken out
  obtain ⟨M27, b1, b2', b3, b4⟩ := r_ad108 (x := X.length) (n := U.length + 1) (c := X.length + Y.length) (by omega) (by omega) Y.length X.length 1000 (ad_C (nI e) (nI (sSf s e)) (nI b) (nI X.length) (nI (X.length + (U.length + 1))) (nI (sSf s b))) (qsI M18 0 5 (nI (X.length + Y.length))) (g_Ie ⟨rfl, rfl⟩) rfl (by omega)
  have k27 : ∀ p j, p ≠ 3 → p ≠ 7 → ¬ (p = 0 ∧ j = 5) → M27.1 p j = M.1 p j := fun p j q1 q2 q3 => by
    rw [b2' p j q1, g_In q3, a2 p j q2]
  have o18 : ∀ j, (qsI M18 0 5 (nI (X.length + Y.length))).1 3 j = M.1 3 j := fun j => by rw [g_In (by omega), a2 _ _ (by omega)]
  have ro27 : rO M27 (X ++ Y) := by
    refine ⟨?_, fun k i x hk => ?_⟩
    · rw [b2' _ _ (by omega), g_Ie ⟨rfl, rfl⟩]
      simp
    · rw [k27 6 i (by omega) (by omega) (by omega)]
      rw [List.getElem?_append] at hk
      split at hk
      · rename_i hlt
        rw [b4 k hlt, o18]
        exact r.2.2.1.2 k i x (by rw [g1, List.getElem?_append, if_pos hlt]; exact hk)
      · rename_i hge
        have hk2 : k - X.length < Y.length := (List.getElem?_eq_some_iff.mp hk).1
        rw [b3 k (by omega) (by omega), o18]
        refine r.2.2.1.2 _ i x ?_
        rw [g1, List.getElem?_append, if_neg (by omega), show k + (U.length + 1) - X.length = (k - X.length + U.length) + 1 by omega, List.getElem?_cons_succ, List.getElem?_append, if_neg (by omega), show k - X.length + U.length - U.length = k - X.length by omega]
        exact hk
  have rn27 : rNm M27 s := ⟨by rw [k27 _ _ (by omega) (by omega) (by omega)]; exact r.2.1.1, fun i hi => by rw [k27 _ _ (by omega) (by omega) (by omega), k27 _ _ (by omega) (by omega) (by omega)]; exact r.2.1.2 i hi⟩
  have rs27 : rSt M27 s := ⟨by rw [k27 _ _ (by omega) (by omega) (by omega)]; exact r.2.2.2.1.1, fun i hi => by rw [k27 _ _ (by omega) (by omega) (by omega)]; exact r.2.2.2.1.2 i hi⟩
  have mXY : ∀ q ∈ X ++ Y, q ∈ pre := fun q hq => by
    rw [g1]
    simp at hq ⊢
    rcases hq with m | m
    · exact Or.inl m
    · exact Or.inr (Or.inr (Or.inr m))
  have ndXY : (fI (X ++ Y)).Nodup := by
    have nd := ht.2.1
    rw [g1, fI_app, fI_cons, fI_app] at nd
    rw [fI_app]
    have a := List.nodup_append.mp nd
    have c := List.nodup_append.mp (List.nodup_cons.mp a.2.1).2
    exact List.nodup_append.mpr ⟨a.1, c.2.1, fun x hx y hy => a.2.2 x hx y (by simp [hy])⟩
  have efp := r_fp w rn27 rs27 h1 (by omega) ro27 (by simp; omega) (fun q hq => hid' q (mXY q hq)) ndXY hplc
  -- put in again
  generalize hM28 : qsI (qsI M27 0 20 (nI A.length)) 0 21 (nI d) = M28 at efp
  have k28 : ∀ p j, ¬ (p = 0 ∧ (j = 20 ∨ j = 21)) → M28.1 p j = M27.1 p j := fun p j q => by
    rw [← hM28, g_In (by omega), g_In (by omega)]
  have e20 : M28.1 0 20 = nI A.length := by rw [← hM28, g_In (by omega), g_Ie ⟨rfl, rfl⟩]
  have e21 : M28.1 0 21 = nI d := by rw [← hM28, g_Ie ⟨rfl, rfl⟩]
  have e6b : M28.1 6 (sSf s b) = nI eb := by
    rw [k28 _ _ (by omega), k27 _ _ (by omega) (by omega) (by omega)]
    exact (r.2.2.1.2 X.length _ _ (by rw [g1]; simp)).2
  have e5 : M28.1 0 5 - 1 = dI (X.length + Y.length) := by
    rw [k28 _ _ (by omega), ro27.1, d_k]
    simp
  obtain ⟨M38, c1, c2, c3, c4⟩ := r_ad173 (x := X.length) (n := U.length + 1) (a := A.length) (M28 := M28) (by omega) (by omega) e20 (by omega) (X.length + Y.length - A.length) (X.length + Y.length) 1000 (ad_D (nI e) (nI (sSf s e)) (nI b) (nI X.length) (nI (X.length + (U.length + 1))) (nI (sSf s b)) M28 (nI d - nI eb)) M28 (by omega) (by omega) (by omega)
  have c5' : M38.1 0 5 + (nI (X.length + (U.length + 1)) - nI X.length) = nI (sN s) := by
    rw [c2 _ _ (by omega), k28 _ _ (by omega), ro27.1, es, g_add]
    congr 1
    simp
    omega
  have ndV : (fI ((sSf s b, eb) :: U)).Nodup := by
    have nd := ht.2.1
    rw [g1, fI_app, fI_cons, fI_app] at nd
    have a := List.nodup_append.mp nd
    have n1 := List.nodup_cons.mp a.2.1
    exact List.nodup_cons.mpr ⟨fun m => n1.1 (List.mem_append.mpr (Or.inl m)), (List.nodup_append.mp n1.2).1⟩
  have hVp : ∀ j i x, ((sSf s b, eb) :: U)[j]? = some (i, x) → pre[X.length + j]? = some (i, x) := fun j i x hj => by
    have hj2 : j < U.length + 1 := (List.getElem?_eq_some_iff.mp hj).1
    rw [g1, List.getElem?_append_right (by omega), Nat.add_sub_cancel_left]
    cases j with
    | zero => exact hj
    | succ j =>
      rw [List.getElem?_cons_succ] at hj ⊢
      rw [List.getElem?_append_left (by omega)]
      exact hj
  obtain ⟨M54, d1, d2, d3, d4, d5⟩ := r_ad217 (x := X.length) (n := U.length + 1) (a := A.length) (d := d) (eb := eb) (M28 := M28) (V := (sSf s b, eb) :: U) (by omega) (by simp) e20 (by omega) ndV (fun q hq => by
    rcases List.mem_cons.mp hq with rfl | m
    · exact ⟨by show sSf s b < 24; omega, Nat.le_refl _⟩
    · exact ⟨(hid' q (by rw [g1]; simp [m])).1, Nat.le_of_lt (hU q m)⟩) (U.length + 1) 0 1000 (fun (M54 : qM) => f_Md_adopt_279 (nI e) (nI b) 1000 (ad_E (nI e) (nI (sSf s e)) (nI b) (nI (sSf s b)) M28) (nI b) M54) (qsI M38 0 5 (nI (sN s))) (fun j i x hj => by
      have hj2 : j < U.length + 1 := (List.getElem?_eq_some_iff.mp hj).1
      rw [g_In (by omega), c2 _ _ (by omega), k28 _ _ (by omega), b2' _ _ (by omega), g_In (by omega), a3 j (Nat.zero_le _) hj2]
      exact (r.2.2.1.2 _ i x (hVp j i x hj)).1) (fun j i x _ hj => by
      rw [g_In (by omega), c2 _ _ (by omega), k28 _ _ (by omega), k27 _ _ (by omega) (by omega) (by omega)]
      exact (r.2.2.1.2 _ i x (hVp j i x hj)).2) (by omega) (by omega)
  have k54 : ∀ p j, p ≠ 3 → p ≠ 6 → p ≠ 7 → ¬ (p = 0 ∧ (j = 5 ∨ j = 20 ∨ j = 21)) → M54.1 p j = M.1 p j := fun p j q1 q2 q3 q4 => by
    rw [d2 p j q1 q2, g_In (by omega), c2 p j q1, k28 p j (by omega), k27 p j q1 q3 (by omega)]
  have o54 : M54.1 0 5 = nI (sN s) := by rw [d2 _ _ (by omega) (by omega), g_Ie ⟨rfl, rfl⟩]
  -- the stack
  obtain ⟨M62, f1, f2, f3, f4⟩ := r_ad279 (e := e) (b := b) (h := sH s) (sf := sSf s) h2 (by omega) (by omega) (sH s - b) b 1000 (ad_E (nI e) (nI (sSf s e)) (nI b) (nI (sSf s b)) M28) M54 (by rw [k54 _ _ (by omega) (by omega) (by omega) (by omega)]; exact r.2.2.2.1.1) (fun j q1 q2 => by rw [k54 _ _ (by omega) (by omega) (by omega) (by omega)]; exact r.2.2.2.1.2 j q2) (Nat.le_refl _) (by omega) (by omega)
  have eadopt : f_Md_adopt (nI e) (nI (sSf s e)) M = ad_E (nI e) (nI (sSf s e)) (nI b) (nI (sSf s b)) M28 M62 := by
    rw [ad_eq, g_inc, r_ad4 w r.2.1 r.2.2.2.1 (sH s - (e + 1)) (e + 1) 1000 _ (by omega) (by omega) hf]
    unfold ad_A
    rw [g_ix (by omega) (by omega), g_cl (by omega), e8, eseat, q_bpE, ebeh, q_bpE]
    refine a1.trans ?_
    unfold ad_B
    rw [c5, q_ltE]
    refine b1.trans ?_
    unfold ad_C
    rw [efp, q_cvE, g_ix (by omega) (by omega), g_cl (by omega), e21, e6b, q_ltE, e5]
    refine c1.trans ?_
    unfold ad_D
    rw [c5', q_ltE]
    refine d1.trans ?_
    exact f1
  rw [eadopt]
  unfold ad_E
  have k62 : ∀ p j, p ≠ 8 → M62.1 p j = M54.1 p j := f2
  have e13 : M62.1 0 13 - (nI b - nI e) = nI (sH s - (b - e)) := by
    rw [k62 _ _ (by omega), k54 _ _ (by omega) (by omega) (by omega) (by omega), r.2.2.2.1.1, g_sub (by omega), g_sub (by omega)]
  have ed : M54.1 6 (sSf s b) = nI d := by
    have := (d3 0 (sSf s b) eb (Nat.le_refl _) rfl).2
    rw [this]
    simp
  rw [e13, e20, g_inc, q_ltE, q_ltE, g_ix (by omega) (by omega), g_cl (by omega), q_ltE]
  generalize hM66 : qsI (qsI (qsI M62 0 13 (nI (sH s - (b - e)))) 0 20 (nI (A.length + 1))) 0 21 ((qsI (qsI M62 0 13 (nI (sH s - (b - e)))) 0 20 (nI (A.length + 1))).1 6 (sSf s b) + 1) = M66
  have k66 : ∀ p j, ¬ (p = 0 ∧ (j = 13 ∨ j = 20 ∨ j = 21)) → M66.1 p j = M62.1 p j := fun p j q => by
    rw [← hM66, g_In (by omega), g_In (by omega), g_In (by omega)]
  have kA : ∀ p j, p ≠ 3 → p ≠ 6 → p ≠ 7 → p ≠ 8 → ¬ (p = 0 ∧ (j = 5 ∨ j = 13 ∨ j = 20 ∨ j = 21)) → M66.1 p j = M.1 p j := fun p j q1 q2 q3 q4 q5 => by
    rw [k66 p j (by omega), k62 p j q4, k54 p j q1 q2 q3 (by omega)]
  have h20 : M66.1 0 20 = nI (A ++ [(sSf s b, d)]).length := by
    rw [← hM66, g_In (by omega), g_Ie ⟨rfl, rfl⟩]
    simp
  have h21 : M66.1 0 21 = nI (d + 1) := by
    rw [← hM66, g_Ie ⟨rfl, rfl⟩, g_In (by omega), g_In (by omega), k62 _ _ (by omega), ed, g_inc]
  have rn66 : rNm M66 s := ⟨by rw [kA _ _ (by omega) (by omega) (by omega) (by omega) (by omega)]; exact r.2.1.1, fun i hi => by rw [kA _ _ (by omega) (by omega) (by omega) (by omega) (by omega), kA _ _ (by omega) (by omega) (by omega) (by omega) (by omega)]; exact r.2.1.2 i hi⟩
  have nm66 := rn66.2 _ hbe
  rw [g_ix (by omega) (by omega), g_ix (by omega) (by omega), g_cl (by omega), nm66.1, nm66.2]
  have frame : ∀ M', (∀ p j, p ≠ 3 → p ≠ 4 → p ≠ 5 → p ≠ 6 → p ≠ 7 → ¬ (p = 0 ∧ (j = 4 ∨ j = 5 ∨ j = 7)) → M'.1 p j = M66.1 p j) → rF M M' := fun M' q p j hpj => by
    rw [q p j (by omega) (by omega) (by omega) (by omega) (by omega) (by omega), kA p j (by omega) (by omega) (by omega) (by omega) (by omega)]
  by_cases hn : sN s < 24
  · -- the flat form of the reference, before the new node
    have mV : ∀ i, (∃ x, (i, x) ∈ (sSf s b, eb) :: U) → i ∉ fI (A ++ B) := fun i ⟨x, hx⟩ m => by
      rw [← g5, fI_app] at m
      have nd := ht.2.1
      rw [g1, fI_app, fI_cons, fI_app] at nd
      have a := List.nodup_append.mp nd
      have n1 := List.nodup_cons.mp a.2.1
      have n2 := List.nodup_append.mp n1.2
      rcases List.mem_cons.mp hx with h | h
      · have hi : i = sSf s b := congrArg Prod.fst h
        rcases List.mem_append.mp m with m | m
        · exact a.2.2 i m (sSf s b) (by simp) hi
        · exact n1.1 (by rw [← hi]; simp [m])
      · have hi : i ∈ fI U := fI_mem.mpr ⟨x, h⟩
        rcases List.mem_append.mp m with m | m
        · exact a.2.2 i m i (by simp [hi]) rfl
        · exact n2.2.2 i hi i m rfl
    have keepD : ∀ i, i ∈ fI (A ++ B) → M66.1 6 i = M27.1 6 i := fun i hi => by
      rw [k66 _ _ (by omega), k62 _ _ (by omega), d5 i (fun j x _ hj => mV i ⟨x, List.mem_of_getElem? hj⟩ hi), g_In (by omega), c2 _ _ (by omega), k28 _ _ (by omega)]
    have ro66 : rO M66 ((A ++ [(sSf s b, d)]) ++ (sh eb (d + 1) U ++ B)) := by
      have o3 : ∀ j, M66.1 3 j = M54.1 3 j := fun j => by rw [k66 _ _ (by omega), k62 _ _ (by omega)]
      have o38 : ∀ j, (qsI M38 0 5 (nI (sN s))).1 3 j = M38.1 3 j := fun j => g_In (by omega)
      have roAB : ∀ k i x, (A ++ B)[k]? = some (i, x) → M27.1 3 k = nI i ∧ M27.1 6 i = nI x := fun k i x hk => ro27.2 k i x (by rw [g5]; exact hk)
      refine ⟨?_, fun k i x hk => ?_⟩
      · rw [k66 _ _ (by omega), k62 _ _ (by omega), o54]
        congr 1
        simp [sh_len]
        omega
      · by_cases hkA : k < A.length
        · have hk' : (A ++ B)[k]? = some (i, x) := by
            rw [List.append_assoc, List.getElem?_append_left hkA] at hk
            rw [List.getElem?_append_left hkA]
            exact hk
          rw [o3, d4 k (by omega), o38, c4 k (by omega), k28 _ _ (by omega), keepD i (fI_mem.mpr ⟨x, List.mem_of_getElem? hk'⟩)]
          exact roAB k i x hk'
        · by_cases hkV : k < A.length + (U.length + 1)
          · obtain ⟨j, rfl⟩ : ∃ j, k = A.length + j := ⟨k - A.length, by omega⟩
            rw [List.append_assoc, List.getElem?_append_right (by omega), Nat.add_sub_cancel_left] at hk
            rw [o3, k66 6 _ (by omega), k62 _ _ (by omega)]
            cases j with
            | zero =>
              have hk' : sSf s b = i ∧ d = x := by simpa using hk
              have := d3 0 (sSf s b) eb (Nat.le_refl _) rfl
              rw [← hk'.1, ← hk'.2, this.1, this.2]
              exact ⟨rfl, by simp⟩
            | succ j =>
              have hj : j < U.length := by omega
              have hk2 : (sh eb (d + 1) U)[j]? = some (i, x) := by
                have hk3 : ((sh eb (d + 1) U) ++ B)[j]? = some (i, x) := hk
                rwa [List.getElem?_append_left (by rw [sh_len]; exact hj)] at hk3
              unfold sh at hk2
              rw [List.getElem?_map, List.getElem?_eq_getElem hj] at hk2
              have hk' : U[j].1 = i ∧ U[j].2 - eb + (d + 1) = x := by simpa using hk2
              have := d3 (j + 1) U[j].1 U[j].2 (Nat.zero_le _) (by rw [List.getElem?_cons_succ]; exact List.getElem?_eq_getElem hj)
              rw [← hk'.1, ← hk'.2, this.1, this.2]
              refine ⟨rfl, ?_⟩
              rw [if_neg (by omega)]
              congr 1
          · have hk' : (A ++ B)[k - (U.length + 1)]? = some (i, x) := by
              rw [List.getElem?_append_right (by simp; omega)] at hk
              rw [List.getElem?_append_right (by rw [sh_len]; simp; omega), sh_len] at hk
              rw [List.getElem?_append_right (by omega)]
              rw [← hk]
              congr 1
              simp
              omega
            have hkl := (List.getElem?_eq_some_iff.mp hk').1
            simp at hkl
            have c := c3 (k - (U.length + 1)) (by omega) (by omega)
            rw [show k - (U.length + 1) + (U.length + 1) = k by omega] at c
            rw [o3, d4 k (by omega), o38, c, k28 _ _ (by omega), keepD i (fI_mem.mpr ⟨x, List.mem_of_getElem? hk'⟩)]
            exact roAB _ i x hk'
    have hlt : ∀ q ∈ (A ++ [(sSf s b, d)]) ++ (sh eb (d + 1) U ++ B), q.1 < sN s := fun q hq => by
      have mAB : ∀ q ∈ A ++ B, q.1 < sN s := fun q hq => (hid q (mXY q (by rw [g5]; exact hq))).1
      simp only [List.mem_append, List.mem_singleton] at hq
      rcases hq with (m | m) | m | m
      · exact mAB q (by simp [m])
      · rw [m]; exact hbb
      · obtain ⟨q', hq', rfl⟩ := List.mem_map.mp m
        exact (hid q' (by rw [g1]; simp [hq'])).1
      · exact mAB q (by simp [m])
    obtain ⟨M70, u1, u2, u3, u4⟩ := r_cre rn66 hn ro66 (by simp [sh_len]; omega) hlt rfl h20 h21 (sNm s (sSf s e)) (sCs s (sSf s e))
    rw [u1, q_clE, show (0 : Int32) = nI 0 from rfl, g_ix (by omega) (by omega), g_cl (by omega), q_ltE]
    have kZ : ∀ p j, p ≠ 3 → p ≠ 4 → p ≠ 5 → p ≠ 6 → p ≠ 7 → ¬ (p = 0 ∧ (j = 4 ∨ j = 5 ∨ j = 7)) → (qsI M70 7 0 (nI (sN s))).1 p j = M66.1 p j := fun p j q1 q2 q3 q4 q5 q6 => by
      rw [g_In (by omega), u4 p j q1 (by omega) (by omega)]
    have z4 : (qsI M70 7 0 (nI (sN s))).1 0 4 = 0 := by
      rw [g_In (by omega), u4 _ _ (by omega) (by omega) (by omega), kA _ _ (by omega) (by omega) (by omega) (by omega) (by omega)]
      exact r.1.1
    have wt := adp_wT w ht h1 h2 h3 hn g1 g5 g6 g7 hU
    refine ⟨_, rfl, Or.inl ⟨?_, _, ?_, wt⟩, frame _ kZ⟩
    · unfold s_adp
      rw [if_pos hn]
      exact r.1.2
    · unfold s_adp
      rw [if_pos hn]
      refine ⟨⟨z4, r.1.2⟩, ⟨?_, fun i hi => ?_⟩, ⟨?_, fun k i x hk => ?_⟩, ⟨?_, fun k hk => ?_⟩, ⟨?_, fun k x y hk => ?_⟩, ⟨?_, fun q hq => ?_⟩⟩
      · rw [g_In (by omega)]
        exact u2.1
      · rw [g_In (by omega), g_In (by omega)]
        exact u2.2 i hi
      · rw [g_In (by omega), u3.1]
        congr 1
        simp
      · rw [g_In (by omega), g_In (by omega)]
        refine u3.2 k i x ?_
        rw [← hk]
        congr 1
        simp
      · rw [kZ _ _ (by omega) (by omega) (by omega) (by omega) (by omega) (by omega), ← hM66, g_In (by omega), g_In (by omega), g_Ie ⟨rfl, rfl⟩]
        rfl
      · have hk' : k < sH s - (b - e) := hk
        show _ = nI (toF (sSf s) e b k)
        rw [kZ _ _ (by omega) (by omega) (by omega) (by omega) (by omega) (by omega), k66 _ _ (by omega)]
        unfold toF
        by_cases hke : k < e
        · rw [if_pos hke, f4 k (by omega), k54 _ _ (by omega) (by omega) (by omega) (by omega)]
          exact r.2.2.2.1.2 k (by omega)
        · rw [if_neg hke]
          have := f3 (k + (b - e)) (by omega) (by omega)
          rw [show e + (k + (b - e)) - b = k by omega] at this
          exact this
      · rw [kZ _ _ (by omega) (by omega) (by omega) (by omega) (by omega) (by omega), kA _ _ (by omega) (by omega) (by omega) (by omega) (by omega)]
        exact r.2.2.2.2.1.1
      · rw [kZ _ _ (by omega) (by omega) (by omega) (by omega) (by omega) (by omega), kZ _ _ (by omega) (by omega) (by omega) (by omega) (by omega) (by omega), kA _ _ (by omega) (by omega) (by omega) (by omega) (by omega), kA _ _ (by omega) (by omega) (by omega) (by omega) (by omega)]
        exact r.2.2.2.2.1.2 k x y hk
      · rw [kZ _ _ (by omega) (by omega) (by omega) (by omega) (by omega) (by omega), kA _ _ (by omega) (by omega) (by omega) (by omega) (by omega)]
        exact r.2.2.2.2.2.1
      · rw [kZ _ _ (by omega) (by omega) (by omega) (by omega) (by omega) (by omega), kZ _ _ (by omega) (by omega) (by omega) (by omega) (by omega) (by omega), kA _ _ (by omega) (by omega) (by omega) (by omega) (by omega), kA _ _ (by omega) (by omega) (by omega) (by omega) (by omega)]
        exact r.2.2.2.2.2.2 q hq
  · rw [r_crB rn66 (by omega), q_clE, show (0 : Int32) = nI 0 from rfl, g_ix (by omega) (by omega), g_cl (by omega), q_ltE]
    refine ⟨_, rfl, Or.inr ⟨?_, ?_⟩, frame _ fun p j q1 q2 q3 q4 q5 q6 => ?_⟩
    · unfold s_adp
      rw [if_neg hn]
      rfl
    · rw [g_In (by omega), g_Ie ⟨rfl, rfl⟩]
    · rw [g_In (by omega), g_In (by omega)]
