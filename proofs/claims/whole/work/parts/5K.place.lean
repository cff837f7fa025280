/-! the reference's side: the place, a new node, the stack -/
theorem r_ins {M : qM} {l A S B : List (Nat × Nat)} {i e : Nat} (ho : rO M l) (hl : l.length ≤ 24) (hid : ∀ q ∈ l, q.1 < 24 ∧ q.2 < 99) (nd : (fI l).Nodup) (hA : l = A ++ (i, e) :: (S ++ B)) (hS : ∀ q ∈ S, e < q.2) (hB : ∀ q ∈ B.head?, q.2 ≤ e) : f_Md_insideTop (nI i) M = some (qsI (qsI M 0 20 (nI (A.length + 1 + S.length))) 0 21 (nI (e + 1))) := by
  have hi := hid (i, e) (by rw [hA]; simp)
  have a0 := ho.2 A.length i e (by rw [hA]; simp)
  unfold f_Md_insideTop
  rw [r_seat ho hl (fun q hq => (hid q hq).1) nd hA]
  simp only [q_bp]
  rw [r_beh ho hl hid hA hS hB]
  simp only [q_bp, q_lt]
  rw [g_ix (by omega) (by omega), g_cl (by omega), g_In (by omega), a0.2, g_inc]
theorem r_fp14 {M : qM} {s : aT} (w : Wf s) (hn : rNm M s) (hs : rSt M s) {g : Nat} (hg : g ≤ sH s) : ∀ m k f K, k + m = g → m < f → f_Md_findPlace_14 (nI g) M f K ((lastI (fun j => sNm s (sSf s j) == 116) k).elim (-1) fun j => nI (sSf s j)) (nI k) = K ((lastI (fun j => sNm s (sSf s j) == 116) g).elim (-1) fun j => nI (sSf s j)) := by
  have hh : sH s ≤ 24 := by have := w.1.2.2.1.2; have := w.1.1.2; omega
  intro m
  induction m with
  | zero =>
    intro k f K hk hf
    obtain ⟨f, rfl⟩ : ∃ g, f = g + 1 := ⟨f - 1, by omega⟩
    have : k = g := by omega
    subst this
    rw [f_Md_findPlace_14, i_le (by omega) (by omega), if_pos (Nat.le_refl _)]
  | succ m ih =>
    intro k f K hk hf
    obtain ⟨f, rfl⟩ : ∃ g, f = g + 1 := ⟨f - 1, by omega⟩
    have hbk := w.1.2.2.2.1 k (by omega)
    have e1 := hs.2 k (by omega)
    have e2 := r_named w hn hbk bit_2
    have e3 : inS 2 (sNm s (sSf s k)) = (sNm s (sSf s k) == 116) := by
      have : ∀ x, x < 200 → inS 2 x = (x == 116) := by decide +kernel
      exact this _ (w.1.2.1 _ hbk)
    have := ih (k + 1) f K (by omega) (by omega)
    rw [f_Md_findPlace_14, i_le (by omega) (by omega), if_neg (by omega), g_ix (by omega) (by omega), g_cl (by omega), e1, e2, g_inc]
    show (if b2 (inS 2 (sNm s (sSf s k))) = 0 then _ else _) = _
    rw [i_b2, e3]
    by_cases hc : sNm s (sSf s k) = 116
    · rw [lastI, if_pos (by simpa using hc)] at this
      rw [if_neg (by simp [hc]), g_ix (by omega) (by omega)]
      exact this
    · rw [lastI, if_neg (by simpa using hc)] at this
      rw [if_pos (by simp [hc])]
      exact this
def fp_K (M : qM) (x2 : Int32) : Int32 → Option qM := fun x11 => q_bp (f_Md_named x2 655360 M) fun x12 => q_lt (q_cv (f_Md_insideTop x2 M) fun M13 => some M13) fun (j14 : Option qM) => if x12 = 0 then (j14) else (if x11 < 0 then (j14) else (q_bp (f_Md_seat x11 M) fun x17 => q_lt (qsI M 0 20 x17) fun M18 => q_ix x11 40 <| q_lt (qsI M18 0 21 (M18.1 6 x11.toNatClampNeg)) fun M20 => some M20))
theorem q_ltE {α β : Type} (a : α) (k : α → Option β) : q_lt a k = k a := rfl
theorem fp_e0 (a : Int32) (M : qM) : f_Md_findPlace a M = q_ix (a - 1) 40 (q_lt (M.1 8 (a - 1).toNatClampNeg) fun x2 => f_Md_findPlace_14 a M 1000 (fp_K M x2) (-1) 1) := rfl
theorem fp_eq (a : Int32) (M : qM) : f_Md_findPlace a M = q_ix (a - 1) 40 (f_Md_findPlace_14 a M 1000 (fp_K M (M.1 8 (a - 1).toNatClampNeg)) (-1) 1) := by
  rw [fp_e0, q_ltE]
/-- the place, by the flat form split there -/
def plc (s : aT) (g : Nat) (l A B : List (Nat × Nat)) (d : Nat) : Prop := l = A ++ B ∧ ((plT (sNm s) (sSf s) g = none ∧ ∃ A' S ep, A = A' ++ (sSf s (g - 1), ep) :: S ∧ (∀ q ∈ S, ep < q.2) ∧ (∀ q ∈ B.head?, q.2 ≤ ep) ∧ d = ep + 1) ∨ ∃ j B', plT (sNm s) (sSf s) g = some j ∧ B = (sSf s j, d) :: B')
theorem r_fp {M : qM} {s : aT} (w : Wf s) (hn : rNm M s) (hs : rSt M s) {g d : Nat} {l A B : List (Nat × Nat)} (h1 : 1 ≤ g) (hg : g ≤ sH s) (ho : rO M l) (hl : l.length ≤ 24) (hid : ∀ q ∈ l, q.1 < 24 ∧ q.2 < 99) (nd : (fI l).Nodup) (hp : plc s g l A B d) : f_Md_findPlace (nI g) M = some (qsI (qsI M 0 20 (nI A.length)) 0 21 (nI d)) := by
  have hh : sH s ≤ 24 := by have := w.1.2.2.1.2; have := w.1.1.2; omega
  have e0 : nI g - 1 = nI (g - 1) := by
    obtain ⟨k, hk⟩ : ∃ k, g = k + 1 := ⟨g - 1, by omega⟩
    rw [hk]
    exact d_s k
  have hbk := w.1.2.2.2.1 (g - 1) (by omega)
  have e1 : lastI (fun j => sNm s (sSf s j) == 116) 1 = none := by
    unfold lastI
    rw [w.2.2.2.2.1.1, w.2.2.2.1.1, if_neg (by simp)]
    rfl
  have hf := r_fp14 w hn hs hg (g - 1) 1 1000 (fp_K M (nI (sSf s (g - 1)))) (by omega) (by omega)
  rw [e1] at hf
  have hf' : f_Md_findPlace_14 (nI g) M 1000 (fp_K M (nI (sSf s (g - 1)))) (-1) 1 = _ := hf
  rw [fp_eq, e0, g_ix (by omega) (by omega), g_cl (by omega), hs.2 _ (by omega), hf']
  clear hf hf'
  unfold fp_K
  rw [r_named w hn hbk bit_tr]
  show (if b2 (trS (sNm s (sSf s (g - 1)))) = 0 then (q_cv (f_Md_insideTop (nI (sSf s (g - 1))) M) fun M13 => some M13) else _) = _
  rw [i_b2]
  obtain ⟨hlA, hp | hp⟩ := hp
  · obtain ⟨hp1, A', S, ep, hA, hS, hB, hd⟩ := hp
    have hi := r_ins ho hl hid nd (i := sSf s (g - 1)) (A := A') (S := S) (B := B) (e := ep) (by rw [hlA, hA]; simp) hS hB
    have hAl : A.length = A'.length + 1 + S.length := by rw [hA]; simp; omega
    have res : (q_cv (f_Md_insideTop (nI (sSf s (g - 1))) M) fun M13 => some M13) = some (qsI (qsI M 0 20 (nI A.length)) 0 21 (nI d)) := by
      rw [hi, hAl, hd]
      rfl
    unfold plT at hp1
    by_cases ht : trS (sNm s (sSf s (g - 1))) = true
    · have : sNm s (sSf s (g - 1)) = 116 ∨ sNm s (sSf s (g - 1)) = 114 := by simpa [trS] using ht
      rw [if_pos this] at hp1
      rw [hp1, if_neg (by simp [ht])]
      exact res
    · rw [if_pos (by simpa using ht)]
      exact res
  · obtain ⟨j, B', hp1, hB⟩ := hp
    have hj := plT_lt hp1
    have hbj := w.1.2.2.2.1 j (by omega)
    unfold plT at hp1
    have ht : sNm s (sSf s (g - 1)) = 116 ∨ sNm s (sSf s (g - 1)) = 114 := by
      by_cases ht : sNm s (sSf s (g - 1)) = 116 ∨ sNm s (sSf s (g - 1)) = 114
      · exact ht
      · rw [if_neg ht] at hp1
        cases hp1
    rw [if_pos ht] at hp1
    have ht' : trS (sNm s (sSf s (g - 1))) = true := by simpa [trS] using ht
    have hpos : l = A ++ (sSf s j, d) :: B' := by rw [hlA, hB]
    have h24 := w.1.1.2
    have hel : ((some j).elim (-1) fun j => nI (sSf s j)) = nI (sSf s j) := rfl
    rw [hp1, if_neg (by simp [ht']), hel]
    rw [i_n0 (by omega), r_seat ho hl (fun q hq => (hid q hq).1) nd hpos]
    show q_ix (nI (sSf s j)) 40 (some (qsI (qsI M 0 20 (nI A.length)) 0 21 ((qsI M 0 20 (nI A.length)).1 6 (nI (sSf s j)).toNatClampNeg))) = _
    rw [g_ix (by omega) (by omega), g_cl (by omega), g_In (by omega), (ho.2 A.length (sSf s j) d (by rw [hpos]; simp)).2]
theorem r_cr21 {l A B : List (Nat × Nat)} (hlA : l = A ++ B) (hl : l.length ≤ 24) : ∀ m k f K M, M.1 0 20 = nI A.length → A.length + m = k → k ≤ l.length → m < f → ∃ M', f_Md_create_21 f K (nI k) M = K M' ∧ (∀ j, A.length ≤ j → j < k → M'.1 3 (j + 1) = M.1 3 j) ∧ (∀ j, j ≤ A.length ∨ k < j → M'.1 3 j = M.1 3 j) ∧ (∀ p j, p ≠ 3 → M'.1 p j = M.1 p j) := by
  intro m
  induction m with
  | zero =>
    intro k f K M h20 hk hkl hf
    obtain ⟨f, rfl⟩ : ∃ g, f = g + 1 := ⟨f - 1, by omega⟩
    refine ⟨M, ?_, fun j h1 h2 => by omega, fun _ _ => rfl, fun _ _ _ => rfl⟩
    rw [f_Md_create_21, h20, i_le (by omega) (by omega), if_pos (by omega)]
  | succ m ih =>
    intro k f K M h20 hk hkl hf
    obtain ⟨f, rfl⟩ : ∃ g, f = g + 1 := ⟨f - 1, by omega⟩
    obtain ⟨k, rfl⟩ : ∃ g, k = g + 1 := ⟨k - 1, by omega⟩
    have hla : A.length ≤ l.length := by rw [hlA]; simp
    obtain ⟨M', e1, e2, e3, e4⟩ := ih k f K (qsI M 3 (k + 1) (M.1 3 k)) (by rw [g_In (by omega)]; exact h20) (by omega) (by omega) (by omega)
    refine ⟨M', ?_, fun j h1 h2 => ?_, fun j hj => ?_, fun p j hp => ?_⟩
    · have : nI (k + 1) - 1 = nI k := d_s k
      rw [f_Md_create_21, h20, i_le (by omega) (by omega), if_neg (by omega), this, g_ix (by omega) (by omega), g_ix (by omega) (by omega), g_cl (by omega), g_cl (by omega), d_m, d_s]
      exact e1
    · by_cases hj : j < k
      · rw [e2 j h1 hj, g_In (by omega)]
      · have : j = k := by omega
        subst this
        rw [e3 (j + 1) (by omega), g_Ie ⟨rfl, rfl⟩]
    · rw [e3 j (by omega), g_In (by omega)]
    · rw [e4 p j hp, g_In (by omega)]
/-- a new node at the place -/
theorem r_cre {M : qM} {s : aT} {l A B : List (Nat × Nat)} {d : Nat} (hn : rNm M s) (h24 : sN s < 24) (ho : rO M l) (hl : l.length < 24) (hid : ∀ q ∈ l, q.1 < sN s) (hlA : l = A ++ B) (e20 : M.1 0 20 = nI A.length) (e21 : M.1 0 21 = nI d) (x : Nat) (a : Int32) : ∃ M', f_Md_create (nI x) a M = some (nI (sN s), M') ∧ rNm M' (s_make s x a) ∧ rO M' (A ++ (sN s, d) :: B) ∧ (∀ p j, p ≠ 3 → ¬ (p = 0 ∧ (j = 5 ∨ j = 7)) → ¬ ((p = 4 ∨ p = 5 ∨ p = 6) ∧ j = sN s) → M'.1 p j = M.1 p j) := by
  have hla : A.length ≤ l.length := by rw [hlA]; simp
  have hll : l.length = A.length + B.length := by rw [hlA]; simp
  obtain ⟨M1, c1, c2, c3, c4⟩ := r_cr21 hlA (by omega) (l.length - A.length) l.length 1000 (fun (M9 : qM) => q_ix (M9.1 0 20) 40 <| q_lt (qsI M9 3 (M9.1 0 20).toNatClampNeg (M9.1 0 7)) fun M11 => q_lt (qsI M11 0 5 ((M11.1 0 5) + 1)) fun M12 => q_ix (M12.1 0 7) 40 <| q_lt (qsI M12 4 (M12.1 0 7).toNatClampNeg (nI x)) fun M14 => q_ix (M14.1 0 7) 40 <| q_lt (qsI M14 5 (M14.1 0 7).toNatClampNeg a) fun M16 => q_ix (M16.1 0 7) 40 <| q_lt (qsI M16 6 (M16.1 0 7).toNatClampNeg (M16.1 0 21)) fun M18 => q_lt (qsI M18 0 7 ((M18.1 0 7) + 1)) fun M19 => some ((M19.1 0 7) - 1, M19)) M e20 (by omega) (Nat.le_refl _) (by omega)
  have f20 : M1.1 0 20 = nI A.length := by rw [c4 _ _ (by omega)]; exact e20
  have f21 : M1.1 0 21 = nI d := by rw [c4 _ _ (by omega)]; exact e21
  have f7 : M1.1 0 7 = nI (sN s) := by rw [c4 _ _ (by omega)]; exact hn.1
  have f5 : M1.1 0 5 = nI l.length := by rw [c4 _ _ (by omega)]; exact ho.1
  have hsub : nI (sN s + 1) - 1 = nI (sN s) := d_s _
  refine ⟨qsI (qsI (qsI (qsI (qsI (qsI M1 3 A.length (nI (sN s))) 0 5 (nI (l.length + 1))) 4 (sN s) (nI x)) 5 (sN s) a) 6 (sN s) (nI d)) 0 7 (nI (sN s + 1)), ?_, ⟨?_, fun i hi => ?_⟩, ⟨?_, fun k i e hk => ?_⟩, fun p j h1 h2 h3 => ?_⟩
  · unfold f_Md_create
    rw [hn.1, show (24 : Int32) = nI 24 from rfl, i_eq (by omega) (by omega), if_neg (by omega), ho.1, c1]
    simp (disch := omega) only [f20, f21, f7, f5, g_ix, g_cl, q_lt, g_In, g_Ie, g_inc, hsub]
  · rw [g_Ie ⟨rfl, rfl⟩]
    rfl
  · show _ = nI (up (sNm s) (sN s) x i) ∧ _ = up (sCs s) (sN s) a i
    have hi' : i < sN s + 1 := hi
    by_cases e : i = sN s
    · subst e
      rw [up_e, up_e]
      constructor <;> simp (disch := omega) only [g_In, g_Ie]
    · rw [up_n e, up_n e]
      have := hn.2 i (by omega)
      constructor
      · simp (disch := omega) only [g_In]
        rw [c4 _ _ (by omega)]
        exact this.1
      · simp (disch := omega) only [g_In]
        rw [c4 _ _ (by omega)]
        exact this.2
  · simp (disch := omega) only [g_In, g_Ie]
    rw [hll]
    simp
    congr 1
  · rw [List.getElem?_append] at hk
    split at hk
    · rename_i hlt
      have hk' : l[k]? = some (i, e) := by rw [hlA, List.getElem?_append, if_pos hlt]; exact hk
      have := ho.2 k i e hk'
      have hi := hid (i, e) (List.mem_of_getElem? hk')
      have hi : i < sN s := hi
      simp (disch := omega) only [g_In]
      rw [c3 k (by omega), c4 _ _ (by omega)]
      exact this
    · rename_i hge
      by_cases hk0 : k = A.length
      · subst hk0
        rw [Nat.sub_self] at hk
        have hk' : sN s = i ∧ d = e := by simpa using hk
        rw [← hk'.1, ← hk'.2]
        constructor <;> simp (disch := omega) only [g_In, g_Ie]
      · obtain ⟨j, hj⟩ : ∃ j, k - A.length = j + 1 := ⟨k - A.length - 1, by omega⟩
        rw [hj] at hk
        have hk2 : B[j]? = some (i, e) := hk
        have hjl : j < B.length := (List.getElem?_eq_some_iff.mp hk2).1
        have hk' : l[k - 1]? = some (i, e) := by rw [hlA, List.getElem?_append, if_neg (by omega), show k - 1 - A.length = j by omega]; exact hk2
        have := ho.2 (k - 1) i e hk'
        have hi := hid (i, e) (List.mem_of_getElem? hk')
        have hi : i < sN s := hi
        simp (disch := omega) only [g_In]
        have c := c2 (k - 1) (by omega) (by omega)
        rw [show k - 1 + 1 = k by omega] at c
        rw [c, c4 _ _ (by omega)]
        exact this
  · simp (disch := omega) only [g_In]
    exact c4 p j h1
theorem r_crB {M : qM} {s : aT} (hn : rNm M s) (h24 : sN s = 24) (x a : Int32) : f_Md_create x a M = some (0, qsI M 0 4 1) := by
  unfold f_Md_create
  rw [hn.1, h24, if_pos (show nI 24 = 24 from rfl)]
  rfl
theorem r_push {M : qM} {s : aT} (hs : rSt M s) (hh : sH s < 24) (h4 : M.1 0 4 = 0) (i : Nat) : f_Md_push (nI i) M = some (qsI (qsI M 8 (sH s) (nI i)) 0 13 (nI (sH s + 1))) := by
  unfold f_Md_push
  rw [if_pos h4, hs.1, g_ix (by omega) (by omega), g_cl (by omega)]
  simp only [q_lt]
  rw [g_In (by omega), hs.1, g_inc]
