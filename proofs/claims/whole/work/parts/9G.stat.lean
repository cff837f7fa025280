/-! the layout's data of a page -/
def psF (pre : List (Nat × Nat)) (n i : Nat) : Nat := (lastI (fun k => kI pre k == i) n).getD 0
def zS (s : aT) (pre : List (Nat × Nat)) (rs : List (selT × List Nat)) : lT := (fun k => sNm s (kI pre k), vF (kE s pre) rs, fun q => vF (kE s pre) rs (kP pre (psF pre (sN s) (sCf s q).2)) 2, fun k => (rgF 0 (sNc s)).filter fun q => psF pre (sN s) (sCf s q).2 == k, fun q => (sCf s q).1, fun _ => false, fun _ => false, fun _ => 0, fun _ => 0, fun _ => 0, fun _ => 0, bhF pre, fun q => psF pre (sN s) (sCf s q).2)
section ST
variable {s : aT} {pre : List (Nat × Nat)} {rs : List (selT × List Nat)}
theorem zS_e (s : aT) (pre : List (Nat × Nat)) (rs : List (selT × List Nat)) : (zNm (zS s pre rs) = fun k => sNm s (kI pre k)) ∧ zV (zS s pre rs) = vF (kE s pre) rs ∧ (zSz (zS s pre rs) = fun q => vF (kE s pre) rs (kP pre (psF pre (sN s) (sCf s q).2)) 2) ∧ (zLt (zS s pre rs) = fun k => (rgF 0 (sNc s)).filter fun q => psF pre (sN s) (sCf s q).2 == k) ∧ (zCd (zS s pre rs) = fun q => (sCf s q).1) ∧ zBh (zS s pre rs) = bhF pre ∧ (zNq (zS s pre rs) = fun q => psF pre (sN s) (sCf s q).2) := ⟨rfl, rfl, rfl, rfl, rfl, rfl, rfl⟩
theorem ps_ok (hT : wT s pre) {i : Nat} (hi : i < sN s) : psF pre (sN s) i < sN s ∧ kI pre (psF pre (sN s) i) = i := by
  have hlen : pre.length = sN s := hT.2.2.2
  unfold psF
  cases h : lastI (fun k => kI pre k == i) (sN s) with
  | some j =>
    have := lastI_lt h
    exact ⟨this.1, by simpa using this.2⟩
  | none =>
    exfalso
    obtain ⟨e, he⟩ := fI_mem.mp ((hT.2.2.1 i).mpr hi)
    obtain ⟨k, hk⟩ := List.getElem?_of_mem he
    have hlt := (List.getElem?_eq_some_iff.mp hk).1
    have := lastI_no h k (by omega)
    rw [kI_s hk] at this
    simp at this
theorem st_W (w : Wf s) (hT : wT s pre) : wZ2 (sN s) (sNc s) (kI pre) (kP pre) (zS s pre rs) := by
  have hlen : pre.length = sN s := hT.2.2.2
  obtain ⟨⟨w1, w2⟩, w3, w4, w5, w6⟩ := (env_of w hT).1
  obtain ⟨z1, z2, z3, z4, z5, z6, z7⟩ := zS_e s pre rs
  have wch := w.2.2.2.2.2.2.2.1
  unfold wZ2
  rw [z1, z2, z3, z4, z5, z6, z7]
  refine ⟨⟨w1, w2, wch.2⟩, fun k hk => ?_, fun k h0 hk => (w5 k h0 hk).1, fun q hq => ?_, w6, fun _ _ => rfl, fun k hk => vF_2 (n := sN s) (fun k h0 hk => (w5 k h0 hk).1) k k (Nat.le_refl _) hk⟩
  · have hb := bh_lt (pre := pre) (k := k) (by omega)
    refine ⟨(w4 k hk).1, (w4 k hk).2.1, hb.1, by omega, ⟨fun h => ?_, fun h => ?_⟩⟩
    · by_cases e : k = 0
      · exact e
      · exact absurd h (w5 k (by omega) hk).2.1
    · rw [h]
      exact w3
  · obtain ⟨c1, c2, c3⟩ := wch.1 q hq
    obtain ⟨p1, p2⟩ := ps_ok hT c1
    refine ⟨c3, ?_, p1, rfl⟩
    rcases Nat.eq_zero_or_pos (psF pre (sN s) (sCf s q).2) with e | e
    · exfalso
      rw [e, (kd_0 hT).1] at p2
      have h0 : sNm s 0 = 0 := w.2.2.2.1.1
      rw [← p2, h0] at c2
      omega
    · exact e
theorem st_P (w : Wf s) (hT : wT s pre) (hK : wK s) : wP2 (sN s) (kP pre) (zS s pre rs) := by
  obtain ⟨⟨w1, w2⟩, w3, w4, w5, w6⟩ := (env_of w hT).1
  obtain ⟨z1, z2, z3, z4, z5, z6, z7⟩ := zS_e s pre rs
  obtain ⟨a1, a2, a3, a4, a5, a6⟩ := pl_all w hT
  unfold wP2 wP
  rw [z1, z2, z6]
  have hv3 : ∀ i, i < sN s → _ := fun i hi => vF_3 (E := kE s pre) (rs := rs) (k := i) (fun h0 => (w5 i h0 hi).1)
  refine ⟨⟨a1, a2, fun i h0 hi hr => ?_⟩, a3, ⟨(vF_0 w3).2.2.1, (vF_0 w3).1⟩, fun i hi _ => (hv3 i hi).1⟩
  obtain ⟨p1, p2, p3, K1, K2, p4⟩ := pl_par w hT h0 hi
  have hid : kI pre (kP pre i) < sN s := (hT.2.2.1 _).mp (fI_mem.mpr ⟨_, List.mem_of_getElem? (pre_get (pre := pre) (k := kP pre i) (by have : pre.length = sN s := hT.2.2.2; omega))⟩)
  have h99 : sNm s (kI pre i) = 99 := hK.2.1 _ hid hr _ (by rw [p4]; simp)
  refine ⟨?_, (hv3 i hi).2 h99⟩
  show sNm s (kI pre i) ≠ 1
  omega
theorem st_T (w : Wf s) (hT : wT s pre) (hK : wK s) : wT3 (sN s) (sNc s) (kP pre) (kD pre) (zS s pre rs) := by
  have hlen : pre.length = sN s := hT.2.2.2
  obtain ⟨z1, z2, z3, z4, z5, z6, z7⟩ := zS_e s pre rs
  obtain ⟨a1, a2, a3, a4, a5, a6⟩ := pl_all w hT
  have wch := w.2.2.2.2.2.2.2.1
  unfold wT3
  rw [z1, z6, z7]
  have hid : ∀ k, k < sN s → kI pre k < sN s ∧ kD pre k < 24 := fun k hk => wT_id w hT _ (List.mem_of_getElem? (pre_get (pre := pre) (k := k) (by omega)))
  refine ⟨a4, a5, ⟨(kd_0 hT).2, fun a h0 ha => (pl_par w hT h0 ha).2.1⟩, fun a ha => by have := (hid a ha).2; omega, fun a ha hm => ?_, fun q hq => ?_⟩
  · refine (pl_first w hT ha).2 ?_
    rcases hm with h | h | h
    · exact w.2.2.2.2.2.2.1 _ (hid a ha).1 h
    · exact hK.1 _ (hid a ha).1 (Or.inl h)
    · exact hK.1 _ (hid a ha).1 (Or.inr h)
  · obtain ⟨c1, c2, c3⟩ := wch.1 q hq
    show sNm s (kI pre (psF pre (sN s) (sCf s q).2)) = 1
    rw [(ps_ok hT c1).2]
    exact c2
theorem st_rZ (w : Wf s) (hT : wT s pre) {M : qM} (hO : rO M pre) (hC : rCh M s) (hS : eS M (sN s) (kI pre) (kE s pre)) (hV : rV M (sN s) (vF (kE s pre) rs)) : rZ M (sN s) (sNc s) (kI pre) (kP pre) (zS s pre rs) := by
  have hlen : pre.length = sN s := hT.2.2.2
  have h24 := w.1.1.2
  obtain ⟨z1, z2, z3, z4, z5, z6, z7⟩ := zS_e s pre rs
  have wch := w.2.2.2.2.2.2.2.1
  have hid : ∀ q ∈ pre, q.1 < 24 ∧ q.2 < 99 := fun q hq => by have := wT_id w hT q hq; omega
  unfold rZ
  rw [z1, z2, z5, z6, z7]
  refine ⟨⟨hS.1, hC.1⟩, fun k hk => ?_, fun q hq => ?_⟩
  · obtain ⟨s1, s2, s3, s4⟩ := hS.2 k hk
    refine ⟨s1, s2, ?_, fun p hp => hV k hk p hp, ?_⟩
    · rw [s4]
      rfl
    · obtain ⟨A, S, B, e1, e2, e3, e4, e5, e6⟩ := pl_at w hT hk
      have := r_beh hO (by omega) hid e1 e4 e5
      rw [e2] at this
      rw [this, e6]
  · obtain ⟨c1, c2, c3⟩ := wch.1 q hq
    obtain ⟨p1, p2⟩ := ps_ok hT c1
    obtain ⟨h1, h2⟩ := hC.2 q hq
    obtain ⟨A, S, B, e1, e2, _⟩ := pl_at w hT p1
    have := r_seat hO (by omega) (fun q hq => (hid q hq).1) hT.2.1 e1
    rw [e2] at this
    refine ⟨h1, ?_, this⟩
    rw [h2]
    show nI (sCf s q).2 = nI (kI pre (psF pre (sN s) (sCf s q).2))
    rw [p2]
theorem nx_f {cf : Nat → Nat × Nat} {i : Nat} : ∀ (m q : Nat), nxL cf i m q = ((rgF q m).filter fun x => (cf x).2 == i).head?
  | 0, _ => rfl
  | m + 1, q => by
    unfold nxL
    rw [rgF, List.filter_cons]
    by_cases h : (cf q).2 = i
    · rw [if_pos h, if_pos (by simpa using h)]
      rfl
    · rw [if_neg h, if_neg (by simpa using h)]
      exact nx_f m (q + 1)
theorem rg_cut {p : Nat → Bool} : ∀ (m a : Nat) (A : List Nat) (q : Nat) (B : List Nat), (rgF a m).filter p = A ++ q :: B → B = (rgF (q + 1) (a + m - (q + 1))).filter p ∧ a ≤ q ∧ q < a + m
  | 0, a, A, q, B, h => by
    have := congrArg List.length h
    rw [List.length_append, List.length_cons] at this
    exact absurd this (by show ¬ 0 = _; omega)
  | m + 1, a, A, q, B, h => by
    rw [rgF, List.filter_cons] at h
    by_cases hp : p a = true
    · rw [if_pos hp] at h
      cases A with
      | nil =>
        have h' : a :: (rgF (a + 1) m).filter p = q :: B := h
        have e1 : a = q := (List.cons.inj h').1
        have e2 := (List.cons.inj h').2
        rw [← e1, show a + (m + 1) - (a + 1) = m by omega]
        exact ⟨e2.symm, by omega, by omega⟩
      | cons x A =>
        have h' : a :: (rgF (a + 1) m).filter p = x :: (A ++ q :: B) := h
        obtain ⟨g1, g2, g3⟩ := rg_cut m (a + 1) A q B (List.cons.inj h').2
        rw [show a + (m + 1) - (q + 1) = a + 1 + m - (q + 1) by omega]
        exact ⟨g1, by omega, by omega⟩
    · rw [if_neg hp] at h
      obtain ⟨g1, g2, g3⟩ := rg_cut m (a + 1) A q B h
      rw [show a + (m + 1) - (q + 1) = a + 1 + m - (q + 1) by omega]
      exact ⟨g1, by omega, by omega⟩
theorem fl_cg {p r : Nat → Bool} : ∀ (L : List Nat), (∀ q ∈ L, p q = r q) → L.filter p = L.filter r
  | [], _ => rfl
  | a :: L, h => by rw [List.filter_cons, List.filter_cons, h a List.mem_cons_self, fl_cg L fun q hq => h q (List.mem_cons_of_mem _ hq)]
theorem st_cZ (w : Wf s) (hT : wT s pre) {M : qM} (c : C M s) (hV : cV M (sN s) (kI pre) (kE s pre) (vF (kE s pre) rs)) : cZs M (sN s) (sNc s) (kI pre) (kP pre) (zS s pre rs) := by
  have hlen : pre.length = sN s := hT.2.2.2
  obtain ⟨z1, z2, z3, z4, z5, z6, z7⟩ := zS_e s pre rs
  have wch := w.2.2.2.2.2.2.2.1
  have hid : ∀ k, k < sN s → kI pre k < sN s := fun k hk => (wT_id w hT _ (List.mem_of_getElem? (pre_get (pre := pre) (k := k) (by omega)))).1
  obtain ⟨⟨_, c1⟩, c2, c3, _, _, c6⟩ := c
  have hfl : ∀ k, k < sN s → ∀ a m, a + m ≤ sNc s → ((rgF a m).filter fun q => psF pre (sN s) (sCf s q).2 == k) = (rgF a m).filter fun q => (sCf s q).2 == kI pre k := fun k hk a m ham => fl_cg _ fun q hq => by
    have hq' := rgF_mem.mp hq
    obtain ⟨d1, _, _⟩ := wch.1 q (by omega)
    obtain ⟨p1, p2⟩ := ps_ok hT d1
    by_cases e : (sCf s q).2 = kI pre k
    · have : psF pre (sN s) (sCf s q).2 = k := pl_inj hT p1 hk (by rw [p2]; exact e)
      rw [show ((sCf s q).2 == kI pre k) = true by simpa using e, show (psF pre (sN s) (sCf s q).2 == k) = true by simpa using this]
    · have : psF pre (sN s) (sCf s q).2 ≠ k := fun h => e (by rw [← h, p2])
      rw [show ((sCf s q).2 == kI pre k) = false by simpa using e, show (psF pre (sN s) (sCf s q).2 == k) = false by simpa using this]
  unfold cZs
  rw [z1, z2, z4, z6]
  refine ⟨⟨c1, c6.1⟩, fun k hk => ⟨(c2 _ (hid k hk)).1, fun hm p hp => hV k hk hm p hp, ?_, ?_, fun h0 => ?_, fun A q B e => ?_⟩⟩
  · rw [(c3.1 _ (hid k hk)).1, (pl_first w hT hk).1]
    by_cases q : k + 1 < bhF pre k
    · rw [if_pos q, if_pos q]; rfl
    · rw [if_neg q, if_neg q]; rfl
  · rw [(c6.2.1 _ (hid k hk)).1, nx_f]
    show _ = ((rgF 0 (sNc s)).filter fun q => psF pre (sN s) (sCf s q).2 == k).head?.map _
    rw [hfl k hk 0 (sNc s) (by omega)]
  · obtain ⟨K1, K2, e1, e2⟩ := pl_next w hT h0 hk
    have hp := (pl_par w hT h0 hk).1
    rw [(c3.2 _ (hid (kP pre k) (by omega)) K1 _ K2 e1).2.2.2, e2]
    by_cases q : bhF pre k < bhF pre (kP pre k)
    · rw [if_pos q, if_pos q]; rfl
    · rw [if_neg q, if_neg q]; rfl
  · have e' : ((rgF 0 (sNc s)).filter fun q => psF pre (sN s) (sCf s q).2 == k) = A ++ q :: B := e
    obtain ⟨g1, g2, g3⟩ := rg_cut _ _ _ _ _ e'
    have hq : q < sNc s := by omega
    have hqk : psF pre (sN s) (sCf s q).2 = k := by
      have : q ∈ (rgF 0 (sNc s)).filter fun q => psF pre (sN s) (sCf s q).2 == k := by rw [e']; simp
      simpa using (List.mem_filter.mp this).2
    obtain ⟨d1, _, _⟩ := wch.1 q hq
    have hi : (sCf s q).2 = kI pre k := by rw [← hqk, (ps_ok hT d1).2]
    obtain ⟨h1, h2⟩ := c6.2.2 q hq
    refine ⟨by rw [h1, z5], ?_⟩
    rw [h2, nx_f, g1, Nat.zero_add, hi, hfl k hk (q + 1) (sNc s - (q + 1)) (by omega)]
end ST
