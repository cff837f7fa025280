/-! the tree by places: where a subtree ends, parents, first child, next sibling -/
theorem tw_p {α : Type} (p : α → Bool) : ∀ (L : List α) (y : Nat) (x : α), y < (L.takeWhile p).length → L[y]? = some x → p x = true
  | [], y, x, h, _ => by cases h
  | a :: L, y, x, h, hx => by
    rw [List.takeWhile_cons] at h
    cases hp : p a with
    | false =>
      rw [hp] at h
      cases h
    | true =>
      rw [hp] at h
      cases y with
      | zero =>
        have : a = x := Option.some.inj hx
        rw [← this]
        exact hp
      | succ y =>
        have h' : y + 1 < (L.takeWhile p).length + 1 := h
        exact tw_p p L y x (by omega) hx
theorem tw_n {α : Type} (p : α → Bool) : ∀ (L : List α) (x : α), L[(L.takeWhile p).length]? = some x → p x = false
  | [], x, h => by cases h
  | a :: L, x, h => by
    rw [List.takeWhile_cons] at h
    cases hp : p a with
    | false =>
      rw [hp] at h
      have : a = x := Option.some.inj h
      rw [← this]
      exact hp
    | true =>
      rw [hp] at h
      exact tw_n p L x h
theorem tw_l {α : Type} (p : α → Bool) : ∀ (L : List α), (L.takeWhile p).length ≤ L.length
  | [] => Nat.le_refl _
  | a :: L => by
    rw [List.takeWhile_cons]
    cases hp : p a with
    | false => exact Nat.zero_le _
    | true =>
      show (L.takeWhile p).length + 1 ≤ L.length + 1
      have := tw_l p L
      omega
theorem tw_e {α : Type} (p : α → Bool) : ∀ (S B : List α), (∀ q ∈ S, p q = true) → (∀ q ∈ B.head?, p q = false) → (S ++ B).takeWhile p = S
  | [], [], _, _ => rfl
  | [], b :: B, _, h => by
    show (b :: B).takeWhile p = []
    rw [List.takeWhile_cons, h b rfl]
    rfl
  | a :: S, B, h, h' => by
    show (a :: (S ++ B)).takeWhile p = a :: S
    rw [List.takeWhile_cons, h a List.mem_cons_self, tw_e p S B (fun q hq => h q (List.mem_cons_of_mem _ hq)) h']
    rfl
def bhF (pre : List (Nat × Nat)) (k : Nat) : Nat := k + 1 + ((pre.drop (k + 1)).takeWhile fun q => decide (kD pre k < q.2)).length
section PL
variable {pre : List (Nat × Nat)}
theorem bh_lt {k : Nat} (hk : k < pre.length) : k < bhF pre k ∧ bhF pre k ≤ pre.length := by
  unfold bhF
  have := tw_l (fun q => decide (kD pre k < q.2)) (pre.drop (k + 1))
  rw [List.length_drop] at this
  omega
theorem pre_get {k : Nat} (hk : k < pre.length) : pre[k]? = some (kI pre k, kD pre k) := by
  have h := List.getElem?_eq_getElem hk
  have e1 : kI pre k = (pre[k]).1 := by unfold kI; rw [h]; rfl
  have e2 : kD pre k = (pre[k]).2 := by unfold kD; rw [h]; rfl
  rw [h, e1, e2]
theorem bh_in {k x : Nat} (h1 : k < x) (h2 : x < bhF pre k) (hx : x < pre.length) : kD pre k < kD pre x := by
  unfold bhF at h2
  have hg : (pre.drop (k + 1))[x - (k + 1)]? = some (kI pre x, kD pre x) := by
    rw [List.getElem?_drop, show k + 1 + (x - (k + 1)) = x by omega]
    exact pre_get hx
  exact of_decide_eq_true (tw_p (fun q => decide (kD pre k < q.2)) _ (x - (k + 1)) _ (by omega) hg)
theorem bh_at {k : Nat} (h : bhF pre k < pre.length) : kD pre (bhF pre k) ≤ kD pre k := by
  have hg : (pre.drop (k + 1))[((pre.drop (k + 1)).takeWhile fun q => decide (kD pre k < q.2)).length]? = some (kI pre (bhF pre k), kD pre (bhF pre k)) := by
    rw [List.getElem?_drop]
    exact pre_get h
  have := of_decide_eq_false (tw_n (fun q : Nat × Nat => decide (kD pre k < q.2)) _ _ hg)
  show kD pre (bhF pre k) ≤ kD pre k
  have h2 : ¬ kD pre k < kD pre (bhF pre k) := this
  omega
theorem bh_of {A S B : List (Nat × Nat)} {i e : Nat} (h : pre = A ++ (i, e) :: (S ++ B)) (hS : ∀ q ∈ S, e < q.2) (hB : ∀ q ∈ B.head?, q.2 ≤ e) : bhF pre A.length = A.length + 1 + S.length := by
  have hg : pre[A.length]? = some (i, e) := by rw [h]; simp
  have hd : kD pre A.length = e := kD_s hg
  have hdr : pre.drop (A.length + 1) = S ++ B := by
    rw [h, List.drop_append, List.drop_eq_nil_iff.mpr (by omega), show A.length + 1 - A.length = 1 by omega]
    rfl
  unfold bhF
  rw [hd, hdr, tw_e _ S B (fun q hq => decide_eq_true (hS q hq)) (fun q hq => decide_eq_false (by have := hB q hq; omega))]
variable {s : aT}
theorem pl_par (w : Wf s) (hT : wT s pre) {i : Nat} (h0 : 0 < i) (hi : i < sN s) : kP pre i < i ∧ kD pre i = kD pre (kP pre i) + 1 ∧ (∀ x, kP pre i < x → x < i → kD pre i ≤ kD pre x) ∧ ∃ K1 K2, sKd s (kI pre (kP pre i)) = K1 ++ kI pre i :: K2 := by
  have hlen : pre.length = sN s := hT.2.2.2
  have hg := pre_get (pre := pre) (k := i) (by omega)
  rcases pre_par w hT hg with ⟨h1, _⟩ | ⟨A, p, ep, S, B, K1, K2, hp, hS, hkk, he, p1, hi0, p3⟩
  · omega
  · have hP : kP pre i = A.length := by rw [hkk]; exact kP_s hp hS
    have hA : pre[A.length]? = some (p, ep) := by rw [hp]; simp
    rw [hP, kI_s hA, kD_s hA]
    refine ⟨by omega, he, fun x h1 h2 => ?_, K1, K2, p3⟩
    have hx : pre[x]? = S[x - A.length - 1]? := by
      rw [hp, List.getElem?_append_right (by omega), show x - A.length = (x - A.length - 1) + 1 by omega, List.getElem?_cons_succ, List.getElem?_append_left (by omega), Nat.add_sub_cancel]
    rw [pre_get (by omega)] at hx
    have hm := List.mem_of_getElem? hx.symm
    have := hS _ hm
    have h3 : ep + 1 ≤ kD pre x := this
    omega
theorem kd_0 (hT : wT s pre) : kI pre 0 = 0 ∧ kD pre 0 = 0 := by
  obtain ⟨L1, L2, e1, _, _⟩ := Fo_cons_inv hT.1
  have : pre[0]? = some (0, 0) := by rw [e1]; rfl
  exact ⟨kI_s this, kD_s this⟩
theorem pl_inj (hT : wT s pre) {j k : Nat} (hj : j < sN s) (hk : k < sN s) (h : kI pre j = kI pre k) : j = k := by
  have hlen : pre.length = sN s := hT.2.2.2
  have q1 := fI_get (pre_get (pre := pre) (k := j) (by omega))
  have q2 := fI_get (pre_get (pre := pre) (k := k) (by omega))
  rw [h] at q1
  exact nd_inj hT.2.1 q1 q2
/-- parents and stretches -/
theorem pl_all (w : Wf s) (hT : wT s pre) : (∀ b i, b < i → i < bhF pre b → b < sN s → b ≤ kP pre i) ∧ (∀ i, 0 < i → i < sN s → i < bhF pre (kP pre i)) ∧ (∀ b p, b < sN s → b < p → p < bhF pre b → bhF pre p ≤ bhF pre b) ∧ (∀ p, p < sN s → p + 1 < bhF pre p → kP pre (p + 1) = p) ∧ (∀ a, 0 < a → a < sN s → bhF pre a < bhF pre (kP pre a) → kP pre (bhF pre a) = kP pre a) ∧ bhF pre 0 = sN s := by
  have hlen : pre.length = sN s := hT.2.2.2
  have lt : ∀ k, k < sN s → k < bhF pre k ∧ bhF pre k ≤ sN s := fun k hk => by
    have := bh_lt (pre := pre) (k := k) (by omega)
    omega
  have last : ∀ i j, 0 < i → i < sN s → j < i → kD pre j < kD pre i → j ≤ kP pre i := fun i j h0 hi hj hd => by
    obtain ⟨p1, p2, p3, _⟩ := pl_par w hT h0 hi
    by_cases q : kP pre i < j
    · have := p3 j q hj
      omega
    · omega
  have beh : ∀ k x, k < sN s → x ≤ sN s → k < x → (∀ y, k < y → y < x → kD pre k < kD pre y) → x ≤ bhF pre k := fun k x hk hx hkx h => by
    have hl := lt k hk
    by_cases q : bhF pre k < x
    · have h1 := bh_at (pre := pre) (k := k) (by omega)
      have h2 := h (bhF pre k) hl.1 q
      omega
    · omega
  refine ⟨fun b i h1 h2 hb => ?_, fun i h0 hi => ?_, fun b p hb h1 h2 => ?_, fun p hp h1 => ?_, fun a h0 ha h1 => ?_, ?_⟩
  · have hl := lt b hb
    exact last i b (by omega) (by omega) h1 (bh_in h1 h2 (by omega))
  · obtain ⟨p1, p2, p3, _⟩ := pl_par w hT h0 hi
    have := beh (kP pre i) (i + 1) (by omega) (by omega) (by omega) (fun y h1 h2 => by
      by_cases q : y = i
      · rw [q]; omega
      · have := p3 y h1 (by omega)
        omega)
    omega
  · have hl := lt b hb
    have hlp := lt p (by omega)
    have hd := bh_in h1 h2 (by omega)
    by_cases q : bhF pre b < bhF pre p
    · have h3 := bh_in (pre := pre) (k := p) (x := bhF pre b) h2 q (by omega)
      have h4 := bh_at (pre := pre) (k := b) (by omega)
      omega
    · omega
  · have hl := lt p hp
    obtain ⟨p1, _⟩ := pl_par w hT (i := p + 1) (by omega) (by omega)
    have := last (p + 1) p (by omega) (by omega) (by omega) (bh_in (by omega) h1 (by omega))
    omega
  · obtain ⟨p1, p2, p3, _⟩ := pl_par w hT h0 ha
    have hl := lt a ha
    have hlp := lt (kP pre a) (by omega)
    have hx : bhF pre a < sN s := by omega
    have d1 := bh_at (pre := pre) (k := a) (by omega)
    have d2 := bh_in (pre := pre) (k := kP pre a) (x := bhF pre a) (by omega) h1 (by omega)
    obtain ⟨q1, q2, q3, _⟩ := pl_par w hT (i := bhF pre a) (by omega) hx
    have l1 := last (bhF pre a) (kP pre a) (by omega) hx (by omega) d2
    by_cases e : kP pre (bhF pre a) = kP pre a
    · exact e
    · exfalso
      have hgt : kP pre a < kP pre (bhF pre a) := by omega
      by_cases e1 : kP pre (bhF pre a) < a
      · have := p3 _ hgt e1
        omega
      · by_cases e2 : kP pre (bhF pre a) = a
        · rw [e2] at q2
          omega
        · have := bh_in (pre := pre) (k := a) (x := kP pre (bhF pre a)) (by omega) q1 (by omega)
          omega
  · have hn1 : 1 ≤ sN s := w.1.1.1
    have hl := lt 0 (by omega)
    by_cases q : bhF pre 0 < sN s
    · have h1 := bh_at (pre := pre) (k := 0) (by omega)
      obtain ⟨_, h2, _⟩ := pl_par w hT (i := bhF pre 0) (by omega) q
      rw [(kd_0 hT).2] at h1
      omega
    · omega
theorem fI_at {l A B : List (Nat × Nat)} {i e : Nat} (h : l = A ++ (i, e) :: B) : (fI l)[A.length]? = some i := by
  rw [h, fI_app, fI_cons, List.getElem?_append_right (by rw [fI_len]; exact Nat.le_refl _), fI_len, Nat.sub_self]
  rfl
/-- a place's stretch in the list -/
theorem pl_at (w : Wf s) (hT : wT s pre) {k : Nat} (hk : k < sN s) : ∃ A S B, pre = A ++ (kI pre k, kD pre k) :: (S ++ B) ∧ A.length = k ∧ Fo (sKd s) (kD pre k + 1) (sKd s (kI pre k)) S ∧ (∀ q ∈ S, kD pre k < q.2) ∧ (∀ q ∈ B.head?, q.2 ≤ kD pre k) ∧ bhF pre k = k + 1 + S.length := by
  have hlen : pre.length = sN s := hT.2.2.2
  have hg := pre_get (pre := pre) (k := k) (by omega)
  obtain ⟨A, S, B, e, h1, h2, _, h4, _⟩ := Fo_at hT.1 (kI pre k) (fI_mem.mpr ⟨_, List.mem_of_getElem? hg⟩)
  have hA : A.length = k := nd_inj hT.2.1 (fI_at h1) (fI_get hg)
  have he : e = kD pre k := by
    have : pre[A.length]? = some (kI pre k, e) := (congrArg (fun l : List (Nat × Nat) => l[A.length]?) h1).trans (by simp)
    rw [hA, hg] at this
    exact (congrArg Prod.snd (Option.some.inj this)).symm
  rw [he] at h1 h2 h4
  have hS : ∀ q ∈ S, kD pre k < q.2 := fun q hq => by have := Fo_ge h2 q hq; omega
  refine ⟨A, S, B, h1, hA, h2, hS, h4, ?_⟩
  rw [← hA]
  have := bh_of (pre := pre) h1 hS h4
  exact this
theorem pl_first (w : Wf s) (hT : wT s pre) {k : Nat} (hk : k < sN s) : (sKd s (kI pre k)).head? = (if k + 1 < bhF pre k then some (kI pre (k + 1)) else none) ∧ (sKd s (kI pre k) = [] → bhF pre k = k + 1) := by
  obtain ⟨A, S, B, h1, h2, h3, h4, h5, h6⟩ := pl_at w hT hk
  cases hkd : sKd s (kI pre k) with
  | nil =>
    rw [hkd] at h3
    rw [Fo_nil_inv h3] at h6
    have h6' : bhF pre k = k + 1 := h6
    rw [h6', if_neg (by omega)]
    exact ⟨rfl, fun _ => rfl⟩
  | cons i js =>
    rw [hkd] at h3
    obtain ⟨L1, L2, e1, _, _⟩ := Fo_cons_inv h3
    rw [e1] at h6 h1
    have h7 : k + 1 < bhF pre k := by
      rw [h6, List.length_cons]
      omega
    have hg : pre[k + 1]? = some (i, kD pre k + 1) := by
      refine (congrArg (fun l : List (Nat × Nat) => l[k + 1]?) h1).trans ?_
      show (A ++ (kI pre k, kD pre k) :: ((i, kD pre k + 1) :: (L1 ++ L2) ++ B))[k + 1]? = _
      rw [List.getElem?_append_right (by omega), show k + 1 - A.length = 1 by omega]
      rfl
    rw [if_pos h7, kI_s hg]
    exact ⟨rfl, fun h => (by cases h)⟩
theorem pl_next (w : Wf s) (hT : wT s pre) {k : Nat} (h0 : 0 < k) (hk : k < sN s) : ∃ K1 K2, sKd s (kI pre (kP pre k)) = K1 ++ kI pre k :: K2 ∧ K2.head? = if bhF pre k < bhF pre (kP pre k) then some (kI pre (bhF pre k)) else none := by
  have hlen : pre.length = sN s := hT.2.2.2
  obtain ⟨p1, p2, p3, K1, K2, p4⟩ := pl_par w hT h0 hk
  obtain ⟨A, S, B, h1, h2, h3, h4, h5, h6⟩ := pl_at w hT (k := kP pre k) (by omega)
  refine ⟨K1, K2, p4, ?_⟩
  rw [p4] at h3
  obtain ⟨o1, o2, e1, f1, f2⟩ := Fo_app_inv h3
  obtain ⟨L1, L2, e2, g1, g2⟩ := Fo_cons_inv f2
  have hpk : pre = (A ++ (kI pre (kP pre k), kD pre (kP pre k)) :: o1) ++ (kI pre k, kD pre (kP pre k) + 1) :: (L1 ++ (L2 ++ B)) := by
    conv => lhs; rw [h1, e1, e2]
    simp
  have hpos : (A ++ (kI pre (kP pre k), kD pre (kP pre k)) :: o1).length = k := nd_inj hT.2.1 (fI_at hpk) (fI_get (pre_get (pre := pre) (k := k) (by omega)))
  have hbk : bhF pre k = k + 1 + L1.length := by
    have := bh_of (pre := pre) hpk (fun q hq => by have := Fo_ge g1 q hq; omega) (fun q hq => by
      cases L2 with
      | nil =>
        have := h5 q hq
        omega
      | cons x L2 =>
        have : q ∈ (x :: L2).head? := hq
        have := Fo_head g2 q this
        omega)
    rw [hpos] at this
    exact this
  rw [List.length_append, List.length_cons, h2] at hpos
  rw [e1, e2, List.length_append, List.length_cons, List.length_append] at h6
  cases hk2 : K2 with
  | nil =>
    rw [hk2] at g2
    rw [Fo_nil_inv g2] at h6
    have h6' : bhF pre (kP pre k) = kP pre k + 1 + (o1.length + (L1.length + 0 + 1)) := h6
    rw [if_neg (by omega)]
    rfl
  | cons y js =>
    rw [hk2] at g2
    obtain ⟨M1, M2, e3, _, _⟩ := Fo_cons_inv g2
    have hl2 : L2.length = (M1 ++ M2).length + 1 := by rw [e3]; rfl
    have hg : pre[bhF pre k]? = some (y, kD pre (kP pre k) + 1) := by
      have : (A ++ (kI pre (kP pre k), kD pre (kP pre k)) :: o1).length = k := by rw [List.length_append, List.length_cons, h2]; exact hpos
      refine (congrArg (fun l : List (Nat × Nat) => l[bhF pre k]?) hpk).trans ?_
      show ((A ++ (kI pre (kP pre k), kD pre (kP pre k)) :: o1) ++ (kI pre k, kD pre (kP pre k) + 1) :: (L1 ++ (L2 ++ B)))[bhF pre k]? = _
      rw [hbk, List.getElem?_append_right (by omega), this, show k + 1 + L1.length - k = L1.length + 1 by omega, List.getElem?_cons_succ, List.getElem?_append_right (Nat.le_refl _), Nat.sub_self, e3]
      rfl
    rw [if_pos (by omega), kI_s hg]
    rfl
end PL
