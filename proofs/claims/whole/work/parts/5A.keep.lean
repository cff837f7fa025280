/-! what the abstract state must be is kept -/
theorem W_h {s : aT} (w : Wf s) {k : Nat} (h1 : 1 ≤ k) (hk : k ≤ sH s) : Wf (s_h s k) := by
  obtain ⟨⟨a1, a2, a3, a4, a5⟩, l, t, ⟨x1, x2, x3, x4, x5, x6, x7⟩⟩ := w
  refine ⟨⟨a1, a2, ⟨h1, Nat.le_trans hk a3.2⟩, fun i hi => a4 i (Nat.lt_of_lt_of_le hi hk), fun a b ha hb => a5 a b (Nat.lt_of_lt_of_le ha hk) (Nat.lt_of_lt_of_le hb hk)⟩, l, t, x1, ⟨x2.1, fun i h0 hi => x2.2 i h0 (Nat.lt_of_lt_of_le hi hk)⟩, fun i hi => x3 i (Nat.lt_of_lt_of_le hi hk), x4, x5, x6, fun a b hab hb => x7 a b hab (Nat.lt_of_lt_of_le hb hk)⟩
theorem W_brk {s : aT} (w : Wf s) : Wf (s_brk s) := w
/-- a new node somewhere -/
theorem W_ext {s : aT} (w : Wf s) (hn : sN s < 24) {x : Nat} {a : Int32} {kd' : Nat → List Nat} (hx : x = 1 ∨ (97 ≤ x ∧ x ≤ 122)) (h1 : ∃ pre, Fo kd' 0 [0] pre ∧ (fI pre).Nodup ∧ (∀ i, i ∈ fI pre ↔ i < sN s + 1) ∧ pre.length = sN s + 1) (h2 : ∀ i z, z ∈ kd' i → z ∈ sKd s i ∨ z = sN s) (h3 : kd' (sN s) = []) (h4 : ∀ i, i < sN s → sNm s i = 1 → kd' i = []) : Wf (s_kd (s_make s x a) kd') := by
  obtain ⟨⟨a1, a2, a3, a4, a5⟩, ⟨l1, l2, l3, l4⟩, t, ⟨x1, x2, x3, x4, x5, x6, x7⟩⟩ := w
  have hu : ∀ i, i < sN s → up (sNm s) (sN s) x i = sNm s i := fun i hi => up_lt hi
  refine ⟨⟨⟨show 1 ≤ sN s + 1 by omega, show sN s + 1 ≤ 24 by omega⟩, fun i hi => ?_, ⟨a3.1, Nat.le_succ_of_le a3.2⟩, fun i hi => Nat.lt_succ_of_lt (a4 i hi), a5⟩, ⟨fun q hq => ⟨Nat.lt_succ_of_lt (l1 q hq).1, Nat.lt_succ_of_lt (l1 q hq).2⟩, l2, l3, Nat.lt_succ_of_lt l4⟩, h1, ⟨?_, fun i h0 hi => ?_⟩, ⟨x2.1, fun k h0 hk => ?_⟩, fun k hk => ?_, fun i hi => ?_, ⟨fun q hq => ?_, x5.2⟩, fun q hq => ?_, fun c b hab hb hd => ?_⟩
  · show up (sNm s) (sN s) x i < 200
    by_cases e : i = sN s
    · rw [e, up_e]; omega
    · rw [up_n e]
      have : i < sN s + 1 := hi
      exact a2 i (by omega)
  · show up (sNm s) (sN s) x 0 = 0
    rw [hu 0 (by omega)]
    exact x1.1
  · show up (sNm s) (sN s) x i = 1 ∨ (97 ≤ up (sNm s) (sN s) x i ∧ up (sNm s) (sN s) x i ≤ 122)
    by_cases e : i = sN s
    · rw [e, up_e]; exact hx
    · rw [up_n e]
      have : i < sN s + 1 := hi
      exact x1.2 i h0 (by omega)
  · show 97 ≤ up (sNm s) (sN s) x (sSf s k)
    rw [hu _ (a4 k hk)]
    exact x2.2 k h0 hk
  · show up (sNm s) (sN s) x (sSf s k) = 114 → 1 ≤ k ∧ up (sNm s) (sN s) x (sSf s (k - 1)) = 116
    have hk' : k < sH s := hk
    rw [hu _ (a4 k hk), hu _ (a4 (k - 1) (by omega))]
    exact x3 k hk
  · show up (sNm s) (sN s) x i = 1 → kd' i = []
    by_cases e : i = sN s
    · rw [e]
      exact fun _ => h3
    · rw [up_n e]
      have : i < sN s + 1 := hi
      exact h4 i (by omega)
  · show (sCf s q).2 < sN s + 1 ∧ up (sNm s) (sN s) x (sCf s q).2 = 1 ∧ (sCf s q).1 < 200
    have := x5.1 q hq
    rw [hu _ this.1]
    exact ⟨Nat.lt_succ_of_lt this.1, this.2⟩
  · show inS 7 (up (sNm s) (sN s) x q.1) = true
    rw [hu _ (l1 q hq).1]
    exact x6 q hq
  · obtain ⟨m, hm⟩ := hd
    have hb' : b < sH s := hb
    have := a4 c (by omega)
    exact x7 c b hab hb ⟨m, pth_leaf h2 h3 (by show sSf s c ≠ sN s; omega) hm⟩
theorem W_push {s : aT} (w : Wf s) {i : Nat} (hi : i < sN s) (hn : ∀ k, k < sH s → sSf s k ≠ i) (hh : sH s < sN s) (h97 : 97 ≤ sNm s i) (hr : sNm s i = 114 → sNm s (sSf s (sH s - 1)) = 116) (hd : ∀ a, a < sH s → ¬ dsc (sKd s) i (sSf s a)) : Wf (s_push s i) := by
  obtain ⟨⟨a1, a2, a3, a4, a5⟩, l, t, ⟨x1, x2, x3, x4, x5, x6, x7⟩⟩ := w
  have ul : ∀ k, k < sH s → up (sSf s) (sH s) i k = sSf s k := fun k hk => up_lt hk
  refine ⟨⟨a1, a2, ⟨show 1 ≤ sH s + 1 by omega, hh⟩, fun k hk => ?_, fun a b ha hb e => ?_⟩, l, t, x1, ⟨?_, fun k h0 hk => ?_⟩, fun k hk e => ?_, x4, x5, x6, fun a b hab hb => ?_⟩
  · show up (sSf s) (sH s) i k < sN s
    by_cases q : k = sH s
    · rw [q, up_e]; exact hi
    · have : k < sH s + 1 := hk
      rw [up_n q]; exact a4 k (by omega)
  · have ha' : a < sH s + 1 := ha
    have hb' : b < sH s + 1 := hb
    have e' : up (sSf s) (sH s) i a = up (sSf s) (sH s) i b := e
    by_cases q1 : a = sH s
    · by_cases q2 : b = sH s
      · omega
      · rw [q1, up_e, up_n q2] at e'
        exact absurd e'.symm (hn b (by omega))
    · by_cases q2 : b = sH s
      · rw [q2, up_e, up_n q1] at e'
        exact absurd e' (hn a (by omega))
      · rw [up_n q1, up_n q2] at e'
        exact a5 a b (by omega) (by omega) e'
  · show up (sSf s) (sH s) i 0 = 0
    rw [ul 0 (by omega)]
    exact x2.1
  · show 97 ≤ sNm s (up (sSf s) (sH s) i k)
    by_cases q : k = sH s
    · rw [q, up_e]; exact h97
    · have : k < sH s + 1 := hk
      rw [up_n q]; exact x2.2 k h0 (by omega)
  · have hk' : k < sH s + 1 := hk
    have e' : sNm s (up (sSf s) (sH s) i k) = 114 := e
    show 1 ≤ k ∧ sNm s (up (sSf s) (sH s) i (k - 1)) = 116
    by_cases q : k = sH s
    · rw [q, up_e] at e'
      rw [q, ul (sH s - 1) (by omega)]
      exact ⟨by omega, hr e'⟩
    · rw [up_n q] at e'
      rw [ul (k - 1) (by omega)]
      exact x3 k (by omega) e'
  · have hb' : b < sH s + 1 := hb
    show ¬ dsc (sKd s) (up (sSf s) (sH s) i b) (up (sSf s) (sH s) i a)
    rw [ul a (by omega)]
    by_cases q : b = sH s
    · rw [q, up_e]
      exact hd a (by omega)
    · rw [up_n q]
      exact x7 a b hab (by omega)
theorem W_pre {s : aT} (w : Wf s) : ∃ pre, wT s pre := w.2.2.1
/-- the flat form with a leaf at the place -/
theorem pre_leaf {s : aT} {pre : List (Nat × Nat)} (ht : wT s pre) (hk : ∀ q, q < sN s → sN s ∉ sKd s q) {p : Nat} (hp : p < sN s) : ∃ A S B e, pre = A ++ (p, e) :: (S ++ B) ∧ Fo (sKd s) (e + 1) (sKd s p) S ∧ (∀ q ∈ B.head?, q.2 ≤ e) ∧ Fo (up (up (sKd s) (sN s) []) p (sKd s p ++ [sN s])) 0 [0] (A ++ (p, e) :: (S ++ (sN s, e + 1) :: B)) ∧ (fI (A ++ (p, e) :: (S ++ (sN s, e + 1) :: B))).Nodup ∧ (∀ i, i ∈ fI (A ++ (p, e) :: (S ++ (sN s, e + 1) :: B)) ↔ i < sN s + 1) ∧ (A ++ (p, e) :: (S ++ (sN s, e + 1) :: B)).length = sN s + 1 := by
  obtain ⟨h1, h2, h3, hlen⟩ := ht
  have hm : sN s ∉ fI pre := fun m => by
    have := (h3 _).mp m
    omega
  have h1' : Fo (up (sKd s) (sN s) []) 0 [0] pre := Fo_congr h1 fun i hi => up_n fun q => hm (q ▸ hi)
  have hU : Fo (up (sKd s) (sN s) []) 0 [sN s] [(sN s, 0)] := by
    have := Fo_cons (kd := up (sKd s) (sN s) []) (i := sN s) (d := 0) (js := []) (L1 := []) (L2 := []) (by rw [up_e]; exact Fo_nil) Fo_nil
    exact this
  obtain ⟨A, S, B, e, g1, g2, g3, g4⟩ := P_app h1' h2 ((h3 p).mpr hp) hU (by
    intro x hx
    rw [List.mem_singleton.mp hx]
    exact hm)
  have eS : sh 0 (e + 1) [(sN s, 0)] = [(sN s, e + 1)] := by simp [sh]
  rw [eS, up_lt hp] at g4
  rw [up_lt hp] at g2
  have e5 : A ++ (p, e) :: (S ++ [(sN s, e + 1)] ++ B) = A ++ (p, e) :: (S ++ (sN s, e + 1) :: B) := by simp
  rw [e5] at g4
  have pm : (fI (A ++ (p, e) :: (S ++ (sN s, e + 1) :: B))).Perm (sN s :: fI pre) := by
    rw [g1]
    have : (A ++ (p, e) :: (S ++ (sN s, e + 1) :: B)).Perm ((sN s, e + 1) :: (A ++ (p, e) :: (S ++ B))) := by
      have q : A ++ (p, e) :: (S ++ (sN s, e + 1) :: B) = (A ++ (p, e) :: S) ++ (sN s, e + 1) :: B := by simp
      rw [q]
      refine List.perm_middle.trans ?_
      simp
    exact this.map Prod.fst
  refine ⟨A, S, B, e, g1, ?_, g3, g4, ?_, fun i => ?_, by rw [g1] at hlen; simp at hlen ⊢; omega⟩
  · refine Fo_congr g2 fun i hi => ?_
    refine (up_n fun q => hm ?_).symm
    rw [g1, fI_app, fI_cons, fI_app]
    simp [q ▸ hi]
  · exact pm.nodup_iff.mpr (List.nodup_cons.mpr ⟨hm, h2⟩)
  · rw [pm.mem_iff, List.mem_cons, h3]
    omega
theorem pre_leafT {s : aT} {pre : List (Nat × Nat)} (ht : wT s pre) (hk : ∀ q, q < sN s → sN s ∉ sKd s q) {p t : Nat} {K1 K2 : List Nat} (hp : p < sN s) (hkp : sKd s p = K1 ++ t :: K2) : ∃ A B e, pre = A ++ (t, e) :: B ∧ 1 ≤ e ∧ Fo (up (up (sKd s) (sN s) []) p (K1 ++ sN s :: t :: K2)) 0 [0] (A ++ (sN s, e) :: (t, e) :: B) ∧ (fI (A ++ (sN s, e) :: (t, e) :: B)).Nodup ∧ (∀ i, i ∈ fI (A ++ (sN s, e) :: (t, e) :: B) ↔ i < sN s + 1) ∧ (A ++ (sN s, e) :: (t, e) :: B).length = sN s + 1 := by
  obtain ⟨h1, h2, h3, hlen⟩ := ht
  have hm : sN s ∉ fI pre := fun m => by
    have := (h3 _).mp m
    omega
  have h1' : Fo (up (sKd s) (sN s) []) 0 [0] pre := Fo_congr h1 fun i hi => up_n fun q => hm (q ▸ hi)
  have hU : Fo (up (sKd s) (sN s) []) 0 [sN s] [(sN s, 0)] := by
    have := Fo_cons (kd := up (sKd s) (sN s) []) (i := sN s) (d := 0) (js := []) (L1 := []) (L2 := []) (by rw [up_e]; exact Fo_nil) Fo_nil
    exact this
  obtain ⟨A, B, e, g1, g2, g4⟩ := P_ins (K1 := K1) (K2 := K2) (t := t) h1' h2 ((h3 p).mpr hp) (by rw [up_lt hp]; exact hkp) hU (by
    intro x hx
    rw [List.mem_singleton.mp hx]
    exact hm)
  have eS : sh 0 e [(sN s, 0)] = [(sN s, e)] := by simp [sh]
  rw [eS] at g4
  have e5 : A ++ [(sN s, e)] ++ (t, e) :: B = A ++ (sN s, e) :: (t, e) :: B := by simp
  rw [e5] at g4
  have pm : (fI (A ++ (sN s, e) :: (t, e) :: B)).Perm (sN s :: fI pre) := by
    rw [g1]
    exact (List.perm_middle (a := (sN s, e))).map Prod.fst
  refine ⟨A, B, e, g1, g2, g4, pm.nodup_iff.mpr (List.nodup_cons.mpr ⟨hm, h2⟩), fun i => ?_, by rw [g1] at hlen; simp at hlen ⊢; omega⟩
  rw [pm.mem_iff, List.mem_cons, h3]
  omega
/-- the place: the flat form before and after, for a new leaf -/
theorem W_new {s : aT} (w : Wf s) (hn : sN s < 24) {x : Nat} {a : Int32} (hx : x = 1 ∨ (97 ≤ x ∧ x ≤ 122)) : Wf (s_new s x a) := by
  have hb : ∀ k, k < sH s → sSf s k < sN s := w.1.2.2.2.1
  have hh : 1 ≤ sH s ∧ sH s ≤ sN s := w.1.2.2.1
  have hk : ∀ q, q < sN s → sN s ∉ sKd s q := fun q hq m => by
    have := W_ks w hq m
    omega
  obtain ⟨pre, ht⟩ := W_pre w
  unfold s_new s_put
  have ep : plT (sNm (s_make s x a)) (sSf (s_make s x a)) (sH s) = plT (sNm s) (sSf s) (sH s) := plT_congr hh.1 fun k hk => up_lt (hb k hk)
  rw [ep]
  have ek : ∀ q, sKd (s_make s x a) q = up (sKd s) (sN s) [] q := fun _ => rfl
  cases hp : plT (sNm s) (sSf s) (sH s) with
  | none =>
    have htop := hb (sH s - 1) (by omega)
    obtain ⟨A, S, B, e, _, _, _, g4, g5, g6, g7⟩ := pre_leaf ht hk htop
    refine W_ext w hn hx ⟨_, ?_, g5, g6, g7⟩ (fun i z hz => ?_) ?_ (fun i hi h1 => ?_)
    · show Fo (up (up (sKd s) (sN s) []) (sSf s (sH s - 1)) (up (sKd s) (sN s) [] (sSf s (sH s - 1)) ++ [sN s])) 0 [0] _
      rw [up_lt htop]
      exact g4
    · have hz' : z ∈ up (up (sKd s) (sN s) []) (sSf s (sH s - 1)) (up (sKd s) (sN s) [] (sSf s (sH s - 1)) ++ [sN s]) i := hz
      by_cases q : i = sSf s (sH s - 1)
      · rw [q, up_e, up_lt htop] at hz'
        rw [q]
        rcases List.mem_append.mp hz' with h | h
        · exact Or.inl h
        · exact Or.inr (List.mem_singleton.mp h)
      · rw [up_n q] at hz'
        by_cases q2 : i = sN s
        · rw [q2, up_e] at hz'
          cases hz'
        · rw [up_n q2] at hz'
          exact Or.inl hz'
    · show up (up (sKd s) (sN s) []) (sSf s (sH s - 1)) _ (sN s) = []
      rw [up_n (by omega), up_e]
    · show up (up (sKd s) (sN s) []) (sSf s (sH s - 1)) _ i = []
      have hne : i ≠ sSf s (sH s - 1) := fun q => by
        by_cases q0 : sH s - 1 = 0
        · rw [q, q0, w.2.2.2.2.1.1, w.2.2.2.1.1] at h1
          omega
        · have := w.2.2.2.2.1.2 (sH s - 1) (by omega) (by omega)
          rw [← q] at this
          omega
      rw [up_n hne, up_lt hi]
      exact w.2.2.2.2.2.2.1 i hi h1
  | some j =>
    have h2 := plT_lt hp
    have h3 := hb j h2.1
    have h0 : sSf s j ≠ 0 := fun e => by
      rw [e, w.2.2.2.1.1] at h2
      omega
    obtain ⟨p, K1, K2, q1, q2, q3⟩ := W_par w h3 h0
    obtain ⟨A, B, e, _, _, g4, g5, g6, g7⟩ := pre_leafT ht hk q1 q3
    have hdd := List.nodup_append.mp (q3 ▸ W_nd w q1)
    have hT : ∀ i, i < sN s → i ≠ p → sSf s j ∉ sKd s i := fun i hi hne m => by
      obtain ⟨h1, h2, h3, hlen⟩ := ht
      exact hne (Fo_one h1 h2 ((h3 i).mpr hi) ((h3 p).mpr q1) m (by rw [q3]; simp))
    have ekd : ∀ i, insB (sN s) (sSf s j) (up (sKd s) (sN s) [] i) = if i < sN s then up (up (sKd s) (sN s) []) p (K1 ++ sN s :: sSf s j :: K2) i else insB (sN s) (sSf s j) (up (sKd s) (sN s) [] i) := fun i => by
      by_cases hi : i < sN s
      · rw [if_pos hi]
        by_cases e : i = p
        · rw [e, up_e, up_lt q1, q3, insB_y (fun m => hdd.2.2 _ m _ (by simp) rfl) (List.nodup_cons.mp hdd.2.1).1]
        · rw [up_n e, up_lt hi, insB_n (hT i hi e)]
      · rw [if_neg hi]
    have emem : ∀ {c t z : Nat} {L : List Nat}, z ∈ insB c t L → z ∈ L ∨ z = c := by
      intro c t z L hz
      obtain ⟨y, hy, hz⟩ := List.mem_flatMap.mp hz
      split at hz
      · rename_i e
        simp at hz
        rcases hz with h | h
        · exact Or.inr h
        · exact Or.inl (by rw [h, ← e]; exact hy)
      · exact Or.inl (by rw [List.mem_singleton.mp hz]; exact hy)
    refine W_ext w hn hx ⟨_, ?_, g5, g6, g7⟩ (fun i z hz => ?_) ?_ (fun i hi h1 => ?_)
    · refine Fo_congr g4 fun i hi => ?_
      have hi' := (g6 i).mp hi
      show insB (sN s) (sSf s j) (up (sKd s) (sN s) [] i) = _
      by_cases q : i = sN s
      · rw [q, up_e, up_n (by omega), up_e]
        rfl
      · rw [ekd i, if_pos (by omega)]
    · have hz' : z ∈ insB (sN s) (sSf s j) (up (sKd s) (sN s) [] i) := hz
      rcases emem hz' with h | h
      · by_cases q2 : i = sN s
        · rw [q2, up_e] at h
          cases h
        · rw [up_n q2] at h
          exact Or.inl h
      · exact Or.inr h
    · show insB (sN s) (sSf s j) (up (sKd s) (sN s) [] (sN s)) = []
      rw [up_e]
      rfl
    · show insB (sN s) (sSf s j) (up (sKd s) (sN s) [] i) = []
      rw [up_lt hi, w.2.2.2.2.2.2.1 i hi h1]
      rfl
