/-! what tags and characters do, on the class's side -/
def s_kd (s : aT) (kd : Nat → List Nat) : aT := (sB s, sN s, sNm s, sCs s, kd, sSf s, sH s, sEn s, sCf s, sNc s)
theorem C_lk {M M' : qM} {s : aT} {kd : Nat → List Nat} (c : C M s) (hn : sN s ≤ 24) (hk : cLk M' (sN s) kd) (r1 : M'.1 = M.1) (r2 : (∀ q j, (4 ≤ j → j ≤ 8 → ∀ i, i < sN s → q ≠ 7 + 5 * i) → M'.2 q j = M.2 q j) ∧ M'.2 7 4 = M.2 7 4 ∧ M'.2 7 8 = M.2 7 8) : C M' (s_kd s kd) ∧ tF M M' := by
  obtain ⟨r2, r3, r4⟩ := r2
  obtain ⟨⟨cB, cN⟩, c1, c2, c3, c4, c5⟩ := c
  refine ⟨⟨⟨?_, ?_⟩, ?_, hk, ?_, ?_, ?_⟩, fun p j hp => ⟨by rw [r1], ?_⟩⟩
  · rw [r1]; exact cB
  · rw [r1]; exact cN
  · exact cNm_cg c1 fun i hi j hj => by rw [r1]
  · exact cSt_cg c3 (by rw [r1]) (fun k hk => r2 _ _ (by omega)) fun i hi => by rw [r1]
  · exact cFl_cg c4 (fun i hi => by rw [r1]) fun i hi k => r2 _ _ (by omega)
  · exact cCh_cg c5 (by rw [r1]) (fun i hi j h1 h2 => r2 _ _ (by omega)) fun q hq => ⟨by rw [r1], r2 _ _ (by omega)⟩
  · rcases hp with h | h | ⟨h, h' | h'⟩
    · exact r2 _ _ (by omega)
    · exact r2 _ _ (by omega)
    · rw [h, h']; exact r3
    · rw [h, h']; exact r4
theorem cLk_ext {M : qM} {n : Nat} {kd kd' : Nat → List Nat} (h : cLk M n kd) (e : ∀ p, p < n → kd' p = kd p) : cLk M n kd' := ⟨fun p hp => by rw [e p hp]; exact h.1 p hp, fun p hp K1 x K2 hk => h.2 p hp K1 x K2 (by rw [← e p hp]; exact hk)⟩
theorem cLk_one {M : qM} {n p q t : Nat} {kd : Nat → List Nat} (h : cLk M n kd) (hp : p < n) (hq : q < n) (h1 : t ∈ kd p) (h2 : t ∈ kd q) : p = q := by
  obtain ⟨A1, B1, e2⟩ := List.append_of_mem h1
  obtain ⟨A2, B2, e3⟩ := List.append_of_mem h2
  have := (h.2 p hp A1 t B1 e2).2.1.symm.trans (h.2 q hq A2 t B2 e3).2.1
  simp at this
  omega
def s_put (s : aT) (c g : Nat) : aT := s_kd s (match plT (sNm s) (sSf s) g with
  | some j => fun q => insB c (sSf s j) (sKd s q)
  | none => up (sKd s) (sSf s (g - 1)) (sKd s (sSf s (g - 1)) ++ [c]))
theorem s_putT {M : qM} {s : aT} {c g : Nat} (cc : C M s) (hn : sN s ≤ 24) (hnm : ∀ i, i < sN s → sNm s i < 200) (hb : ∀ k, k < sH s → sSf s k < sN s) (hh : sH s ≤ 24) (h1 : 1 ≤ g) (hg : g ≤ sH s) (hc : c < sN s) (hk : ∀ q, q < sN s → c ∉ sKd s q) (hnd : ∀ p, p < sN s → (sKd s p).Nodup) (ht : c ≠ sSf s (g - 1)) (hc0 : c ≠ 0) (hp0 : ∀ p, p < sN s → 0 ∉ sKd s p) (hT : ∀ j, plT (sNm s) (sSf s) g = some j → ∃ p A B, p < sN s ∧ p ≠ c ∧ sSf s j ≠ p ∧ sKd s p = A ++ sSf s j :: B) : ∃ M', f_Tree_putAtPlace (7 + 5 * c) (nI g) M = some M' ∧ C M' (s_put s c g) ∧ tF M M' := by
  have e1 := t_tut cc.2.1 cc.2.2.2.1 hb hh hnm h1 hg
  have e0 : nI g - 1 = nI (g - 1) := by
    obtain ⟨k, hk⟩ : ∃ k, g = k + 1 := ⟨g - 1, by omega⟩
    rw [hk]
    exact d_s k
  unfold f_Tree_putAtPlace s_put
  rw [e1]
  cases hp : plT (sNm s) (sSf s) g with
  | none =>
    obtain ⟨M', a1, a2, a3, a4⟩ := l_app hc0 (hp0 _ (hb (g - 1) (by omega))) cc.2.2.1 (hb (g - 1) (by omega)) hc ht hk (hnd _ (hb (g - 1) (by omega)))
    refine ⟨M', ?_, C_lk cc hn a2 a3 a4⟩
    simp only [Option.map, q_bp, q_lt, q_on]
    rw [show (0 : Int32) = nI 0 from rfl, i_le (by omega) (by omega), if_neg (by omega), e0, g_ix (by omega) (by omega), g_cl (by omega), cc.2.2.2.1.2.1 _ (by omega)]
    simp only [q_nn, a1, q_cv]
  | some j =>
    obtain ⟨p, A, B, hp1, hp2, hp3, hp4⟩ := hT j hp
    have hj := cc.2.2.1.2 p hp1 A _ B hp4
    obtain ⟨M', a1, a2, a3, a4⟩ := l_ins hc0 (hp0 p hp1) cc.2.2.1 hp1 hc (Ne.symm hp2) hk (hnd p hp1) hp4 hp3
    have hdd := List.nodup_append.mp (hp4 ▸ hnd p hp1)
    have a5 : cLk M' (sN s) (fun q => insB c (sSf s j) (sKd s q)) := cLk_ext a2 fun q hq => by
      by_cases e : q = p
      · subst e
        rw [up_e, hp4, insB_y (fun m => hdd.2.2 _ m _ (by simp) rfl) (List.nodup_cons.mp hdd.2.1).1]
      · rw [up_n e, insB_n]
        exact fun m => e (cLk_one cc.2.2.1 hq hp1 m (by rw [hp4]; simp))
    refine ⟨M', ?_, C_lk cc hn a5 a3 a4⟩
    simp only [Option.map, q_bp, q_lt, q_on, hj.2.1, q_nn, a1, q_cv]
/-- whether a node lies below another -/
def pth (kd : Nat → List Nat) : Nat → Nat → Nat → Prop
  | 0, x, y => x = y
  | m + 1, x, y => ∃ z, z ∈ kd x ∧ pth kd m z y
def dsc (kd : Nat → List Nat) (x y : Nat) : Prop := ∃ m, pth kd (m + 1) x y
theorem Fo_pth {kd : Nat → List Nat} {d : Nat} {is : List Nat} {out : List (Nat × Nat)} (h : Fo kd d is out) : ∀ y ∈ fI out, ∃ i, i ∈ is ∧ ∃ m, pth kd m i y := by
  refine Fo_ind (P := fun d is out => ∀ y ∈ fI out, ∃ i, i ∈ is ∧ ∃ m, pth kd m i y) (fun d q hq => by cases hq) (fun d i js L1 L2 _ _ p1 p2 y hy => ?_) h
  rw [fI_cons, fI_app] at hy
  rcases List.mem_cons.mp hy with hy | hy
  · exact ⟨i, by simp, 0, hy.symm⟩
  · rcases List.mem_append.mp hy with hy | hy
    · obtain ⟨z, hz, m, hm⟩ := p1 y hy
      exact ⟨i, by simp, m + 1, z, hz, hm⟩
    · obtain ⟨z, hz, m, hm⟩ := p2 y hy
      exact ⟨z, by simp [hz], m, hm⟩
theorem pth_leaf {kd kd' : Nat → List Nat} {n y : Nat} (h1 : ∀ i z, z ∈ kd' i → z ∈ kd i ∨ z = n) (h2 : kd' n = []) (hy : y ≠ n) : ∀ {m x : Nat}, pth kd' m x y → pth kd m x y
  | 0, _, h => h
  | m + 1, x, ⟨z, hz, hp⟩ => by
    rcases h1 x z hz with h | h
    · exact ⟨z, h, pth_leaf h1 h2 hy hp⟩
    · subst h
      cases m with
      | zero => exact absurd hp.symm hy
      | succ m =>
        obtain ⟨z', hz', _⟩ := hp
        rw [h2] at hz'
        cases hz'
def wT (s : aT) (pre : List (Nat × Nat)) : Prop := Fo (sKd s) 0 [0] pre ∧ (fI pre).Nodup ∧ (∀ i, i ∈ fI pre ↔ i < sN s) ∧ pre.length = sN s
def wX (s : aT) : Prop := (sNm s 0 = 0 ∧ ∀ i, 0 < i → i < sN s → sNm s i = 1 ∨ (97 ≤ sNm s i ∧ sNm s i ≤ 122)) ∧ (sSf s 0 = 0 ∧ ∀ k, 0 < k → k < sH s → 97 ≤ sNm s (sSf s k)) ∧ (∀ k, k < sH s → sNm s (sSf s k) = 114 → 1 ≤ k ∧ sNm s (sSf s (k - 1)) = 116) ∧ (∀ i, i < sN s → sNm s i = 1 → sKd s i = []) ∧ ((∀ q, q < sNc s → (sCf s q).2 < sN s ∧ sNm s (sCf s q).2 = 1 ∧ (sCf s q).1 < 200) ∧ sNc s ≤ 160) ∧ (∀ q ∈ sEn s, inS 7 (sNm s q.1) = true) ∧ ∀ a b, a < b → b < sH s → ¬ dsc (sKd s) (sSf s b) (sSf s a)
def Wf (s : aT) : Prop := wS s ∧ wL s ∧ (∃ pre, wT s pre) ∧ wX s
theorem W_N {s : aT} (w : Wf s) : wN s := ⟨w.1.2.2.2.1, fun q hq => (w.2.1.1 q hq).2, fun q hq => (w.2.2.2.2.2.2.2.1.1 q hq).1⟩
theorem W_nd {s : aT} (w : Wf s) {p : Nat} (hp : p < sN s) : (sKd s p).Nodup := by
  obtain ⟨pre, h1, h2, h3, _⟩ := w.2.2.1
  exact Fo_knd h1 h2 ((h3 p).mpr hp)
theorem W_ks {s : aT} (w : Wf s) {p x : Nat} (hp : p < sN s) (hx : x ∈ sKd s p) : x < sN s := by
  obtain ⟨pre, h1, h2, h3, _⟩ := w.2.2.1
  exact (h3 x).mp (Fo_kids h1 p ((h3 p).mpr hp) x hx)
/-- root is nobody's child -/
theorem W_rt {s : aT} (w : Wf s) {p : Nat} (hp : p < sN s) : 0 ∉ sKd s p := by
  obtain ⟨pre, h1, h2, h3, _⟩ := w.2.2.1
  intro m
  obtain ⟨L1, L2, e1, g1, g2⟩ := Fo_cons_inv h1
  have := Fo_nil_inv g2
  subst this
  rw [List.append_nil] at e1
  subst e1
  have a : 0 ∉ fI L1 := (List.nodup_cons.mp h2).1
  rcases List.mem_cons.mp ((h3 p).mpr hp) with e | e
  · rw [show p = 0 from e] at m
    exact a (fI_mem.mpr ⟨_, Fo_sub g1 0 m⟩)
  · exact a (Fo_kids g1 p e 0 m)
/-- no node is its own child -/
theorem W_self {s : aT} (w : Wf s) {p : Nat} (hp : p < sN s) : p ∉ sKd s p := by
  obtain ⟨pre, h1, h2, h3, _⟩ := w.2.2.1
  obtain ⟨A, S, B, e, e1, e2, _⟩ := Fo_at h1 p ((h3 p).mpr hp)
  intro m
  rw [e1, fI_app, fI_cons, fI_app] at h2
  have := fI_mem.mpr ⟨_, Fo_sub e2 p m⟩
  exact (List.nodup_cons.mp (List.nodup_append.mp h2).2.1).1 (by simp [this])
/-- every other node is somebody's child -/
theorem W_par {s : aT} (w : Wf s) {x : Nat} (hx : x < sN s) (h0 : x ≠ 0) : ∃ p A B, p < sN s ∧ x ≠ p ∧ sKd s p = A ++ x :: B := by
  obtain ⟨pre, h1, h2, h3, _⟩ := w.2.2.1
  rcases Fo_par h1 x ((h3 x).mpr hx) with h | ⟨p, hp, hm⟩
  · simp at h
    exact absurd h h0
  · obtain ⟨A, B, e⟩ := List.append_of_mem hm
    have hp' := (h3 p).mp hp
    refine ⟨p, A, B, hp', fun q => W_self w hp' (q ▸ hm), e⟩
theorem plT_lt {nm sf : Nat → Nat} {g j : Nat} (h : plT nm sf g = some j) : j < g ∧ nm (sf j) = 116 := by
  unfold plT at h
  split at h
  · have := lastI_lt h
    exact ⟨this.1, by simpa using this.2⟩
  · cases h
theorem plT_congr {nm nm' sf : Nat → Nat} {g : Nat} (hg : 1 ≤ g) (h : ∀ k, k < g → nm' (sf k) = nm (sf k)) : plT nm' sf g = plT nm sf g := by
  unfold plT
  rw [h (g - 1) (by omega), lastI_congr (Q := fun j => nm (sf j) == 116) fun j hj => by rw [h j hj]]
/-- a new node at the place -/
def s_new (s : aT) (x : Nat) (c : Int32) : aT := s_put (s_make s x c) (sN s) (sH s)
theorem up_lt {α : Type} {f : Nat → α} {n i : Nat} {x : α} (h : i < n) : up f n x i = f i := up_n (by omega)
theorem s_mkput {M : qM} {s : aT} (c : C M s) (w : Wf s) (hn : sN s < 24) {x : Nat} (hx : x < 200) (a : Int32) : ∃ M1 M2, f_Tree_make (nI x) a M = some (some (7 + 5 * sN s), M1) ∧ f_Tree_putAtPlace (7 + 5 * sN s) (nI (sH s)) M1 = some M2 ∧ C M1 (s_make s x a) ∧ C M2 (s_new s x a) ∧ tF M M2 := by
  obtain ⟨M1, e1, e2, e3, e4⟩ := s_makeT c (W_N w) w.1.1.1 hn x a
  have hb : ∀ k, k < sH s → sSf s k < sN s := w.1.2.2.2.1
  have hh : 1 ≤ sH s ∧ sH s ≤ sN s := w.1.2.2.1
  have u1 : ∀ i, i < sN s + 1 → up (sNm s) (sN s) x i < 200 := fun i hi => by
    by_cases e : i = sN s
    · rw [e, up_e]; exact hx
    · rw [up_n e]
      exact w.1.2.1 i (by omega)
  have u2 : ∀ q, q < sN s + 1 → sN s ∉ up (sKd s) (sN s) [] q := fun q hq => by
    by_cases e : q = sN s
    · rw [e, up_e]; simp
    · rw [up_n e]
      intro m
      have := W_ks w (show q < sN s by omega) m
      omega
  have u3 : ∀ p, p < sN s + 1 → (up (sKd s) (sN s) [] p).Nodup := fun p hp => by
    by_cases e : p = sN s
    · rw [e, up_e]; exact List.nodup_nil
    · rw [up_n e]
      exact W_nd w (by omega)
  have u4 : sN s ≠ sSf s (sH s - 1) := fun e => by
    have := hb (sH s - 1) (by omega)
    omega
  have u5 : ∀ p, p < sN s + 1 → 0 ∉ up (sKd s) (sN s) [] p := fun p hp => by
    by_cases e : p = sN s
    · rw [e, up_e]; simp
    · rw [up_n e]
      exact W_rt w (by omega)
  have u6 : ∀ j, plT (up (sNm s) (sN s) x) (sSf s) (sH s) = some j → ∃ p A B, p < sN s + 1 ∧ p ≠ sN s ∧ sSf s j ≠ p ∧ up (sKd s) (sN s) [] p = A ++ sSf s j :: B := fun j hj' => by
    rw [plT_congr hh.1 fun k hk => up_lt (hb k hk)] at hj'
    have h2 := plT_lt hj'
    have h3 := hb j h2.1
    have h0 : sSf s j ≠ 0 := fun e => by
      rw [e, w.2.2.2.1.1] at h2
      omega
    obtain ⟨p, A, B, q1, q2, q3⟩ := W_par w h3 h0
    exact ⟨p, A, B, Nat.lt_succ_of_lt q1, by omega, q2, by rw [up_lt q1]; exact q3⟩
  obtain ⟨M2, f1, f2, f3⟩ := s_putT (s := s_make s x a) (c := sN s) (g := sH s) e2 (show sN s + 1 ≤ 24 by omega) u1 (fun k hk => Nat.lt_succ_of_lt (hb k hk)) (show sH s ≤ 24 by omega) hh.1 (Nat.le_refl _) (Nat.lt_succ_self _) u2 u3 u4 (by have := w.1.1.1; omega) u5 u6
  exact ⟨M1, M2, e1, f1, e2, f2, tF_t e3 f3⟩
def s_newB (s : aT) (x : Nat) (c : Int32) : aT := if sN s < 24 then s_new s x c else s_brk s
theorem s_newT {M : qM} {s : aT} (c : C M s) (w : Wf s) {x : Nat} (hx : x < 200) (a : Int32) : ∃ M', f_Tree_putNew (nI x) a M = some ((if sN s < 24 then some (7 + 5 * sN s) else none), M') ∧ C M' (s_newB s x a) ∧ tF M M' := by
  unfold f_Tree_putNew s_newB
  by_cases hn : sN s < 24
  · obtain ⟨M1, M2, e1, e2, e3, e4, e5⟩ := s_mkput c w hn hx a
    refine ⟨M2, ?_, by rw [if_pos hn]; exact e4, e5⟩
    rw [e1]
    have : M1.1 5 1 = nI (sH s) := e3.2.2.2.1.1
    simp only [q_cl, q_on, this, e2, q_cv, if_pos hn]
  · obtain ⟨M1, e1, e2, e3⟩ := s_brkT c hn w.1.1.2 (nI x) a
    refine ⟨M1, ?_, by rw [if_neg hn]; exact e2, e3⟩
    rw [e1]
    simp only [q_cl, q_on, if_neg hn]
/-- a new node in the top, opened -/
def s_op (s : aT) (x : Nat) (c : Int32) : aT := if sN s < 24 then s_push (s_kd (s_make s x c) (up (up (sKd s) (sN s) []) (sSf s (sH s - 1)) (sKd s (sSf s (sH s - 1)) ++ [sN s]))) (sN s) else s_brk s
theorem s_opT {M : qM} {s : aT} (c : C M s) (w : Wf s) {x : Nat} (hx : x < 200) (a : Int32) : ∃ M', f_Tree_openInTop (nI x) a M = some M' ∧ C M' (s_op s x a) ∧ tF M M' := by
  unfold f_Tree_openInTop s_op
  have hb : ∀ k, k < sH s → sSf s k < sN s := w.1.2.2.2.1
  have hh : 1 ≤ sH s ∧ sH s ≤ sN s := w.1.2.2.1
  by_cases hn : sN s < 24
  · obtain ⟨M1, e1, e2, e3, e4⟩ := s_makeT c (W_N w) w.1.1.1 hn x a
    have ht := hb (sH s - 1) (by omega)
    have wm : wS (s_make s x a) := by
      refine ⟨⟨show 1 ≤ sN s + 1 by omega, show sN s + 1 ≤ 24 by omega⟩, fun i hi => ?_, ⟨hh.1, show sH s ≤ sN s + 1 by omega⟩, fun k hk => Nat.lt_succ_of_lt (hb k hk), w.1.2.2.2.2⟩
      show up (sNm s) (sN s) x i < 200
      by_cases e : i = sN s
      · rw [e, up_e]; exact hx
      · rw [up_n e]
        have : i < sN s + 1 := hi
        exact w.1.2.1 i (by omega)
    have et := s_top e2 wm
    have hk0 : ∀ q, q < sN s + 1 → sN s ∉ up (sKd s) (sN s) [] q := fun q hq => by
      by_cases e : q = sN s
      · rw [e, up_e]; simp
      · rw [up_n e]
        intro m
        have := W_ks w (show q < sN s by omega) m
        omega
    obtain ⟨M2, a1, a2, a3, a4⟩ := l_app (n := sN s + 1) (p := sSf s (sH s - 1)) (c := sN s) (by have := w.1.1.1; omega) (by show 0 ∉ up (sKd s) (sN s) [] (sSf s (sH s - 1)); rw [up_lt ht]; exact W_rt w ht) e2.2.2.1 (by omega) (by omega) (by omega) hk0 (by
      show (up (sKd s) (sN s) [] (sSf s (sH s - 1))).Nodup
      rw [up_lt ht]
      exact W_nd w ht)
    have a2' : cLk M2 (sN s + 1) (up (up (sKd s) (sN s) []) (sSf s (sH s - 1)) (sKd s (sSf s (sH s - 1)) ++ [sN s])) := by
      have q : up (sKd s) (sN s) [] (sSf s (sH s - 1)) = sKd s (sSf s (sH s - 1)) := up_lt ht
      rw [← q]
      exact a2
    obtain ⟨c2, t2⟩ := C_lk (s := s_make s x a) e2 (show sN s + 1 ≤ 24 by omega) a2' a3 a4
    obtain ⟨M3, b1, b2', b3⟩ := s_pushT (i := sN s) c2 (Nat.lt_succ_self _) (show sN s + 1 ≤ 24 by omega) (show sH s < 24 by omega)
    refine ⟨M3, ?_, by rw [if_pos hn]; exact b2', tF_t e3 (tF_t t2 b3)⟩
    rw [e1]
    simp only [q_cl, q_on]
    rw [et]
    have a1' : f_Node_insert (7 + 5 * sSf (s_make s x a) (sH (s_make s x a) - 1)) (7 + 5 * sN s) none M1 = some M2 := a1
    simp only [q_bp, q_nn, a1', q_cv, b1]
  · obtain ⟨M1, e1, e2, e3⟩ := s_brkT c hn w.1.1.2 (nI x) a
    refine ⟨M1, ?_, by rw [if_neg hn]; exact e2, e3⟩
    rw [e1]
    simp only [q_cl, q_on]
