/-! the abstract state of the tree: broken, nodes, names, classes, children, stack, its height, entries, letters (code, text), how many -/
abbrev aT : Type := Bool × Nat × (Nat → Nat) × (Nat → Int32) × (Nat → List Nat) × (Nat → Nat) × Nat × List (Nat × Nat) × (Nat → Nat × Nat) × Nat
def sB (s : aT) : Bool := s.1
def sN (s : aT) : Nat := s.2.1
def sNm (s : aT) : Nat → Nat := s.2.2.1
def sCs (s : aT) : Nat → Int32 := s.2.2.2.1
def sKd (s : aT) : Nat → List Nat := s.2.2.2.2.1
def sSf (s : aT) : Nat → Nat := s.2.2.2.2.2.1
def sH (s : aT) : Nat := s.2.2.2.2.2.2.1
def sEn (s : aT) : List (Nat × Nat) := s.2.2.2.2.2.2.2.1
def sCf (s : aT) : Nat → Nat × Nat := s.2.2.2.2.2.2.2.2.1
def sNc (s : aT) : Nat := s.2.2.2.2.2.2.2.2.2
def up {α : Type} (f : Nat → α) (i : Nat) (x : α) : Nat → α := fun j => if j = i then x else f j
theorem up_e {α : Type} (f : Nat → α) (i : Nat) (x : α) : up f i x i = x := if_pos rfl
theorem up_n {α : Type} {f : Nat → α} {i j : Nat} {x : α} (h : j ≠ i) : up f i x j = f j := if_neg h
abbrev nP (i : Nat) : Nat := 7 + 5 * i
def oP (r : Option Nat) : Option Nat := r.map fun i => 7 + 5 * i
theorem oP_n : oP none = none := rfl
theorem oP_s (i : Nat) : oP (some i) = some (7 + 5 * i) := rfl
theorem oP_i {a b : Option Nat} (h : oP a = oP b) : a = b := by
  cases a <;> cases b <;> simp [oP] at h ⊢
  omega
/-- links: the children's lists in the class's memory, for nodes below n -/
def cLk (M : qM) (n : Nat) (kd : Nat → List Nat) : Prop :=
  (∀ p, p < n → M.2 (7 + 5 * p) 5 = oP (kd p).head? ∧ M.2 (7 + 5 * p) 6 = oP (kd p).getLast?) ∧
  (∀ p, p < n → ∀ K1 x K2, kd p = K1 ++ x :: K2 → x < n ∧ M.2 (7 + 5 * x) 4 = some (7 + 5 * p) ∧ M.2 (7 + 5 * x) 7 = oP K1.getLast? ∧ M.2 (7 + 5 * x) 8 = oP K2.head?)
def cNm (M : qM) (n : Nat) (nm : Nat → Nat) (cs : Nat → Int32) : Prop := ∀ i, i < n → M.1 (7 + 5 * i) 0 = nI (nm i) ∧ M.1 (7 + 5 * i) 1 = cs i
/-- whether a node stands in the stack -/
def opn (sf : Nat → Nat) (h i : Nat) : Bool := (lastI (fun k => sf k == i) h).isSome
theorem opn_t {sf : Nat → Nat} {h i : Nat} : opn sf h i = true ↔ ∃ k, k < h ∧ sf k = i := by
  unfold opn
  cases e : lastI (fun k => sf k == i) h with
  | none =>
    simp only [Option.isSome]
    refine ⟨fun h => (by cases h), fun ⟨k, h1, h2⟩ => ?_⟩
    have := lastI_no e k h1
    simp [h2] at this
  | some j =>
    simp only [Option.isSome]
    have := lastI_lt e
    exact ⟨fun _ => ⟨j, this.1, by simpa using this.2⟩, fun _ => trivial⟩
theorem opn_c {sf sf' : Nat → Nat} {h h' i i' : Nat} (e : (∃ k, k < h ∧ sf k = i) ↔ ∃ k, k < h' ∧ sf' k = i') : opn sf h i = opn sf' h' i' := by
  rw [Bool.eq_iff_iff, opn_t, opn_t]
  exact e
def cSt (M : qM) (n : Nat) (sf : Nat → Nat) (h : Nat) : Prop := M.1 5 1 = nI h ∧ (∀ k, k < h → M.2 6 k = some (7 + 5 * sf k)) ∧ ∀ i, i < n → M.1 (7 + 5 * i) 3 = b2 (opn sf h i)
/-- the list of an owner among the entries -/
def flO (en : List (Nat × Nat)) (o : Nat) : List Nat := (en.filter fun q => q.2 == o).map Prod.fst
def cFl (M : qM) (n : Nat) (en : List (Nat × Nat)) : Prop := ∀ i, i < n → M.1 (8 + 5 * i) 1 = nI (flO en i).length ∧ ∀ k e, (flO en i)[k]? = some e → M.2 (8 + 5 * i + 1) k = some (7 + 5 * e)
/-- the first letter of a text from a number on -/
def nxL (cf : Nat → Nat × Nat) (i : Nat) : Nat → Nat → Option Nat
  | 0, _ => none
  | m + 1, q => if (cf q).2 = i then some q else nxL cf i m (q + 1)
def cCh (M : qM) (n : Nat) (cf : Nat → Nat × Nat) (nc : Nat) : Prop := M.1 1 6 = nI nc ∧ (∀ i, i < n → M.2 (7 + 5 * i) 9 = (nxL cf i nc 0).map (127 + ·) ∧ M.2 (7 + 5 * i) 10 = (lastI (fun q => (cf q).2 == i) nc).map (127 + ·)) ∧ ∀ q, q < nc → M.1 (127 + q) 0 = nI (cf q).1 ∧ M.2 (127 + q) 1 = (nxL cf (cf q).2 (nc - (q + 1)) (q + 1)).map (127 + ·)
def C (M : qM) (s : aT) : Prop := (M.1 1 7 = b2 (sB s) ∧ M.1 1 5 = nI (sN s)) ∧ cNm M (sN s) (sNm s) (sCs s) ∧ cLk M (sN s) (sKd s) ∧ cSt M (sN s) (sSf s) (sH s) ∧ cFl M (sN s) (sEn s) ∧ cCh M (sN s) (sCf s) (sNc s)
theorem cLk_cg {M M' : qM} {n : Nat} {kd : Nat → List Nat} (h : cLk M n kd) (e : ∀ i, i < n → ∀ j, 4 ≤ j → j ≤ 8 → M'.2 (7 + 5 * i) j = M.2 (7 + 5 * i) j) : cLk M' n kd := by
  refine ⟨fun p hp => ?_, fun p hp K1 x K2 hk => ?_⟩
  · rw [e p hp 5 (by omega) (by omega), e p hp 6 (by omega) (by omega)]
    exact h.1 p hp
  · have := h.2 p hp K1 x K2 hk
    rw [e x this.1 4 (by omega) (by omega), e x this.1 7 (by omega) (by omega), e x this.1 8 (by omega) (by omega)]
    exact this
theorem cNm_cg {M M' : qM} {n : Nat} {nm : Nat → Nat} {cs : Nat → Int32} (h : cNm M n nm cs) (e : ∀ i, i < n → ∀ j, j ≤ 1 → M'.1 (7 + 5 * i) j = M.1 (7 + 5 * i) j) : cNm M' n nm cs := fun i hi => by
  rw [e i hi 0 (by omega), e i hi 1 (by omega)]
  exact h i hi
theorem cSt_cg {M M' : qM} {n h : Nat} {sf : Nat → Nat} (w : cSt M n sf h) (e1 : M'.1 5 1 = M.1 5 1) (e2 : ∀ k, k < h → M'.2 6 k = M.2 6 k) (e3 : ∀ i, i < n → M'.1 (7 + 5 * i) 3 = M.1 (7 + 5 * i) 3) : cSt M' n sf h := by
  refine ⟨by rw [e1]; exact w.1, fun k hk => ?_, fun i hi => ?_⟩
  · rw [e2 k hk]
    exact w.2.1 k hk
  · rw [e3 i hi]
    exact w.2.2 i hi
theorem cFl_cg {M M' : qM} {n : Nat} {en : List (Nat × Nat)} (w : cFl M n en) (e1 : ∀ i, i < n → M'.1 (8 + 5 * i) 1 = M.1 (8 + 5 * i) 1) (e2 : ∀ i, i < n → ∀ k, M'.2 (8 + 5 * i + 1) k = M.2 (8 + 5 * i + 1) k) : cFl M' n en := fun i hi => by
  refine ⟨by rw [e1 i hi]; exact (w i hi).1, fun k e he => ?_⟩
  rw [e2 i hi]
  exact (w i hi).2 k e he
theorem cCh_cg {M M' : qM} {n nc : Nat} {cf : Nat → Nat × Nat} (w : cCh M n cf nc) (e1 : M'.1 1 6 = M.1 1 6) (e2 : ∀ i, i < n → ∀ j, 9 ≤ j → j ≤ 10 → M'.2 (7 + 5 * i) j = M.2 (7 + 5 * i) j) (e3 : ∀ q, q < nc → M'.1 (127 + q) 0 = M.1 (127 + q) 0 ∧ M'.2 (127 + q) 1 = M.2 (127 + q) 1) : cCh M' n cf nc := by
  refine ⟨by rw [e1]; exact w.1, fun i hi => ?_, fun q hq => ?_⟩
  · rw [e2 i hi 9 (by omega) (by omega), e2 i hi 10 (by omega) (by omega)]
    exact w.2.1 i hi
  · rw [(e3 q hq).1, (e3 q hq).2]
    exact w.2.2 q hq
/-! what is looked for in the stack -/
theorem t_topmost {M : qM} {n h a : Nat} {nm sf : Nat → Nat} {cs : Nat → Int32} (hn : cNm M n nm cs) (hs : cSt M n sf h) (hb : ∀ k, k < h → sf k < n) (hh : h ≤ 24) (hm : ∀ i, i < n → nm i < 200) (ha : a < 200) : ∀ k f K, k ≤ h → k < f → f_OpenStack_topmost_7 M (nI a) f K (dI k) = (lastI (fun j => nm (sf j) == a) k).elim K fun j => some (some (7 + 5 * sf j)) := by
  intro k
  induction k with
  | zero =>
    intro f K _ hf
    obtain ⟨f, rfl⟩ : ∃ g, f = g + 1 := ⟨f - 1, by omega⟩
    rw [f_OpenStack_topmost_7]
    simp only [d_0, if_true, lastI, Option.elim]
  | succ k ih =>
    intro f K hk hf
    obtain ⟨f, rfl⟩ : ∃ g, f = g + 1 := ⟨f - 1, by omega⟩
    have e := hs.2.1 k (by omega)
    have e2 := (hn (sf k) (hb k (by omega))).1
    have e3 := hm (sf k) (hb k (by omega))
    rw [f_OpenStack_topmost_7, d_s]
    simp (disch := omega) only [g_n0, if_false, g_ix, g_cl, q_lt, q_nn, e, e2, g_eq, d_m, lastI]
    by_cases hc : nm (sf k) = a
    · simp [hc]
    · simp [hc, ih f K (by omega) (by omega)]
theorem t_top {M : qM} {n h a : Nat} {nm sf : Nat → Nat} {cs : Nat → Int32} (hn : cNm M n nm cs) (hs : cSt M n sf h) (hb : ∀ k, k < h → sf k < n) (hh : h ≤ 24) (hm : ∀ i, i < n → nm i < 200) (ha : a < 200) : f_OpenStack_topmost (nI a) M = some ((lastI (fun j => nm (sf j) == a) h).map fun j => 7 + 5 * sf j) := by
  unfold f_OpenStack_topmost
  rw [hs.1, d_k, t_topmost hn hs hb hh hm ha h 1000 _ (Nat.le_refl h) (by omega)]
  cases lastI (fun j => nm (sf j) == a) h <;> rfl
theorem t_rch7 {M : qM} {n h a z : Nat} {nm sf : Nat → Nat} {cs : Nat → Int32} (hn : cNm M n nm cs) (hs : cSt M n sf h) (hb : ∀ k, k < h → sf k < n) (hh : h ≤ 24) (hm : ∀ i, i < n → nm i < 200) (ha : a < 200) (hz : z < 12) : ∀ k f K, k ≤ h → k < f → K = some none → f_OpenStack_inReach_7 M (nI a) z f K (dI k) = some ((rchI (fun j => nm (sf j) == a) (fun j => inS z (nm (sf j))) k).map fun j => 7 + 5 * sf j) := by
  intro k
  induction k with
  | zero =>
    intro f K _ hf hK
    obtain ⟨f, rfl⟩ : ∃ g, f = g + 1 := ⟨f - 1, by omega⟩
    rw [f_OpenStack_inReach_7]
    simp only [d_0, if_true, rchI, hK, Option.map]
  | succ k ih =>
    intro f K hk hf hK
    obtain ⟨f, rfl⟩ : ∃ g, f = g + 1 := ⟨f - 1, by omega⟩
    have e := hs.2.1 k (by omega)
    have e2 := (hn (sf k) (hb k (by omega))).1
    have e3 := hm (sf k) (hb k (by omega))
    have e4 := g_one M hz (show nm (sf k) < 65536 by omega)
    rw [f_OpenStack_inReach_7, d_s]
    simp (disch := omega) only [g_n0, if_false, g_ix, g_cl, q_lt, q_nn, q_bp, e, e2, e4, g_eq, d_m, rchI, b2_0]
    by_cases hc : nm (sf k) = a
    · simp [hc]
    · by_cases hq : inS z (nm (sf k)) = true
      · simp [hc, hq]
      · simp [hc, hq, ih f K (by omega) (by omega) hK]
theorem t_rch {M : qM} {n h a z : Nat} {nm sf : Nat → Nat} {cs : Nat → Int32} (hn : cNm M n nm cs) (hs : cSt M n sf h) (hb : ∀ k, k < h → sf k < n) (hh : h ≤ 24) (hm : ∀ i, i < n → nm i < 200) (ha : a < 200) (hz : z < 12) : f_OpenStack_inReach (nI a) z M = some ((rchI (fun j => nm (sf j) == a) (fun j => inS z (nm (sf j))) h).map fun j => 7 + 5 * sf j) := by
  unfold f_OpenStack_inReach
  rw [hs.1, d_k, t_rch7 hn hs hb hh hm ha hz h 1000 _ (Nat.le_refl h) (by omega) rfl]
/-- TABLE of the place when the lowest so many are open, by its index -/
def plT (nm sf : Nat → Nat) (h : Nat) : Option Nat := if nm (sf (h - 1)) = 116 ∨ nm (sf (h - 1)) = 114 then lastI (fun j => nm (sf j) == 116) h else none
theorem t_tut7 {M : qM} {n h : Nat} {nm sf : Nat → Nat} {cs : Nat → Int32} (hn : cNm M n nm cs) (hs : cSt M n sf h) (hb : ∀ k, k < h → sf k < n) (hh : h ≤ 24) (hm : ∀ i, i < n → nm i < 200) : ∀ k f K, k ≤ h → k < f → f_OpenStack_tableUnderTop_51 M f K (dI k) = (lastI (fun j => nm (sf j) == 116) k).elim K fun j => some (some (7 + 5 * sf j)) := by
  intro k
  induction k with
  | zero =>
    intro f K _ hf
    obtain ⟨f, rfl⟩ : ∃ g, f = g + 1 := ⟨f - 1, by omega⟩
    rw [f_OpenStack_tableUnderTop_51]
    simp only [d_0, if_true, lastI, Option.elim]
  | succ k ih =>
    intro f K hk hf
    obtain ⟨f, rfl⟩ : ∃ g, f = g + 1 := ⟨f - 1, by omega⟩
    have e := hs.2.1 k (by omega)
    have e2 := (hn (sf k) (hb k (by omega))).1
    have e3 := hm (sf k) (hb k (by omega))
    have e5 : (116 : Int32) = nI 116 := rfl
    rw [f_OpenStack_tableUnderTop_51, d_s]
    simp (disch := omega) only [g_n0, if_false, g_ix, g_cl, q_lt, q_nn, e, e2, e5, g_eq, d_m, lastI]
    by_cases hc : nm (sf k) = 116
    · simp [hc]
    · simp [hc, ih f K (by omega) (by omega)]
theorem t_tut {M : qM} {n h g : Nat} {nm sf : Nat → Nat} {cs : Nat → Int32} (hn : cNm M n nm cs) (hs : cSt M n sf h) (hb : ∀ k, k < h → sf k < n) (hh : h ≤ 24) (hm : ∀ i, i < n → nm i < 200) (h1 : 1 ≤ g) (h2 : g ≤ h) : f_OpenStack_tableUnderTop (nI g) M = some ((plT nm sf g).map fun j => 7 + 5 * sf j) := by
  obtain ⟨g, rfl⟩ : ∃ k, g = k + 1 := ⟨g - 1, by omega⟩
  have e := hs.2.1 g (by omega)
  have e2 := (hn (sf g) (hb g (by omega))).1
  have e3 := hm (sf g) (hb g (by omega))
  have e5 : (116 : Int32) = nI 116 := rfl
  have e6 : (114 : Int32) = nI 114 := rfl
  have e7 : nI (g + 1) - 1 = nI g := d_s g
  have e8 : f_OpenStack_tableUnderTop_51 M 1000 (some none) (nI g) = some ((lastI (fun j => nm (sf j) == 116) (g + 1)).map fun j => 7 + 5 * sf j) := by
    rw [← d_s g, t_tut7 hn hs hb hh hm (g + 1) 1000 _ h2 (by omega)]
    cases lastI (fun j => nm (sf j) == 116) (g + 1) <;> rfl
  unfold f_OpenStack_tableUnderTop plT
  rw [hs.1, e7, ← l_1, e8]
  simp (disch := omega) only [g_lt, g_ix, g_cl, q_lt, q_nn, e, e2, e5, e6, g_eq]
  rw [if_neg (by omega), if_neg (by omega), Nat.add_sub_cancel]
  by_cases hc : nm (sf g) = 116
  · simp [hc]
  · by_cases hd : nm (sf g) = 114
    · simp [hc, hd]
    · simp [hc, hd]
theorem t_idx2 {M : qM} {n h : Nat} {sf : Nat → Nat} {p : Option Nat} (hs : cSt M n sf h) (hh : h ≤ 24) {t : Nat} (ht : t ≤ h) (he : t < h → some (7 + 5 * sf t) = p) (hx : ∀ k, k < t → some (7 + 5 * sf k) ≠ p) : ∀ m k f, k + m = t → m + 1 < f → f_OpenStack_indexOf_2 M p f (some (M.1 5 1)) (nI k) = some (nI t) := by
  intro m
  induction m with
  | zero =>
    intro k f hk hf
    obtain ⟨f, rfl⟩ : ∃ g, f = g + 1 := ⟨f - 1, by omega⟩
    have : k = t := by omega
    subst this
    rw [f_OpenStack_indexOf_2, hs.1, i_le (by omega) (by omega)]
    by_cases h2 : h ≤ k
    · rw [if_pos h2, show k = h by omega]
    · rw [if_neg h2, g_ix (by omega) (by omega), g_cl (by omega), hs.2.1 k (by omega), he (by omega)]
      simp [q_lt]
  | succ m ih =>
    intro k f hk hf
    obtain ⟨f, rfl⟩ : ∃ g, f = g + 1 := ⟨f - 1, by omega⟩
    rw [f_OpenStack_indexOf_2, hs.1, i_le (by omega) (by omega), if_neg (by omega), g_ix (by omega) (by omega), g_cl (by omega), hs.2.1 k (by omega)]
    show (if some (7 + 5 * sf k) = p then _ else _) = _
    rw [if_neg (hx k (by omega)), g_inc]
    have := ih (k + 1) f (by omega) (by omega)
    rw [hs.1] at this
    exact this
theorem t_idx {M : qM} {n h : Nat} {sf : Nat → Nat} {k : Nat} (hs : cSt M n sf h) (hh : h ≤ 24) (hi : ∀ a b, a < h → b < h → sf a = sf b → a = b) (hk : k < h) : f_OpenStack_indexOf (some (7 + 5 * sf k)) M = some (nI k) := by
  refine t_idx2 hs hh (Nat.le_of_lt hk) (fun _ => rfl) (fun j hj e => ?_) k 0 1000 (by omega) (by omega)
  have e1 : sf j = sf k := by
    have := Option.some.inj e
    omega
  have := hi j k (by omega) hk e1
  omega
theorem t_idxN {M : qM} {n h : Nat} {sf : Nat → Nat} (hs : cSt M n sf h) (hh : h ≤ 24) : f_OpenStack_indexOf none M = some (nI h) := t_idx2 hs hh (Nat.le_refl h) (fun e => by omega) (fun j hj e => by cases e) h 0 1000 (by omega) (by omega)
