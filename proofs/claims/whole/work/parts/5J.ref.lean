/-! the reference's side: what is looked for -/
def rO (M : qM) (l : List (Nat × Nat)) : Prop := M.1 0 5 = nI l.length ∧ ∀ k i e, l[k]? = some (i, e) → M.1 3 k = nI i ∧ M.1 6 i = nI e
def rNm (M : qM) (s : aT) : Prop := M.1 0 7 = nI (sN s) ∧ ∀ i, i < sN s → M.1 4 i = nI (sNm s i) ∧ M.1 5 i = sCs s i
def rSt (M : qM) (s : aT) : Prop := M.1 0 13 = nI (sH s) ∧ ∀ k, k < sH s → M.1 8 k = nI (sSf s k)
def rEn (M : qM) (en : List (Nat × Nat)) : Prop := M.1 0 16 = nI en.length ∧ ∀ k e o, en[k]? = some (e, o) → M.1 9 k = nI e ∧ M.1 10 k = nI o
def rCh (M : qM) (s : aT) : Prop := M.1 0 17 = nI (sNc s) ∧ ∀ q, q < sNc s → M.1 11 q = nI (sCf s q).1 ∧ M.1 12 q = nI (sCf s q).2
def R (M : qM) (s : aT) (pre : List (Nat × Nat)) : Prop := (M.1 0 4 = 0 ∧ sB s = false) ∧ rNm M s ∧ rO M pre ∧ rSt M s ∧ rEn M (sEn s) ∧ rCh M s
def rF (M M' : qM) : Prop := ∀ p j, ((p = 0 ∧ j ≠ 4 ∧ j ≠ 5 ∧ j ≠ 7 ∧ j ≠ 13 ∧ j ≠ 16 ∧ j ≠ 17 ∧ j ≠ 20 ∧ j ≠ 21) ∨ p = 1 ∨ p = 2 ∨ 13 ≤ p) → M'.1 p j = M.1 p j
theorem rF_r (M : qM) : rF M M := fun _ _ _ => rfl
theorem rF_t {M M1 M2 : qM} (h1 : rF M M1) (h2 : rF M1 M2) : rF M M2 := fun p j h => (h2 p j h).trans (h1 p j h)
def eI (o : Option Nat) : Int32 := o.elim (-1) nI
theorem eI_n : eI none = -1 := rfl
theorem eI_s (k : Nat) : eI (some k) = nI k := rfl
theorem eI_lt {o : Option Nat} (h : ∀ k, o = some k → k < 2147483648) : (eI o < 0) = (o = none) := by
  cases o with
  | none =>
    have : (-1 : Int32) < 0 := by decide
    simp [eI, this]
  | some k =>
    rw [eI_s, g_n0 (h k rfl)]
    simp
theorem g_m1 {k : Nat} (h : k < 2147483648) : (nI k = -1) = False := by
  refine propext ⟨fun e => ?_, False.elim⟩
  have h1 := nI_toInt h
  rw [e] at h1
  have : (-1 : Int32).toInt = -1 := by decide
  omega
theorem g_p0 {k : Nat} (h : k < 2147483648) : (0 ≤ nI k) = True := by simp [nI_pos' h]
/-- the bit of a name -/
def bitv (x : Nat) : Int32 := (f_Md_bit (nI x) qM0).getD 0
theorem r_bit {x : Nat} (M : qM) (hx : x < 123) : f_Md_bit (nI x) M = some (bitv x) := by
  have h : ∀ y, y < 123 → f_Md_bit (nI y) qM0 = some (bitv y) := by decide +kernel
  exact h x hx
def nmK (x : Nat) : Bool := decide (x < 2) || decide (97 ≤ x ∧ x ≤ 122)
theorem bit_2 : ∀ x, x < 123 → nmK x = true → (bitv x &&& 524288 = 0 ↔ inS 2 x = false) := by decide +kernel
theorem bit_3 : ∀ x, x < 123 → nmK x = true → (bitv x &&& 1607816 = 0 ↔ inS 3 x = false) := by decide +kernel
theorem bit_4 : ∀ x, x < 123 → nmK x = true → (bitv x &&& 4 = 0 ↔ inS 4 x = false) := by decide +kernel
theorem bit_5 : ∀ x, x < 123 → nmK x = true → (bitv x &&& 1048580 = 0 ↔ inS 5 x = false) := by decide +kernel
theorem bit_8 : ∀ x, x < 123 → nmK x = true → (bitv x &&& 1738892 = 0 ↔ inS 8 x = false) := by decide +kernel
theorem bit_7 : ∀ x, x < 123 → nmK x = true → (bitv x &&& 262402 = 0 ↔ inS 7 x = false) := by decide +kernel
def trS (x : Nat) : Bool := decide (x = 116 ∨ x = 114)
theorem bit_tr : ∀ x, x < 123 → nmK x = true → (bitv x &&& 655360 = 0 ↔ trS x = false) := by decide +kernel
theorem W_nmK {s : aT} (w : Wf s) {i : Nat} (hi : i < sN s) : sNm s i < 123 ∧ nmK (sNm s i) = true := by
  by_cases h0 : i = 0
  · rw [h0, w.2.2.2.1.1]
    exact ⟨by omega, rfl⟩
  · rcases w.2.2.2.1.2 i (by omega) hi with h | h
    · rw [h]
      exact ⟨by omega, rfl⟩
    · refine ⟨by omega, ?_⟩
      unfold nmK
      simp
      omega
theorem r_named {M : qM} {s : aT} (w : Wf s) (hn : rNm M s) {i : Nat} (hi : i < sN s) {mask : Int32} {P : Nat → Bool} (hb : ∀ x, x < 123 → nmK x = true → (bitv x &&& mask = 0 ↔ P x = false)) : f_Md_named (nI i) mask M = some (b2 (P (sNm s i))) := by
  have h24 := w.1.1.2
  have hx := W_nmK w hi
  unfold f_Md_named
  rw [g_ix (by omega) (by omega), g_cl (by omega), (hn.2 i hi).1, r_bit M hx.1]
  show (if bitv (sNm s i) &&& mask = 0 then some 0 else some 1) = _
  by_cases h : P (sNm s i) = true
  · rw [if_neg (fun q => by rw [(hb _ hx.1 hx.2).mp q] at h; cases h), h]
    rfl
  · have h' : P (sNm s i) = false := by simpa using h
    rw [if_pos ((hb _ hx.1 hx.2).mpr h'), h']
    rfl
theorem r_top4 {M : qM} {s : aT} (w : Wf s) (hn : rNm M s) (hs : rSt M s) {a : Nat} (ha : a < 200) : ∀ m k f K, k + m = sH s → m < f → f_Md_topmost_4 M (nI a) f K (eI (lastI (fun j => sNm s (sSf s j) == a) k)) (nI k) = K (eI (s_tm s a)) := by
  have hh : sH s ≤ 24 := by have := w.1.2.2.1.2; have := w.1.1.2; omega
  have h24 := w.1.1.2
  intro m
  induction m with
  | zero =>
    intro k f K hk hf
    obtain ⟨f, rfl⟩ : ∃ g, f = g + 1 := ⟨f - 1, by omega⟩
    have : k = sH s := by omega
    subst this
    rw [f_Md_topmost_4, hs.1, i_le (by omega) (by omega), if_pos (Nat.le_refl _)]
    rfl
  | succ m ih =>
    intro k f K hk hf
    obtain ⟨f, rfl⟩ : ∃ g, f = g + 1 := ⟨f - 1, by omega⟩
    have hb := w.1.2.2.2.1 k (by omega)
    have e1 := hs.2 k (by omega)
    have e2 := (hn.2 _ hb).1
    have e3 := w.1.2.1 _ hb
    have := ih (k + 1) f K (by omega) (by omega)
    rw [f_Md_topmost_4, hs.1, i_le (by omega) (by omega), if_neg (by omega)]
    simp (disch := omega) only [g_ix, g_cl, e1, e2, g_eq, g_inc]
    by_cases hc : sNm s (sSf s k) = a
    · rw [lastI, if_pos (by simpa using hc)] at this
      rw [if_pos hc]
      exact this
    · rw [lastI, if_neg (by simpa using hc)] at this
      rw [if_neg hc]
      exact this
theorem r_tm {M : qM} {s : aT} (w : Wf s) (hn : rNm M s) (hs : rSt M s) {a : Nat} (h0 : 97 ≤ a) (ha : a < 200) : f_Md_topmost (nI a) M = some (eI (s_tm s a)) := by
  have h := r_top4 w hn hs ha (sH s - 1) 1 1000 (fun (x8 : Int32) => some x8) (by have := w.1.2.2.1.1; omega) (by have := w.1.2.2.1.2; have := w.1.1.2; omega)
  have e : lastI (fun j => sNm s (sSf s j) == a) 1 = none := by
    unfold lastI
    rw [w.2.2.2.2.1.1, w.2.2.2.1.1, if_neg (by simp; omega)]
    rfl
  rw [e] at h
  exact h
theorem s_tm_lt {s : aT} {a k : Nat} (h : s_tm s a = some k) : k < sH s ∧ sNm s (sSf s k) = a := by
  have := lastI_lt h
  exact ⟨this.1, by simpa using this.2⟩
theorem r_abv7 {M : qM} {s : aT} (w : Wf s) (hn : rNm M s) (hs : rSt M s) {mask : Int32} {P : Nat → Bool} (hb : ∀ x, x < 123 → nmK x = true → (bitv x &&& mask = 0 ↔ P x = false)) : ∀ m k f (v : Bool), k + m = sH s → m < f → f_Md_above_7 M mask f (fun (x9 : Int32) => q_zk x9 <| some x9) (b2 v) (nI k) = some (b2 (v || (fstI (fun j => P (sNm s (sSf s j))) m k).isSome)) := by
  have hh : sH s ≤ 24 := by have := w.1.2.2.1.2; have := w.1.1.2; omega
  intro m
  induction m with
  | zero =>
    intro k f v hk hf
    obtain ⟨f, rfl⟩ : ∃ g, f = g + 1 := ⟨f - 1, by omega⟩
    rw [f_Md_above_7, hs.1, i_le (by omega) (by omega), if_pos (by omega)]
    cases v <;> rfl
  | succ m ih =>
    intro k f v hk hf
    obtain ⟨f, rfl⟩ : ∃ g, f = g + 1 := ⟨f - 1, by omega⟩
    have hbk := w.1.2.2.2.1 k (by omega)
    have e1 := hs.2 k (by omega)
    have e2 := r_named w hn hbk hb
    rw [f_Md_above_7, hs.1, i_le (by omega) (by omega), if_neg (by omega), i_b2]
    cases v with
    | true =>
      rw [if_neg (by simp), g_inc]
      have := ih (k + 1) f true (by omega) (by omega)
      simpa [b2] using this
    | false =>
      rw [if_pos rfl, g_ix (by omega) (by omega), g_cl (by omega), e1, e2, g_inc]
      show (if b2 (P (sNm s (sSf s k))) = 0 then _ else _) = _
      rw [i_b2]
      by_cases hp : P (sNm s (sSf s k)) = true
      · rw [if_neg (by simp [hp])]
        have := ih (k + 1) f true (by omega) (by omega)
        rw [fstI, if_pos hp]
        simpa [b2] using this
      · rw [if_pos (by simpa using hp)]
        have := ih (k + 1) f false (by omega) (by omega)
        rw [fstI, if_neg hp]
        exact this
theorem r_abv {M : qM} {s : aT} (w : Wf s) (hn : rNm M s) (hs : rSt M s) {mask : Int32} {P : Nat → Bool} (hb : ∀ x, x < 123 → nmK x = true → (bitv x &&& mask = 0 ↔ P x = false)) {k : Nat} (hk : k < sH s) : f_Md_above (nI k) mask M = some (b2 (fstI (fun j => P (sNm s (sSf s j))) (sH s - (k + 1)) (k + 1)).isSome) := by
  have hh : sH s ≤ 24 := by have := w.1.2.2.1.2; have := w.1.1.2; omega
  unfold f_Md_above
  rw [g_inc]
  exact r_abv7 w hn hs hb (sH s - (k + 1)) (k + 1) 1000 false (by omega) (by omega)
theorem fstI_none {P : Nat → Bool} : ∀ {m a : Nat}, fstI P m a = none ↔ ∀ j, a ≤ j → j < a + m → P j = false
  | 0, a => ⟨fun _ j h1 h2 => by omega, fun _ => rfl⟩
  | m + 1, a => by
    unfold fstI
    by_cases h : P a = true
    · rw [if_pos h]
      refine ⟨fun e => (by cases e), fun e => ?_⟩
      have := e a (Nat.le_refl _) (by omega)
      rw [h] at this
      cases this
    · rw [if_neg h, fstI_none]
      refine ⟨fun e j h1 h2 => ?_, fun e j h1 h2 => e j (by omega) (by omega)⟩
      by_cases q : j = a
      · rw [q]; simpa using h
      · exact e j (by omega) (by omega)
/-- reach and topmost together are the class's inReach -/
theorem r_rch {M : qM} {s : aT} (w : Wf s) (hn : rNm M s) (hs : rSt M s) {mask : Int32} {z a : Nat} (hb : ∀ x, x < 123 → nmK x = true → (bitv x &&& mask = 0 ↔ inS z x = false)) (h0 : 97 ≤ a) (ha : a < 200) : (f_Md_reach (nI a) mask M = some 1 ∧ ∃ k, s_rch s a z = some k ∧ s_tm s a = some k) ∨ (f_Md_reach (nI a) mask M = some 0 ∧ s_rch s a z = none) := by
  have hh : sH s ≤ 24 := by have := w.1.2.2.1.2; have := w.1.1.2; omega
  have et := r_tm w hn hs h0 ha
  unfold f_Md_reach
  cases ht : s_tm s a with
  | none =>
    rw [ht, eI_n] at et
    rw [et]
    right
    refine ⟨rfl, ?_⟩
    unfold s_rch
    cases hr : rchI (fun j => sNm s (sSf s j) == a) (fun j => inS z (sNm s (sSf s j))) (sH s) with
    | none => rfl
    | some k =>
      have := (rchI_some.mp hr).1
      have ht' : lastI (fun j => sNm s (sSf s j) == a) (sH s) = none := ht
      rw [ht'] at this
      cases this
  | some k =>
    have hk := s_tm_lt ht
    have ht' : lastI (fun j => sNm s (sSf s j) == a) (sH s) = some k := ht
    rw [ht, eI_s] at et
    have res : (q_bp (f_Md_topmost (nI a) M) fun x1 => if x1 < 0 then (some 0) else (q_bp (f_Md_above x1 mask M) fun x3 => if x3 = 0 then (some 1) else (some 0))) = if (fstI (fun j => inS z (sNm s (sSf s j))) (sH s - (k + 1)) (k + 1)).isSome = false then (some (1 : Int32)) else (some 0) := by
      rw [et]
      show (if nI k < 0 then _ else _) = _
      rw [i_n0 (by omega), r_abv w hn hs hb hk.1]
      show (if b2 _ = 0 then _ else _) = _
      rw [i_b2]
    rw [res]
    cases hf : fstI (fun j => inS z (sNm s (sSf s j))) (sH s - (k + 1)) (k + 1) with
    | none =>
      left
      refine ⟨rfl, k, ?_, rfl⟩
      exact rchI_some.mpr ⟨ht', fun i h1 h2 => fstI_none.mp hf i (by omega) (by omega)⟩
    | some j =>
      right
      refine ⟨rfl, ?_⟩
      cases hr : s_rch s a z with
      | none => rfl
      | some k' =>
        have h1 := rchI_some.mp hr
        have : k' = k := Option.some.inj (h1.1.symm.trans ht')
        subst this
        have h2 := fstI_lt hf
        have := h1.2 j (by omega) (by omega)
        rw [h2.2.2] at this
        cases this
theorem r_opn4 {M : qM} {s : aT} (w : Wf s) (hs : rSt M s) {i : Nat} (hi : i < 40) : ∀ m k f K, k + m = sH s → m < f → f_Md_opened_4 M (nI i) f K (eI (lastI (fun j => sSf s j == i) k)) (nI k) = K (eI (lastI (fun j => sSf s j == i) (sH s))) := by
  have hh : sH s ≤ 24 := by have := w.1.2.2.1.2; have := w.1.1.2; omega
  have h24 := w.1.1.2
  intro m
  induction m with
  | zero =>
    intro k f K hk hf
    obtain ⟨f, rfl⟩ : ∃ g, f = g + 1 := ⟨f - 1, by omega⟩
    have : k = sH s := by omega
    subst this
    rw [f_Md_opened_4, hs.1, i_le (by omega) (by omega), if_pos (Nat.le_refl _)]
  | succ m ih =>
    intro k f K hk hf
    obtain ⟨f, rfl⟩ : ∃ g, f = g + 1 := ⟨f - 1, by omega⟩
    have hb := w.1.2.2.2.1 k (by omega)
    have e1 := hs.2 k (by omega)
    have := ih (k + 1) f K (by omega) (by omega)
    rw [f_Md_opened_4, hs.1, i_le (by omega) (by omega), if_neg (by omega)]
    simp (disch := omega) only [g_ix, g_cl, e1, g_eq, g_inc]
    by_cases hc : sSf s k = i
    · rw [lastI, if_pos (by simpa using hc)] at this
      rw [if_pos hc]
      exact this
    · rw [lastI, if_neg (by simpa using hc)] at this
      rw [if_neg hc]
      exact this
theorem r_opn {M : qM} {s : aT} (w : Wf s) (hs : rSt M s) {i : Nat} (hi : i < 40) : f_Md_opened (nI i) M = some (eI (lastI (fun j => sSf s j == i) (sH s))) :=
  r_opn4 w hs hi (sH s) 0 1000 (fun (x7 : Int32) => some x7) (by omega) (by have := w.1.2.2.1.2; have := w.1.1.2; omega)
theorem r_own {M : qM} {s : aT} (w : Wf s) (hn : rNm M s) (hs : rSt M s) : f_Md_listOwner M = some (nI (ow s)) := by
  have hh : sH s ≤ 24 := by have := w.1.2.2.1.2; have := w.1.1.2; omega
  have et := r_tm w hn hs (a := 99) (by omega) (by omega)
  have et' : f_Md_topmost 99 M = some (eI (s_tm s 99)) := et
  unfold f_Md_listOwner ow
  rw [et']
  cases ht : s_tm s 99 with
  | none =>
    have ht' : lastI (fun j => sNm s (sSf s j) == 99) (sH s) = none := ht
    rw [ht']
    rfl
  | some k =>
    have hk := s_tm_lt ht
    have ht' : lastI (fun j => sNm s (sSf s j) == 99) (sH s) = some k := ht
    rw [ht', eI_s]
    show (if 0 ≤ nI k then _ else _) = _
    rw [i_p0 (by omega), g_ix (by omega) (by omega), g_cl (by omega), hs.2 k hk.1]
/-! the flat form -/
theorem r_seat4 {M : qM} {l : List (Nat × Nat)} (ho : rO M l) (hl : l.length ≤ 24) (hid : ∀ q ∈ l, q.1 < 24) {i : Nat} (hi : i < 40) : ∀ m k f K, k + m = l.length → m < f → f_Md_seat_4 M (nI i) f K (nI ((lastI (fun j => (l.getD j (0, 0)).1 == i) k).getD 0)) (nI k) = K (nI ((lastI (fun j => (l.getD j (0, 0)).1 == i) l.length).getD 0)) := by
  intro m
  induction m with
  | zero =>
    intro k f K hk hf
    obtain ⟨f, rfl⟩ : ∃ g, f = g + 1 := ⟨f - 1, by omega⟩
    have : k = l.length := by omega
    subst this
    rw [f_Md_seat_4, ho.1, i_le (by omega) (by omega), if_pos (Nat.le_refl _)]
  | succ m ih =>
    intro k f K hk hf
    obtain ⟨f, rfl⟩ : ∃ g, f = g + 1 := ⟨f - 1, by omega⟩
    have hk2 : k < l.length := by omega
    have e0 : l[k]? = some l[k] := List.getElem?_eq_getElem hk2
    have e1 := (ho.2 k l[k].1 l[k].2 e0).1
    have e2 := hid _ (List.getElem_mem hk2)
    have e3 : l.getD k (0, 0) = l[k] := by rw [List.getD_eq_getElem?_getD, e0]; rfl
    have := ih (k + 1) f K (by omega) (by omega)
    rw [f_Md_seat_4, ho.1, i_le (by omega) (by omega), if_neg (by omega)]
    simp (disch := omega) only [g_ix, g_cl, e1, g_eq, g_inc]
    by_cases hc : l[k].1 = i
    · rw [lastI, if_pos (by rw [e3]; simpa using hc)] at this
      rw [if_pos hc]
      exact this
    · rw [lastI, if_neg (by rw [e3]; simpa using hc)] at this
      rw [if_neg hc]
      exact this
theorem r_seat {M : qM} {l A B : List (Nat × Nat)} {i e : Nat} (ho : rO M l) (hl : l.length ≤ 24) (hid : ∀ q ∈ l, q.1 < 24) (nd : (fI l).Nodup) (hA : l = A ++ (i, e) :: B) : f_Md_seat (nI i) M = some (nI A.length) := by
  have hi : i < 24 := hid (i, e) (by rw [hA]; simp)
  have h := r_seat4 ho hl hid (i := i) (by omega) l.length 0 1000 (fun (x7 : Int32) => some x7) (by omega) (by omega)
  have e1 : lastI (fun j => (l.getD j (0, 0)).1 == i) l.length = some A.length := by
    have hlt : A.length < l.length := by rw [hA]; simp
    cases hL : lastI (fun j => (l.getD j (0, 0)).1 == i) l.length with
    | none =>
      have := lastI_no hL A.length hlt
      rw [hA, List.getD_eq_getElem?_getD] at this
      simp at this
    | some k =>
      have hk := lastI_lt hL
      have hk2 : (l.getD k (0, 0)).1 = i := by simpa using hk.2
      have hk3 : l[k]? = some (l[k].1, l[k].2) := List.getElem?_eq_getElem hk.1
      rw [List.getD_eq_getElem?_getD, hk3] at hk2
      have hk4 : l[k].1 = i := hk2
      have g1 := fI_get hk3
      rw [hk4] at g1
      have g2 : (fI l)[A.length]? = some i := fI_get (e := e) (by rw [hA]; simp)
      rw [nd_inj nd g1 g2]
  rw [e1] at h
  exact h
theorem r_beh4 {M : qM} {l A S B : List (Nat × Nat)} {i e : Nat} (ho : rO M l) (hl : l.length ≤ 24) (hid : ∀ q ∈ l, q.1 < 24 ∧ q.2 < 99) (hA : l = A ++ (i, e) :: (S ++ B)) (hS : ∀ q ∈ S, e < q.2) (hB : ∀ q ∈ B.head?, q.2 ≤ e) : ∀ m k f, k + m = S.length → m < f → f_Md_behind_4 M (nI A.length) f (fun (x9 : Int32) => some x9) (nI (A.length + 1 + k)) = some (nI (A.length + 1 + S.length)) := by
  have hle : l.length = A.length + 1 + (S.length + B.length) := by rw [hA]; simp; omega
  have a0 := ho.2 A.length i e (by rw [hA]; simp)
  have hi := hid (i, e) (by rw [hA]; simp)
  intro m
  induction m with
  | zero =>
    intro k f hk hf
    obtain ⟨f, rfl⟩ : ∃ g, f = g + 1 := ⟨f - 1, by omega⟩
    have : k = S.length := by omega
    subst this
    rw [f_Md_behind_4, ho.1, i_le (by omega) (by omega)]
    by_cases hBn : B = []
    · subst hBn
      rw [if_pos (by simp at hle; omega)]
    · obtain ⟨⟨b, d⟩, B', rfl⟩ : ∃ q B', B = q :: B' := by
        cases B with
        | nil => exact absurd rfl hBn
        | cons q B' => exact ⟨q, B', rfl⟩
      have hd := hB (b, d) rfl
      have hbb := hid (b, d) (by rw [hA]; simp)
      have b0 := ho.2 (A.length + 1 + S.length) b d (by
        rw [hA, List.getElem?_append_right (by omega), show A.length + 1 + S.length - A.length = S.length + 1 by omega, List.getElem?_cons_succ, List.getElem?_append_right (Nat.le_refl _), Nat.sub_self]
        rfl)
      rw [if_neg (by simp at hle; omega)]
      simp (disch := omega) only [g_ix, g_cl, a0.1, a0.2, b0.1, b0.2, g_le]
      rw [if_pos hd]
  | succ m ih =>
    intro k f hk hf
    obtain ⟨f, rfl⟩ : ∃ g, f = g + 1 := ⟨f - 1, by omega⟩
    have hk2 : k < S.length := by omega
    have e0 : S[k]? = some S[k] := List.getElem?_eq_getElem hk2
    have hm : S[k] ∈ S := List.getElem_mem hk2
    have b0 := ho.2 (A.length + 1 + k) S[k].1 S[k].2 (by
      rw [hA, List.getElem?_append_right (by omega), show A.length + 1 + k - A.length = k + 1 by omega, List.getElem?_cons_succ, List.getElem?_append_left hk2]
      exact e0)
    have hbb := hid S[k] (by rw [hA]; simp [hm])
    have hd := hS _ hm
    rw [f_Md_behind_4, ho.1, i_le (by omega) (by omega), if_neg (by omega)]
    simp (disch := omega) only [g_ix, g_cl, a0.1, a0.2, b0.1, b0.2, g_le]
    rw [if_neg (by omega), g_inc]
    exact ih (k + 1) f (by omega) (by omega)
theorem r_beh {M : qM} {l A S B : List (Nat × Nat)} {i e : Nat} (ho : rO M l) (hl : l.length ≤ 24) (hid : ∀ q ∈ l, q.1 < 24 ∧ q.2 < 99) (hA : l = A ++ (i, e) :: (S ++ B)) (hS : ∀ q ∈ S, e < q.2) (hB : ∀ q ∈ B.head?, q.2 ≤ e) : f_Md_behind (nI A.length) M = some (nI (A.length + 1 + S.length)) := by
  have hle : l.length = A.length + 1 + (S.length + B.length) := by rw [hA]; simp; omega
  unfold f_Md_behind
  rw [g_inc]
  exact r_beh4 ho hl hid hA hS hB S.length 0 1000 (by omega) (by omega)
