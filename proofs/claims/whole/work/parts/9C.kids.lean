/-! the abstract steps: rules and breaks have no children, rows have cells -/
def vd (x : Nat) : Prop := x = 104 ∨ x = 107
theorem inS6v {x : Nat} (hx : x < 200) : inS 6 x = true ↔ vd x := by
  have : ∀ x, x < 200 → (inS 6 x = true ↔ (x = 104 ∨ x = 107)) := by decide +kernel
  exact this x hx
theorem inS3r {x : Nat} (hx : x < 200) (h : inS 3 x = true) : x ≠ 114 := by
  have : ∀ x, x < 200 → inS 3 x = true → x ≠ 114 := by decide +kernel
  exact this x hx h
def wK (s : aT) : Prop := (∀ i, i < sN s → vd (sNm s i) → sKd s i = []) ∧ (∀ i, i < sN s → sNm s i = 114 → ∀ x ∈ sKd s i, sNm s x = 99) ∧ ∀ k, k < sH s → ¬ vd (sNm s (sSf s k))
theorem pl_114 {nm sf : Nat → Nat} {g : Nat} (hg : 1 ≤ g) (h : ∀ k, k < g → nm (sf k) = 114 → 1 ≤ k ∧ nm (sf (k - 1)) = 116) (hp : plT nm sf g = none) : nm (sf (g - 1)) ≠ 114 := fun e => by
  obtain ⟨h1, h2⟩ := h (g - 1) (by omega) e
  unfold plT at hp
  rw [if_pos (Or.inr e)] at hp
  have := lastI_no hp (g - 1 - 1) (by omega)
  simp [h2] at this
theorem insB_mem {c t x : Nat} : ∀ {L : List Nat}, x ∈ insB c t L → x ∈ L ∨ (x = c ∧ t ∈ L)
  | [], h => by cases h
  | y :: L, h => by
    have h' : x ∈ (if y = t then [c, t] else [y]) ++ insB c t L := h
    rcases List.mem_append.mp h' with h | h
    · by_cases e : y = t
      · rw [if_pos e] at h
        rcases List.mem_cons.mp h with h | h
        · exact Or.inr ⟨h, by rw [e]; exact List.mem_cons_self⟩
        · rw [List.mem_singleton] at h
          rw [h, e]
          exact Or.inl List.mem_cons_self
      · rw [if_neg e, List.mem_singleton] at h
        rw [h]
        exact Or.inl List.mem_cons_self
    · rcases insB_mem h with h | ⟨h1, h2⟩
      · exact Or.inl (List.mem_cons_of_mem _ h)
      · exact Or.inr ⟨h1, List.mem_cons_of_mem _ h2⟩
theorem K_put {s : aT} {c g : Nat} (h : wK s) (hg : 1 ≤ g) (hg2 : g ≤ sH s) (h4 : plT (sNm s) (sSf s) g = none → sNm s (sSf s (g - 1)) ≠ 114) : wK (s_put s c g) := by
  obtain ⟨k1, k2, k3⟩ := h
  unfold s_put
  cases hp : plT (sNm s) (sSf s) g with
  | some j =>
    have hj : sNm s (sSf s j) = 116 := by
      unfold plT at hp
      split at hp
      · have := (lastI_lt hp).2
        simpa using this
      · cases hp
    refine ⟨fun i hi hv => ?_, fun i hi hr x hx => ?_, k3⟩
    · show insB c (sSf s j) (sKd s i) = []
      rw [k1 i hi hv]
      rfl
    · have hx' : x ∈ insB c (sSf s j) (sKd s i) := hx
      rcases insB_mem hx' with h | ⟨_, h⟩
      · exact k2 i hi hr x h
      · have := k2 i hi hr _ h
        omega
  | none =>
    have h5 := h4 hp
    have h6 := k3 (g - 1) (by omega)
    refine ⟨fun i hi hv => ?_, fun i hi hr x hx => ?_, k3⟩
    · show up (sKd s) (sSf s (g - 1)) _ i = []
      rw [up_n (fun e => h6 (by rw [← e]; exact hv))]
      exact k1 i hi hv
    · have hx' : x ∈ up (sKd s) (sSf s (g - 1)) (sKd s (sSf s (g - 1)) ++ [c]) i := hx
      rw [up_n (fun e => h5 (by rw [← e]; exact hr))] at hx'
      exact k2 i hi hr x hx'
theorem K_make {s : aT} (w : Wf s) (h : wK s) (x : Nat) (a : Int32) : wK (s_make s x a) := by
  obtain ⟨k1, k2, k3⟩ := h
  refine ⟨fun i hi hv => ?_, fun i hi hr y hy => ?_, fun k hk => ?_⟩
  · show up (sKd s) (sN s) [] i = []
    by_cases e : i = sN s
    · rw [e, up_e]
    · have hi' : i < sN s := by have : i < sN s + 1 := hi; omega
      have hv' : vd (up (sNm s) (sN s) x i) := hv
      rw [up_n e] at hv' ⊢
      exact k1 i hi' hv'
  · have hy' : y ∈ up (sKd s) (sN s) [] i := hy
    by_cases e : i = sN s
    · rw [e, up_e] at hy'
      cases hy'
    · have hi' : i < sN s := by have : i < sN s + 1 := hi; omega
      have hr' : up (sNm s) (sN s) x i = 114 := hr
      rw [up_n e] at hr' hy'
      show up (sNm s) (sN s) x y = 99
      rw [up_lt (W_ks w hi' hy')]
      exact k2 i hi' hr' y hy'
  · show ¬ vd (up (sNm s) (sN s) x (sSf s k))
    rw [up_lt (w.1.2.2.2.1 k hk)]
    exact k3 k hk
theorem K_new {s : aT} (w : Wf s) (h : wK s) (x : Nat) (a : Int32) : wK (s_new s x a) := by
  have hh : 1 ≤ sH s ∧ sH s ≤ sN s := w.1.2.2.1
  have hb := w.1.2.2.2.1
  refine K_put (K_make w h x a) hh.1 (Nat.le_refl _) (pl_114 hh.1 fun k hk e => ?_)
  have hk' : k < sH s := hk
  have e' : up (sNm s) (sN s) x (sSf s k) = 114 := e
  show 1 ≤ k ∧ up (sNm s) (sN s) x (sSf s (k - 1)) = 116
  rw [up_lt (hb k hk')] at e'
  rw [up_lt (hb (k - 1) (by omega))]
  exact w.2.2.2.2.2.1 k hk' e'
theorem K_push {s : aT} (h : wK s) {i : Nat} (hi : ¬ vd (sNm s i)) : wK (s_push s i) := by
  obtain ⟨k1, k2, k3⟩ := h
  refine ⟨k1, k2, fun k hk => ?_⟩
  show ¬ vd (sNm s (up (sSf s) (sH s) i k))
  by_cases e : k = sH s
  · rw [e, up_e]; exact hi
  · rw [up_n e]
    exact k3 k (by have : k < sH s + 1 := hk; omega)
theorem K_h {s : aT} (h : wK s) {k : Nat} (hk : k ≤ sH s) : wK (s_h s k) := ⟨h.1, h.2.1, fun j hj => h.2.2 j (by have : j < k := hj; omega)⟩
theorem new_nm (s : aT) (x : Nat) (a : Int32) : sNm (s_new s x a) (sN s) = x := up_e _ _ _
theorem K_op {s : aT} (w : Wf s) (h : wK s) {x : Nat} {a : Int32} (hx : ¬ vd x) (ht : sNm s (sSf s (sH s - 1)) = 114 → x = 99) : wK (s_op s x a) := by
  unfold s_op
  by_cases hn : sN s < 24
  · rw [if_pos hn]
    have hh : 1 ≤ sH s ∧ sH s ≤ sN s := w.1.2.2.1
    have hb := w.1.2.2.2.1
    have htop := hb (sH s - 1) (by omega)
    obtain ⟨k1, k2, k3⟩ := h
    refine K_push (i := sN s) ⟨fun i hi hv => ?_, fun i hi hr y hy => ?_, fun k hk => ?_⟩ ?_
    · have hv' : vd (up (sNm s) (sN s) x i) := hv
      show up (up (sKd s) (sN s) []) (sSf s (sH s - 1)) _ i = []
      by_cases e : i = sN s
      · rw [e, up_e] at hv'
        exact absurd hv' hx
      · have hi' : i < sN s := by have : i < sN s + 1 := hi; omega
        rw [up_n e] at hv'
        rw [up_n (fun e2 => k3 (sH s - 1) (by omega) (by rw [← e2]; exact hv')), up_n e]
        exact k1 i hi' hv'
    · have hr' : up (sNm s) (sN s) x i = 114 := hr
      have hy' : y ∈ up (up (sKd s) (sN s) []) (sSf s (sH s - 1)) (sKd s (sSf s (sH s - 1)) ++ [sN s]) i := hy
      show up (sNm s) (sN s) x y = 99
      by_cases e : i = sN s
      · rw [up_n (by omega), e, up_e] at hy'
        cases hy'
      · have hi' : i < sN s := by have : i < sN s + 1 := hi; omega
        rw [up_n e] at hr'
        by_cases e2 : i = sSf s (sH s - 1)
        · rw [e2, up_e] at hy'
          rcases List.mem_append.mp hy' with h | h
          · rw [up_lt (W_ks w htop h)]
            exact k2 _ htop (by rw [← e2]; exact hr') y h
          · rw [List.mem_singleton.mp h, up_e]
            exact ht (by rw [← e2]; exact hr')
        · rw [up_n e2, up_n e] at hy'
          rw [up_lt (W_ks w hi' hy')]
          exact k2 i hi' hr' y hy'
    · show ¬ vd (up (sNm s) (sN s) x (sSf s k))
      rw [up_lt (hb k hk)]
      exact k3 k hk
    · show ¬ vd (up (sNm s) (sN s) x (sN s))
      rw [up_e]
      exact hx
  · rw [if_neg hn]
    exact h
theorem K_let {s : aT} (h : wK s) (t c : Nat) : wK (s_let s t c) := by
  unfold s_let
  split <;> exact h
theorem K_renL : ∀ (es : List Nat) (s : aT), Wf s → wK s → es.Nodup → (∀ e ∈ es, e ∈ (sEn s).map Prod.fst) → wK (renL es s)
  | [], _, _, h, _, _ => h
  | e :: es, s, w, hk, nd, h => by
    unfold renL
    by_cases hn : sN s < 24
    · rw [if_pos hn]
      obtain ⟨q, hq, he⟩ := List.mem_map.mp (h e (by simp))
      obtain ⟨e', o⟩ := q
      have he' : e' = e := he
      subst he'
      have nd' := List.nodup_cons.mp nd
      have h7 := inS7 (w.2.2.2.2.2.2.2.2.1 _ hq) (w.1.2.1 _ (w.2.1.1 _ hq).1)
      refine K_renL es _ (W_rn w hn hq) (K_push (s := s_new s (sNm s e') (sCs s e')) (i := sN s) (K_new w hk _ _) ?_) nd'.2 fun x hx => ?_
      · rw [new_nm]
        unfold vd
        have h7' : sNm s e' = 98 ∨ sNm s e' = 105 ∨ sNm s e' = 115 := h7
        omega
      · have hne : x ≠ e' := fun z => nd'.1 (z ▸ hx)
        obtain ⟨⟨x', o'⟩, hm, hx'⟩ := List.mem_map.mp (h x (by simp [hx]))
        have hx'' : x' = x := hx'
        subst hx''
        show x' ∈ (enR (sEn s) e' (sN s)).map Prod.fst
        refine List.mem_map.mpr ⟨(x', o'), List.mem_map.mpr ⟨(x', o'), hm, ?_⟩, rfl⟩
        rw [if_neg hne]
    · rw [if_neg hn]
      exact hk
theorem K_renew {s : aT} (w : Wf s) (h : wK s) : wK (s_renew s) := by
  have sub : (flO (sEn s) (ow s)).Sublist ((sEn s).map Prod.fst) := List.filter_sublist.map _
  refine K_renL _ _ w h ((List.drop_sublist _ _).trans sub |>.nodup w.2.1.2.2.1) fun e he => ?_
  exact ((List.drop_sublist _ _).trans sub).subset he
theorem K_chr3 {s : aT} (w : Wf s) (h : wK s) (c : Nat) : wK (s_chr3 s c) := by
  unfold s_chr3
  split
  · exact K_let (K_new w h 1 0) _ _
  · exact h
theorem K_chr {s : aT} (w : Wf s) (h : wK s) (c : Nat) : wK (s_chr s c) := by
  unfold s_chr
  split
  · exact h
  · have w' := W_renew w
    have h' := K_renew w h
    unfold s_chr2
    split
    · exact K_chr3 w' h' c
    · split
      · exact K_let h' _ _
      · exact K_chr3 w' h' c
theorem K_clT {s : aT} (h : wK s) {r : Option Nat} (hr : ∀ k, r = some k → k ≤ sH s) : wK (s_clT s r) := by
  cases r with
  | none => exact h
  | some k => exact K_h h (hr k rfl)
theorem K_clR {s : aT} (w : Wf s) (h : wK s) {y z : Nat} (hy : 97 ≤ y) : wK (s_clR s y z) := K_clT h fun k hk => Nat.le_of_lt (s_rch_i w hy k hk).2
theorem K_st2 {s : aT} (w : Wf s) (h : wK s) {x : Nat} (a : Int32) (h2 : x ≤ 122) : wK (s_st2 s x a) := by
  show wK (if sN s < 24 then (if inS 7 x = true then s_en (s_st3 s x a) (en1 (sEn s) (ow (s_st3 s x a)) ++ [(sN s, ow (s_st3 s x a))]) else s_st3 s x a) else s_brk s)
  have h3 : wK (s_st3 s x a) := by
    unfold s_st3
    by_cases q : inS 6 x = true
    · rw [if_pos q]; exact K_new w h x a
    · rw [if_neg q]
      exact K_push (K_new w h x a) (by rw [new_nm]; exact fun hv => q ((inS6v (by omega)).mpr hv))
  split
  · split
    · exact h3
    · exact h3
  · exact h
theorem K_roc {s : aT} (w : Wf s) (h : wK s) {x : Nat} {a : Int32} (hx : x = 114 ∨ x = 99) : wK (s_roc s x a) := by
  unfold s_roc
  cases ht : s_tm s 116 with
  | none => exact h
  | some t =>
    have htl := s_tm_lt ht
    have w1 := W_h w (k := t + 1) (by omega) htl.1
    have k1 := K_h h (k := t + 1) htl.1
    have tt : sNm (s_h s (t + 1)) (sSf (s_h s (t + 1)) (sH (s_h s (t + 1)) - 1)) = 116 := by
      show sNm s (sSf s (t + 1 - 1)) = 116
      rw [Nat.add_sub_cancel]
      exact htl.2
    show wK (match (if x = 99 then s_rch s 114 2 else none) with
      | some r => s_op (s_h s (r + 1)) x a
      | none => if x = 99 then s_op (s_op (s_h s (t + 1)) 114 0) x a else s_op (s_h s (t + 1)) x a)
    have hv : ¬ vd x := by unfold vd; omega
    by_cases h99 : x = 99
    · simp only [if_pos h99]
      cases hr : s_rch s 114 2 with
      | some r =>
        have ri := rchI_lt hr
        exact K_op (W_h w (k := r + 1) (by omega) ri.1) (K_h h ri.1) hv (fun _ => h99)
      | none => exact K_op (W_op (x := 114) w1 (by omega) (by omega) (fun _ => tt)) (K_op w1 k1 (by unfold vd; omega) (fun e => by omega)) hv (fun _ => h99)
    · simp only [if_neg h99]
      exact K_op w1 k1 hv (fun e => by omega)
theorem K_stt {s : aT} (w : Wf s) (h : wK s) {x : Nat} {a : Int32} (h1 : 97 ≤ x) (h2 : x ≤ 122) : wK (s_stt s x a) := by
  have w1 : Wf (s_st1 s x) := by
    unfold s_st1
    split
    · exact W_clT w (s_rch_i w (by omega))
    · exact W_renew w
  have k1 : wK (s_st1 s x) := by
    unfold s_st1
    split
    · exact K_clR w h (by omega)
    · exact K_renew w h
  unfold s_stt
  by_cases i1 : inS 1 x = true
  · rw [if_pos i1]
    exact K_roc w h ((inS1 (by omega)).mp i1)
  · rw [if_neg i1]
    by_cases h8 : x = 108
    · rw [if_pos h8]
      exact K_st2 (W_clT w1 (s_rch_i w1 (by omega))) (K_clR w1 k1 (by omega)) a h2
    · rw [if_neg h8]
      exact K_st2 w1 k1 a h2
theorem K_adp {s : aT} (w : Wf s) (h : wK s) {e b : Nat} (h1 : 1 ≤ e) (h2 : e < b) (h3 : b < sH s) (h7 : inS 7 (sNm s (sSf s e)) = true) (hbl : inS 3 (sNm s (sSf s b)) = true) : wK (s_adp s e b) := by
  have hb := w.1.2.2.2.1
  have hx := inS7 h7 (w.1.2.1 _ (hb e (by omega)))
  have h3r := inS3r (w.1.2.1 _ (hb b h3)) hbl
  obtain ⟨k1, k2, k3⟩ := h
  have tox : ∀ k, k < sH s - (b - e) → ∃ k', k' < sH s ∧ toF (sSf s) e b k = sSf s k' := fun k hk => by
    unfold toF
    by_cases q : k < e
    · rw [if_pos q]; exact ⟨k, by omega, rfl⟩
    · rw [if_neg q]; exact ⟨k + (b - e), by omega, rfl⟩
  have kr : wK (s_rm (s_to s e b) (sSf s b)) := by
    refine ⟨fun i hi hv => ?_, fun i hi hr x hx => ?_, fun k hk => ?_⟩
    · show (sKd s i).filter _ = []
      rw [k1 i hi hv]
      rfl
    · have hx' : x ∈ (sKd s i).filter fun z => z != sSf s b := hx
      exact k2 i hi hr x (List.mem_filter.mp hx').1
    · obtain ⟨k', hk', e'⟩ := tox k hk
      show ¬ vd (sNm s (toF (sSf s) e b k))
      rw [e']
      exact k3 k' hk'
  have ka : wK (s_adp3 s e b) := by
    refine K_put kr h1 (show e ≤ sH s - (b - e) by omega) (pl_114 h1 fun k hk ee => ?_)
    have ee' : sNm s (toF (sSf s) e b k) = 114 := ee
    show 1 ≤ k ∧ sNm s (toF (sSf s) e b (k - 1)) = 116
    rw [toF_l hk] at ee'
    rw [toF_l (by omega)]
    exact w.2.2.2.2.2.1 k (by omega) ee'
  unfold s_adp
  by_cases hn : sN s < 24
  · rw [if_pos hn]
    obtain ⟨a1, a2, a3⟩ := ka
    have nmx : sNm (s_adp3 s e b) = sNm s := rfl
    have nn : sN (s_adp3 s e b) = sN s := rfl
    have kin : ∀ i, i < sN s → ∀ y ∈ sKd (s_adp3 s e b) i, y < sN s := fun i hi y hy => by
      have : y ∈ sKd (s_put (s_rm (s_to s e b) (sSf s b)) (sSf s b) e) i := hy
      unfold s_put at this
      have fl : ∀ z, z ∈ (sKd s i).filter (fun z => z != sSf s b) → z < sN s := fun z hz => W_ks w hi (List.mem_filter.mp hz).1
      revert this
      cases plT (sNm (s_rm (s_to s e b) (sSf s b))) (sSf (s_rm (s_to s e b) (sSf s b))) e with
      | some j =>
        intro this
        have t' : y ∈ insB (sSf s b) (toF (sSf s) e b j) ((sKd s i).filter fun z => z != sSf s b) := this
        rcases insB_mem t' with h | ⟨h, _⟩
        · exact fl y h
        · rw [h]; exact hb b h3
      | none =>
        intro this
        have t' : y ∈ up (fun q => (sKd s q).filter fun z => z != sSf s b) (toF (sSf s) e b (e - 1)) ((sKd s (toF (sSf s) e b (e - 1))).filter (fun z => z != sSf s b) ++ [sSf s b]) i := this
        by_cases q : i = toF (sSf s) e b (e - 1)
        · rw [q, up_e] at t'
          rcases List.mem_append.mp t' with h | h
          · refine W_ks w ?_ (List.mem_filter.mp h).1
            rw [← q]; exact hi
          · rw [List.mem_singleton.mp h]; exact hb b h3
        · rw [up_n q] at t'
          exact fl y t'
    refine ⟨fun i hi hv => ?_, fun i hi hr y hy => ?_, fun k hk => ?_⟩
    · have hv' : vd (up (sNm s) (sN s) (sNm s (sSf s e)) i) := hv
      show up (up (sKd (s_adp3 s e b)) (sN s) (sKd s (sSf s b))) (sSf s b) [sN s] i = []
      by_cases q : i = sN s
      · rw [q, up_e] at hv'
        unfold vd at hv'
        omega
      · rw [up_n q] at hv'
        have hi' : i < sN s := by have : i < sN s + 1 := hi; omega
        rw [up_n (fun q2 => k3 b h3 (by rw [← q2]; exact hv')), up_n q]
        exact a1 i hi' hv'
    · have hr' : up (sNm s) (sN s) (sNm s (sSf s e)) i = 114 := hr
      have hy' : y ∈ up (up (sKd (s_adp3 s e b)) (sN s) (sKd s (sSf s b))) (sSf s b) [sN s] i := hy
      by_cases q : i = sN s
      · rw [q, up_e] at hr'
        omega
      · rw [up_n q] at hr'
        have hi' : i < sN s := by have : i < sN s + 1 := hi; omega
        rw [up_n (fun q2 => h3r (by rw [← q2]; exact hr')), up_n q] at hy'
        show up (sNm s) (sN s) (sNm s (sSf s e)) y = 99
        rw [up_lt (kin i hi' y hy')]
        exact a2 i hi' hr' y hy'
    · obtain ⟨k', hk', e'⟩ := tox k hk
      show ¬ vd (up (sNm s) (sN s) (sNm s (sSf s e)) (toF (sSf s) e b k))
      rw [e', up_lt (hb k' hk')]
      exact k3 k' hk'
  · rw [if_neg hn]
    exact ka
theorem K_eo {s : aT} (w : Wf s) (hK : wK s) {x : Nat} (h1 : 97 ≤ x) : wK (s_eo s x) := by
  unfold s_eo
  cases he : s_ent s x with
  | none => exact K_clR w hK h1
  | some j =>
    have hj : j < (flO (sEn s) (ow s)).length ∧ inS 7 x = true ∧ sNm s ((flO (sEn s) (ow s)).getD j 0) = x := by
      unfold s_ent at he
      split at he
      · have := lastI_lt he
        exact ⟨this.1, by assumption, by simpa using this.2⟩
      · cases he
    show wK (match lastI (fun k => sSf s k == (flO (sEn s) (ow s)).getD j 0) (sH s) with
      | none => s_en s (enD (sEn s) ((flO (sEn s) (ow s)).getD j 0))
      | some k => match fstI (fun j => inS 2 (sNm s (sSf s j))) (sH s - (k + 1)) (k + 1) with
        | some _ => s
        | none => s_eo2 s ((flO (sEn s) (ow s)).getD j 0) k)
    generalize (flO (sEn s) (ow s)).getD j 0 = E at hj
    have wD := W_enD w E
    cases hk : lastI (fun k => sSf s k == E) (sH s) with
    | none => exact hK
    | some k =>
      have hkl := lastI_lt hk
      have hkE : sSf s k = E := by simpa using hkl.2
      have hk1 : 1 ≤ k := W_ix w (y := x) h1 hkl.1 (by rw [hkE]; exact hj.2.2)
      show wK (match fstI (fun j => inS 2 (sNm s (sSf s j))) (sH s - (k + 1)) (k + 1) with
        | some _ => s
        | none => s_eo2 s E k)
      cases fstI (fun j => inS 2 (sNm s (sSf s j))) (sH s - (k + 1)) (k + 1) with
      | some t => exact hK
      | none =>
        show wK (s_eo2 s E k)
        unfold s_eo2
        cases hbk : fstI (fun j => inS 3 (sNm s (sSf s j))) (sH s - (k + 1)) (k + 1) with
        | none => exact K_h (s := s_en s (enD (sEn s) E)) hK (Nat.le_of_lt hkl.1)
        | some b =>
          have hb3 := fstI_lt hbk
          refine K_adp wD hK hk1 (show k < b by omega) (show b < sH s by omega) ?_ hb3.2.2
          show inS 7 (sNm s (sSf s k)) = true
          rw [hkE, hj.2.2]
          exact hj.2.1
theorem K_end {s : aT} (w : Wf s) (h : wK s) {x : Nat} (h1 : 97 ≤ x) : wK (s_end s x) := by
  unfold s_end
  split
  · unfold s_ep
    cases hr : s_rch s 112 4 with
    | none =>
      show wK (s_newB s 112 0)
      unfold s_newB
      split
      · exact K_new w h 112 0
      · exact h
    | some k =>
      have hk := s_rch_i w (y := 112) (by omega) k hr
      exact K_h h (Nat.le_of_lt hk.2)
  · split
    · exact K_clR w h h1
    · split
      · exact K_clR w h (by omega)
      · split
        · exact K_clT h fun k hk => Nat.le_of_lt (s_tm_i w (by omega) k hk).2
        · split
          · exact K_clR w h (by omega)
          · split
            · exact K_clR w h (by omega)
            · split
              · exact h
              · exact K_eo w h h1
/-- what the typist holds -/
def yW (y : yT) : Prop := (y.1 = 2 → y.2.1 < 200) ∧ (y.1 = 5 ∨ y.1 = 6 → 97 ≤ y.2.2.1 ∧ y.2.2.1 ≤ 122)
def wA (p : aT × yT) : Prop := Wf p.1 ∧ wK p.1 ∧ yW p.2
theorem mean_lt (l : Nat) : mean l < 200 := by
  unfold mean
  split
  · omega
  · split <;> omega
theorem A_step {s : aT} {y : yT} (h : wA (s, y)) {c : Nat} (hc : c < 127) (hgo : y.1 = 3 → sml c = true ∨ c = 47 ∨ c = 33) : wA (y_step s y c) := by
  obtain ⟨w, k, y1, y2⟩ := h
  unfold y_step
  by_cases h0 : y.1 = 0
  · rw [if_pos h0]
    split
    · exact ⟨w, k, fun h => absurd (show (3 : Nat) = 2 from h) (by omega), fun h => absurd (show (3 : Nat) = 5 ∨ (3 : Nat) = 6 from h) (by omega)⟩
    · split
      · exact ⟨w, k, fun h => absurd (show (1 : Nat) = 2 from h) (by omega), fun h => absurd (show (1 : Nat) = 5 ∨ (1 : Nat) = 6 from h) (by omega)⟩
      · exact ⟨W_chr w (by omega), K_chr w k c, y1, y2⟩
  · rw [if_neg h0]
    by_cases h1 : y.1 = 1
    · rw [if_pos h1]
      exact ⟨w, k, fun _ => (by show c < 200; omega), fun h => absurd (show (2 : Nat) = 5 ∨ (2 : Nat) = 6 from h) (by omega)⟩
    · rw [if_neg h1]
      by_cases h2 : y.1 = 2
      · rw [if_pos h2]
        exact ⟨W_chr w (mean_lt _), K_chr w k _, fun h => absurd (show (0 : Nat) = 2 from h) (by omega), fun h => absurd (show (0 : Nat) = 5 ∨ (0 : Nat) = 6 from h) (by omega)⟩
      · rw [if_neg h2]
        by_cases h3 : y.1 = 3
        · rw [if_pos h3]
          by_cases c7 : c = 47
          · rw [if_pos c7]
            exact ⟨w, k, fun h => absurd (show (4 : Nat) = 2 from h) (by omega), fun h => absurd (show (4 : Nat) = 5 ∨ (4 : Nat) = 6 from h) (by omega)⟩
          · rw [if_neg c7]
            by_cases c3 : c = 33
            · rw [if_pos c3]
              exact ⟨w, k, fun h => absurd (show (7 : Nat) = 2 from h) (by omega), fun h => absurd (show (7 : Nat) = 5 ∨ (7 : Nat) = 6 from h) (by omega)⟩
            · rw [if_neg c3]
              refine ⟨w, k, fun h => absurd (show (5 : Nat) = 2 from h) (by omega), fun _ => ?_⟩
              rcases hgo h3 with h | h | h
              · exact of_decide_eq_true h
              · exact absurd h c7
              · exact absurd h c3
        · rw [if_neg h3]
          by_cases h4 : y.1 = 4
          · rw [if_pos h4]
            by_cases cs : sml c = true
            · rw [if_pos cs]
              exact ⟨w, k, fun h => absurd (show (6 : Nat) = 2 from h) (by omega), fun _ => of_decide_eq_true cs⟩
            · rw [if_neg cs]
              split
              · exact ⟨w, k, fun h => absurd (show (0 : Nat) = 2 from h) (by omega), fun h => absurd (show (0 : Nat) = 5 ∨ (0 : Nat) = 6 from h) (by omega)⟩
              · exact ⟨w, k, fun h => absurd (show (7 : Nat) = 2 from h) (by omega), fun h => absurd (show (7 : Nat) = 5 ∨ (7 : Nat) = 6 from h) (by omega)⟩
          · rw [if_neg h4]
            split
            · have z : yW (0, y.2) := ⟨fun h => absurd (show (0 : Nat) = 2 from h) (by omega), fun h => absurd (show (0 : Nat) = 5 ∨ (0 : Nat) = 6 from h) (by omega)⟩
              by_cases h5 : y.1 = 5
              · rw [if_pos h5]
                have := y2 (Or.inl h5)
                exact ⟨W_stt w this.1 this.2, K_stt w k this.1 this.2, z⟩
              · rw [if_neg h5]
                by_cases h6 : y.1 = 6
                · rw [if_pos h6]
                  have := y2 (Or.inr h6)
                  exact ⟨W_end w this.1 this.2, K_end w k this.1, z⟩
                · rw [if_neg h6]
                  exact ⟨w, k, z⟩
            · split
              · exact ⟨w, k, y1, y2⟩
              · exact ⟨w, k, y1, y2⟩
theorem A_type {s : aT} {y : yT} (h : wA (s, y)) {c : Nat} (hc : c < 127) : wA (y_type s y c) := by
  unfold y_type
  by_cases g : y_go y c = true
  · rw [if_pos g]
    refine A_step h hc fun h3 => ?_
    unfold y_go at g
    rw [if_neg (by omega), if_neg (by omega), if_pos h3] at g
    rw [Bool.or_eq_true, Bool.or_eq_true] at g
    rcases g with (g | g) | g
    · exact Or.inl g
    · exact Or.inr (Or.inl (of_decide_eq_true g))
    · exact Or.inr (Or.inr (of_decide_eq_true g))
  · rw [if_neg g]
    obtain ⟨w, k, y1, y2⟩ := h
    have z : yW (0, y.2) := ⟨fun h => absurd (show (0 : Nat) = 2 from h) (by omega), fun h => absurd (show (0 : Nat) = 5 ∨ (0 : Nat) = 6 from h) (by omega)⟩
    refine A_step ⟨?_, ?_, z⟩ hc (fun h => absurd (show (0 : Nat) = 3 from h) (by omega))
    · unfold y_give
      by_cases h2 : y.1 = 2
      · rw [if_pos h2]; exact W_chr (W_chr w (by omega)) (y1 h2)
      · rw [if_neg h2]
        split
        · exact W_chr w (by omega)
        · exact W_chr w (by omega)
    · unfold y_give
      by_cases h2 : y.1 = 2
      · rw [if_pos h2]; exact K_chr (W_chr w (by omega)) (K_chr w k _) _
      · rw [if_neg h2]
        split
        · exact K_chr w k _
        · exact K_chr w k _
theorem A_F : ∀ (L : List Nat) (p : aT × yT), wA p → (∀ c ∈ L, c < 127) → wA (yF p L)
  | [], _, h, _ => h
  | c :: L, p, h, hc => by
    rw [yF_c]
    exact A_F L _ (A_type h (hc c List.mem_cons_self)) fun x hx => hc x (List.mem_cons_of_mem _ hx)
theorem K_tS {txt : List Nat} (h : ∀ c ∈ txt, c < 127) (r : Nat × Nat × Int32) : wK (tS txt r).1 := by
  refine (A_F txt (s00, (0, r)) ⟨W_00, ⟨fun i _ _ => rfl, fun i _ h => ?_, fun k _ h => ?_⟩, ⟨fun h => absurd (show (0 : Nat) = 2 from h) (by omega), fun h => absurd (show (0 : Nat) = 5 ∨ (0 : Nat) = 6 from h) (by omega)⟩⟩ h).2.1
  · exact absurd (show (0 : Nat) = 114 from h) (by omega)
  · rcases h with h | h
    · exact absurd (show (0 : Nat) = 104 from h) (by omega)
    · exact absurd (show (0 : Nat) = 107 from h) (by omega)
