/-! style, as functions of the tree by places and of the rules -/
theorem cl_fit (a b : Int32) : (b &&& (a ^^^ (-1)) = 0) ↔ (a &&& b = b) := by
  have h1 : (b &&& (a ^^^ (-1)) = 0) ↔ (b.toBitVec &&& (a.toBitVec ^^^ (-1 : Int32).toBitVec) = (0 : Int32).toBitVec) := by
    rw [← Int32.toBitVec_inj]
    rfl
  have h2 : (a &&& b = b) ↔ (a.toBitVec &&& b.toBitVec = b.toBitVec) := by
    rw [← Int32.toBitVec_inj]
    rfl
  rw [h1, h2]
  have e1 : (-1 : Int32).toBitVec = BitVec.allOnes 32 := by decide
  have e0 : (0 : Int32).toBitVec = 0#32 := by decide
  rw [e1, e0]
  constructor
  · intro h
    apply BitVec.eq_of_getLsbD_eq
    intro i hi
    have := congrArg (fun v => v.getLsbD i) h
    simp only [BitVec.getLsbD_and, BitVec.getLsbD_xor, BitVec.getLsbD_allOnes, BitVec.getLsbD_zero] at this
    rw [BitVec.getLsbD_and]
    cases h1 : a.toBitVec.getLsbD i <;> cases h2 : b.toBitVec.getLsbD i <;> simp_all
  · intro h
    apply BitVec.eq_of_getLsbD_eq
    intro i hi
    have := congrArg (fun v => v.getLsbD i) h
    simp only [BitVec.getLsbD_and] at this
    simp only [BitVec.getLsbD_and, BitVec.getLsbD_xor, BitVec.getLsbD_allOnes, BitVec.getLsbD_zero]
    cases h1 : a.toBitVec.getLsbD i <;> cases h2 : b.toBitVec.getLsbD i <;> simp_all
def partF (E : eT) (x : pT) (k : Nat) : Bool := decide (2 ≤ (E k).1) && ((decide (x.1 = 0) || decide (x.1 = (E k).1)) && decide ((E k).2.1 &&& x.2.1 = x.2.1))
/-- whether one above fits -/
def ancF (E : eT) (P : Nat → Bool) : Nat → Nat → Bool
  | 0, _ => false
  | f + 1, k => if k = 0 then false else (P (E k).2.2 || ancF E P f (E k).2.2)
def fitF (E : eT) (ps : List pT) : Nat → Nat → Bool
  | 0, _ => false
  | m + 1, k => match ps[m]? with
    | none => false
    | some x => partF E x k && (if m = 0 then true else if x.2.2 = true then (decide (k ≠ 0) && fitF E ps m (E k).2.2) else ancF E (fitF E ps m) 24 k)
/-- the declarations that count: plain and important, with their weight -/
abbrev bT : Type := Option (Nat × Int32) × Option (Nat × Int32)
def comb (b : Option (Nat × Int32)) (w : Nat) (v : Int32) : Option (Nat × Int32) := if v = -1 then b else match b with
  | none => some (w, v)
  | some q => if q.1 ≤ w then some (w, v) else some q
def wgt (s : selT) : Nat := 10 * s.2.1 + s.2.2
def stS (E : eT) (k p : Nat) (b : bT) (r : selT × List Nat) : bT := if fitF E r.1.1 r.1.1.length k = true then (comb b.1 (wgt r.1) ((bodyF [] r.2 dNo).1 p), comb b.2 (wgt r.1) ((bodyF [] r.2 dNo).2 p)) else b
def stF (E : eT) (rs : List (selT × List Nat)) (k p : Nat) : bT := rs.foldl (stS E k p) (none, none)
def fnd (b : bT) : Option Int32 := match b.2 with
  | some q => some q.2
  | none => b.1.map Prod.snd
def dfl (E : eT) (V : Nat → Nat → Int32) (k p : Nat) : Int32 := if p = 0 ∨ p = 2 then (if k = 0 then 1 else V (E k).2.2 p) else if p = 3 then (if k = 0 then 98 else if inS 8 (E k).1 = true then 98 else 105) else if p = 6 then -1 else 0
def fxD (E : eT) (k p : Nat) (v : Int32) : Int32 := if p = 3 ∧ v = 105 ∧ inS 11 (E k).1 = true then 98 else v
def vS (E : eT) (rs : List (selT × List Nat)) (V : Nat → Nat → Int32) (k p : Nat) : Int32 := fxD E k p ((fnd (stF E rs k p)).getD (dfl E V k p))
def vN (E : eT) (rs : List (selT × List Nat)) : Nat → Nat → Nat → Int32
  | 0 => fun _ _ => 0
  | m + 1 => fun k p => if k = m then vS E rs (vN E rs m) k p else vN E rs m k p
def vF (E : eT) (rs : List (selT × List Nat)) (k p : Nat) : Int32 := vN E rs (k + 1) k p
theorem vN_s (E : eT) (rs : List (selT × List Nat)) (m k p : Nat) : vN E rs (m + 1) k p = if k = m then vS E rs (vN E rs m) k p else vN E rs m k p := rfl
theorem vN_e {E : eT} {rs : List (selT × List Nat)} {k p : Nat} : ∀ {m : Nat}, k < m → vN E rs m k p = vF E rs k p
  | 0, h => by omega
  | m + 1, h => by
    by_cases q : k = m
    · rw [q]; rfl
    · rw [vN_s, if_neg q]
      exact vN_e (by omega)
theorem vF_e {E : eT} {rs : List (selT × List Nat)} {k p : Nat} (hE : 0 < k → (E k).2.2 < k) : vF E rs k p = vS E rs (vF E rs) k p := by
  have e : vF E rs k p = vS E rs (vN E rs k) k p := by
    unfold vF
    rw [vN_s, if_pos rfl]
  rw [e]
  unfold vS dfl
  by_cases q : k = 0
  · rw [if_pos q, if_pos q, if_pos q]
  · rw [vN_e (hE (by omega))]
theorem stF_s (E : eT) (rs : List (selT × List Nat)) (r : selT × List Nat) (k p : Nat) : stF E (rs ++ [r]) k p = stS E k p (stF E rs k p) r := by
  unfold stF
  rw [List.foldl_append]
  rfl
/-- what a right rule is -/
def wRu (r : selT × List Nat) : Prop := (1 ≤ r.1.1.length ∧ r.1.1.length ≤ 4 ∧ ∀ x ∈ r.1.1, x.1 < 127) ∧ (r.1.2.1 ≤ 120 ∧ r.1.2.2 ≤ 4) ∧ (∀ c ∈ r.2, c < 127) ∧ r.2.length ≤ 120
def wSl (s : selT) (m l : Nat) : Prop := (1 ≤ s.1.length ∧ s.1.length ≤ m ∧ ∀ x ∈ s.1, x.1 < 127) ∧ s.2.1 ≤ l ∧ s.2.2 ≤ s.1.length
theorem pName_lt {L : List Nat} (h : ∀ c ∈ L, c < 127) : (pName L).1 < 127 ∧ (pName L).2.1 ≤ 1 ∧ ∀ c ∈ (pName L).2.2, c ∈ L := by
  unfold pName
  split
  · exact ⟨by decide, by decide, fun c hc => hc⟩
  · rename_i c L'
    split
    · exact ⟨h c List.mem_cons_self, Nat.le_refl _, fun x hx => List.mem_cons_of_mem _ hx⟩
    · split
      · exact ⟨Nat.zero_lt_succ _, Nat.zero_le _, fun x hx => List.mem_cons_of_mem _ hx⟩
      · exact ⟨Nat.zero_lt_succ _, Nat.zero_le _, fun x hx => hx⟩
theorem pCR (L : List Nat) : (pCaps L).length + (pRest L).length = L.length := by
  have := congrArg List.length (List.takeWhile_append_dropWhile (p := cap) (l := L))
  rw [List.length_append] at this
  exact this
theorem selP_w : ∀ {m : Nat} {d : Bool} {R : List Nat} {s : selT}, (∀ c ∈ R, c < 127) → selP m d R = some s → wSl s m R.length
  | 0, _, _, _, _, h => by cases h
  | m + 1, d, R, s, hR, h => by
    obtain ⟨n1, n2, n3⟩ := pName_lt hR
    have hl := pName_le R
    have hc := pCR (pName R).2.2
    have hsk := skB_le (pRest (pName R).2.2)
    have m1 : ∀ c ∈ pRest (pName R).2.2, c < 127 := fun c hc => hR c (n3 c ((List.dropWhile_sublist _).subset hc))
    have m2 : ∀ c ∈ skB (pRest (pName R).2.2), c < 127 := fun c hc => m1 c ((List.dropWhile_sublist _).subset hc)
    have m3 : ∀ c ∈ skB (skB (pRest (pName R).2.2)).tail, c < 127 := fun c hc => m2 c (List.mem_of_mem_tail ((List.dropWhile_sublist _).subset hc))
    have hsk2 := skB_le (skB (pRest (pName R).2.2)).tail
    have htl : (skB (pRest (pName R).2.2)).tail.length ≤ (skB (pRest (pName R).2.2)).length := by rw [List.length_tail]; omega
    have fin : ∀ q : selT, wSl q m (pRest (pName R).2.2).length → wSl (((pName R).1, clsF 0 (pCaps (pName R).2.2), d) :: q.1, (pCaps (pName R).2.2).length + q.2.1, (pName R).2.1 + q.2.2) (m + 1) R.length := fun q hq => by
      obtain ⟨⟨q1, q2, q3⟩, q4, q5⟩ := hq
      refine ⟨⟨by simp, by simp; omega, fun x hx => ?_⟩, ?_, ?_⟩
      · rcases List.mem_cons.mp hx with e | e
        · rw [e]; exact n1
        · exact q3 x e
      · show (pCaps (pName R).2.2).length + q.2.1 ≤ R.length
        omega
      · show (pName R).2.1 + q.2.2 ≤ q.1.length + 1
        omega
    unfold selP at h
    split at h
    · cases h
    · split at h
      · cases h
        refine ⟨⟨Nat.le_refl _, by show 1 ≤ m + 1; omega, fun x hx => ?_⟩, ?_, n2⟩
        · rw [List.mem_singleton.mp hx]; exact n1
        · show (pCaps (pName R).2.2).length ≤ R.length
          omega
      · split at h
        · cases hq : selP m true (skB (skB (pRest (pName R).2.2)).tail) with
          | none => rw [hq] at h; cases h
          | some q =>
            rw [hq] at h
            cases h
            have := selP_w m3 hq
            exact fin q ⟨this.1, by have := this.2.1; omega, this.2.2⟩
        · split at h
          · cases h
          · cases hq : selP m false (skB (pRest (pName R).2.2)) with
            | none => rw [hq] at h; cases h
            | some q =>
              rw [hq] at h
              cases h
              have := selP_w m2 hq
              exact fin q ⟨this.1, by have := this.2.1; omega, this.2.2⟩
theorem selF_w {L : List Nat} {s : selT} (hL : ∀ c ∈ L, c < 127) (h : selF L = some s) : wSl s 4 L.length := by
  have h1 : ∀ c ∈ skB L, c < 127 := fun c hc => hL c ((List.dropWhile_sublist _).subset hc)
  have := selP_w h1 h
  exact ⟨this.1, Nat.le_trans this.2.1 (skB_le L), this.2.2⟩
def wQ (z : zT) : Prop := (∀ r ∈ z.1, wRu r) ∧ (∀ s, z.2.2.1 = some s → wSl s 4 120) ∧ (∀ c ∈ z.2.2.2, c < 127)
theorem wQ_type {z : zT} (w : wQ z) {c : Nat} (hc : c < 127) (hl : z.2.2.2.length < 120) : wQ (z_type z c) := by
  obtain ⟨w1, w2, w3⟩ := w
  have wa : ∀ x ∈ z.2.2.2 ++ [c], x < 127 := fun x hx => by
    rcases List.mem_append.mp hx with m | m
    · exact w3 x m
    · rw [List.mem_singleton.mp m]; exact hc
  unfold z_type
  split
  · split
    · refine ⟨w1, fun s hs => ?_, fun c hc => (by cases hc)⟩
      have hs' : (if z.1.length < 12 then selF z.2.2.2 else none) = some s := hs
      split at hs'
      · have := selF_w w3 hs'
        exact ⟨this.1, by have := this.2.1; omega, this.2.2⟩
      · cases hs'
    · exact ⟨w1, w2, wa⟩
  · split
    · refine ⟨fun r hr => ?_, w2, fun c hc => (by cases hc)⟩
      have hr' : r ∈ z_end z.2.2.1 z.1 z.2.2.2 := hr
      cases hp : z.2.2.1 with
      | none => rw [hp] at hr'; exact w1 r hr'
      | some s =>
        rw [hp] at hr'
        rcases List.mem_append.mp hr' with m | m
        · exact w1 r m
        · rw [List.mem_singleton.mp m]
          obtain ⟨⟨a1, a2, a3⟩, a4, a5⟩ := w2 s hp
          exact ⟨⟨a1, a2, a3⟩, ⟨a4, by show s.2.2 ≤ 4; omega⟩, w3, by show z.2.2.2.length ≤ 120; omega⟩
    · split
      · exact ⟨w1, w2, w3⟩
      · exact ⟨w1, w2, wa⟩
theorem wQ_F : ∀ (T : List Nat) (z : zT), wQ z → (∀ c ∈ T, c < 127) → z.2.2.2.length + T.length ≤ 120 → wQ (zF z T)
  | [], z, w, _, _ => w
  | c :: T, z, w, hT, hl => by
    rw [zF_c]
    have hl' : z.2.2.2.length + (T.length + 1) ≤ 120 := hl
    have := z_held z c
    exact wQ_F T _ (wQ_type w (hT c List.mem_cons_self) (by omega)) (fun x hx => hT x (List.mem_cons_of_mem _ hx)) (by omega)
theorem wRs_of {T : List Nat} (hl : T.length ≤ 120) (hT : ∀ c ∈ T, c < 127) : ∀ r ∈ (zF z00 T).1, wRu r :=
  (wQ_F T z00 ⟨fun r hr => (by cases hr), fun s hs => (by cases hs), fun c hc => (by cases hc)⟩ hT (by show 0 + T.length ≤ 120; omega)).1
