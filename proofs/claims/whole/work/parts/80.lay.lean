/-! layout as functions: a run of letters -/
def rgF : Nat → Nat → List Nat
  | _, 0 => []
  | a, m + 1 => a :: rgF (a + 1) m
theorem rgF_add : ∀ (m1 m2 a : Nat), rgF a (m1 + m2) = rgF a m1 ++ rgF (a + m1) m2
  | 0, m2, a => by rw [Nat.zero_add]; rfl
  | m1 + 1, m2, a => by
    rw [show m1 + 1 + m2 = (m1 + m2) + 1 by omega, rgF, rgF, rgF_add m1 m2 (a + 1), show a + 1 + m1 = a + (m1 + 1) by omega]
    rfl
theorem rgF_mem : ∀ {m a j : Nat}, j ∈ rgF a m ↔ a ≤ j ∧ j < a + m
  | 0, a, j => by
    show j ∈ [] ↔ _
    simp
  | m + 1, a, j => by
    rw [rgF, List.mem_cons, rgF_mem]
    omega
def mx (a b : Int32) : Int32 := if a < b then b else a
/-- a run: y, letters of the line, used, its height; word, its width, gap; has lines, how many; x, y of letters -/
abbrev uT : Type := (Int32 × List Nat × Int32 × Int32) × (List Nat × Int32 × Int32) × (Bool × Int32) × (Nat → Option Int32) × (Nat → Int32)
def uY (u : uT) : Int32 := u.1.1
def uLn (u : uT) : List Nat := u.1.2.1
def uUs (u : uT) : Int32 := u.1.2.2.1
def uLh (u : uT) : Int32 := u.1.2.2.2
def uWd (u : uT) : List Nat := u.2.1.1
def uWw (u : uT) : Int32 := u.2.1.2.1
def uGp (u : uT) : Int32 := u.2.1.2.2
def uHs (u : uT) : Bool := u.2.2.1.1
def uNl (u : uT) : Int32 := u.2.2.1.2
def uPx (u : uT) : Nat → Option Int32 := u.2.2.2.1
def uPy (u : uT) : Nat → Int32 := u.2.2.2.2
def uNew (y nl : Int32) (px : Nat → Option Int32) (py : Nat → Int32) : uT := ((y, [], 0, 0), ([], 0, 0), (false, nl), px, py)
def uEl (sz : Nat → Int32) (u : uT) : uT := ((uY u + uLh u, [], 0, 0), u.2.1, (true, uNl u + 1), uPx u, fun q => if q ∈ uLn u then (uY u + uLh u) - sz q else uPy u q)
abbrev ulT : Type := Int32 × Int32 × (Nat → Option Int32)
def uPl (sz : Nat → Int32) (cl : Int32) (s : ulT) (q : Nat) : ulT := (s.1 + sz q, mx s.2.1 (sz q), up s.2.2 q (some (cl + s.1)))
def uPut (sz : Nat → Int32) (cl : Int32) (u : uT) : uT := ((uY u, uLn u ++ uWd u, ((uWd u).foldl (uPl sz cl) (uUs u, uLh u, uPx u)).1, ((uWd u).foldl (uPl sz cl) (uUs u, uLh u, uPx u)).2.1), ([], 0, 0), u.2.2.1, ((uWd u).foldl (uPl sz cl) (uUs u, uLh u, uPx u)).2.2, uPy u)
def uFit (sz : Nat → Int32) (W : Int32) (u : uT) : uT := if uLn u = [] then u else if uUs u + uGp u + uWw u ≤ W then ((uY u, uLn u, uUs u + uGp u, uLh u), u.2) else uEl sz u
def uWo (sz : Nat → Int32) (cl W : Int32) (u : uT) : uT := if uWd u = [] then u else uPut sz cl (uFit sz W u)
def uChr (sz : Nat → Int32) (u : uT) (q : Nat) : uT := (u.1, (uWd u ++ [q], uWw u + sz q, uGp u), u.2.2)
def uGap (u : uT) (s : Int32) : uT := (u.1, (uWd u, uWw u, if uGp u = 0 then s else uGp u), u.2.2)
def uBlk (sz : Nat → Int32) (cl W : Int32) (u : uT) (q : Nat) : uT := uGap (uWo sz cl W u) (sz q)
def uHgt (u : uT) (s : Int32) : uT := if uLn u = [] then ((uY u, uLn u, uUs u, s), u.2) else u
def uBrk (sz : Nat → Int32) (cl W : Int32) (u : uT) (s : Int32) : uT := uEl sz (uHgt (uWo sz cl W u) s)
def uEnd (sz : Nat → Int32) (cl W : Int32) (u : uT) : uT := if uLn (uWo sz cl W u) = [] then uWo sz cl W u else uEl sz (uWo sz cl W u)
/-- the layout's data by places: names, values, sizes of letters, letters of a place, their codes; box or not, hidden or not, box of; left, width, height; place behind; letter's place -/
abbrev lT : Type := (Nat → Nat) × (Nat → Nat → Int32) × (Nat → Int32) × (Nat → List Nat) × (Nat → Nat) × (Nat → Bool) × (Nat → Bool) × (Nat → Nat) × (Nat → Int32) × (Nat → Int32) × (Nat → Int32) × (Nat → Nat) × (Nat → Nat)
def zNm (Z : lT) : Nat → Nat := Z.1
def zV (Z : lT) : Nat → Nat → Int32 := Z.2.1
def zSz (Z : lT) : Nat → Int32 := Z.2.2.1
def zLt (Z : lT) : Nat → List Nat := Z.2.2.2.1
def zCd (Z : lT) : Nat → Nat := Z.2.2.2.2.1
def zIb (Z : lT) : Nat → Bool := Z.2.2.2.2.2.1
def zHd (Z : lT) : Nat → Bool := Z.2.2.2.2.2.2.1
def zBo (Z : lT) : Nat → Nat := Z.2.2.2.2.2.2.2.1
def zL (Z : lT) : Nat → Int32 := Z.2.2.2.2.2.2.2.2.1
def zW (Z : lT) : Nat → Int32 := Z.2.2.2.2.2.2.2.2.2.1
def zH (Z : lT) : Nat → Int32 := Z.2.2.2.2.2.2.2.2.2.2.1
def zBh (Z : lT) : Nat → Nat := Z.2.2.2.2.2.2.2.2.2.2.2.1
def zNq (Z : lT) : Nat → Nat := Z.2.2.2.2.2.2.2.2.2.2.2.2
abbrev kT2 : Type := Nat × Nat
def kLet (Z : lT) (q : Nat) : kT2 := if zCd Z q = 32 then (1, q) else (0, q)
/-- what a place gives to a box -/
def tkF (Z : lT) (k j : Nat) : List kT2 := if zBo Z j = k then (if zIb Z j = true then [(3, j)] else if zHd Z j = true then [] else (if zNm Z j = 107 then [(2, j)] else []) ++ (if zNm Z j = 1 then (zLt Z j).map (kLet Z) else [])) else []
abbrev gT : Type := (Int32 × Int32 × Int32) × uT × (Nat → Int32)
def zCl (Z : lT) (k : Nat) : Int32 := zL Z k + zV Z k 5
def uTk (Z : lT) (k : Nat) (u : uT) (t : kT2) : uT := if t.1 = 0 then uChr (zSz Z) u t.2 else if t.1 = 1 then uBlk (zSz Z) (zCl Z k) (zW Z k) u t.2 else uBrk (zSz Z) (zCl Z k) (zW Z k) u (zV Z t.2 2)
def gFl (Z : lT) (k : Nat) (g : gT) : gT := if uHs (uEnd (zSz Z) (zCl Z k) (zW Z k) g.2.1) = true then ((uY (uEnd (zSz Z) (zCl Z k) (zW Z k) g.2.1), 0, g.1.2.2), uEnd (zSz Z) (zCl Z k) (zW Z k) g.2.1, g.2.2) else (g.1, uEnd (zSz Z) (zCl Z k) (zW Z k) g.2.1, g.2.2)
/-- the top of a box that comes next -/
def gTp (Z : lT) (k j : Nat) (g : gT) : Int32 := if zNm Z k = 114 then zV Z j 4 else g.1.1 + mx g.1.2.1 (zV Z j 4)
def gBx (Z : lT) (k j : Nat) (g : gT) : gT := ((gTp Z k j g + zH Z j, zV Z j 4, mx g.1.2.2 (2 * zV Z j 4 + zH Z j)), uNew (gTp Z k j g + zH Z j + zV Z j 4) (uNl g.2.1) (uPx g.2.1) (uPy g.2.1), up g.2.2 j (gTp Z k j g))
def gTk (Z : lT) (k : Nat) (g : gT) (t : kT2) : gT := if t.1 = 3 then gBx Z k t.2 (gFl Z k g) else (g.1, uTk Z k g.2.1 t, g.2.2)
def g0 : gT := ((0, 0, 0), uNew 0 0 (fun _ => none) (fun _ => 0), fun _ => 0)
def tkR (Z : lT) (k a m : Nat) : List kT2 := (rgF a m).flatMap (tkF Z k)
def gAt (Z : lT) (k m : Nat) : gT := (tkR Z k (k + 1) m).foldl (gTk Z k) g0
def gOf (Z : lT) (k : Nat) : gT := gFl Z k (gAt Z k (zBh Z k - (k + 1)))
theorem tkR_add (Z : lT) (k a m1 m2 : Nat) : tkR Z k a (m1 + m2) = tkR Z k a m1 ++ tkR Z k (a + m1) m2 := by
  unfold tkR
  rw [rgF_add, List.flatMap_append]
theorem tkR_s (Z : lT) (k a m : Nat) : tkR Z k a (m + 1) = tkF Z k a ++ tkR Z k (a + 1) m := rfl
/-- the right layout: heights, tops -/
def hCt (Z : lT) (k : Nat) : Int32 := if zNm Z k = 104 then 1 else if zNm Z k = 114 then (gOf Z k).1.2.2 else (gOf Z k).1.1 + (gOf Z k).1.2.1
def zPx (Z : lT) (q : Nat) : Option Int32 := uPx (gOf Z (zBo Z (zNq Z q))).2.1 q
def zPy (Z : lT) (q : Nat) : Int32 := uPy (gOf Z (zBo Z (zNq Z q))).2.1 q
def zTr (Z : lT) (j : Nat) : Int32 := (gOf Z (zBo Z j)).2.2 j
def zNl (Z : lT) (k : Nat) : Int32 := if zIb Z k = true then uNl (gOf Z k).2.1 else 0
def sumF (f : Nat → Int32) : Nat → Nat → Int32
  | _, 0 => 0
  | a, m + 1 => f a + sumF f (a + 1) m
theorem sum_add (f : Nat → Int32) : ∀ (m1 m2 a : Nat), sumF f a (m1 + m2) = sumF f a m1 + sumF f (a + m1) m2
  | 0, m2, a => by rw [Nat.zero_add]; show sumF f a m2 = 0 + sumF f (a + 0) m2; rw [Int32.zero_add]; rfl
  | m1 + 1, m2, a => by
    rw [show m1 + 1 + m2 = (m1 + m2) + 1 by omega, sumF, sumF, sum_add f m1 m2 (a + 1), show a + 1 + m1 = a + (m1 + 1) by omega, Int32.add_assoc]
