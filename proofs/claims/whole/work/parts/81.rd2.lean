/-! Reader: what a whole reading comes to -/
def rBd {α β : Type} (x : RF ⊕ α) (f : α → RF ⊕ β) : RF ⊕ β := match x with
  | .inl e => .inl e
  | .inr a => f a
theorem rBd_l {α β : Type} {x : RF ⊕ α} {e : RF} {f : α → RF ⊕ β} (h : x = .inl e) : rBd x f = .inl e := by subst h; rfl
theorem rBd_r {α β : Type} {x : RF ⊕ α} {a : α} {f : α → RF ⊕ β} (h : x = .inr a) : rBd x f = f a := by subst h; rfl
/-- which rows lack, as ints -/
def rGp (bs : List Nat) (n r g : Nat) : List (Option Int64) := (List.range r).map (fun i => if g = 1 ∧ bitsN bs (n * 8 + i * 1) 1 = 1 then none else some 0)
/-- the frame: mark, rows, which lack -/
def rFr (bs : List Nat) : RF ⊕ (List (Option Int64) × Nat) := rBd (rB bs 0 193 194 2) fun a => rBd (rB bs a.2 1 33 2) fun r => rBd (rB bs r.2 0 2 2) fun g => rBd (rL bs g.2 (if g.1 = 1 then r.1 else 0) 1) fun n => .inr (rGp bs g.2 r.1 g.1, n)
/-- a narrow row's numbers -/
def rNar (bs : List Nat) (n m : Nat) : RF ⊕ (List Int64 × Nat) := rBd (rV bs n) fun v => rBd (rB bs v.2 0 65 2) fun w => rBd (rL bs w.2 m w.1) fun n' => .inr ((rX bs w.2 m w.1).map (fun x => zs (lN v.1) + lN x), n')
/-- a long out of eight bytes, the highest first -/
def l8 (bs : List Nat) (n : Nat) : Nat → Int64
  | 0 => 0
  | k + 1 => (l8 bs n k) <<< ((8 : Int32).toInt64 &&& 63) ||| lN (bs.getD (n + k) 0)
def rPla (bs : List Nat) (n m : Nat) : RF ⊕ (List Int64 × Nat) := rBd (rL bs n m 64) fun n' => .inr ((List.range m).map (fun i => l8 bs (n + 8 * i) 8), n')
/-- patches: k of them, the places rising -/
def rPs (bs : List Nat) (m : Nat) : Nat → Nat → Nat → RF ⊕ (List (Nat × Int64) × Nat)
  | 0, _, n => .inr ([], n)
  | k + 1, lo, n => rBd (rB bs n lo m 2) fun x => rBd (rV bs x.2) fun v => rBd (rPs bs m k (x.1 + 1) v.2) fun r => .inr ((x.1, zs (lN v.1)) :: r.1, r.2)
def rPat (bs : List Nat) (n m : Nat) : RF ⊕ (List Int64 × Nat × Nat) := rBd (rV bs n) fun v => rBd (rB bs v.2 0 65 2) fun w => rBd (rB bs w.2 0 (m + 1) 2) fun k => rBd (rPs bs m k.1 0 k.2) fun ps => rBd (rL bs ps.2 m w.1) fun n' => .inr (ps.1.foldl (fun l c => l.set c.1 c.2) ((rX bs ps.2 m w.1).map (fun x => zs (lN v.1) + lN x)), k.1, n')
def rLf (bs : List Nat) (t m n : Nat) : RF ⊕ (List Int64 × Nat × Nat) := if t = 1 then rBd (rNar bs n m) fun r => .inr (r.1, 0, r.2) else if t = 2 then rPat bs n m else rBd (rPla bs n m) fun r => .inr (r.1, 0, r.2)
def rHd (bs : List Nat) (t m n : Nat) : RF ⊕ (Nat × Nat × Nat) := if t = 4 ∨ t = 5 then rBd (rB bs n 1 (m + 1) 2) fun k => .inr (k.1, 0, k.2) else if t = 6 then rBd (rV bs n) fun v => if v.1 = 0 ∨ v.1 = 1 then .inl (2, n) else .inr (m, v.1, v.2) else .inr (m, 0, n)
/-- the heads from the outside on: turn, size, divisor; what they cost -/
def rHs (bs : List Nat) : Nat → Nat → Nat → RF ⊕ (List N3 × Nat × Nat)
  | 0, _, n => rBd (rB bs n 0 0 3) fun _ => .inr ([], 0, n)
  | f + 1, m, n => rBd (rB bs n 0 7 3) fun t => if t.1 < 3 then .inr ([(t.1, m, 0)], m, t.2) else rBd (rHd bs t.1 m t.2) fun k => rBd (rHs bs f k.1 k.2.2) fun r => .inr ((t.1, m, k.2.1) :: r.1, m + (if t.1 = 4 then k.1 else 0) + r.2.1, r.2.2)
def pf (vs : List Int64) : Nat → Int64
  | 0 => vs.getD 0 0
  | i + 1 => pf vs i + vs.getD (i + 1) 0
def sprA (vs ls : List Int64) : Nat → Nat → Nat → List Int64 → Option (List Int64)
  | 0, _, left, a => if left = 0 then some a else none
  | k + 1, i, left, a => if ls.getD i 0 < 1 ∨ lN left < ls.getD i 0 then none else sprA vs ls k (i + 1) (left - uN (ls.getD i 0)) (a ++ List.replicate (uN (ls.getD i 0)) (vs.getD i 0))
def rLk (bs : List Nat) (vs : List Int64) (m n : Nat) : RF ⊕ (List Int64 × Nat) := rBd (rL bs n m (bl (vs.length - 1))) fun n' => if (rX bs n m (bl (vs.length - 1))).all (fun x => decide (x < vs.length)) = true then .inr ((rX bs n m (bl (vs.length - 1))).map (fun x => vs.getD x 0), n') else .inl (2, n)
def rRn (bs : List Nat) (vs : List Int64) (m n : Nat) : RF ⊕ (List Int64 × Nat) := rBd (rB bs n 1 2 3) fun a => rBd (rNar bs a.2 vs.length) fun r => match sprA vs r.1 vs.length 0 m [] with
  | some vs' => .inr (vs', r.2)
  | none => .inl (2, n)
def rUn (bs : List Nat) (h : N3) (vs : List Int64) (n : Nat) : RF ⊕ (List Int64 × Nat) := if h.1 = 3 then .inr ((List.range vs.length).map (pf vs), n) else if h.1 = 4 then rRn bs vs h.2.1 n else if h.1 = 5 then rLk bs vs h.2.1 n else .inr (vs.map (fun v => v * lN h.2.2), n)
def rUs (bs : List Nat) (hs : List N3) : Nat → List Int64 → Nat → RF ⊕ (List Int64 × Nat)
  | 0, vs, n => .inr (vs, n)
  | k + 1, vs, n => rBd (rUn bs (hs.getD k z3) vs n) fun r => rUs bs hs k r.1 r.2
def rCk (bs : List Nat) (n : Nat) : RF ⊕ Nat := rBd (rB bs n (chk (bs.take n)) (chk (bs.take n) + 1) 4) fun c => if c.2 < bs.length then .inl (4, c.2) else .inr c.2
def fl (P : List (Option Int64)) (vs : List Int64) (j : Nat) : Option Int64 := if P.getD j none = none then none else some (vs.getD (pv (P.take j)).length 0)
def pth (hs : List N3) : Nat := hs.foldl (fun p h => p * 8 + h.1) 0
/-- a reading: the rows, the code, the work -/
def rd (bs : List Nat) : RF ⊕ (List (Option Int64) × Nat × Nat) := rBd (rFr bs) fun f => rBd (rHs bs 3 (pv f.1).length f.2) fun h => rBd (rLf bs (h.1.getD (h.1.length - 1) z3).1 (h.1.getD (h.1.length - 1) z3).2.1 h.2.2) fun l => rBd (rUs bs h.1 (h.1.length - 1) l.1 l.2.2) fun u => rBd (rCk bs u.2) fun _ => .inr ((List.range f.1.length).map (fl f.1 u.1), pth h.1, h.2.1 + l.2.1)
