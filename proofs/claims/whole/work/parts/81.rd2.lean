/-! Reader: what a whole reading comes to -/
def rBd {α β : Type} (x : RF ⊕ α) (f : α → RF ⊕ β) : RF ⊕ β := match x with
  | .inl e => .inl e
  | .inr a => f a
theorem rBd_l {α β : Type} {x : RF ⊕ α} {e : RF} {f : α → RF ⊕ β} (h : x = .inl e) : rBd x f = .inl e := by subst h; rfl
theorem rBd_r {α β : Type} {x : RF ⊕ α} {a : α} {f : α → RF ⊕ β} (h : x = .inr a) : rBd x f = f a := by subst h; rfl
/-- which rows lack, as ints -/
def rGp (bs : List Nat) (n r g : Nat) : List (Option Int64) := (List.range r).map (fun i => if g = 1 ∧ bitsN bs (n * 8 + i * 1) 1 = 1 then none else some 0)
/-- the frame: mark, rows, which lack -/
def rFr (bs : List Nat) : RF ⊕ (List (Option Int64) × Nat) := rBd (rB bs 0 193 194 2) fun a => rBd (rB bs a.2 1 33 2) fun r => rBd (rB bs r.2 0 2 2) fun g => rBd (rL bs g.2 (if g.1 = 1 then r.1 else 0) 1) fun n => .inr (rGp bs g.2 r.1 g.1, n)
/-- a narrow row's numbers -/
def rNar (bs : List Nat) (n m : Nat) : RF ⊕ (List Int64 × Nat) := rBd (rV bs n) fun v => rBd (rB bs v.2 0 65 2) fun w => rBd (rL bs w.2 m w.1) fun n' => .inr ((rX bs w.2 m w.1).map (fun x => zs (lN v.1) + lN x), n')
/-- a long out of eight bytes, the highest first -/
def l8 (bs : List Nat) (n : Nat) : Nat → Int64
  | 0 => 0
  | k + 1 => (l8 bs n k) <<< ((8 : Int32).toInt64 &&& 63) ||| lN (bs.getD (n + k) 0)
def rPla (bs : List Nat) (n m : Nat) : RF ⊕ (List Int64 × Nat) := rBd (rL bs n m 64) fun n' => .inr ((List.range m).map (fun i => l8 bs (n + 8 * i) 8), n')
/-- patches: k of them, the places rising -/
def rPs (bs : List Nat) (m : Nat) : Nat → Nat → Nat → RF ⊕ (List (Nat × Int64) × Nat)
  | 0, _, n => .inr ([], n)
  | k + 1, lo, n => rBd (rB bs n lo m 2) fun x => rBd (rV bs x.2) fun v => rBd (rPs bs m k (x.1 + 1) v.2) fun r => .inr ((x.1, zs (lN v.1)) :: r.1, r.2)
def rPat (bs : List Nat) (n m : Nat) : RF ⊕ (List Int64 × Nat × Nat) := rBd (rV bs n) fun v => rBd (rB bs v.2 0 65 2) fun w => rBd (rB bs w.2 0 (m + 1) 2) fun k => rBd (rPs bs m k.1 0 k.2) fun ps => rBd (rL bs ps.2 m w.1) fun n' => .inr (ps.1.foldl (fun l c => l.set c.1 c.2) ((rX bs ps.2 m w.1).map (fun x => zs (lN v.1) + lN x)), k.1, n')
