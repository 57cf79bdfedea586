/-! the small machine: its instructions -/
def mj_up (hp : Nat → MC) (a : Nat) (c : MC) : Nat → MC := fun k => if k = a then c else hp k
def mj_get : ML → Nat → Option Value
  | [], _ => none
  | (k, v) :: r, i => if k = i then some v else mj_get r i
def mj_s1 (ls : ML) (i : Nat) (v : Value) : ML := (i, v) :: ls.filter (fun q => !(q.1 == i) && !(q.1 + 1 == i && q.2.category == 2))
def mj_s2 (ls : ML) (i : Nat) (v : Value) : ML := (i, v) :: ls.filter (fun q => !(q.1 == i) && (!(q.1 == i + 1) && !(q.1 + 1 == i && q.2.category == 2)))
/-- of the kind of a sample: .int 1 stands for a boolean -/
def mj_fit : Value → Value → Bool
  | .int k, .int x => k == 0 || (x == 0 || x == 1)
  | .long _, .long _ => true
  | .null, .ref _ => true
  | .null, .null => true
  | _, _ => false
def mj_cn (ci : Nat) : String := (vwCl.map (fun q => q.1)).getD ci ""
def mj_arr (at_ : ArrayType) (n : Nat) : Option MC := match at_ with
  | .boolean => some (.inl (.boolean, n, .inl (fun _ => 0)))
  | .byte => some (.inl (.byte, n, .inl (fun _ => 0)))
  | .int => some (.inl (.int, n, .inl (fun _ => 0)))
  | .long => some (.inl (.long, n, .inr (.inl (fun _ => 0))))
  | _ => none
def mj_dv (t : FieldType) : Value := defaultValue t
/-- the fields of a new object of a class -/
def mj_new : List (List Value) := [
  (List.range 3).map (fun k => mj_dv (tyX0 k)), (List.range 2).map (fun k => mj_dv (tyX1 k)), (List.range 9).map (fun k => mj_dv (tyX2 k)), (List.range 4).map (fun k => mj_dv (tyX3 k)),
  (List.range 5).map (fun k => mj_dv (tyX4 k)), (List.range 5).map (fun k => mj_dv (tyX5 k)), (List.range 10).map (fun k => mj_dv (tyX6 k)), (List.range 14).map (fun k => mj_dv (tyX7 k)),
  (List.range 5).map (fun k => mj_dv (tyX8 k)), (List.range 3).map (fun k => mj_dv (tyX9 k)), (List.range 3).map (fun k => mj_dv (tyX10 k)), (List.range 9).map (fun k => mj_dv (tyX11 k)), (List.range 50).map (fun k => mj_dv (tyX12 k))]
def mj_tsw (pc : Nat) (d lo hi : Int) (offs : Array Int) (x : Int32) : Nat := if x.toInt < lo ∨ hi < x.toInt then ((pc : Int) + d).toNat else ((pc : Int) + (offs[(x.toInt - lo).toNat]?.getD 0)).toNat
def mj_lsw (pc : Nat) (d : Int) (ps : Array (Int × Int)) (x : Int32) : Nat := ((pc : Int) + Op.lookupswitch.offset ps.toList d x.toInt).toNat
def mj_w (st : List Value) : Nat := (st.map fun v => v.category).sum
/-- what a copy leaves in the row that it goes to -/
def mj_copy (sp dp n : Int32) : MC → MC → Option MC
  | .inl (ty, n0, .inl f), .inl (ty', n1, .inl g) => if ty = ty' ∧ refKind ty = false ∧ ¬ sp < 0 ∧ ¬ dp < 0 ∧ ¬ n < 0 ∧ sp.toNatClampNeg + n.toNatClampNeg ≤ n0 ∧ dp.toNatClampNeg + n.toNatClampNeg ≤ n1 ∧ ∀ i, i < n.toNatClampNeg → fits ty (.int (f (sp.toNatClampNeg + i))) = true then some (.inl (ty', n1, .inl (va_cpy f g sp.toNatClampNeg dp.toNatClampNeg n.toNatClampNeg))) else none
  | .inl (ty, n0, .inr (.inl f)), .inl (ty', n1, .inr (.inl g)) => if ty = .long ∧ ty' = .long ∧ ¬ sp < 0 ∧ ¬ dp < 0 ∧ ¬ n < 0 ∧ sp.toNatClampNeg + n.toNatClampNeg ≤ n0 ∧ dp.toNatClampNeg + n.toNatClampNeg ≤ n1 then some (.inl (ty', n1, .inr (.inl (va_cpy f g sp.toNatClampNeg dp.toNatClampNeg n.toNatClampNeg)))) else none
  | _, _ => none
def mj_isA (h : MH) (b ci : Nat) : Bool := match h.2.2 b with
  | .inr (c, _) => c == ci
  | .inl _ => false
/-! the instructions, by their shapes; pc: the place behind -/
def mo_li (o : Option Value) (pc : Nat) (ls : ML) (st : List Value) (h : MH) : Option MS := match o with
  | some (.int x) => some (pc, ls, .int x :: st, h)
  | _ => none
def mo_ll (o : Option Value) (pc : Nat) (ls : ML) (st : List Value) (h : MH) : Option MS := match o with
  | some (.long x) => some (pc, ls, .long x :: st, h)
  | _ => none
def mo_la (o : Option Value) (pc : Nat) (ls : ML) (st : List Value) (h : MH) : Option MS := match o with
  | some (.ref x) => some (pc, ls, .ref x :: st, h)
  | some .null => some (pc, ls, .null :: st, h)
  | _ => none
def mo_si (a pc : Nat) (ls : ML) (st : List Value) (h : MH) : Option MS := match st with
  | .int x :: st => some (pc, mj_s1 ls a (.int x), st, h)
  | _ => none
def mo_sl (a pc : Nat) (ls : ML) (st : List Value) (h : MH) : Option MS := match st with
  | .long x :: st => some (pc, mj_s2 ls a (.long x), st, h)
  | _ => none
def mo_sa (a pc : Nat) (ls : ML) (st : List Value) (h : MH) : Option MS := match st with
  | .ref x :: st => some (pc, mj_s1 ls a (.ref x), st, h)
  | .null :: st => some (pc, mj_s1 ls a .null, st, h)
  | _ => none
def mo_inc (o : Option Value) (v : Value) (a pc : Nat) (ls : ML) (st : List Value) (h : MH) : Option MS := match o, v with
  | some (.int x), .int k => some (pc, mj_s1 ls a (.int (x + k)), st, h)
  | _, _ => none
def mo_dup (pc : Nat) (ls : ML) (st : List Value) (h : MH) : Option MS := match st with
  | .int x :: st => some (pc, ls, .int x :: .int x :: st, h)
  | .ref x :: st => some (pc, ls, .ref x :: .ref x :: st, h)
  | _ => none
def mo_dup2 (pc : Nat) (ls : ML) (st : List Value) (h : MH) : Option MS := match st with
  | .int x :: .ref y :: st => some (pc, ls, .int x :: .ref y :: .int x :: .ref y :: st, h)
  | _ => none
def mo_pop (pc : Nat) (ls : ML) (st : List Value) (h : MH) : Option MS := match st with
  | .int _ :: st => some (pc, ls, st, h)
  | .ref _ :: st => some (pc, ls, st, h)
  | _ => none
def mo_ii (f : Int32 → Int32 → Int32) (pc : Nat) (ls : ML) (st : List Value) (h : MH) : Option MS := match st with
  | .int y :: .int x :: st => some (pc, ls, .int (f x y) :: st, h)
  | _ => none
def mo_lL (f : Int64 → Int64 → Int64) (pc : Nat) (ls : ML) (st : List Value) (h : MH) : Option MS := match st with
  | .long y :: .long x :: st => some (pc, ls, .long (f x y) :: st, h)
  | _ => none
def mo_lI (f : Int64 → Int32 → Int64) (pc : Nat) (ls : ML) (st : List Value) (h : MH) : Option MS := match st with
  | .int y :: .long x :: st => some (pc, ls, .long (f x y) :: st, h)
  | _ => none
def mo_di (f : Int32 → Int32 → Int32) (pc : Nat) (ls : ML) (st : List Value) (h : MH) : Option MS := match st with
  | .int y :: .int x :: st => if y = 0 then none else some (pc, ls, .int (f x y) :: st, h)
  | _ => none
def mo_dl (f : Int64 → Int64 → Int64) (pc : Nat) (ls : ML) (st : List Value) (h : MH) : Option MS := match st with
  | .long y :: .long x :: st => if y = 0 then none else some (pc, ls, .long (f x y) :: st, h)
  | _ => none
def mo_cmp (pc : Nat) (ls : ML) (st : List Value) (h : MH) : Option MS := match st with
  | .long y :: .long x :: st => some (pc, ls, .int (lg_cmp x y) :: st, h)
  | _ => none
def mo_i2l (pc : Nat) (ls : ML) (st : List Value) (h : MH) : Option MS := match st with
  | .int x :: st => some (pc, ls, .long x.toInt64 :: st, h)
  | _ => none
def mo_l2i (pc : Nat) (ls : ML) (st : List Value) (h : MH) : Option MS := match st with
  | .long x :: st => some (pc, ls, .int x.toInt32 :: st, h)
  | _ => none
def mo_i2b (pc : Nat) (ls : ML) (st : List Value) (h : MH) : Option MS := match st with
  | .int x :: st => some (pc, ls, .int x.toInt8.toInt32 :: st, h)
  | _ => none
def mo_lneg (pc : Nat) (ls : ML) (st : List Value) (h : MH) : Option MS := match st with
  | .long x :: st => some (pc, ls, .long (-x) :: st, h)
  | _ => none
/-- a branch: where it goes, where it stays -/
def mo_if (c : Jvm.ClassFile.Cond) (a pc : Nat) (ls : ML) (st : List Value) (h : MH) : Option MS := match c, st with
  | .eq, .int x :: st => if x = 0 then some (a, ls, st, h) else some (pc, ls, st, h)
  | .ne, .int x :: st => if ¬ x = 0 then some (a, ls, st, h) else some (pc, ls, st, h)
  | .lt, .int x :: st => if x < 0 then some (a, ls, st, h) else some (pc, ls, st, h)
  | .ge, .int x :: st => if 0 ≤ x then some (a, ls, st, h) else some (pc, ls, st, h)
  | .gt, .int x :: st => if 0 < x then some (a, ls, st, h) else some (pc, ls, st, h)
  | .le, .int x :: st => if x ≤ 0 then some (a, ls, st, h) else some (pc, ls, st, h)
  | _, _ => none
def mo_ic (c : Jvm.ClassFile.Cond) (a pc : Nat) (ls : ML) (st : List Value) (h : MH) : Option MS := match c, st with
  | .eq, .int y :: .int x :: st => if x = y then some (a, ls, st, h) else some (pc, ls, st, h)
  | .ne, .int y :: .int x :: st => if ¬ x = y then some (a, ls, st, h) else some (pc, ls, st, h)
  | .lt, .int y :: .int x :: st => if x < y then some (a, ls, st, h) else some (pc, ls, st, h)
  | .ge, .int y :: .int x :: st => if y ≤ x then some (a, ls, st, h) else some (pc, ls, st, h)
  | .gt, .int y :: .int x :: st => if y < x then some (a, ls, st, h) else some (pc, ls, st, h)
  | .le, .int y :: .int x :: st => if x ≤ y then some (a, ls, st, h) else some (pc, ls, st, h)
  | _, _ => none
def mo_nul (a pc : Nat) (ls : ML) (st : List Value) (h : MH) : Option MS := match st with
  | .null :: st => some (a, ls, st, h)
  | .ref _ :: st => some (pc, ls, st, h)
  | _ => none
def mo_tsw (pc : Nat) (d lo hi : Int) (offs : Array Int) (ls : ML) (st : List Value) (h : MH) : Option MS := match st with
  | .int x :: st => some (mj_tsw pc d lo hi offs x, ls, st, h)
  | _ => none
def mo_lsw (pc : Nat) (d : Int) (ps : Array (Int × Int)) (ls : ML) (st : List Value) (h : MH) : Option MS := match st with
  | .int x :: st => some (mj_lsw pc d ps x, ls, st, h)
  | _ => none
def mo_gv (o : Option Value) (pc : Nat) (ls : ML) (st : List Value) (h : MH) : Option MS := match o with
  | some r => some (pc, ls, r :: st, h)
  | none => none
def mo_gc (c : MC) (a b pc : Nat) (ls : ML) (st : List Value) (h : MH) : Option MS := match c with
  | .inr (ci, fs) => if ci = a then mo_gv fs[b]? pc ls st h else none
  | .inl _ => none
def mo_get (a b pc : Nat) (ls : ML) (st : List Value) (h : MH) : Option MS := match st with
  | .ref o :: st => mo_gc (h.2.2 o) a b pc ls st h
  | _ => none
def mo_pc (c : MC) (a b : Nat) (v x : Value) (o pc : Nat) (ls : ML) (st : List Value) (h : MH) : Option MS := match c with
  | .inr (ci, fs) => if ci = a ∧ b < fs.length ∧ mj_fit v x = true then some (pc, ls, st, (h.1, h.2.1, mj_up h.2.2 o (.inr (ci, fs.set b x)))) else none
  | .inl _ => none
def mo_put (a b : Nat) (v : Value) (pc : Nat) (ls : ML) (st : List Value) (h : MH) : Option MS := match st with
  | x :: .ref o :: st => mo_pc (h.2.2 o) a b v x o pc ls st h
  | _ => none
def mo_lenc (c : MC) (pc : Nat) (ls : ML) (st : List Value) (h : MH) : Option MS := match c with
  | .inl (_, n, _) => some (pc, ls, .int (Int32.ofNat n) :: st, h)
  | .inr _ => none
def mo_len (pc : Nat) (ls : ML) (st : List Value) (h : MH) : Option MS := match st with
  | .ref o :: st => mo_lenc (h.2.2 o) pc ls st h
  | _ => none
def mo_ic1 (c : MC) (i : Int32) (pc : Nat) (ls : ML) (st : List Value) (h : MH) : Option MS := match c with
  | .inl (.int, n, .inl f) => if i < 0 ∨ n ≤ i.toNatClampNeg then none else some (pc, ls, .int (f i.toNatClampNeg) :: st, h)
  | _ => none
def mo_bc1 (c : MC) (i : Int32) (pc : Nat) (ls : ML) (st : List Value) (h : MH) : Option MS := match c with
  | .inl (.byte, n, .inl f) => if i < 0 ∨ n ≤ i.toNatClampNeg then none else some (pc, ls, .int (f i.toNatClampNeg) :: st, h)
  | .inl (.boolean, n, .inl f) => if i < 0 ∨ n ≤ i.toNatClampNeg then none else some (pc, ls, .int (f i.toNatClampNeg) :: st, h)
  | _ => none
def mo_lc1 (c : MC) (i : Int32) (pc : Nat) (ls : ML) (st : List Value) (h : MH) : Option MS := match c with
  | .inl (.long, n, .inr (.inl f)) => if i < 0 ∨ n ≤ i.toNatClampNeg then none else some (pc, ls, .long (f i.toNatClampNeg) :: st, h)
  | _ => none
def mo_ac1 (c : MC) (i : Int32) (pc : Nat) (ls : ML) (st : List Value) (h : MH) : Option MS := match c with
  | .inl (.object _, n, .inr (.inr (.inr (.inr f)))) => if i < 0 ∨ n ≤ i.toNatClampNeg then none else some (pc, ls, va_rf (f i.toNatClampNeg) :: st, h)
  | _ => none
def mo_ld (k : MC → Int32 → Nat → ML → List Value → MH → Option MS) (pc : Nat) (ls : ML) (st : List Value) (h : MH) : Option MS := match st with
  | .int j :: .ref o :: st => k (h.2.2 o) j pc ls st h
  | _ => none
def mo_is1 (c : MC) (i x : Int32) (o pc : Nat) (ls : ML) (st : List Value) (h : MH) : Option MS := match c with
  | .inl (.int, n, .inl f) => if o = 0 ∨ i < 0 ∨ n ≤ i.toNatClampNeg then none else some (pc, ls, st, (h.1, h.2.1, mj_up h.2.2 o (.inl (.int, n, .inl (upd f i.toNatClampNeg x)))))
  | _ => none
def mo_bs1 (c : MC) (i x : Int32) (o pc : Nat) (ls : ML) (st : List Value) (h : MH) : Option MS := match c with
  | .inl (.byte, n, .inl f) => if i < 0 ∨ n ≤ i.toNatClampNeg then none else some (pc, ls, st, (h.1, h.2.1, mj_up h.2.2 o (.inl (.byte, n, .inl (upd f i.toNatClampNeg (vp_nar .byte x))))))
  | .inl (.boolean, n, .inl f) => if i < 0 ∨ n ≤ i.toNatClampNeg then none else some (pc, ls, st, (h.1, h.2.1, mj_up h.2.2 o (.inl (.boolean, n, .inl (upd f i.toNatClampNeg (vp_nar .boolean x))))))
  | _ => none
def mo_sti (k : MC → Int32 → Int32 → Nat → Nat → ML → List Value → MH → Option MS) (pc : Nat) (ls : ML) (st : List Value) (h : MH) : Option MS := match st with
  | .int x :: .int j :: .ref o :: st => k (h.2.2 o) j x o pc ls st h
  | _ => none
def mo_ls1 (c : MC) (i : Int32) (x : Int64) (o pc : Nat) (ls : ML) (st : List Value) (h : MH) : Option MS := match c with
  | .inl (.long, n, .inr (.inl f)) => if i < 0 ∨ n ≤ i.toNatClampNeg then none else some (pc, ls, st, (h.1, h.2.1, mj_up h.2.2 o (.inl (.long, n, .inr (.inl (vp_updL f i.toNatClampNeg x))))))
  | _ => none
def mo_stl (pc : Nat) (ls : ML) (st : List Value) (h : MH) : Option MS := match st with
  | .long x :: .int j :: .ref o :: st => mo_ls1 (h.2.2 o) j x o pc ls st h
  | _ => none
def mo_as1 (c e : MC) (j : Int32) (w o pc : Nat) (ls : ML) (st : List Value) (h : MH) : Option MS := match c, e with
  | .inl (.object C, n, .inr (.inr (.inr (.inr f)))), .inr (ci, _) => if j < 0 ∨ n ≤ j.toNatClampNeg ∨ mj_cn ci ≠ C then none else some (pc, ls, st, (h.1, h.2.1, mj_up h.2.2 o (.inl (.object C, n, .inr (.inr (.inr (.inr (va_up f j.toNatClampNeg (some w)))))))))
  | _, _ => none
def mo_sta (pc : Nat) (ls : ML) (st : List Value) (h : MH) : Option MS := match st with
  | .ref w :: .int j :: .ref o :: st => mo_as1 (h.2.2 o) (h.2.2 w) j w o pc ls st h
  | _ => none
def mo_na (t : ArrayType) (pc : Nat) (ls : ML) (st : List Value) (h : MH) : Option MS := match st with
  | .int n :: st => if n < 0 ∨ 10000 < n.toNatClampNeg then none else (mj_arr t n.toNatClampNeg).map (fun r => (pc, ls, .ref (h.1 + 1) :: st, (h.1 + 1, h.2.1 + n.toNatClampNeg, mj_up h.2.2 (h.1 + 1) r)))
  | _ => none
def mo_naq (a pc : Nat) (ls : ML) (st : List Value) (h : MH) : Option MS := match st with
  | .int n :: st => if n < 0 ∨ 10000 < n.toNatClampNeg ∨ ¬ (a = 2 ∨ a = 6 ∨ a = 8) then none else some (pc, ls, .ref (h.1 + 1) :: st, (h.1 + 1, h.2.1 + n.toNatClampNeg, mj_up h.2.2 (h.1 + 1) (.inl (.object (mj_cn a), n.toNatClampNeg, .inr (.inr (.inr (.inr (fun _ => none))))))))
  | _ => none
def mo_new (a pc : Nat) (ls : ML) (st : List Value) (h : MH) : Option MS := match mj_new[a]? with
  | some fs => some (pc, ls, .ref (h.1 + 1) :: st, (h.1 + 1, h.2.1 + fs.length, mj_up h.2.2 (h.1 + 1) (.inr (a, fs))))
  | none => none
def mo_obj (a pc : Nat) (ls : ML) (st : List Value) (h : MH) : Option MS := match st with
  | .ref _ :: st => if a = 1000 ∧ mj_w st ≤ 8 then some (pc, ls, st, h) else none
  | _ => none
def mo_cpy (a pc : Nat) (ls : ML) (st : List Value) (h : MH) : Option MS := match st with
  | .int n :: .int dp :: .ref o :: .int sp :: .ref o0 :: st => if a = 1001 ∧ mj_w st ≤ 8 ∧ ¬ o = 0 ∧ ¬ o0 = 0 then (mj_copy sp dp n (h.2.2 o0) (h.2.2 o)).map (fun r => (pc, ls, st, (h.1, h.2.1, mj_up h.2.2 o r))) else none
  | _ => none
/-- Math's own methods -/
def mo_mth (a pc : Nat) (ls : ML) (st : List Value) (h : MH) : Option MS :=
  if a = id_J9_max_7cf53 then (match st with
    | .int y :: .int x :: st => if mj_w st ≤ 8 then some (pc, ls, .int (if x < y then y else x) :: st, h) else none
    | _ => none)
  else if a = id_J9_min_7cf53 then (match st with
    | .int y :: .int x :: st => if mj_w st ≤ 8 then some (pc, ls, .int (if y < x then y else x) :: st, h) else none
    | _ => none)
  else if a = id_J9_max_f86c9 then (match st with
    | .long y :: .long x :: st => if mj_w st ≤ 8 then some (pc, ls, .long (if y < x then x else y) :: st, h) else none
    | _ => none)
  else if a = id_J9_min_f86c9 then (match st with
    | .long y :: .long x :: st => if mj_w st ≤ 8 then some (pc, ls, .long (if y < x then y else x) :: st, h) else none
    | _ => none)
  else if a = id_J9_abs_067f4 then (match st with
    | .long x :: st => if mj_w st ≤ 8 then some (pc, ls, .long (if 0 < x then x else -x) :: st, h) else none
    | _ => none)
  else mo_cpy a pc ls st h
/-- one instruction that is no call and no return; a, b, v: what the table has resolved -/
def mj_one (i : Instr) (len a b : Nat) (v : Value) (pc : Nat) (ls : ML) (st : List Value) (h : MH) : Option MS :=
  match i with
  | .iconst _ => some (pc + len, ls, v :: st, h)
  | .bipush _ => some (pc + len, ls, v :: st, h)
  | .sipush _ => some (pc + len, ls, v :: st, h)
  | .lconst _ => some (pc + len, ls, v :: st, h)
  | .ldc _ => some (pc + len, ls, v :: st, h)
  | .ldc_w _ => some (pc + len, ls, v :: st, h)
  | .ldc2_w _ => some (pc + len, ls, v :: st, h)
  | .aconst_null => some (pc + len, ls, .null :: st, h)
  | .iload_n _ => mo_li (mj_get ls a) (pc + len) ls st h
  | .iload _ => mo_li (mj_get ls a) (pc + len) ls st h
  | .lload_n _ => mo_ll (mj_get ls a) (pc + len) ls st h
  | .lload _ => mo_ll (mj_get ls a) (pc + len) ls st h
  | .aload_n _ => mo_la (mj_get ls a) (pc + len) ls st h
  | .aload _ => mo_la (mj_get ls a) (pc + len) ls st h
  | .istore_n _ => mo_si a (pc + len) ls st h
  | .istore _ => mo_si a (pc + len) ls st h
  | .lstore_n _ => mo_sl a (pc + len) ls st h
  | .lstore _ => mo_sl a (pc + len) ls st h
  | .astore_n _ => mo_sa a (pc + len) ls st h
  | .astore _ => mo_sa a (pc + len) ls st h
  | .iinc _ _ => mo_inc (mj_get ls a) v a (pc + len) ls st h
  | .dup => mo_dup (pc + len) ls st h
  | .dup2 => mo_dup2 (pc + len) ls st h
  | .pop => mo_pop (pc + len) ls st h
  | .goto _ => some (a, ls, st, h)
  | .ifCond c _ => mo_if c a (pc + len) ls st h
  | .if_icmp c _ => mo_ic c a (pc + len) ls st h
  | .ifnull _ => mo_nul a (pc + len) ls st h
  | .ifnonnull _ => mo_nul (pc + len) a ls st h
  | .tableswitch d lo hi offs => mo_tsw pc d lo hi offs ls st h
  | .lookupswitch d ps => mo_lsw pc d ps ls st h
  | .iadd => mo_ii (fun x y => x + y) (pc + len) ls st h
  | .isub => mo_ii (fun x y => x - y) (pc + len) ls st h
  | .imul => mo_ii (fun x y => x * y) (pc + len) ls st h
  | .iand => mo_ii (fun x y => x &&& y) (pc + len) ls st h
  | .ior => mo_ii (fun x y => x ||| y) (pc + len) ls st h
  | .ishl => mo_ii (fun x y => x <<< (y &&& 31)) (pc + len) ls st h
  | .ishr => mo_ii (fun x y => x >>> (y &&& 31)) (pc + len) ls st h
  | .iushr => mo_ii (fun x y => (x.toUInt32 >>> (y.toUInt32 &&& Int32.toUInt32 31)).toInt32) (pc + len) ls st h
  | .idiv => mo_di (fun x y => x / y) (pc + len) ls st h
  | .irem => mo_di (fun x y => x - x / y * y) (pc + len) ls st h
  | .ladd => mo_lL (fun x y => x + y) (pc + len) ls st h
  | .lsub => mo_lL (fun x y => x - y) (pc + len) ls st h
  | .lmul => mo_lL (fun x y => x * y) (pc + len) ls st h
  | .land => mo_lL (fun x y => x &&& y) (pc + len) ls st h
  | .lor => mo_lL (fun x y => x ||| y) (pc + len) ls st h
  | .lxor => mo_lL (fun x y => x ^^^ y) (pc + len) ls st h
  | .ldiv => mo_dl (fun x y => x / y) (pc + len) ls st h
  | .lrem => mo_dl (fun x y => x - x / y * y) (pc + len) ls st h
  | .lshl => mo_lI (fun x y => x <<< (y.toInt64 &&& 63)) (pc + len) ls st h
  | .lshr => mo_lI (fun x y => x >>> (y.toInt64 &&& 63)) (pc + len) ls st h
  | .lushr => mo_lI (fun x y => (x.toUInt64 >>> (y.toInt64.toUInt64 &&& Int64.toUInt64 63)).toInt64) (pc + len) ls st h
  | .lcmp => mo_cmp (pc + len) ls st h
  | .i2l => mo_i2l (pc + len) ls st h
  | .l2i => mo_l2i (pc + len) ls st h
  | .i2b => mo_i2b (pc + len) ls st h
  | .lneg => mo_lneg (pc + len) ls st h
  | .getfield _ => mo_get a b (pc + len) ls st h
  | .putfield _ => mo_put a b v (pc + len) ls st h
  | .arraylength => mo_len (pc + len) ls st h
  | .iaload => mo_ld mo_ic1 (pc + len) ls st h
  | .baload => mo_ld mo_bc1 (pc + len) ls st h
  | .laload => mo_ld mo_lc1 (pc + len) ls st h
  | .aaload => mo_ld mo_ac1 (pc + len) ls st h
  | .iastore => mo_sti mo_is1 (pc + len) ls st h
  | .bastore => mo_sti mo_bs1 (pc + len) ls st h
  | .lastore => mo_stl (pc + len) ls st h
  | .aastore => mo_sta (pc + len) ls st h
  | .newarray t => mo_na t (pc + len) ls st h
  | .anewarray _ => mo_naq a (pc + len) ls st h
  | .new _ => mo_new a (pc + len) ls st h
  | .invokespecial _ => mo_obj a (pc + len) ls st h
  | .invokestatic _ => if v = .null then mo_mth a (pc + len) ls st h else none
  | _ => none
def mj_st (c : MI) (s : MS) : Option MS := match mj_f c s.1 with
  | some (i, len, a, b, v) => mj_one i len a b v s.1 s.2.1 s.2.2.1 s.2.2.2
  | none => none
/-- a return: the answer -/
def mj_ret (c : MI) (s : MS) : Option (Option Value) := match mj_f c s.1, s.2.2.1 with
  | some (.return_, _), [] => if c.2.2.2.1 = none then some none else none
  | some (.ireturn, _), [.int x] => match c.2.2.2.1 with
    | some .int => some (some (.int x))
    | some .boolean => if x = 0 ∨ x = 1 then some (some (.int x)) else none
    | _ => none
  | some (.lreturn, _), [.long x] => if c.2.2.2.1 = some .long then some (some (.long x)) else none
  | some (.areturn, _), [.ref x] => match c.2.2.2.1 with
    | some (.object _) => some (some (.ref x))
    | _ => none
  | some (.areturn, _), [.null] => match c.2.2.2.1 with
    | some (.object _) => some (some .null)
    | _ => none
  | _, _ => none
