/-! what a table's row says of the class file: looked through by program, row by row -/
def mj_ty : List (Nat → FieldType) := [tyX0, tyX1, tyX2, tyX3, tyX4, tyX5, tyX6, tyX7, tyX8, tyX9, tyX10, tyX11, tyX12]
def mj_smp (v : Value) (t : FieldType) : Bool := match v, t with
  | .int k, .int => k == 0
  | .int k, .boolean => !(k == 0)
  | .long _, .long => true
  | .null, .object _ => true
  | .null, .array _ => true
  | _, _ => false
def mj_len (i : Instr) : Nat := match i with
  | .bipush _ => 2
  | .sipush _ => 3
  | .ldc _ => 2
  | .ldc_w _ => 3
  | .ldc2_w _ => 3
  | .iload _ => 2
  | .lload _ => 2
  | .aload _ => 2
  | .istore _ => 2
  | .lstore _ => 2
  | .astore _ => 2
  | .iinc _ _ => 3
  | .goto _ => 3
  | .ifCond _ _ => 3
  | .if_icmp _ _ => 3
  | .ifnull _ => 3
  | .ifnonnull _ => 3
  | .getfield _ => 3
  | .putfield _ => 3
  | .new _ => 3
  | .anewarray _ => 3
  | .newarray _ => 2
  | .invokespecial _ => 3
  | .invokestatic _ => 3
  | .invokevirtual _ => 3
  | _ => 1
def mj_nm (c : MI) : String := mj_own.getD c.2.2.2.2.1 ""
def mj_has (pos : Nat) (w : Jvm.Cond) : Bool := decide (lw_tbl[pos]? = some w)
def mj_link (own : String) (k : Nat) (y : MethodName) (v : Value) (pos : Nat) : Bool := match v with
  | .null => mj_has pos (.methodLink own k y)
  | _ => match lw_tbl[pos]? with
    | some (.methodLinkNest o k' y' _) => decide (o = own) && decide (k' = k) && decide (y' = y)
    | _ => false
def mj_np (y : MethodName) : Option Nat := (parseMethodDescriptor y.desc).map (fun d => d.parameters.length)
def mj_sz (pc : Nat) (z : Int) : Bool := decide (0 ≤ (pc : Int) + z)
def mj_ck (c : MI) (pc pos : Nat) (x : MJX) : Bool :=
  decide (decode c.2.1 pc = .ok (x.1, x.2.1)) && match x with
  | (i, len, a, b, v) => match i with
    | .iconst n => len == 1 && decide (v = .int (Int32.ofInt n))
    | .bipush n => len == 2 && decide (v = .int (Int8.ofInt n).toInt32)
    | .sipush n => len == 3 && decide (v = .int (Int16.ofInt n).toInt32)
    | .lconst n => len == 1 && decide (v = .long (Int64.ofNat (n : Nat)))
    | .ldc k => len == 2 && match v with
      | .int z => mj_has pos (.constant (mj_nm c) k z)
      | _ => false
    | .ldc_w k => len == 3 && match v with
      | .int z => mj_has pos (.constant (mj_nm c) k z)
      | _ => false
    | .ldc2_w k => len == 3 && match v with
      | .long z => mj_has pos (.constantLong (mj_nm c) k z)
      | _ => false
    | .iload_n k => len == 1 && a == (k : Nat)
    | .lload_n k => len == 1 && a == (k : Nat)
    | .aload_n k => len == 1 && a == (k : Nat)
    | .iload k => len == 2 && a == k
    | .lload k => len == 2 && a == k
    | .aload k => len == 2 && a == k
    | .istore_n k => len == 1 && a == (k : Nat) && decide (a < c.2.2.1)
    | .astore_n k => len == 1 && a == (k : Nat) && decide (a < c.2.2.1)
    | .lstore_n k => len == 1 && a == (k : Nat) && decide (a + 1 < c.2.2.1)
    | .istore k => len == 2 && a == k && decide (a < c.2.2.1)
    | .astore k => len == 2 && a == k && decide (a < c.2.2.1)
    | .lstore k => len == 2 && a == k && decide (a + 1 < c.2.2.1)
    | .iinc k n => len == 3 && a == k && decide (a < c.2.2.1) && decide (v = .int (Int32.ofInt n))
    | .goto z => len == 3 && decide ((pc : Int) + z = (a : Int))
    | .ifCond _ z => len == 3 && decide ((pc : Int) + z = (a : Int))
    | .if_icmp _ z => len == 3 && decide ((pc : Int) + z = (a : Int))
    | .ifnull z => len == 3 && decide ((pc : Int) + z = (a : Int))
    | .ifnonnull z => len == 3 && decide ((pc : Int) + z = (a : Int))
    | .tableswitch d lo hi offs => mj_sz pc d && decide ((offs.size : Int) = hi - lo + 1) && offs.toList.all (mj_sz pc)
    | .lookupswitch d ps => mj_sz pc d && ps.toList.all (fun q => mj_sz pc q.2) && (ps.toList.zip (ps.toList.drop 1)).all (fun (a, next) => a.1 < next.1)
    | .getfield k => len == 3 && match vwCl[a]? with
      | some (_, T, N) => decide (b < N) && mj_has pos (.fieldLink (mj_nm c) k (T b).1 (T b).2.1 (T b).2.2.1)
      | none => false
    | .putfield k => len == 3 && (match vwCl[a]? with
      | some (_, T, N) => decide (b < N) && mj_has pos (.fieldLink (mj_nm c) k (T b).1 (T b).2.1 (T b).2.2.1) && (!(T b).2.2.2 || (decide (c.1.name = "<init>") && decide ((T b).1 = mj_nm c)))
      | none => false) && (match mj_ty[a]? with
      | some t => mj_smp v (t b)
      | none => false)
    | .new k => len == 3 && match vwCl[a]? with
      | some (C, _, _) => mj_has pos (.classLink (mj_nm c) k C)
      | none => false
    | .anewarray k => len == 3 && match vwCl[a]? with
      | some (C, _, _) => mj_has pos (.classLink (mj_nm c) k C)
      | none => false
    | .newarray _ => len == 2
    | .invokespecial k => len == 3 && (if a = 1000 then mj_has pos (.methodLink (mj_nm c) k objectInit) else decide (a < 264) && mj_link (mj_nm c) k (mj_tab a).1 v pos && decide ((mj_tab a).1.name = "<init>") && decide ((mj_tab a).2.2.2.1 = none) && decide (mj_np (mj_tab a).1 = some b))
    | .invokestatic k => len == 3 && (if a = 1001 then mj_has pos (.methodLink (mj_nm c) k arraycopyName) else decide (a < 264) && mj_link (mj_nm c) k (mj_tab a).1 v pos && decide (mj_np (mj_tab a).1 = some b))
    | .invokevirtual k => len == 3 && decide (a < 264) && mj_link (mj_nm c) k (mj_tab a).1 v pos && decide (mj_np (mj_tab a).1 = some b)
    | _ => len == 1
def mj_cks (c : MI) : Bool := c.2.2.2.2.2.all (fun e => mj_ck c e.1 e.2.1 e.2.2)
/-- a method's own words, by their places: its code, its class begun, whether it is static, which one a call selects -/
def mj_mw (c : MI) (q : Nat × Nat × Nat × Nat) : Bool :=
  mj_has q.1 (.code c.1 c.2.1 c.2.2.1 c.2.2.2.1) && mj_has q.2.1 (.initialized c.1.cls) && (mj_has q.2.2.1 (.static c.1) || (mj_has q.2.2.1 (.instanceMethod c.1) && (decide (c.1.name = "<init>") || mj_has q.2.2.2 (.selects c.1.cls c.1 c.1)))) && plainName c.1.cls && decide (c.1.cls = mj_nm c) && decide (c.1.cls ≠ "java/lang/invoke/MethodHandle") && decide (c.1.cls ≠ "java/lang/invoke/VarHandle") && decide (c.2.2.1 ≤ 40)
