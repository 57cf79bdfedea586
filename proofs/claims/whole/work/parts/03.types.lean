/-! A small machine: the same bytecode over a world of numbered cells (0: the script), as a relation; part 06 shows that the machine itself follows it. -/
abbrev MC : Type := (FieldType × vp_A) ⊕ (Nat × List Value)
abbrev MH : Type := Nat × Nat × (Nat → MC)
abbrev ML : Type := List (Nat × Value)
abbrev MS : Type := Nat × ML × List Value × MH
abbrev MJX : Type := Instr × Nat × Nat × Nat × Value
abbrev MJT : Type := List (Nat × Nat × MJX)
abbrev MI : Type := MethodName × ByteArray × Nat × Option FieldType × Nat × MJT
def mj_look : MJT → Nat → Option MJX
  | [], _ => none
  | (p, _, x) :: r, pc => if p = pc then some x else mj_look r pc
def mj_f (c : MI) (pc : Nat) : Option MJX := mj_look c.2.2.2.2.2 pc
