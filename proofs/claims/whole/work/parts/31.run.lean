/-- a call: method, arguments, what stays on the stack -/
def mj_inv (c : MI) (s : MS) : Option (Nat × List Value × List Value) := match mj_f c s.1 with
  | some (.invokestatic _, _, a, b, _) => if a < mj_M ∧ b ≤ s.2.2.1.length ∧ mj_w (s.2.2.1.drop b) ≤ 8 ∧ mj_w (s.2.2.1.take b) ≤ (mj_tab a).2.2.1 ∧ mj_kd a = 0 then some (a, (s.2.2.1.take b).reverse, s.2.2.1.drop b) else none
  | some (.invokespecial _, _, a, b, _) => match s.2.2.1.drop b with
    | .ref o :: rest => if a < mj_M ∧ b ≤ s.2.2.1.length ∧ mj_w rest ≤ 8 ∧ 1 + mj_w (s.2.2.1.take b) ≤ (mj_tab a).2.2.1 ∧ mj_kd a = 1 then some (a, .ref o :: (s.2.2.1.take b).reverse, rest) else none
    | _ => none
  | some (.invokevirtual _, _, a, b, _) => match s.2.2.1.drop b with
    | .ref o :: rest => if a < mj_M ∧ b ≤ s.2.2.1.length ∧ mj_w rest ≤ 8 ∧ 1 + mj_w (s.2.2.1.take b) ≤ (mj_tab a).2.2.1 ∧ mj_kd a = 2 ∧ mj_isA s.2.2.2 o (mj_tab a).2.2.2.2.1 = true then some (a, .ref o :: (s.2.2.1.take b).reverse, rest) else none
    | _ => none
  | _ => none
/-- a body's run: a step, some locals forgotten, a return, a call -/
def mj_run (ev : Nat → List Value → MH → Option Value → MH → Prop) (c : MI) : Nat → MS → Option Value → MH → Prop
  | 0, _, _, _ => False
  | n + 1, s, r, h' =>
    (∃ s', mj_st c s = some s' ∧ mj_run ev c n s' r h') ∨
    (∃ ls' : ML, (∀ q ∈ ls', q ∈ s.2.1) ∧ mj_run ev c n (s.1, ls', s.2.2.1, s.2.2.2) r h') ∨
    (mj_ret c s = some r ∧ h' = s.2.2.2) ∨
    (∃ (y : Nat) (As rest : List Value) (r1 : Option Value) (h1 : MH), mj_inv c s = some (y, As, rest) ∧ ev y As s.2.2.2 r1 h1 ∧ mj_run ev c n (s.1 + 3, s.2.1, r1.toList ++ rest, h1) r h')
/-- a method's run, calls nested at most d deep -/
def mj_ev : Nat → Nat → List Value → MH → Option Value → MH → Prop
  | 0 => fun _ _ _ _ _ => False
  | d + 1 => fun y As h r h' => ∃ n, mj_run (mj_ev d) (mj_tab y) n (0, lv_args 0 As, [], h) r h'
/-- what a method comes to, what a body comes to -/
def mj_wp (d y : Nat) (As : List Value) (h : MH) (Q : Option Value → MH → Prop) : Prop := ∃ r h', mj_ev d y As h r h' ∧ Q r h'
def mj_rn (d : Nat) (c : MI) (s : MS) (Q : Option Value → MH → Prop) : Prop := ∃ n r h', mj_run (mj_ev d) c n s r h' ∧ Q r h'
theorem mj_wp.mono {d y : Nat} {As : List Value} {h : MH} {Q Q' : Option Value → MH → Prop} (H : mj_wp d y As h Q) (k : ∀ r h', Q r h' → Q' r h') : mj_wp d y As h Q' := by
  obtain ⟨r, h', a, b⟩ := H
  exact ⟨r, h', a, k r h' b⟩
theorem mj_rn.mono {d : Nat} {c : MI} {s : MS} {Q Q' : Option Value → MH → Prop} (H : mj_rn d c s Q) (k : ∀ r h', Q r h' → Q' r h') : mj_rn d c s Q' := by
  obtain ⟨n, r, h', a, b⟩ := H
  exact ⟨n, r, h', a, k r h' b⟩
theorem mj_wp.of {d y : Nat} {As : List Value} {h : MH} {Q : Option Value → MH → Prop} {c : MI} (hc : mj_tab y = c) (H : mj_rn d c (0, lv_args 0 As, [], h) Q) : mj_wp (d + 1) y As h Q := by
  subst hc
  obtain ⟨n, r, h', a, b⟩ := H
  exact ⟨r, h', ⟨n, a⟩, b⟩
theorem mj_rn.step {d : Nat} {c : MI} {s s' : MS} {Q : Option Value → MH → Prop} (hs : mj_st c s = some s') (H : mj_rn d c s' Q) : mj_rn d c s Q := by
  obtain ⟨n, r, h', a, b⟩ := H
  exact ⟨n + 1, r, h', Or.inl ⟨s', hs, a⟩, b⟩
theorem mj_rn.drop {d : Nat} {c : MI} {pc : Nat} {ls ls' : ML} {st : List Value} {h : MH} {Q : Option Value → MH → Prop} (hs : ∀ q ∈ ls', q ∈ ls) (H : mj_rn d c (pc, ls', st, h) Q) : mj_rn d c (pc, ls, st, h) Q := by
  obtain ⟨n, r, h', a, b⟩ := H
  exact ⟨n + 1, r, h', Or.inr (Or.inl ⟨ls', hs, a⟩), b⟩
theorem mj_rn.ret {d : Nat} {c : MI} {s : MS} {r : Option Value} {Q : Option Value → MH → Prop} (hs : mj_ret c s = some r) (H : Q r s.2.2.2) : mj_rn d c s Q := ⟨1, r, s.2.2.2, Or.inr (Or.inr (Or.inl ⟨hs, rfl⟩)), H⟩
theorem mj_rn.call {d : Nat} {c : MI} {s : MS} {y : Nat} {As rest : List Value} {Q : Option Value → MH → Prop} (hs : mj_inv c s = some (y, As, rest)) (H : mj_wp d y As s.2.2.2 (fun r h1 => mj_rn d c (s.1 + 3, s.2.1, r.toList ++ rest, h1) Q)) : mj_rn d c s Q := by
  obtain ⟨r1, h1, a, n, r, h', a2, b⟩ := H
  exact ⟨n + 1, r, h', Or.inr (Or.inr (Or.inr ⟨y, As, rest, r1, h1, hs, a, a2⟩)), b⟩
/-- many steps at once, up to a call, a return, or one of the places 'stops' -/
def mj_stop (i : Instr) (a : Nat) : Bool := match i with
  | .invokevirtual _ => true
  | .ireturn => true
  | .lreturn => true
  | .areturn => true
  | .return_ => true
  | .invokestatic _ => decide (a < mj_M)
  | .invokespecial _ => decide (a < 1000)
  | _ => false
def mj_in : List Nat → Nat → Bool
  | [], _ => false
  | a :: r, p => if a = p then true else mj_in r p
def mj_d (c : MI) (s : MS) (k : MS → Option MS) : Option MS := match mj_f c s.1 with
  | none => none
  | some (i, len, a, b, v) => if mj_stop i a = true then some s else (mj_one i len a b v s.1 s.2.1 s.2.2.1 s.2.2.2).bind k
def mj_exec (c : MI) (stops : List Nat) : Nat → MS → Option MS
  | 0, s => some s
  | n + 1, s => mj_d c s (fun s' => if mj_in stops s'.1 = true then some s' else mj_exec c stops n s')
def mj_k (c : MI) (stops : List Nat) (n : Nat) : MS → Option MS := fun s' => if mj_in stops s'.1 = true then some s' else mj_exec c stops n s'
def mj_x (c : MI) (stops : List Nat) (n : Nat) (o : Option MJX) (pc : Nat) (ls : ML) (st : List Value) (h : MH) : Option MS := match o with
  | none => none
  | some (i, len, a, b, v) => if mj_stop i a = true then some (pc, ls, st, h) else (mj_one i len a b v pc ls st h).bind (mj_k c stops n)
theorem mj_e0 {c : MI} {stops : List Nat} {s : MS} : mj_exec c stops 0 s = some s := rfl
theorem mj_e1 {c : MI} {stops : List Nat} {n pc : Nat} {ls : ML} {st : List Value} {h : MH} : mj_exec c stops (n + 1) (pc, ls, st, h) = mj_x c stops n (mj_f c pc) pc ls st h := rfl
theorem mj_x1 {c : MI} {stops : List Nat} {n pc : Nat} {ls : ML} {st : List Value} {h : MH} {i : Instr} {len a b : Nat} {v : Value} : mj_x c stops n (some (i, len, a, b, v)) pc ls st h = if mj_stop i a = true then some (pc, ls, st, h) else (mj_one i len a b v pc ls st h).bind (mj_k c stops n) := rfl
theorem mj_k1 {c : MI} {stops : List Nat} {n pc : Nat} {ls : ML} {st : List Value} {h : MH} : mj_k c stops n (pc, ls, st, h) = if mj_in stops pc = true then some (pc, ls, st, h) else mj_exec c stops n (pc, ls, st, h) := rfl
def mj_ok (d : Nat) (c : MI) (o : Option MS) (Q : Option Value → MH → Prop) : Prop := match o with
  | some s => mj_rn d c s Q
  | none => False
theorem mj_rn.go {d : Nat} {c : MI} {Q : Option Value → MH → Prop} (stops : List Nat) : ∀ (n : Nat) {s : MS}, mj_ok d c (mj_exec c stops n s) Q → mj_rn d c s Q
  | 0, s, H => H
  | n + 1, s, H => by
    unfold mj_exec mj_d at H
    split at H
    · exact H.elim
    · rename_i i len a b v hf
      split at H
      · exact H
      · cases ho : mj_one i len a b v s.1 s.2.1 s.2.2.1 s.2.2.2 with
        | none => rw [ho] at H; exact H.elim
        | some s' =>
          rw [ho] at H
          refine mj_rn.step (s' := s') (by unfold mj_st; rw [hf]; exact ho) ?_
          simp only [Option.bind_some] at H
          by_cases hm : mj_in stops s'.1 = true
          · rw [if_pos hm] at H; exact H
          · rw [if_neg hm] at H; exact mj_rn.go stops n H
theorem mj_ok_ite {d : Nat} {c : MI} {Q : Option Value → MH → Prop} {b : Prop} [Decidable b] {x y : Option MS} : mj_ok d c (if b then x else y) Q ↔ (b → mj_ok d c x Q) ∧ (¬ b → mj_ok d c y Q) := by
  by_cases hb : b <;> simp [hb]
theorem mj_ok_some {d : Nat} {c : MI} {Q : Option Value → MH → Prop} {s : MS} : mj_ok d c (some s) Q ↔ mj_rn d c s Q := Iff.rfl
theorem mj_bind_ite {b : Prop} [Decidable b] {x y : Option MS} {f : MS → Option MS} : (if b then x else y).bind f = if b then x.bind f else y.bind f := by
  by_cases hb : b <;> simp [hb]
