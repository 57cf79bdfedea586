/-! a run keeps the arrays: kind and length -/
def kin (x y : MC) : Prop := (∀ ty n f, x = .inl (ty, n, .inl f) → ∃ g, y = .inl (ty, n, .inl g)) ∧ (∀ ty n f, x = .inl (ty, n, .inr (.inl f)) → ∃ g, y = .inl (ty, n, .inr (.inl g)))
theorem kin.rf {x : MC} : kin x x := ⟨fun _ _ f h => ⟨f, h⟩, fun _ _ f h => ⟨f, h⟩⟩
theorem kin.tr {x y z : MC} (h : kin x y) (h2 : kin y z) : kin x z := ⟨fun ty n f e => by obtain ⟨g, e2⟩ := h.1 ty n f e; exact h2.1 ty n g e2, fun ty n f e => by obtain ⟨g, e2⟩ := h.2 ty n f e; exact h2.2 ty n g e2⟩
def Kp (h h' : MH) : Prop := h.1 ≤ h'.1 ∧ ∀ i, i ≤ h.1 → kin (h.2.2 i) (h'.2.2 i)
theorem Kp.rf {h : MH} : Kp h h := ⟨Nat.le_refl _, fun _ _ => kin.rf⟩
theorem Kp.tr {h h1 h2 : MH} (a : Kp h h1) (b : Kp h1 h2) : Kp h h2 := ⟨Nat.le_trans a.1 b.1, fun i hi => (a.2 i hi).tr (b.2 i (Nat.le_trans hi a.1))⟩
theorem Kp.up {h : MH} {o : Nat} {c : MC} (k : kin (h.2.2 o) c) : Kp h (h.1, h.2.1, mj_up h.2.2 o c) := ⟨Nat.le_refl _, fun i _ => by show kin _ (mj_up h.2.2 o c i); unfold mj_up; by_cases e : i = o <;> simp only [e, if_true, if_false] <;> first | exact k | exact kin.rf⟩
theorem Kp.nw {h : MH} {s : Nat} {c : MC} : Kp h (h.1 + 1, s, mj_up h.2.2 (h.1 + 1) c) := ⟨Nat.le_succ _, fun i hi => by show kin _ (mj_up h.2.2 (h.1 + 1) c i); rw [show mj_up h.2.2 (h.1 + 1) c i = h.2.2 i from if_neg (by omega)]; exact kin.rf⟩
theorem kin.i {x : MC} {ty : FieldType} {n : Nat} {f g : Nat → Int32} (e : x = .inl (ty, n, .inl f)) : kin x (.inl (ty, n, .inl g)) := by subst e; exact ⟨fun _ _ _ h => by cases h; exact ⟨g, rfl⟩, (fun _ _ _ h => nomatch h)⟩
theorem kin.l {x : MC} {ty : FieldType} {n : Nat} {f g : Nat → Int64} (e : x = .inl (ty, n, .inr (.inl f))) : kin x (.inl (ty, n, .inr (.inl g))) := by subst e; exact ⟨(fun _ _ _ h => nomatch h), fun _ _ _ h => by cases h; exact ⟨g, rfl⟩⟩
theorem kin.o {x y : MC} {p : Nat × List Value} (e : x = .inr p) : kin x y := by subst e; exact ⟨(fun _ _ _ h => nomatch h), (fun _ _ _ h => nomatch h)⟩
theorem kin.a {x y : MC} {ty : FieldType} {n : Nat} {z : (Nat → UInt32) ⊕ (Nat → UInt64) ⊕ (Nat → Option Nat)} (e : x = .inl (ty, n, .inr (.inr z))) : kin x y := by subst e; exact ⟨(fun _ _ _ h => nomatch h), (fun _ _ _ h => nomatch h)⟩
theorem kin.cp {sp dp n : Int32} {x y r : MC} (h : mj_copy sp dp n x y = some r) : kin y r := by
  unfold mj_copy at h
  split at h
  · split at h
    · cases h; exact kin.i rfl
    · cases h
  · split at h
    · cases h; exact kin.l rfl
    · cases h
  · cases h
theorem mj_one_kp {i : Instr} {len a b : Nat} {v : Value} {pc : Nat} {ls : ML} {st : List Value} {h : MH} {s' : MS} (hs : mj_one i len a b v pc ls st h = some s') : Kp h s'.2.2.2 := by
  have rf : ∀ {x : MH}, Kp x x := Kp.rf
  cases i
  case iconst => cases hs; exact rf
  case bipush => cases hs; exact rf
  case sipush => cases hs; exact rf
  case lconst => cases hs; exact rf
  case ldc => cases hs; exact rf
  case ldc_w => cases hs; exact rf
  case ldc2_w => cases hs; exact rf
  case aconst_null => cases hs; exact rf
  case iload_n => obtain ⟨_, _, rfl⟩ := mo_li_inv hs; exact rf
  case iload => obtain ⟨_, _, rfl⟩ := mo_li_inv hs; exact rf
  case lload_n => obtain ⟨_, _, rfl⟩ := mo_ll_inv hs; exact rf
  case lload => obtain ⟨_, _, rfl⟩ := mo_ll_inv hs; exact rf
  case aload_n => rcases mo_la_inv hs with ⟨_, _, rfl⟩ | ⟨_, rfl⟩ <;> exact rf
  case aload => rcases mo_la_inv hs with ⟨_, _, rfl⟩ | ⟨_, rfl⟩ <;> exact rf
  case istore_n => obtain ⟨_, _, _, rfl⟩ := mo_si_inv hs; exact rf
  case istore => obtain ⟨_, _, _, rfl⟩ := mo_si_inv hs; exact rf
  case lstore_n => obtain ⟨_, _, _, rfl⟩ := mo_sl_inv hs; exact rf
  case lstore => obtain ⟨_, _, _, rfl⟩ := mo_sl_inv hs; exact rf
  case astore_n => rcases mo_sa_inv hs with ⟨_, _, _, rfl⟩ | ⟨_, _, rfl⟩ <;> exact rf
  case astore => rcases mo_sa_inv hs with ⟨_, _, _, rfl⟩ | ⟨_, _, rfl⟩ <;> exact rf
  case iinc => obtain ⟨_, _, _, _, rfl⟩ := mo_inc_inv hs; exact rf
  case dup => rcases mo_dup_inv hs with ⟨_, _, _, rfl⟩ | ⟨_, _, _, rfl⟩ <;> exact rf
  case dup2 => obtain ⟨_, _, _, _, rfl⟩ := mo_dup2_inv hs; exact rf
  case pop => rcases mo_pop_inv hs with ⟨_, _, _, rfl⟩ | ⟨_, _, _, rfl⟩ <;> exact rf
  case goto => cases hs; exact rf
  case ifCond c z =>
    have hs : mo_if c a (pc + len) ls st h = some s' := hs
    unfold mo_if at hs
    split at hs <;> first | (split at hs <;> cases hs <;> exact rf) | cases hs
  case if_icmp c z =>
    have hs : mo_ic c a (pc + len) ls st h = some s' := hs
    unfold mo_ic at hs
    split at hs <;> first | (split at hs <;> cases hs <;> exact rf) | cases hs
  case ifnull => rcases mo_nul_inv hs with ⟨_, _, rfl⟩ | ⟨_, _, _, rfl⟩ <;> exact rf
  case ifnonnull => rcases mo_nul_inv hs with ⟨_, _, rfl⟩ | ⟨_, _, _, rfl⟩ <;> exact rf
  case tableswitch => obtain ⟨_, _, _, rfl⟩ := mo_tsw_inv hs; exact rf
  case lookupswitch => obtain ⟨_, _, _, rfl⟩ := mo_lsw_inv hs; exact rf
  case iadd => obtain ⟨_, _, _, _, rfl⟩ := mo_ii_inv hs; exact rf
  case isub => obtain ⟨_, _, _, _, rfl⟩ := mo_ii_inv hs; exact rf
  case imul => obtain ⟨_, _, _, _, rfl⟩ := mo_ii_inv hs; exact rf
  case iand => obtain ⟨_, _, _, _, rfl⟩ := mo_ii_inv hs; exact rf
  case ior => obtain ⟨_, _, _, _, rfl⟩ := mo_ii_inv hs; exact rf
  case ishl => obtain ⟨_, _, _, _, rfl⟩ := mo_ii_inv hs; exact rf
  case ishr => obtain ⟨_, _, _, _, rfl⟩ := mo_ii_inv hs; exact rf
  case iushr => obtain ⟨_, _, _, _, rfl⟩ := mo_ii_inv hs; exact rf
  case idiv => obtain ⟨_, _, _, _, _, rfl⟩ := mo_di_inv hs; exact rf
  case irem => obtain ⟨_, _, _, _, _, rfl⟩ := mo_di_inv hs; exact rf
  case ldiv => obtain ⟨_, _, _, _, _, rfl⟩ := mo_dl_inv hs; exact rf
  case lrem => obtain ⟨_, _, _, _, _, rfl⟩ := mo_dl_inv hs; exact rf
  case ladd => obtain ⟨_, _, _, _, rfl⟩ := mo_lL_inv hs; exact rf
  case lsub => obtain ⟨_, _, _, _, rfl⟩ := mo_lL_inv hs; exact rf
  case lmul => obtain ⟨_, _, _, _, rfl⟩ := mo_lL_inv hs; exact rf
  case land => obtain ⟨_, _, _, _, rfl⟩ := mo_lL_inv hs; exact rf
  case lor => obtain ⟨_, _, _, _, rfl⟩ := mo_lL_inv hs; exact rf
  case lxor => obtain ⟨_, _, _, _, rfl⟩ := mo_lL_inv hs; exact rf
  case lshl => obtain ⟨_, _, _, _, rfl⟩ := mo_lI_inv hs; exact rf
  case lshr => obtain ⟨_, _, _, _, rfl⟩ := mo_lI_inv hs; exact rf
  case lushr => obtain ⟨_, _, _, _, rfl⟩ := mo_lI_inv hs; exact rf
  case lcmp => obtain ⟨_, _, _, _, rfl⟩ := mo_cmp_inv hs; exact rf
  case i2l => obtain ⟨_, _, _, rfl⟩ := mo_i2l_inv hs; exact rf
  case l2i => obtain ⟨_, _, _, rfl⟩ := mo_l2i_inv hs; exact rf
  case i2b => obtain ⟨_, _, _, rfl⟩ := mo_i2b_inv hs; exact rf
  case lneg => obtain ⟨_, _, _, rfl⟩ := mo_lneg_inv hs; exact rf
  case getfield => obtain ⟨_, _, _, _, _, _, _, rfl⟩ := mo_get_inv hs; exact rf
  case putfield => obtain ⟨_, _, _, _, _, e, _, _, rfl⟩ := mo_put_inv hs; exact Kp.up (kin.o e)
  case arraylength => obtain ⟨_, _, _, _, _, _, rfl⟩ := mo_len_inv hs; exact rf
  case iaload => obtain ⟨_, _, _, _, hs⟩ := mo_ld_inv hs; obtain ⟨_, _, _, _, rfl⟩ := mo_ic1_inv hs; exact rf
  case baload => obtain ⟨_, _, _, _, hs⟩ := mo_ld_inv hs; obtain ⟨_, _, _, _, _, _, rfl⟩ := mo_bc1_inv hs; exact rf
  case laload => obtain ⟨_, _, _, _, hs⟩ := mo_ld_inv hs; obtain ⟨_, _, _, _, rfl⟩ := mo_lc1_inv hs; exact rf
  case aaload => obtain ⟨_, _, _, _, hs⟩ := mo_ld_inv hs; obtain ⟨_, _, _, _, _, rfl⟩ := mo_ac1_inv hs; exact rf
  case iastore => obtain ⟨_, _, _, _, _, hs⟩ := mo_sti_inv hs; obtain ⟨_, _, e, _, _, rfl⟩ := mo_is1_inv hs; exact Kp.up (kin.i e)
  case bastore => obtain ⟨_, _, _, _, _, hs⟩ := mo_sti_inv hs; obtain ⟨_, _, _, _, e, _, rfl⟩ := mo_bs1_inv hs; exact Kp.up (kin.i e)
  case lastore => obtain ⟨_, _, _, _, _, _, _, e, _, rfl⟩ := mo_stl_inv hs; exact Kp.up (kin.l e)
  case aastore => obtain ⟨_, _, _, _, _, _, _, _, _, e, _, _, rfl⟩ := mo_sta_inv hs; exact Kp.up (kin.a e)
  case newarray => obtain ⟨_, _, _, _, _, _, _, rfl⟩ := mo_na_inv hs; exact Kp.nw
  case anewarray => obtain ⟨_, _, _, _, _, _, rfl⟩ := mo_naq_inv hs; exact Kp.nw
  case new => obtain ⟨_, _, rfl⟩ := mo_new_inv hs; exact Kp.nw
  case invokespecial => obtain ⟨_, _, _, _, _, rfl⟩ := mo_obj_inv hs; exact rf
  case invokestatic =>
    by_cases hv0 : v = .null
    case neg => exact nomatch ((if_neg hv0).symm.trans hs)
    have hs := (if_pos hv0).symm.trans hs
    rcases mo_mth_inv hs with ⟨_, _, _, _, _, _, rfl⟩ | ⟨_, _, _, _, _, _, rfl⟩ | ⟨_, _, _, _, _, _, rfl⟩ | ⟨_, _, _, _, _, _, rfl⟩ | ⟨_, _, _, _, _, rfl⟩ | hs
    · exact rf
    · exact rf
    · exact rf
    · exact rf
    · exact rf
    · obtain ⟨_, _, _, _, _, _, _, _, _, _, _, _, e, rfl⟩ := mo_cpy_inv hs; exact Kp.up (kin.cp e)
  all_goals exact nomatch (show (none : Option MS) = some s' from hs)
theorem mj_st_kp {c : MI} {s s' : MS} (hs : mj_st c s = some s') : Kp s.2.2.2 s'.2.2.2 := by
  unfold mj_st at hs
  split at hs
  · exact mj_one_kp hs
  · cases hs
theorem mj_run_kp {ev : Nat → List Value → MH → Option Value → MH → Prop} (hev : ∀ y As h r h', ev y As h r h' → Kp h h') {c : MI} : ∀ (n : Nat) {s : MS} {r : Option Value} {h' : MH}, mj_run ev c n s r h' → Kp s.2.2.2 h'
  | 0, _, _, _, H => H.elim
  | n + 1, s, r, h', H => by
    rcases H with ⟨s', h1, h2⟩ | ⟨ls', h1, h2⟩ | ⟨h1, h2⟩ | ⟨y, As, rest, r1, h1, h2, h3, h4⟩
    · exact (mj_st_kp h1).tr (mj_run_kp hev n h2)
    · have a := mj_run_kp hev n h2
      exact a
    · subst h2
      exact Kp.rf
    · exact (hev _ _ _ _ _ h3).tr (mj_run_kp hev n h4)
theorem mj_ev_kp : ∀ (d y : Nat) (As : List Value) (h : MH) (r : Option Value) (h' : MH), mj_ev d y As h r h' → Kp h h'
  | 0, _, _, _, _, _, H => H.elim
  | d + 1, _, _, _, _, _, H => by
    obtain ⟨n, H⟩ := H
    exact mj_run_kp (mj_ev_kp d) n H
theorem mj_wp.kq {d y : Nat} {As : List Value} {h : MH} {Q : Option Value → MH → Prop} (H : mj_wp d y As h (fun r h' => Kp h h' → Q r h')) : mj_wp d y As h Q := by
  obtain ⟨r, h', a, b⟩ := H
  exact ⟨r, h', a, b (mj_ev_kp _ _ _ _ _ _ a)⟩
theorem mj_rn.kq {d : Nat} {c : MI} {s : MS} {Q : Option Value → MH → Prop} (H : mj_rn d c s (fun r h' => Kp s.2.2.2 h' → Q r h')) : mj_rn d c s Q := by
  obtain ⟨n, r, h', a, b⟩ := H
  exact ⟨n, r, h', a, b (mj_run_kp (mj_ev_kp _) n a)⟩
theorem Kp.i {N N' s s' : Nat} {hp hp' : Nat → MC} (h : Kp (N, s, hp) (N', s', hp')) {j n : Nat} {ty : FieldType} {f : Nat → Int32} (hj : j ≤ N) (e : hp j = .inl (ty, n, .inl f)) : ∃ g, hp' j = .inl (ty, n, .inl g) := (h.2 j hj).1 ty n f e
theorem Kp.l {N N' s s' : Nat} {hp hp' : Nat → MC} (h : Kp (N, s, hp) (N', s', hp')) {j n : Nat} {ty : FieldType} {f : Nat → Int64} (hj : j ≤ N) (e : hp j = .inl (ty, n, .inr (.inl f))) : ∃ g, hp' j = .inl (ty, n, .inr (.inl g)) := (h.2 j hj).2 ty n f e
