/-! a whole run of the small machine, in the machine: every method's contract -/
theorem mj_one_mono {i : Instr} {len a b : Nat} {v : Value} {pc : Nat} {ls : ML} {st : List Value} {h : MH} {s' : MS} (hs : mj_one i len a b v pc ls st h = some s') : h.1 ≤ s'.2.2.2.1 ∧ h.2.1 ≤ s'.2.2.2.2.1 := by
  have rf : ∀ {x : MH}, x.1 ≤ x.1 ∧ x.2.1 ≤ x.2.1 := ⟨Nat.le_refl _, Nat.le_refl _⟩
  cases i
  case iconst => cases hs; exact rf
  case bipush => cases hs; exact rf
  case sipush => cases hs; exact rf
  case lconst => cases hs; exact rf
  case ldc => cases hs; exact rf
  case ldc_w => cases hs; exact rf
  case ldc2_w => cases hs; exact rf
  case aconst_null => cases hs; exact rf
  case iload_n => obtain ⟨_, _, rfl⟩ := mo_li_inv hs; exact rf
  case iload => obtain ⟨_, _, rfl⟩ := mo_li_inv hs; exact rf
  case lload_n => obtain ⟨_, _, rfl⟩ := mo_ll_inv hs; exact rf
  case lload => obtain ⟨_, _, rfl⟩ := mo_ll_inv hs; exact rf
  case aload_n => rcases mo_la_inv hs with ⟨_, _, rfl⟩ | ⟨_, rfl⟩ <;> exact rf
  case aload => rcases mo_la_inv hs with ⟨_, _, rfl⟩ | ⟨_, rfl⟩ <;> exact rf
  case istore_n => obtain ⟨_, _, _, rfl⟩ := mo_si_inv hs; exact rf
  case istore => obtain ⟨_, _, _, rfl⟩ := mo_si_inv hs; exact rf
  case lstore_n => obtain ⟨_, _, _, rfl⟩ := mo_sl_inv hs; exact rf
  case lstore => obtain ⟨_, _, _, rfl⟩ := mo_sl_inv hs; exact rf
  case astore_n => rcases mo_sa_inv hs with ⟨_, _, _, rfl⟩ | ⟨_, _, rfl⟩ <;> exact rf
  case astore => rcases mo_sa_inv hs with ⟨_, _, _, rfl⟩ | ⟨_, _, rfl⟩ <;> exact rf
  case iinc => obtain ⟨_, _, _, _, rfl⟩ := mo_inc_inv hs; exact rf
  case dup => rcases mo_dup_inv hs with ⟨_, _, _, rfl⟩ | ⟨_, _, _, rfl⟩ <;> exact rf
  case dup2 => obtain ⟨_, _, _, _, rfl⟩ := mo_dup2_inv hs; exact rf
  case pop => rcases mo_pop_inv hs with ⟨_, _, _, rfl⟩ | ⟨_, _, _, rfl⟩ <;> exact rf
  case goto => cases hs; exact rf
  case ifCond c z =>
    have hs : mo_if c a (pc + len) ls st h = some s' := hs
    unfold mo_if at hs
    split at hs <;> first | (split at hs <;> cases hs <;> exact rf) | cases hs
  case if_icmp c z =>
    have hs : mo_ic c a (pc + len) ls st h = some s' := hs
    unfold mo_ic at hs
    split at hs <;> first | (split at hs <;> cases hs <;> exact rf) | cases hs
  case ifnull => rcases mo_nul_inv hs with ⟨_, _, rfl⟩ | ⟨_, _, _, rfl⟩ <;> exact rf
  case ifnonnull => rcases mo_nul_inv hs with ⟨_, _, rfl⟩ | ⟨_, _, _, rfl⟩ <;> exact rf
  case tableswitch => obtain ⟨_, _, _, rfl⟩ := mo_tsw_inv hs; exact rf
  case lookupswitch => obtain ⟨_, _, _, rfl⟩ := mo_lsw_inv hs; exact rf
  case iadd => obtain ⟨_, _, _, _, rfl⟩ := mo_ii_inv hs; exact rf
  case isub => obtain ⟨_, _, _, _, rfl⟩ := mo_ii_inv hs; exact rf
  case imul => obtain ⟨_, _, _, _, rfl⟩ := mo_ii_inv hs; exact rf
  case iand => obtain ⟨_, _, _, _, rfl⟩ := mo_ii_inv hs; exact rf
  case ior => obtain ⟨_, _, _, _, rfl⟩ := mo_ii_inv hs; exact rf
  case ishl => obtain ⟨_, _, _, _, rfl⟩ := mo_ii_inv hs; exact rf
  case ishr => obtain ⟨_, _, _, _, rfl⟩ := mo_ii_inv hs; exact rf
  case iushr => obtain ⟨_, _, _, _, rfl⟩ := mo_ii_inv hs; exact rf
  case idiv => obtain ⟨_, _, _, _, _, rfl⟩ := mo_di_inv hs; exact rf
  case irem => obtain ⟨_, _, _, _, _, rfl⟩ := mo_di_inv hs; exact rf
  case ldiv => obtain ⟨_, _, _, _, _, rfl⟩ := mo_dl_inv hs; exact rf
  case lrem => obtain ⟨_, _, _, _, _, rfl⟩ := mo_dl_inv hs; exact rf
  case ladd => obtain ⟨_, _, _, _, rfl⟩ := mo_lL_inv hs; exact rf
  case lsub => obtain ⟨_, _, _, _, rfl⟩ := mo_lL_inv hs; exact rf
  case lmul => obtain ⟨_, _, _, _, rfl⟩ := mo_lL_inv hs; exact rf
  case land => obtain ⟨_, _, _, _, rfl⟩ := mo_lL_inv hs; exact rf
  case lor => obtain ⟨_, _, _, _, rfl⟩ := mo_lL_inv hs; exact rf
  case lxor => obtain ⟨_, _, _, _, rfl⟩ := mo_lL_inv hs; exact rf
  case lshl => obtain ⟨_, _, _, _, rfl⟩ := mo_lI_inv hs; exact rf
  case lshr => obtain ⟨_, _, _, _, rfl⟩ := mo_lI_inv hs; exact rf
  case lushr => obtain ⟨_, _, _, _, rfl⟩ := mo_lI_inv hs; exact rf
  case lcmp => obtain ⟨_, _, _, _, rfl⟩ := mo_cmp_inv hs; exact rf
  case i2l => obtain ⟨_, _, _, rfl⟩ := mo_i2l_inv hs; exact rf
  case l2i => obtain ⟨_, _, _, rfl⟩ := mo_l2i_inv hs; exact rf
  case i2b => obtain ⟨_, _, _, rfl⟩ := mo_i2b_inv hs; exact rf
  case lneg => obtain ⟨_, _, _, rfl⟩ := mo_lneg_inv hs; exact rf
  case getfield => obtain ⟨_, _, _, _, _, _, _, rfl⟩ := mo_get_inv hs; exact rf
  case putfield => obtain ⟨_, _, _, _, _, _, _, _, rfl⟩ := mo_put_inv hs; exact rf
  case arraylength => obtain ⟨_, _, _, _, _, _, rfl⟩ := mo_len_inv hs; exact rf
  case iaload => obtain ⟨_, _, _, _, hs⟩ := mo_ld_inv hs; obtain ⟨_, _, _, _, rfl⟩ := mo_ic1_inv hs; exact rf
  case baload => obtain ⟨_, _, _, _, hs⟩ := mo_ld_inv hs; obtain ⟨_, _, _, _, _, _, rfl⟩ := mo_bc1_inv hs; exact rf
  case laload => obtain ⟨_, _, _, _, hs⟩ := mo_ld_inv hs; obtain ⟨_, _, _, _, rfl⟩ := mo_lc1_inv hs; exact rf
  case aaload => obtain ⟨_, _, _, _, hs⟩ := mo_ld_inv hs; obtain ⟨_, _, _, _, _, rfl⟩ := mo_ac1_inv hs; exact rf
  case iastore => obtain ⟨_, _, _, _, _, hs⟩ := mo_sti_inv hs; obtain ⟨_, _, _, _, _, rfl⟩ := mo_is1_inv hs; exact rf
  case bastore => obtain ⟨_, _, _, _, _, hs⟩ := mo_sti_inv hs; obtain ⟨_, _, _, _, _, _, rfl⟩ := mo_bs1_inv hs; exact rf
  case lastore => obtain ⟨_, _, _, _, _, _, _, _, _, rfl⟩ := mo_stl_inv hs; exact rf
  case aastore => obtain ⟨_, _, _, _, _, _, _, _, _, _, _, _, rfl⟩ := mo_sta_inv hs; exact rf
  case newarray => obtain ⟨_, _, _, _, _, _, _, rfl⟩ := mo_na_inv hs; exact ⟨Nat.le_succ _, Nat.le_add_right _ _⟩
  case anewarray => obtain ⟨_, _, _, _, _, _, rfl⟩ := mo_naq_inv hs; exact ⟨Nat.le_succ _, Nat.le_add_right _ _⟩
  case new => obtain ⟨_, _, rfl⟩ := mo_new_inv hs; exact ⟨Nat.le_succ _, Nat.le_add_right _ _⟩
  case invokespecial => obtain ⟨_, _, _, _, _, rfl⟩ := mo_obj_inv hs; exact rf
  case invokestatic =>
    by_cases hv0 : v = .null
    case neg => exact nomatch ((if_neg hv0).symm.trans hs)
    have hs := (if_pos hv0).symm.trans hs
    rcases mo_mth_inv hs with ⟨_, _, _, _, _, _, rfl⟩ | ⟨_, _, _, _, _, _, rfl⟩ | ⟨_, _, _, _, _, _, rfl⟩ | ⟨_, _, _, _, _, _, rfl⟩ | ⟨_, _, _, _, _, rfl⟩ | hs
    · exact rf
    · exact rf
    · exact rf
    · exact rf
    · exact rf
    · obtain ⟨_, _, _, _, _, _, _, _, _, _, _, _, _, rfl⟩ := mo_cpy_inv hs; exact rf
  all_goals exact nomatch (show (none : Option MS) = some s' from hs)
theorem mj_st_mono {c : MI} {s s' : MS} (hs : mj_st c s = some s') : s.2.2.2.1 ≤ s'.2.2.2.1 ∧ s.2.2.2.2.1 ≤ s'.2.2.2.2.1 := by
  unfold mj_st at hs
  split at hs
  · exact mj_one_mono hs
  · cases hs
theorem mj_run_mono {ev : Nat → List Value → MH → Option Value → MH → Prop} (hev : ∀ y As h r h', ev y As h r h' → h.1 ≤ h'.1 ∧ h.2.1 ≤ h'.2.1) {c : MI} : ∀ (n : Nat) {s : MS} {r : Option Value} {h' : MH}, mj_run ev c n s r h' → s.2.2.2.1 ≤ h'.1 ∧ s.2.2.2.2.1 ≤ h'.2.1
  | 0, _, _, _, H => H.elim
  | n + 1, s, r, h', H => by
    rcases H with ⟨s', h1, h2⟩ | ⟨ls', h1, h2⟩ | ⟨h1, h2⟩ | ⟨y, As, rest, r1, h1, h2, h3, h4⟩
    · have a1 := mj_st_mono h1
      have a2 := mj_run_mono hev n h2
      exact ⟨Nat.le_trans a1.1 a2.1, Nat.le_trans a1.2 a2.2⟩
    · have a := mj_run_mono hev n h2
      exact a
    · subst h2
      exact ⟨Nat.le_refl _, Nat.le_refl _⟩
    · have a1 := hev _ _ _ _ _ h3
      have a2 := mj_run_mono hev n h4
      exact ⟨Nat.le_trans a1.1 a2.1, Nat.le_trans a1.2 a2.2⟩
theorem mj_ev_mono : ∀ (d y : Nat) (As : List Value) (h : MH) (r : Option Value) (h' : MH), mj_ev d y As h r h' → h.1 ≤ h'.1 ∧ h.2.1 ≤ h'.2.1
  | 0, _, _, _, _, _, H => H.elim
  | d + 1, _, _, _, _, _, H => by
    obtain ⟨n, H⟩ := H
    exact mj_run_mono (mj_ev_mono d) n H
theorem mj_ta.moved {u U : State} {cA : ClassId} {c : MC} (hvm : u.vm.Alike U.vm) (h : mj_ta u cA c) : mj_ta U cA c := by
  obtain ⟨ty, x⟩ | ⟨ci, fs⟩ := c
  · exact ⟨arrOfT_moved hvm h.1, h.2.moved hvm⟩
  · trivial
theorem mj_R.moved {D : va_G} {A : Nat → Prop} {b L : Nat} {xs : Nat → Int32} {ι : Nat → Nat} {cA : Nat → ClassId} {h : MH} {u U : State} {H : Heap} (hvm : u.vm.Alike U.vm) (hR : mj_R D A b L xs ι cA h u H) : mj_R D A b L xs ι cA h U H :=
  ⟨hR.1, hR.2.1, fun k k1 k2 => (hR.2.2.1 k k1 k2).moved hvm, hR.2.2.2⟩
theorem mj_R.wk {D : va_G} {A A' : Nat → Prop} {b L : Nat} {xs : Nat → Int32} {ι : Nat → Nat} {cA : Nat → ClassId} {h : MH} {u : State} {H : Heap} (hA : ∀ q, A q → A' q) (hR : mj_R D A b L xs ι cA h u H) : mj_R D A' b L xs ι cA h u H :=
  ⟨hR.1, hR.2.1.weaken (fun _ _ _ q => hA _ q), hR.2.2⟩
theorem mj_EW_warm {s U : State} (hW : s.WarmedH U.vm) (h : ∀ w ∈ mj_EW, va_Nw w s) : ∀ w ∈ mj_EW, va_Nw w U := by
  intro w hw
  have h1 := h w hw
  have h2 := (List.mem_filter.mp hw).2
  cases w with
  | methodLinkNest a i x z => exact va_Nw.warmM hW h1
  | arrayOver ty =>
    cases ty with
    | object C => exact va_AO.moved hW.alike h1
    | _ => exact Bool.noConfusion (show false = true from h2)
  | _ => exact Bool.noConfusion (show false = true from h2)
theorem mj_EW_same {u U : State} (h : u.vm = U.vm) (hw : ∀ w ∈ mj_EW, va_Nw w u) : ∀ w ∈ mj_EW, va_Nw w U := by
  intro w hm
  have h1 := hw w hm
  have h2 := (List.mem_filter.mp hm).2
  cases w with
  | methodLinkNest a i x z => exact va_Nw.same rfl h h1
  | arrayOver ty =>
    cases ty with
    | object C => exact va_AO.moved (by rw [h]; exact Vm.Alike.refl _) h1
    | _ => exact Bool.noConfusion (show false = true from h2)
  | _ => exact Bool.noConfusion (show false = true from h2)
def mj_B (D : va_G) (b L : Nat) (xs : Nat → Int32) (ι : Nat → Nat) (cA : Nat → ClassId) (h : MH) (sz : Nat) (U : State) : Prop :=
  U.heap.size = sz ∧ va_K D vwCl [] U ∧ mj_R D (fun _ => True) b L xs ι cA h U U.heap ∧ va_X b L xs U U.heap ∧ (∀ k, 1 ≤ k → k ≤ h.1 → ι k ≠ b) ∧ ∀ w ∈ mj_EW, va_Nw w U
def mj_E (D : va_G) (b L : Nat) (xs : Nat → Int32) (ι : Nat → Nat) (cA : Nat → ClassId) (h : MH) (sz : Nat) (r : Option Value) (h' : MH) (oc : Outcome) (t : State) : Prop :=
  ∃ (ι' : Nat → Nat) (cA' : Nat → ClassId), oc = .returned (r.map (mj_mv ι')) ∧ (∀ k, k ≤ h.1 → ι' k = ι k) ∧ (∀ v, r = some v → mj_cv h'.1 v) ∧ mj_R D (va_A (mj_ws ι cA h) sz) b L xs ι' cA' h' t t.heap
def mj_Qc (D : va_G) (b L : Nat) (xs : Nat → Int32) (ι : Nat → Nat) (cA : Nat → ClassId) (h : MH) (sz : Nat) (r : Option Value) (h' : MH) : Array Value → State → Outcome → State → Prop := fun _ st oc t => mj_E D b L xs ι cA h sz r h' oc t ∧ va_F (va_A (mj_ws ι cA h) sz) st t
def mj_room (d mc ms : Nat) : Room := { frames := d, cells := mc, slots := ms, locals := 60 * d }
def mj_wy (c : MI) : List Jvm.Cond := .code c.1 c.2.1 c.2.2.1 c.2.2.2.1 :: mj_GW
/-- the contract of a method for one run of the small machine -/
def mj_Met (l : Launch) (d : Nat) (c : MI) (As : List Value) (h : MH) (r : Option Value) (h' : MH) : Prop := ∀ (D : va_G) (b L : Nat) (xs : Nat → Int32) (ι : Nat → Nat) (cA : Nat → ClassId) (sz : Nat),
  Met l c.1 (mj_wy c) (mj_room d (h'.1 - h.1) (h'.2.1 - h.2.1)) (va_Pc (As.map (mj_mv ι)) (mj_B D b L xs ι cA h sz)) (mj_Qc D b L xs ι cA h sz r h') (h'.1 - h.1) (h'.2.1 - h.2.1) (va_A (mj_ws ι cA h) sz)
theorem mj_B_blind {D : va_G} {b L : Nat} {xs : Nat → Int32} {ι : Nat → Nat} {cA : Nat → ClassId} {h : MH} {sz : Nat} {vs : List Value} : FrameBlind (va_Pc vs (mj_B D b L xs ι cA h sz)) := by
  intro a U g mk q
  obtain ⟨q0, q1, q2, q3, q4, q5, q6⟩ := q
  exact ⟨q0, q1, va_K.moved (u := U) (U := U.calling g mk a) (Vm.Alike.refl U.vm) q2, q3.moved (U := U.calling g mk a) (Vm.Alike.refl U.vm), va_X.moved (U := U.calling g mk a) (Vm.Alike.refl U.vm) q4, q5, mj_EW_same (u := U) (U := U.calling g mk a) rfl q6⟩
theorem mj_some_of {α : Type} {l : List α} {y : Nat} (h : y < l.length) : ∃ q, l[y]? = some q := ⟨l[y]'h, List.getElem?_eq_getElem h⟩
theorem mj_getD_of {α : Type} {l : List α} {y : Nat} {z : α} (h : y < l.length) : l[y]? = some (l.getD y z) := by
  rw [List.getD_eq_getElem?_getD, List.getElem?_eq_getElem h]
  rfl
theorem mj_tab_mem {y : Nat} (hy : y < 259) : mj_cks (mj_tab y) = true ∧ Cond.code (mj_tab y).1 (mj_tab y).2.1 (mj_tab y).2.2.1 (mj_tab y).2.2.2.1 ∈ lw_tbl ∧ ∃ q, mj_m2 (mj_tab y) q (mj_kd y) = true := by
  have hl : y < mj_list.length := by rw [mj_len_list]; omega
  have hm : y < mj_mps.length := by rw [mj_len_mps]; exact hy
  have hk : y < mj_kds.length := by rw [mj_len_kds]; exact hy
  have e : mj_list[y]? = some (mj_tab y) := mj_getD_of hl
  have ek : mj_kds[y]? = some (mj_kd y) := mj_getD_of hk
  obtain ⟨q, hq⟩ := mj_some_of hm
  refine ⟨mj_all _ (List.mem_of_getElem? e), mj_cods _ (List.mem_of_getElem? (i := y) (by rw [List.getElem?_take, if_pos (by omega)]; exact e)), q, ?_⟩
  have hz : (mj_list.zip (mj_mps.zip mj_kds))[y]? = some (mj_tab y, q, mj_kd y) := by
    rw [List.getElem?_zip_eq_some]
    refine ⟨e, ?_⟩
    rw [List.getElem?_zip_eq_some]
    exact ⟨hq, ek⟩
  have h3 := mj_m2_all
  rw [List.all_eq_true] at h3
  exact h3 _ (List.mem_of_getElem? hz)
