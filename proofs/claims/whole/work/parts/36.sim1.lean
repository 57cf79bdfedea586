/-! one step of the small machine, in the machine -/
theorem mj_c1 {P : Value → Prop} {x : Value} {st : List Value} (h : ∀ v ∈ x :: st, P v) : ∀ v ∈ st, P v := (List.forall_mem_cons.mp h).2
theorem mj_c2 {P : Value → Prop} {x y : Value} {st : List Value} (h : ∀ v ∈ x :: y :: st, P v) : ∀ v ∈ st, P v := mj_c1 (mj_c1 h)
theorem mj_c3 {P : Value → Prop} {x y z : Value} {st : List Value} (h : ∀ v ∈ x :: y :: z :: st, P v) : ∀ v ∈ st, P v := mj_c1 (mj_c2 h)
theorem mj_c5 {P : Value → Prop} {x y z u w : Value} {st : List Value} (h : ∀ v ∈ x :: y :: z :: u :: w :: st, P v) : ∀ v ∈ st, P v := mj_c2 (mj_c3 h)
theorem mj_cx {P : Value → Prop} {x : Value} {st : List Value} (hx : P x) (h : ∀ v ∈ st, P v) : ∀ v ∈ x :: st, P v := List.forall_mem_cons.mpr ⟨hx, h⟩
theorem mj_hd {P : Value → Prop} {x : Value} {st : List Value} (h : ∀ v ∈ x :: st, P v) : P x := (List.forall_mem_cons.mp h).1
def mj_F (p : Program) (R : Room) (s : State) (m : MethodId) (args : Array Value) (meth : Method) (c0 : Code) (D : va_G) (A : Nat → Prop) (b L : Nat) (xs : Nat → Int32) (cM : MI) (d : Nat) : Prop :=
  p.tables.exec = Jvm.exec ∧ c0.code = cM.2.1 ∧ c0.maxLocals = cM.2.2.1 ∧ s.vm.findClass (mj_nm cM) = some m.cls ∧ (cM.1.name = "<init>" → meth.name = "<init>") ∧ mj_cks cM = true ∧ (∀ w ∈ mj_GW, w.before args s = true) ∧ (∀ w ∈ mj_EW, va_Nw w s) ∧ va_K D vwCl [] s ∧ va_X b L xs s s.heap ∧ b < s.heap.size ∧ ¬ A b ∧ (∀ q, s.heap.size ≤ q → A q) ∧ d + 1 ≤ R.frames ∧ 60 * (d + 1) ≤ R.locals
theorem mj_fit_ok {ι : Nat → Nat} {v x : Value} {t : FieldType} (h1 : mj_smp v t = true) (h2 : mj_fit v x = true) : narrow t (mj_mv ι x) = mj_mv ι x ∧ fits t (mj_mv ι x) = true := by
  unfold mj_smp at h1
  split at h1
  · rename_i k
    cases x <;> simp [mj_fit] at h2
    exact ⟨rfl, rfl⟩
  · rename_i k
    cases x <;> simp [mj_fit] at h2
    rename_i y
    simp at h1
    rcases h2 with h2 | h2 | h2
    · exact absurd h2 h1
    · subst h2; exact ⟨rfl, rfl⟩
    · subst h2; exact ⟨rfl, rfl⟩
  · cases x <;> simp [mj_fit] at h2
    exact ⟨rfl, rfl⟩
  · cases x <;> simp [mj_fit] at h2
    · exact ⟨rfl, rfl⟩
    · exact ⟨rfl, rfl⟩
  · cases x <;> simp [mj_fit] at h2
    · exact ⟨rfl, rfl⟩
    · exact ⟨rfl, rfl⟩
  · cases h1
theorem mj_sz_eq {pc : Nat} {z : Int} (h : mj_sz pc z = true) : (pc : Int) + z = ((((pc : Int) + z).toNat : Nat) : Int) := (Int.toNat_of_nonneg (of_decide_eq_true h)).symm
theorem mj_lsw_nn {pc : Nat} {d x : Int} : ∀ (ps : List (Int × Int)), mj_sz pc d = true → ps.all (fun q => mj_sz pc q.2) = true → mj_sz pc (Op.lookupswitch.offset ps d x) = true
  | [], hd, _ => hd
  | (a, o) :: r, hd, h => by
    rw [Op.lookupswitch.offset_cons]
    rw [List.all_cons, Bool.and_eq_true] at h
    split
    · exact h.1
    · exact mj_lsw_nn r hd h.2
theorem mj_dv_mv {ι : Nat → Nat} (t : FieldType) : mj_mv ι (mj_dv t) = mj_dv t := by cases t <;> rfl
theorem mj_lk {args : Array Value} {s : State} {own : String} {k : Nat} {y : MethodName} {v : Value} {pos : Nat} (hGW : ∀ w ∈ mj_GW, w.before args s = true) (h : mj_link own k y v pos = true) (hv : v = .null) : (Cond.methodLink own k y).before args s = true := by
  subst hv
  exact hGW _ (mj_has_GW h rfl)
theorem mj_lm_eq {ι ι' : Nat → Nat} {n : Nat} {lv : ML} (hc : ∀ q ∈ lv, mj_cv n q.2) (hi : ∀ k, k ≤ n → ι' k = ι k) : mj_lm ι' lv = mj_lm ι lv := List.map_congr_left (fun q hq => by rw [mj_mv_eq (hc q hq) hi])
section SIM
variable {p : Program} {l : Launch} {e : Env} {R : Room} {s : State} {m : MethodId} {args : Array Value} {below : List Frame} {meth : Method} {c0 : Code} {Q : State → Prop} {D : va_G} {A : Nat → Prop} {b L : Nat} {xs : Nat → Int32} {cM : MI} {d : Nat}
theorem mj_R_ne0 {ι : Nat → Nat} {cA : Nat → ClassId} {h : MH} {H : Heap} {o ci : Nat} {fs : List Value} (hR : mj_R D A b L xs ι cA h s H) (he : h.2.2 o = .inr (ci, fs)) : 1 ≤ o := by
  rcases Nat.eq_zero_or_pos o with q | q
  · subst q
    rw [hR.2.2.2.2.2] at he
    cases he
  · exact q
theorem mj_R_ne0' {ι : Nat → Nat} {cA : Nat → ClassId} {h : MH} {H : Heap} {o n : Nat} {ty : FieldType} {f : (Nat → Int32) ⊕ (Nat → Int64) ⊕ (Nat → UInt32) ⊕ (Nat → UInt64) ⊕ (Nat → Option Nat)} (hR : mj_R D A b L xs ι cA h s H) (he : h.2.2 o = .inl (ty, n, f)) (hty : ¬ ty = .int) : 1 ≤ o := by
  rcases Nat.eq_zero_or_pos o with q | q
  · subst q
    rw [hR.2.2.2.2.2] at he
    cases he
    exact absurd rfl hty
  · exact q
theorem mj_R_obj {ι : Nat → Nat} {cA : Nat → ClassId} {h : MH} {H : Heap} {o ci : Nat} {fs : List Value} (hR : mj_R D A b L xs ι cA h s H) (hn : o ≤ h.1) (he : h.2.2 o = .inr (ci, fs)) : (mj_ws ι cA h)[o - 1]? = some (ι o, .inr (ci, fs.map (mj_mv ι))) := by
  rw [mj_ws_at (mj_R_ne0 hR he) hn, he]
  rfl
theorem mj_R_tys {ι : Nat → Nat} {cA : Nat → ClassId} {h : MH} {H : Heap} {o : Nat} {ty : FieldType} {x : vp_A} (hK : va_K D vwCl [] s) (hR : mj_R D A b L xs ι cA h s H) (h1 : 1 ≤ o) (hn : o ≤ h.1) (he : h.2.2 o = .inl (ty, x)) : va_K D vwCl [(cA o, ty)] s := by
  refine ⟨hK.1, fun k q hq => ?_⟩
  have hz : k < 1 := (List.getElem?_eq_some_iff.mp hq).1
  rw [show k = 0 by omega] at hq
  cases hq
  have := hR.2.2.1 o h1 hn
  rw [he] at this
  exact this
theorem mj_R_arr {ι : Nat → Nat} {cA : Nat → ClassId} {h : MH} {H : Heap} {o : Nat} {cl : MC} (h1 : 1 ≤ o) (hn : o ≤ h.1) (he : h.2.2 o = cl) : (mj_ws ι cA h)[o - 1]? = some (ι o, mj_em ι (cA o) cl) := by
  rw [mj_ws_at h1 hn, he]
theorem mj_R_ta {ι : Nat → Nat} {cA : Nat → ClassId} {h : MH} {H : Heap} {o : Nat} {ty : FieldType} {x x2 : vp_A} (hR : mj_R D A b L xs ι cA h s H) (h1 : 1 ≤ o) (hn : o ≤ h.1) (he : h.2.2 o = .inl (ty, x)) : mj_ta s (cA o) (.inl (ty, x2)) := by
  have := hR.2.2.1 o h1 hn
  rw [he] at this
  exact this
set_option maxHeartbeats 4000000 in
theorem mj_sim1 (F : mj_F p R s m args meth c0 D A b L xs cM d) {pc : Nat} {lv : ML} {st : List Value} {h : MH} {s' : MS} {ι : Nat → Nat} {cA : Nat → ClassId} {H : Heap} {locs : List Loc} {ls : Array Slot} {cells slots : Nat} (hs : mj_st cM (pc, lv, st, h) = some s') (hR : mj_R D A b L xs ι cA h s H) (hS : va_S A s.heap H locs) (hcs : ∀ v ∈ st, mj_cv h.1 v) (hcl : ∀ q ∈ lv, mj_cv h.1 q.2) (hlv : lv_has ls cM.2.2.1 (mj_lm ι lv)) (hroom : cells + (s'.2.2.2.1 - h.1) ≤ R.cells ∧ slots + (s'.2.2.2.2.1 - h.2.1) ≤ R.slots)
    (k : ∀ (ι' : Nat → Nat) (cA' : Nat → ClassId) (H' : Heap) (locs' : List Loc) (ls' : Array Slot), (∀ j, j ≤ h.1 → ι' j = ι j) → mj_R D A b L xs ι' cA' s'.2.2.2 s H' → va_S A s.heap H' locs' → (∀ v ∈ s'.2.2.1, mj_cv s'.2.2.2.1 v) → (∀ q ∈ s'.2.1, mj_cv s'.2.2.2.1 q.2) → lv_has ls' cM.2.2.1 (mj_lm ι' s'.2.1) → W p l e R s m args below meth c0 H' locs' (cells + (s'.2.2.2.1 - h.1)) (slots + (s'.2.2.2.2.1 - h.2.1)) Q (F0 m s'.1 ls' (s'.2.2.1.map (mj_mv ι')))) :
    W p l e R s m args below meth c0 H locs cells slots Q (F0 m pc ls (st.map (mj_mv ι))) := by
  obtain ⟨hx, hb, hml, hown, hname, hck, hGW, hEW, hK, hX, hbl, hbA, hA, hRf, hRl⟩ := F
  unfold mj_st at hs
  split at hs
  next i len a fb v hf =>
    obtain ⟨pos, hc⟩ := mj_ck_of hck hf
    unfold mj_ck at hc
    rw [Bool.and_eq_true] at hc
    obtain ⟨hd0, hc⟩ := hc
    have hd := of_decide_eq_true hd0
    clear hd0
    dsimp only at hd hc hs
    cases i
    case iadd =>
      have hl := eq_of_beq hc; subst hl
      obtain ⟨x, y, st2, rfl, rfl⟩ := mo_ii_inv hs
      dsimp only at k; simp only [Nat.sub_self, Nat.add_zero] at k
      exact lv_iadd hx hb hd (k ι cA H locs ls (fun _ _ => rfl) hR hS (mj_cx mj_cv_int (mj_c2 hcs)) hcl hlv)
    case isub =>
      have hl := eq_of_beq hc; subst hl
      obtain ⟨x, y, st2, rfl, rfl⟩ := mo_ii_inv hs
      dsimp only at k; simp only [Nat.sub_self, Nat.add_zero] at k
      exact lv_isub hx hb hd (k ι cA H locs ls (fun _ _ => rfl) hR hS (mj_cx mj_cv_int (mj_c2 hcs)) hcl hlv)
    case imul =>
      have hl := eq_of_beq hc; subst hl
      obtain ⟨x, y, st2, rfl, rfl⟩ := mo_ii_inv hs
      dsimp only at k; simp only [Nat.sub_self, Nat.add_zero] at k
      exact lv_imul hx hb hd (k ι cA H locs ls (fun _ _ => rfl) hR hS (mj_cx mj_cv_int (mj_c2 hcs)) hcl hlv)
    case iand =>
      have hl := eq_of_beq hc; subst hl
      obtain ⟨x, y, st2, rfl, rfl⟩ := mo_ii_inv hs
      dsimp only at k; simp only [Nat.sub_self, Nat.add_zero] at k
      exact lv_iand hx hb hd (k ι cA H locs ls (fun _ _ => rfl) hR hS (mj_cx mj_cv_int (mj_c2 hcs)) hcl hlv)
    case ior =>
      have hl := eq_of_beq hc; subst hl
      obtain ⟨x, y, st2, rfl, rfl⟩ := mo_ii_inv hs
      dsimp only at k; simp only [Nat.sub_self, Nat.add_zero] at k
      exact lv_ior hx hb hd (k ι cA H locs ls (fun _ _ => rfl) hR hS (mj_cx mj_cv_int (mj_c2 hcs)) hcl hlv)
    case ishl =>
      have hl := eq_of_beq hc; subst hl
      obtain ⟨x, y, st2, rfl, rfl⟩ := mo_ii_inv hs
      dsimp only at k; simp only [Nat.sub_self, Nat.add_zero] at k
      exact lv_ishl hx hb hd (k ι cA H locs ls (fun _ _ => rfl) hR hS (mj_cx mj_cv_int (mj_c2 hcs)) hcl hlv)
    case ishr =>
      have hl := eq_of_beq hc; subst hl
      obtain ⟨x, y, st2, rfl, rfl⟩ := mo_ii_inv hs
      dsimp only at k; simp only [Nat.sub_self, Nat.add_zero] at k
      exact lv_ishr hx hb hd (k ι cA H locs ls (fun _ _ => rfl) hR hS (mj_cx mj_cv_int (mj_c2 hcs)) hcl hlv)
    case iushr =>
      have hl := eq_of_beq hc; subst hl
      obtain ⟨x, y, st2, rfl, rfl⟩ := mo_ii_inv hs
      dsimp only at k; simp only [Nat.sub_self, Nat.add_zero] at k
      exact lv_iushr hx hb hd rfl (k ι cA H locs ls (fun _ _ => rfl) hR hS (mj_cx mj_cv_int (mj_c2 hcs)) hcl hlv)
    case idiv =>
      have hl := eq_of_beq hc; subst hl
      obtain ⟨x, y, st2, rfl, hne, rfl⟩ := mo_di_inv hs
      dsimp only at k; simp only [Nat.sub_self, Nat.add_zero] at k
      exact lv_idiv hx hb hd hne (k ι cA H locs ls (fun _ _ => rfl) hR hS (mj_cx mj_cv_int (mj_c2 hcs)) hcl hlv)
    case irem =>
      have hl := eq_of_beq hc; subst hl
      obtain ⟨x, y, st2, rfl, hne, rfl⟩ := mo_di_inv hs
      dsimp only at k; simp only [Nat.sub_self, Nat.add_zero] at k
      exact lv_irem hx hb hd hne (k ι cA H locs ls (fun _ _ => rfl) hR hS (mj_cx mj_cv_int (mj_c2 hcs)) hcl hlv)
    case ldiv =>
      have hl := eq_of_beq hc; subst hl
      obtain ⟨x, y, st2, rfl, hne, rfl⟩ := mo_dl_inv hs
      dsimp only at k; simp only [Nat.sub_self, Nat.add_zero] at k
      exact lv_ldiv hx hb hd hne (k ι cA H locs ls (fun _ _ => rfl) hR hS (mj_cx mj_cv_long (mj_c2 hcs)) hcl hlv)
    case lrem =>
      have hl := eq_of_beq hc; subst hl
      obtain ⟨x, y, st2, rfl, hne, rfl⟩ := mo_dl_inv hs
      dsimp only at k; simp only [Nat.sub_self, Nat.add_zero] at k
      exact lv_lrem hx hb hd hne (k ι cA H locs ls (fun _ _ => rfl) hR hS (mj_cx mj_cv_long (mj_c2 hcs)) hcl hlv)
    case ladd =>
      have hl := eq_of_beq hc; subst hl
      obtain ⟨x, y, st2, rfl, rfl⟩ := mo_lL_inv hs
      dsimp only at k; simp only [Nat.sub_self, Nat.add_zero] at k
      exact lv_ladd hx hb hd (k ι cA H locs ls (fun _ _ => rfl) hR hS (mj_cx mj_cv_long (mj_c2 hcs)) hcl hlv)
    case lsub =>
      have hl := eq_of_beq hc; subst hl
      obtain ⟨x, y, st2, rfl, rfl⟩ := mo_lL_inv hs
      dsimp only at k; simp only [Nat.sub_self, Nat.add_zero] at k
      exact lv_lsub hx hb hd (k ι cA H locs ls (fun _ _ => rfl) hR hS (mj_cx mj_cv_long (mj_c2 hcs)) hcl hlv)
    case lmul =>
      have hl := eq_of_beq hc; subst hl
      obtain ⟨x, y, st2, rfl, rfl⟩ := mo_lL_inv hs
      dsimp only at k; simp only [Nat.sub_self, Nat.add_zero] at k
      exact lv_lmul hx hb hd (k ι cA H locs ls (fun _ _ => rfl) hR hS (mj_cx mj_cv_long (mj_c2 hcs)) hcl hlv)
    case land =>
      have hl := eq_of_beq hc; subst hl
      obtain ⟨x, y, st2, rfl, rfl⟩ := mo_lL_inv hs
      dsimp only at k; simp only [Nat.sub_self, Nat.add_zero] at k
      exact lv_land hx hb hd (k ι cA H locs ls (fun _ _ => rfl) hR hS (mj_cx mj_cv_long (mj_c2 hcs)) hcl hlv)
    case lor =>
      have hl := eq_of_beq hc; subst hl
      obtain ⟨x, y, st2, rfl, rfl⟩ := mo_lL_inv hs
      dsimp only at k; simp only [Nat.sub_self, Nat.add_zero] at k
      exact lv_lor hx hb hd (k ι cA H locs ls (fun _ _ => rfl) hR hS (mj_cx mj_cv_long (mj_c2 hcs)) hcl hlv)
    case lxor =>
      have hl := eq_of_beq hc; subst hl
      obtain ⟨x, y, st2, rfl, rfl⟩ := mo_lL_inv hs
      dsimp only at k; simp only [Nat.sub_self, Nat.add_zero] at k
      exact lv_lxor hx hb hd (k ι cA H locs ls (fun _ _ => rfl) hR hS (mj_cx mj_cv_long (mj_c2 hcs)) hcl hlv)
    case lshl =>
      have hl := eq_of_beq hc; subst hl
      obtain ⟨x, y, st2, rfl, rfl⟩ := mo_lI_inv hs
      dsimp only at k; simp only [Nat.sub_self, Nat.add_zero] at k
      exact lv_lshl hx hb hd rfl (k ι cA H locs ls (fun _ _ => rfl) hR hS (mj_cx mj_cv_long (mj_c2 hcs)) hcl hlv)
    case lshr =>
      have hl := eq_of_beq hc; subst hl
      obtain ⟨x, y, st2, rfl, rfl⟩ := mo_lI_inv hs
      dsimp only at k; simp only [Nat.sub_self, Nat.add_zero] at k
      exact lv_lshr hx hb hd rfl (k ι cA H locs ls (fun _ _ => rfl) hR hS (mj_cx mj_cv_long (mj_c2 hcs)) hcl hlv)
    case lushr =>
      have hl := eq_of_beq hc; subst hl
      obtain ⟨x, y, st2, rfl, rfl⟩ := mo_lI_inv hs
      dsimp only at k; simp only [Nat.sub_self, Nat.add_zero] at k
      exact lv_lushr hx hb hd rfl (k ι cA H locs ls (fun _ _ => rfl) hR hS (mj_cx mj_cv_long (mj_c2 hcs)) hcl hlv)
    case lcmp =>
      have hl := eq_of_beq hc; subst hl
      obtain ⟨x, y, st2, rfl, rfl⟩ := mo_cmp_inv hs
      dsimp only at k; simp only [Nat.sub_self, Nat.add_zero] at k
      exact W.lcmp hx hb hd (k ι cA H locs ls (fun _ _ => rfl) hR hS (mj_cx mj_cv_int (mj_c2 hcs)) hcl hlv)
    case i2l =>
      have hl := eq_of_beq hc; subst hl
      obtain ⟨x, st2, rfl, rfl⟩ := mo_i2l_inv hs
      dsimp only at k; simp only [Nat.sub_self, Nat.add_zero] at k
      exact lv_i2l hx hb hd rfl (k ι cA H locs ls (fun _ _ => rfl) hR hS (mj_cx mj_cv_long (mj_c1 hcs)) hcl hlv)
    case l2i =>
      have hl := eq_of_beq hc; subst hl
      obtain ⟨x, st2, rfl, rfl⟩ := mo_l2i_inv hs
      dsimp only at k; simp only [Nat.sub_self, Nat.add_zero] at k
      exact lv_l2i hx hb hd rfl (k ι cA H locs ls (fun _ _ => rfl) hR hS (mj_cx mj_cv_int (mj_c1 hcs)) hcl hlv)
    case i2b =>
      have hl := eq_of_beq hc; subst hl
      obtain ⟨x, st2, rfl, rfl⟩ := mo_i2b_inv hs
      dsimp only at k; simp only [Nat.sub_self, Nat.add_zero] at k
      exact lv_i2b hx hb hd rfl (k ι cA H locs ls (fun _ _ => rfl) hR hS (mj_cx mj_cv_int (mj_c1 hcs)) hcl hlv)
    case lneg =>
      have hl := eq_of_beq hc; subst hl
      obtain ⟨x, st2, rfl, rfl⟩ := mo_lneg_inv hs
      dsimp only at k; simp only [Nat.sub_self, Nat.add_zero] at k
      exact lv_lneg hx hb hd (k ι cA H locs ls (fun _ _ => rfl) hR hS (mj_cx mj_cv_long (mj_c1 hcs)) hcl hlv)
    case iconst z =>
      simp only [Bool.and_eq_true, beq_iff_eq, decide_eq_true_eq] at hc
      obtain ⟨rfl, rfl⟩ := hc
      cases hs
      dsimp only at k; simp only [Nat.sub_self, Nat.add_zero] at k
      exact lv_iconst hx hb hd rfl (k ι cA H locs ls (fun _ _ => rfl) hR hS (mj_cx mj_cv_int hcs) hcl hlv)
    case bipush z =>
      simp only [Bool.and_eq_true, beq_iff_eq, decide_eq_true_eq] at hc
      obtain ⟨rfl, rfl⟩ := hc
      cases hs
      dsimp only at k; simp only [Nat.sub_self, Nat.add_zero] at k
      exact lv_bipush hx hb hd rfl (k ι cA H locs ls (fun _ _ => rfl) hR hS (mj_cx mj_cv_int hcs) hcl hlv)
    case sipush z =>
      simp only [Bool.and_eq_true, beq_iff_eq, decide_eq_true_eq] at hc
      obtain ⟨rfl, rfl⟩ := hc
      cases hs
      dsimp only at k; simp only [Nat.sub_self, Nat.add_zero] at k
      exact lv_sipush hx hb hd rfl (k ι cA H locs ls (fun _ _ => rfl) hR hS (mj_cx mj_cv_int hcs) hcl hlv)
    case lconst z =>
      simp only [Bool.and_eq_true, beq_iff_eq, decide_eq_true_eq] at hc
      obtain ⟨rfl, rfl⟩ := hc
      cases hs
      dsimp only at k; simp only [Nat.sub_self, Nat.add_zero] at k
      exact lv_lconst hx hb hd rfl (k ι cA H locs ls (fun _ _ => rfl) hR hS (mj_cx mj_cv_long hcs) hcl hlv)
    case ldc z =>
      rw [Bool.and_eq_true] at hc
      obtain ⟨hl, hc⟩ := hc
      have hl := eq_of_beq hl; subst hl
      cases v <;> first | exact Bool.noConfusion (show false = true from hc) | skip
      cases hs
      dsimp only at k; simp only [Nat.sub_self, Nat.add_zero] at k
      exact lv_ldc hx hb hown (hGW _ (mj_has_GW hc rfl)) hd (k ι cA H locs ls (fun _ _ => rfl) hR hS (mj_cx mj_cv_int hcs) hcl hlv)
    case ldc_w z =>
      rw [Bool.and_eq_true] at hc
      obtain ⟨hl, hc⟩ := hc
      have hl := eq_of_beq hl; subst hl
      cases v <;> first | exact Bool.noConfusion (show false = true from hc) | skip
      cases hs
      dsimp only at k; simp only [Nat.sub_self, Nat.add_zero] at k
      exact lv_ldcw hx hb hown (hGW _ (mj_has_GW hc rfl)) hd (k ι cA H locs ls (fun _ _ => rfl) hR hS (mj_cx mj_cv_int hcs) hcl hlv)
    case ldc2_w z =>
      rw [Bool.and_eq_true] at hc
      obtain ⟨hl, hc⟩ := hc
      have hl := eq_of_beq hl; subst hl
      cases v <;> first | exact Bool.noConfusion (show false = true from hc) | skip
      cases hs
      dsimp only at k; simp only [Nat.sub_self, Nat.add_zero] at k
      exact lv_ldc2 hx hb hown (hGW _ (mj_has_GW hc rfl)) hd (k ι cA H locs ls (fun _ _ => rfl) hR hS (mj_cx mj_cv_long hcs) hcl hlv)
    case aconst_null =>
      have hl := eq_of_beq hc; subst hl
      cases hs
      dsimp only at k; simp only [Nat.sub_self, Nat.add_zero] at k
      exact lv_null hx hb hd (k ι cA H locs ls (fun _ _ => rfl) hR hS (mj_cx mj_cv_null hcs) hcl hlv)
    case iload_n z =>
      simp only [Bool.and_eq_true, beq_iff_eq, decide_eq_true_eq] at hc
      obtain ⟨rfl, rfl⟩ := hc
      obtain ⟨x, hg, rfl⟩ := mo_li_inv hs
      dsimp only at k; simp only [Nat.sub_self, Nat.add_zero] at k
      exact lv_iload_n hx hb hd rfl (mj_get_at hlv hg) (k ι cA H locs ls (fun _ _ => rfl) hR hS (mj_cx mj_cv_int hcs) hcl hlv)
    case iload z =>
      simp only [Bool.and_eq_true, beq_iff_eq, decide_eq_true_eq] at hc
      obtain ⟨rfl, rfl⟩ := hc
      obtain ⟨x, hg, rfl⟩ := mo_li_inv hs
      dsimp only at k; simp only [Nat.sub_self, Nat.add_zero] at k
      exact lv_iload hx hb hd (mj_get_at hlv hg) (k ι cA H locs ls (fun _ _ => rfl) hR hS (mj_cx mj_cv_int hcs) hcl hlv)
    case lload_n z =>
      simp only [Bool.and_eq_true, beq_iff_eq, decide_eq_true_eq] at hc
      obtain ⟨rfl, rfl⟩ := hc
      obtain ⟨x, hg, rfl⟩ := mo_ll_inv hs
      dsimp only at k; simp only [Nat.sub_self, Nat.add_zero] at k
      exact lv_lload_n hx hb hd rfl (mj_get_at hlv hg) (k ι cA H locs ls (fun _ _ => rfl) hR hS (mj_cx mj_cv_long hcs) hcl hlv)
    case lload z =>
      simp only [Bool.and_eq_true, beq_iff_eq, decide_eq_true_eq] at hc
      obtain ⟨rfl, rfl⟩ := hc
      obtain ⟨x, hg, rfl⟩ := mo_ll_inv hs
      dsimp only at k; simp only [Nat.sub_self, Nat.add_zero] at k
      exact lv_lload hx hb hd (mj_get_at hlv hg) (k ι cA H locs ls (fun _ _ => rfl) hR hS (mj_cx mj_cv_long hcs) hcl hlv)
    case aload_n z =>
      simp only [Bool.and_eq_true, beq_iff_eq, decide_eq_true_eq] at hc
      obtain ⟨rfl, rfl⟩ := hc
      rcases mo_la_inv hs with ⟨x, hg, rfl⟩ | ⟨hg, rfl⟩
      · dsimp only at k; simp only [Nat.sub_self, Nat.add_zero] at k
        exact lv_aload_n hx hb hd rfl (mj_get_at hlv hg) (k ι cA H locs ls (fun _ _ => rfl) hR hS (mj_cx (hcl _ (mj_get_mem hg)) hcs) hcl hlv)
      · dsimp only at k; simp only [Nat.sub_self, Nat.add_zero] at k
        exact lv_aload_nN hx hb hd rfl (mj_get_at hlv hg) (k ι cA H locs ls (fun _ _ => rfl) hR hS (mj_cx mj_cv_null hcs) hcl hlv)
    case aload z =>
      simp only [Bool.and_eq_true, beq_iff_eq, decide_eq_true_eq] at hc
      obtain ⟨rfl, rfl⟩ := hc
      rcases mo_la_inv hs with ⟨x, hg, rfl⟩ | ⟨hg, rfl⟩
      · dsimp only at k; simp only [Nat.sub_self, Nat.add_zero] at k
        exact lv_aload hx hb hd (mj_get_at hlv hg) (k ι cA H locs ls (fun _ _ => rfl) hR hS (mj_cx (hcl _ (mj_get_mem hg)) hcs) hcl hlv)
      · dsimp only at k; simp only [Nat.sub_self, Nat.add_zero] at k
        exact lv_aloadN hx hb hd (mj_get_at hlv hg) (k ι cA H locs ls (fun _ _ => rfl) hR hS (mj_cx mj_cv_null hcs) hcl hlv)
    case istore_n z =>
      simp only [Bool.and_eq_true, beq_iff_eq, decide_eq_true_eq] at hc
      obtain ⟨⟨rfl, rfl⟩, hn⟩ := hc
      obtain ⟨x, st2, rfl, rfl⟩ := mo_si_inv hs
      dsimp only at k; simp only [Nat.sub_self, Nat.add_zero] at k
      exact lv_istore_n hx hb hd rfl hlv hn (mj_lm_s1 (ι := ι) (lv := lv) (v := .int x)).symm (fun ls' h' => k ι cA H locs ls' (fun _ _ => rfl) hR hS (mj_c1 hcs) (mj_s1_sub hcl mj_cv_int) h')
    case lstore_n z =>
      simp only [Bool.and_eq_true, beq_iff_eq, decide_eq_true_eq] at hc
      obtain ⟨⟨rfl, rfl⟩, hn⟩ := hc
      obtain ⟨x, st2, rfl, rfl⟩ := mo_sl_inv hs
      dsimp only at k; simp only [Nat.sub_self, Nat.add_zero] at k
      exact lv_lstore_n hx hb hd rfl hlv hn (mj_lm_s2 (ι := ι) (lv := lv) (v := .long x)).symm (fun ls' h' => k ι cA H locs ls' (fun _ _ => rfl) hR hS (mj_c1 hcs) (mj_s2_sub hcl mj_cv_long) h')
    case astore_n z =>
      simp only [Bool.and_eq_true, beq_iff_eq, decide_eq_true_eq] at hc
      obtain ⟨⟨rfl, rfl⟩, hn⟩ := hc
      rcases mo_sa_inv hs with ⟨x, st2, rfl, rfl⟩ | ⟨st2, rfl, rfl⟩
      · dsimp only at k; simp only [Nat.sub_self, Nat.add_zero] at k
        exact lv_astore_n hx hb hd rfl hlv hn (mj_lm_s1 (ι := ι) (lv := lv) (v := .ref x)).symm (fun ls' h' => k ι cA H locs ls' (fun _ _ => rfl) hR hS (mj_c1 hcs) (mj_s1_sub hcl (mj_hd hcs)) h')
      · dsimp only at k; simp only [Nat.sub_self, Nat.add_zero] at k
        exact lv_astore_nN hx hb hd rfl hlv hn (mj_lm_s1 (ι := ι) (lv := lv) (v := .null)).symm (fun ls' h' => k ι cA H locs ls' (fun _ _ => rfl) hR hS (mj_c1 hcs) (mj_s1_sub hcl mj_cv_null) h')
    case istore z =>
      simp only [Bool.and_eq_true, beq_iff_eq, decide_eq_true_eq] at hc
      obtain ⟨⟨rfl, rfl⟩, hn⟩ := hc
      obtain ⟨x, st2, rfl, rfl⟩ := mo_si_inv hs
      dsimp only at k; simp only [Nat.sub_self, Nat.add_zero] at k
      exact lv_istore hx hb hd hlv hn (mj_lm_s1 (ι := ι) (lv := lv) (v := .int x)).symm (fun ls' h' => k ι cA H locs ls' (fun _ _ => rfl) hR hS (mj_c1 hcs) (mj_s1_sub hcl mj_cv_int) h')
    case lstore z =>
      simp only [Bool.and_eq_true, beq_iff_eq, decide_eq_true_eq] at hc
      obtain ⟨⟨rfl, rfl⟩, hn⟩ := hc
      obtain ⟨x, st2, rfl, rfl⟩ := mo_sl_inv hs
      dsimp only at k; simp only [Nat.sub_self, Nat.add_zero] at k
      exact lv_lstore hx hb hd hlv hn (mj_lm_s2 (ι := ι) (lv := lv) (v := .long x)).symm (fun ls' h' => k ι cA H locs ls' (fun _ _ => rfl) hR hS (mj_c1 hcs) (mj_s2_sub hcl mj_cv_long) h')
    case astore z =>
      simp only [Bool.and_eq_true, beq_iff_eq, decide_eq_true_eq] at hc
      obtain ⟨⟨rfl, rfl⟩, hn⟩ := hc
      rcases mo_sa_inv hs with ⟨x, st2, rfl, rfl⟩ | ⟨st2, rfl, rfl⟩
      · dsimp only at k; simp only [Nat.sub_self, Nat.add_zero] at k
        exact lv_astore hx hb hd hlv hn (mj_lm_s1 (ι := ι) (lv := lv) (v := .ref x)).symm (fun ls' h' => k ι cA H locs ls' (fun _ _ => rfl) hR hS (mj_c1 hcs) (mj_s1_sub hcl (mj_hd hcs)) h')
      · dsimp only at k; simp only [Nat.sub_self, Nat.add_zero] at k
        exact lv_astoreN hx hb hd hlv hn (mj_lm_s1 (ι := ι) (lv := lv) (v := .null)).symm (fun ls' h' => k ι cA H locs ls' (fun _ _ => rfl) hR hS (mj_c1 hcs) (mj_s1_sub hcl mj_cv_null) h')
    case iinc z n =>
      simp only [Bool.and_eq_true, beq_iff_eq, decide_eq_true_eq] at hc
      obtain ⟨⟨⟨rfl, rfl⟩, hn⟩, rfl⟩ := hc
      obtain ⟨x, y, hg, hy, rfl⟩ := mo_inc_inv hs
      cases hy
      obtain ⟨j, hj⟩ := mj_get_idx (ι := ι) hg
      dsimp only at k; simp only [Nat.sub_self, Nat.add_zero] at k
      exact lv_iinc hx hb hd hlv hj rfl hn (mj_lm_s1 (ι := ι) (lv := lv) (v := .int (x + Int32.ofInt n))).symm (fun ls' h' => k ι cA H locs ls' (fun _ _ => rfl) hR hS hcs (mj_s1_sub hcl mj_cv_int) h')
    case dup =>
      have hl := eq_of_beq hc; subst hl
      rcases mo_dup_inv hs with ⟨x, st2, rfl, rfl⟩ | ⟨x, st2, rfl, rfl⟩
      · dsimp only at k; simp only [Nat.sub_self, Nat.add_zero] at k
        exact lv_dup hx hb hd rfl (k ι cA H locs ls (fun _ _ => rfl) hR hS (mj_cx mj_cv_int hcs) hcl hlv)
      · dsimp only at k; simp only [Nat.sub_self, Nat.add_zero] at k
        exact lv_dup hx hb hd rfl (k ι cA H locs ls (fun _ _ => rfl) hR hS (mj_cx (mj_hd hcs) hcs) hcl hlv)
    case dup2 =>
      have hl := eq_of_beq hc; subst hl
      obtain ⟨x, y, st2, rfl, rfl⟩ := mo_dup2_inv hs
      dsimp only at k; simp only [Nat.sub_self, Nat.add_zero] at k
      exact lv_dup2_11 hx hb hd rfl rfl (k ι cA H locs ls (fun _ _ => rfl) hR hS (mj_cx mj_cv_int (mj_cx (mj_hd (mj_c1 hcs)) hcs)) hcl hlv)
    case pop =>
      have hl := eq_of_beq hc; subst hl
      rcases mo_pop_inv hs with ⟨x, st2, rfl, rfl⟩ | ⟨x, st2, rfl, rfl⟩
      · dsimp only at k; simp only [Nat.sub_self, Nat.add_zero] at k
        exact lv_pop hx hb hd rfl (k ι cA H locs ls (fun _ _ => rfl) hR hS (mj_c1 hcs) hcl hlv)
      · dsimp only at k; simp only [Nat.sub_self, Nat.add_zero] at k
        exact lv_pop hx hb hd rfl (k ι cA H locs ls (fun _ _ => rfl) hR hS (mj_c1 hcs) hcl hlv)
    case goto z =>
      simp only [Bool.and_eq_true, beq_iff_eq, decide_eq_true_eq] at hc
      obtain ⟨rfl, ht⟩ := hc
      cases hs
      dsimp only at k; simp only [Nat.sub_self, Nat.add_zero] at k
      exact lv_goto hx hb hd ht (k ι cA H locs ls (fun _ _ => rfl) hR hS hcs hcl hlv)
    case ifCond cnd z =>
      simp only [Bool.and_eq_true, beq_iff_eq, decide_eq_true_eq] at hc
      obtain ⟨rfl, ht⟩ := hc
      obtain ⟨x, st2, rfl⟩ := mo_if_inv hs
      cases cnd
      case eq =>
        refine lv_if_eq hx hb hd ht (fun q => ?_) (fun q => ?_)
        · have hs := (if_pos q).symm.trans hs; cases hs; dsimp only at k; simp only [Nat.sub_self, Nat.add_zero] at k; exact k ι cA H locs ls (fun _ _ => rfl) hR hS (mj_c1 hcs) hcl hlv
        · have hs := (if_neg q).symm.trans hs; cases hs; dsimp only at k; simp only [Nat.sub_self, Nat.add_zero] at k; exact k ι cA H locs ls (fun _ _ => rfl) hR hS (mj_c1 hcs) hcl hlv
      case ne =>
        refine lv_if_ne hx hb hd ht (fun q => ?_) (fun q => ?_)
        · have hs := (if_pos q).symm.trans hs; cases hs; dsimp only at k; simp only [Nat.sub_self, Nat.add_zero] at k; exact k ι cA H locs ls (fun _ _ => rfl) hR hS (mj_c1 hcs) hcl hlv
        · have hs := (if_neg (not_not_intro q)).symm.trans hs; cases hs; dsimp only at k; simp only [Nat.sub_self, Nat.add_zero] at k; exact k ι cA H locs ls (fun _ _ => rfl) hR hS (mj_c1 hcs) hcl hlv
      case lt =>
        refine lv_if_lt hx hb hd ht (fun q => ?_) (fun q => ?_)
        · have hs := (if_pos q).symm.trans hs; cases hs; dsimp only at k; simp only [Nat.sub_self, Nat.add_zero] at k; exact k ι cA H locs ls (fun _ _ => rfl) hR hS (mj_c1 hcs) hcl hlv
        · have hs := (if_neg q).symm.trans hs; cases hs; dsimp only at k; simp only [Nat.sub_self, Nat.add_zero] at k; exact k ι cA H locs ls (fun _ _ => rfl) hR hS (mj_c1 hcs) hcl hlv
      case ge =>
        refine lv_if_ge hx hb hd ht (fun q => ?_) (fun q => ?_)
        · have hs := (if_pos q).symm.trans hs; cases hs; dsimp only at k; simp only [Nat.sub_self, Nat.add_zero] at k; exact k ι cA H locs ls (fun _ _ => rfl) hR hS (mj_c1 hcs) hcl hlv
        · have hs := (if_neg q).symm.trans hs; cases hs; dsimp only at k; simp only [Nat.sub_self, Nat.add_zero] at k; exact k ι cA H locs ls (fun _ _ => rfl) hR hS (mj_c1 hcs) hcl hlv
      case gt =>
        refine lv_if_gt hx hb hd ht (fun q => ?_) (fun q => ?_)
        · have hs := (if_pos q).symm.trans hs; cases hs; dsimp only at k; simp only [Nat.sub_self, Nat.add_zero] at k; exact k ι cA H locs ls (fun _ _ => rfl) hR hS (mj_c1 hcs) hcl hlv
        · have hs := (if_neg q).symm.trans hs; cases hs; dsimp only at k; simp only [Nat.sub_self, Nat.add_zero] at k; exact k ι cA H locs ls (fun _ _ => rfl) hR hS (mj_c1 hcs) hcl hlv
      case le =>
        refine lv_if_le hx hb hd ht (fun q => ?_) (fun q => ?_)
        · have hs := (if_pos q).symm.trans hs; cases hs; dsimp only at k; simp only [Nat.sub_self, Nat.add_zero] at k; exact k ι cA H locs ls (fun _ _ => rfl) hR hS (mj_c1 hcs) hcl hlv
        · have hs := (if_neg q).symm.trans hs; cases hs; dsimp only at k; simp only [Nat.sub_self, Nat.add_zero] at k; exact k ι cA H locs ls (fun _ _ => rfl) hR hS (mj_c1 hcs) hcl hlv
    case if_icmp cnd z =>
      simp only [Bool.and_eq_true, beq_iff_eq, decide_eq_true_eq] at hc
      obtain ⟨rfl, ht⟩ := hc
      obtain ⟨x, y, st2, rfl⟩ := mo_ic_inv hs
      cases cnd
      case eq =>
        refine lv_icmp_eq hx hb hd ht (fun q => ?_) (fun q => ?_)
        · have hs := (if_pos q).symm.trans hs; cases hs; dsimp only at k; simp only [Nat.sub_self, Nat.add_zero] at k; exact k ι cA H locs ls (fun _ _ => rfl) hR hS (mj_c2 hcs) hcl hlv
        · have hs := (if_neg q).symm.trans hs; cases hs; dsimp only at k; simp only [Nat.sub_self, Nat.add_zero] at k; exact k ι cA H locs ls (fun _ _ => rfl) hR hS (mj_c2 hcs) hcl hlv
      case ne =>
        refine lv_icmp_ne hx hb hd ht (fun q => ?_) (fun q => ?_)
        · have hs := (if_pos q).symm.trans hs; cases hs; dsimp only at k; simp only [Nat.sub_self, Nat.add_zero] at k; exact k ι cA H locs ls (fun _ _ => rfl) hR hS (mj_c2 hcs) hcl hlv
        · have hs := (if_neg (not_not_intro q)).symm.trans hs; cases hs; dsimp only at k; simp only [Nat.sub_self, Nat.add_zero] at k; exact k ι cA H locs ls (fun _ _ => rfl) hR hS (mj_c2 hcs) hcl hlv
      case lt =>
        refine lv_icmp_lt hx hb hd ht (fun q => ?_) (fun q => ?_)
        · have hs := (if_pos q).symm.trans hs; cases hs; dsimp only at k; simp only [Nat.sub_self, Nat.add_zero] at k; exact k ι cA H locs ls (fun _ _ => rfl) hR hS (mj_c2 hcs) hcl hlv
        · have hs := (if_neg q).symm.trans hs; cases hs; dsimp only at k; simp only [Nat.sub_self, Nat.add_zero] at k; exact k ι cA H locs ls (fun _ _ => rfl) hR hS (mj_c2 hcs) hcl hlv
      case ge =>
        refine lv_icmp_ge hx hb hd ht (fun q => ?_) (fun q => ?_)
        · have hs := (if_pos q).symm.trans hs; cases hs; dsimp only at k; simp only [Nat.sub_self, Nat.add_zero] at k; exact k ι cA H locs ls (fun _ _ => rfl) hR hS (mj_c2 hcs) hcl hlv
        · have hs := (if_neg q).symm.trans hs; cases hs; dsimp only at k; simp only [Nat.sub_self, Nat.add_zero] at k; exact k ι cA H locs ls (fun _ _ => rfl) hR hS (mj_c2 hcs) hcl hlv
      case gt =>
        refine lv_icmp_gt hx hb hd ht (fun q => ?_) (fun q => ?_)
        · have hs := (if_pos q).symm.trans hs; cases hs; dsimp only at k; simp only [Nat.sub_self, Nat.add_zero] at k; exact k ι cA H locs ls (fun _ _ => rfl) hR hS (mj_c2 hcs) hcl hlv
        · have hs := (if_neg q).symm.trans hs; cases hs; dsimp only at k; simp only [Nat.sub_self, Nat.add_zero] at k; exact k ι cA H locs ls (fun _ _ => rfl) hR hS (mj_c2 hcs) hcl hlv
      case le =>
        refine lv_icmp_le hx hb hd ht (fun q => ?_) (fun q => ?_)
        · have hs := (if_pos q).symm.trans hs; cases hs; dsimp only at k; simp only [Nat.sub_self, Nat.add_zero] at k; exact k ι cA H locs ls (fun _ _ => rfl) hR hS (mj_c2 hcs) hcl hlv
        · have hs := (if_neg q).symm.trans hs; cases hs; dsimp only at k; simp only [Nat.sub_self, Nat.add_zero] at k; exact k ι cA H locs ls (fun _ _ => rfl) hR hS (mj_c2 hcs) hcl hlv
    case ifnull z =>
      simp only [Bool.and_eq_true, beq_iff_eq, decide_eq_true_eq] at hc
      obtain ⟨rfl, ht⟩ := hc
      rcases mo_nul_inv hs with ⟨st2, rfl, rfl⟩ | ⟨x, st2, rfl, rfl⟩
      · dsimp only at k; simp only [Nat.sub_self, Nat.add_zero] at k
        exact lv_ifnullN hx hb hd ht (k ι cA H locs ls (fun _ _ => rfl) hR hS (mj_c1 hcs) hcl hlv)
      · dsimp only at k; simp only [Nat.sub_self, Nat.add_zero] at k
        exact lv_ifnull hx hb hd (k ι cA H locs ls (fun _ _ => rfl) hR hS (mj_c1 hcs) hcl hlv)
    case ifnonnull z =>
      simp only [Bool.and_eq_true, beq_iff_eq, decide_eq_true_eq] at hc
      obtain ⟨rfl, ht⟩ := hc
      rcases mo_nul_inv hs with ⟨st2, rfl, rfl⟩ | ⟨x, st2, rfl, rfl⟩
      · dsimp only at k; simp only [Nat.sub_self, Nat.add_zero] at k
        exact lv_ifnonnullN hx hb hd (k ι cA H locs ls (fun _ _ => rfl) hR hS (mj_c1 hcs) hcl hlv)
      · dsimp only at k; simp only [Nat.sub_self, Nat.add_zero] at k
        exact lv_ifnonnull hx hb hd ht (k ι cA H locs ls (fun _ _ => rfl) hR hS (mj_c1 hcs) hcl hlv)
    case tableswitch z lo hi offs =>
      simp only [Bool.and_eq_true, decide_eq_true_eq] at hc
      obtain ⟨⟨h1, h2⟩, h3⟩ := hc
      obtain ⟨x, st2, rfl, rfl⟩ := mo_tsw_inv hs
      dsimp only at k; simp only [Nat.sub_self, Nat.add_zero] at k
      by_cases hr : x.toInt < lo ∨ hi < x.toInt
      · have e1 : mj_tsw pc z lo hi offs x = ((pc : Int) + z).toNat := if_pos hr
        rw [e1] at k
        exact lv_tableOut hx hb hd hr (mj_sz_eq h1) (k ι cA H locs ls (fun _ _ => rfl) hR hS (mj_c1 hcs) hcl hlv)
      · have hlt : (x.toInt - lo).toNat < offs.size := by omega
        have e1 : mj_tsw pc z lo hi offs x = ((pc : Int) + offs[(x.toInt - lo).toNat]).toNat := by
          unfold mj_tsw
          rw [if_neg hr, Array.getElem?_eq_getElem hlt]
          rfl
        rw [e1] at k
        have h4 : mj_sz pc offs[(x.toInt - lo).toNat] = true := List.all_eq_true.mp h3 _ (Array.getElem_mem_toList hlt)
        exact lv_tableIn hx hb hd (fun q => hr (Or.inl q)) (fun q => hr (Or.inr q)) (Array.getElem?_eq_getElem hlt) (mj_sz_eq h4) (k ι cA H locs ls (fun _ _ => rfl) hR hS (mj_c1 hcs) hcl hlv)
    case lookupswitch z ps =>
      rw [Bool.and_eq_true, Bool.and_eq_true] at hc
      obtain ⟨⟨h1, h2⟩, h3⟩ := hc
      obtain ⟨x, st2, rfl, rfl⟩ := mo_lsw_inv hs
      dsimp only at k; simp only [Nat.sub_self, Nat.add_zero] at k
      exact lv_lookup hx hb hd h3 rfl (mj_sz_eq (mj_lsw_nn ps.toList h1 h2)) (k ι cA H locs ls (fun _ _ => rfl) hR hS (mj_c1 hcs) hcl hlv)
    case getfield z =>
      rw [Bool.and_eq_true] at hc
      obtain ⟨hl, hc⟩ := hc
      have hl := eq_of_beq hl; subst hl
      obtain ⟨o, st2, fs, r, rfl, he, hr, rfl⟩ := mo_get_inv hs
      cases hv : vwCl[a]? with
      | none => rw [hv] at hc; cases hc
      | some q =>
        obtain ⟨C, T, N⟩ := q
        rw [hv] at hc
        simp only [Bool.and_eq_true, decide_eq_true_eq] at hc
        have ho : o ≤ h.1 := mj_hd hcs o rfl
        have hcc : ∀ w ∈ fs, mj_cv h.1 w := by have := hR.2.2.2.1 o (mj_R_ne0 hR he) ho; rw [he] at this; exact this
        dsimp only at k; simp only [Nat.sub_self, Nat.add_zero] at k
        refine va_get (T := T) hx hb hGW (mj_cls a C T N hv).1 hown hK hR.1 (o - 1) (mj_R_obj hR ho he) hv fb hc.1 (hGW _ (mj_has_GW hc.2 rfl)) (fun _ q => q) (v := mj_mv ι r) (by rw [List.getElem?_map, hr]; rfl) hd ?_
        exact k ι cA H locs ls (fun _ _ => rfl) hR hS (mj_cx (hcc r (List.mem_of_getElem? hr)) (mj_c1 hcs)) hcl hlv
    case putfield z =>
      simp only [Bool.and_eq_true] at hc
      obtain ⟨⟨hl, hc⟩, hc2⟩ := hc
      have hl := eq_of_beq hl; subst hl
      obtain ⟨x, o, st2, fs, rfl, he, hbl2, hfit, rfl⟩ := mo_put_inv hs
      cases hv : vwCl[a]? with
      | none => rw [hv] at hc; cases hc
      | some q =>
        obtain ⟨C, T, N⟩ := q
        rw [hv] at hc
        simp only [Bool.and_eq_true, decide_eq_true_eq] at hc
        obtain ⟨g1, ⟨t, g2, g3, g3'⟩, g4, g5, g6, g7⟩ := mj_cls a C T N hv
        rw [g2] at hc2
        have hnf := mj_fit_ok (ι := ι) hc2 hfit
        have ho : o ≤ h.1 := mj_hd (mj_c1 hcs) o rfl
        have ho1 := mj_R_ne0 hR he
        have hcc : ∀ w ∈ fs, mj_cv h.1 w := by have := hR.2.2.2.1 o ho1 ho; rw [he] at this; exact this
        have hcc2 : mj_cc h.1 (.inr (a, fs.set fb x)) := fun w hw => by
          rcases List.mem_or_eq_of_mem_set hw with q | q
          · exact hcc w q
          · rw [q]; exact mj_hd hcs
        dsimp only at k; simp only [Nat.sub_self, Nat.add_zero] at k
        have hem : (fs.map (mj_mv ι)).set fb (mj_mv ι x) = (fs.set fb x).map (mj_mv ι) := by rw [List.map_set]
        have kk : ∀ (H1 : Heap) (locs1 : List Loc), va_P D vwCl ((mj_ws ι cA h).set (o - 1) (ι o, .inr (a, (fs.map (mj_mv ι)).set fb (mj_mv ι x)))) H1 → va_D A ((mj_ws ι cA h).set (o - 1) (ι o, .inr (a, (fs.map (mj_mv ι)).set fb (mj_mv ι x)))) → va_S A s.heap H1 locs1 → W p l e R s m args below meth c0 H1 locs1 cells slots Q (F0 m (pc + 3) ls (st2.map (mj_mv ι))) := by
          intro H1 locs1 hP1 hD1 hS1
          rw [hem] at hP1 hD1
          exact k ι cA H1 locs1 ls (fun _ _ => rfl) (mj_R_put hR ho1 hcc2 trivial hP1 hD1) hS1 (mj_c2 hcs) hcl hlv
        by_cases hfin : (T fb).2.2.2 = true
        · have hini := hc.2
          rw [hfin] at hini
          simp only [Bool.not_true, Bool.false_or, Bool.and_eq_true, decide_eq_true_eq] at hini
          exact va_putF (T := T) hx hb hGW g1 t g3 g4 hown hK hR.1 hR.2.1 hS (o - 1) (mj_R_obj hR ho he) hv fb hc.1.1 (hGW _ (mj_has_GW hc.1.2 rfl)) (fun _ q => q) hfin (hname hini.1) hini.2 (g3 fb hc.1.1) hnf.1 hnf.2 (by rw [List.length_map]; exact hbl2) hd kk
        · exact va_put (T := T) hx hb hGW g1 t g3 g4 hown hK hR.1 hR.2.1 hS (o - 1) (mj_R_obj hR ho he) hv fb hc.1.1 (hGW _ (mj_has_GW hc.1.2 rfl)) (fun _ q => q) (Bool.eq_false_iff.mpr hfin) (g3 fb hc.1.1) hnf.1 hnf.2 (by rw [List.length_map]; exact hbl2) hd kk
    case arraylength =>
      have hl := eq_of_beq hc; subst hl
      obtain ⟨o, st2, ty, x, rfl, he, rfl⟩ := mo_len_inv hs
      dsimp only at k; simp only [Nat.sub_self, Nat.add_zero] at k
      have ho : o ≤ h.1 := mj_hd hcs o rfl
      rcases Nat.eq_zero_or_pos o with q | ho1
      · subst q
        have e0 := hR.2.2.2.2.2.symm.trans he
        cases e0
        have hi := hR.2.2.2.2.1
        have k2 := k ι cA H locs ls (fun _ _ => rfl) hR hS (mj_cx mj_cv_int (mj_c1 hcs)) hcl hlv
        show W p l e R s m args below meth c0 H locs cells slots Q (F0 m pc ls (.ref (ι 0) :: st2.map (mj_mv ι)))
        rw [hi]
        exact va_slen hx hb hX hbl hbA hS hd k2
      · have hT := mj_R_tys hK hR ho1 ho he
        have hW := mj_R_arr (ι := ι) (cA := cA) (H := H) ho1 ho he
        have k2 := k ι cA H locs ls (fun _ _ => rfl) hR hS (mj_cx mj_cv_int (mj_c1 hcs)) hcl hlv
        obtain ⟨n, f | f | f | f | f⟩ := x <;> exact va_alen hx hb hT hR.1 (o - 1) 0 hW rfl rfl hd k2
    case iaload =>
      have hl := eq_of_beq hc; subst hl
      obtain ⟨j, o, st2, rfl, hs⟩ := mo_ld_inv hs
      obtain ⟨n, f, he, hin, rfl⟩ := mo_ic1_inv hs
      dsimp only at k; simp only [Nat.sub_self, Nat.add_zero] at k
      have ho : o ≤ h.1 := mj_hd (mj_c1 hcs) o rfl
      rcases Nat.eq_zero_or_pos o with q | ho1
      · subst q
        have e0 := hR.2.2.2.2.2.symm.trans he
        cases e0
        have hi := hR.2.2.2.2.1
        have k2 := k ι cA H locs ls (fun _ _ => rfl) hR hS (mj_cx mj_cv_int (mj_c2 hcs)) hcl hlv
        show W p l e R s m args below meth c0 H locs cells slots Q (F0 m pc ls (.int j :: .ref (ι 0) :: st2.map (mj_mv ι)))
        rw [hi]
        exact va_sld hx hb hX hbl hbA hS hin hd k2
      · exact va_iald hx hb (mj_R_tys hK hR ho1 ho he) hR.1 (o - 1) 0 (mj_R_arr (H := H) ho1 ho he) rfl hin hd (k ι cA H locs ls (fun _ _ => rfl) hR hS (mj_cx mj_cv_int (mj_c2 hcs)) hcl hlv)
    case baload =>
      have hl := eq_of_beq hc; subst hl
      obtain ⟨j, o, st2, rfl, hs⟩ := mo_ld_inv hs
      obtain ⟨ty, n, f, hty, he, hin, rfl⟩ := mo_bc1_inv hs
      dsimp only at k; simp only [Nat.sub_self, Nat.add_zero] at k
      have ho : o ≤ h.1 := mj_hd (mj_c1 hcs) o rfl
      rcases hty with rfl | rfl
      · have ho1 := mj_R_ne0' hR he (by decide)
        exact va_bald hx hb (mj_R_tys hK hR ho1 ho he) hR.1 (o - 1) 0 (mj_R_arr (H := H) ho1 ho he) rfl hin hd (k ι cA H locs ls (fun _ _ => rfl) hR hS (mj_cx mj_cv_int (mj_c2 hcs)) hcl hlv)
      · have ho1 := mj_R_ne0' hR he (by decide)
        exact va_zald hx hb (mj_R_tys hK hR ho1 ho he) hR.1 (o - 1) 0 (mj_R_arr (H := H) ho1 ho he) rfl hin hd (k ι cA H locs ls (fun _ _ => rfl) hR hS (mj_cx mj_cv_int (mj_c2 hcs)) hcl hlv)
    case laload =>
      have hl := eq_of_beq hc; subst hl
      obtain ⟨j, o, st2, rfl, hs⟩ := mo_ld_inv hs
      obtain ⟨n, f, he, hin, rfl⟩ := mo_lc1_inv hs
      dsimp only at k; simp only [Nat.sub_self, Nat.add_zero] at k
      have ho : o ≤ h.1 := mj_hd (mj_c1 hcs) o rfl
      have ho1 := mj_R_ne0' hR he (by decide)
      exact va_lald hx hb (mj_R_tys hK hR ho1 ho he) hR.1 (o - 1) 0 (mj_R_arr (H := H) ho1 ho he) rfl hin hd (k ι cA H locs ls (fun _ _ => rfl) hR hS (mj_cx mj_cv_long (mj_c2 hcs)) hcl hlv)
    case aaload =>
      have hl := eq_of_beq hc; subst hl
      obtain ⟨j, o, st2, rfl, hs⟩ := mo_ld_inv hs
      obtain ⟨C, n, f, he, hin, rfl⟩ := mo_ac1_inv hs
      dsimp only at k; simp only [Nat.sub_self, Nat.add_zero] at k
      have ho : o ≤ h.1 := mj_hd (mj_c1 hcs) o rfl
      have ho1 := mj_R_ne0' hR he (by simp)
      have hcc : ∀ j i, f j = some i → i ≤ h.1 := by have := hR.2.2.2.1 o ho1 ho; rw [he] at this; exact this
      have hcv : mj_cv h.1 (va_rf (f j.toNatClampNeg)) := by
        cases hj : f j.toNatClampNeg with
        | none => exact mj_cv_null
        | some i => exact mj_cv_ref (hcc _ _ hj)
      have hmv : mj_mv ι (va_rf (f j.toNatClampNeg)) = va_rf ((f j.toNatClampNeg).map ι) := by cases f j.toNatClampNeg <;> rfl
      have k2 := k ι cA H locs ls (fun _ _ => rfl) hR hS (mj_cx hcv (mj_c2 hcs)) hcl hlv
      rw [List.map_cons, hmv] at k2
      exact va_aldq hx hb (mj_R_tys hK hR ho1 ho he) hR.1 (o - 1) 0 (mj_R_arr (H := H) ho1 ho he) rfl hin hd k2
    case iastore =>
      have hl := eq_of_beq hc; subst hl
      obtain ⟨x, j, o, st2, rfl, hs⟩ := mo_sti_inv hs
      obtain ⟨n, f, he, ho0, hin, rfl⟩ := mo_is1_inv hs
      dsimp only at k; simp only [Nat.sub_self, Nat.add_zero] at k
      have ho : o ≤ h.1 := mj_hd (mj_c2 hcs) o rfl
      have ho1 : 1 ≤ o := Nat.pos_of_ne_zero ho0
      exact va_iast hx hb (mj_R_tys hK hR ho1 ho he) hR.1 hR.2.1 hS (o - 1) 0 (mj_R_arr (H := H) ho1 ho he) rfl hin hd (fun H1 locs1 hP1 hD1 hS1 => k ι cA H1 locs1 ls (fun _ _ => rfl) (mj_R_put (c := .inl (.int, n, .inl (upd f j.toNatClampNeg x))) hR ho1 trivial (mj_R_ta hR ho1 ho he) hP1 hD1) hS1 (mj_c3 hcs) hcl hlv)
    case bastore =>
      have hl := eq_of_beq hc; subst hl
      obtain ⟨x, j, o, st2, rfl, hs⟩ := mo_sti_inv hs
      obtain ⟨ty, n, f, hty, he, hin, rfl⟩ := mo_bs1_inv hs
      dsimp only at k; simp only [Nat.sub_self, Nat.add_zero] at k
      have ho : o ≤ h.1 := mj_hd (mj_c2 hcs) o rfl
      rcases hty with rfl | rfl
      · have ho1 := mj_R_ne0' hR he (by decide)
        exact va_bast hx hb (mj_R_tys hK hR ho1 ho he) hR.1 hR.2.1 hS (o - 1) 0 (mj_R_arr (H := H) ho1 ho he) rfl hin hd (fun H1 locs1 hP1 hD1 hS1 => k ι cA H1 locs1 ls (fun _ _ => rfl) (mj_R_put (c := .inl (.byte, n, .inl (upd f j.toNatClampNeg (vp_nar .byte x)))) hR ho1 trivial (mj_R_ta hR ho1 ho he) hP1 hD1) hS1 (mj_c3 hcs) hcl hlv)
      · have ho1 := mj_R_ne0' hR he (by decide)
        exact va_zast hx hb (mj_R_tys hK hR ho1 ho he) hR.1 hR.2.1 hS (o - 1) 0 (mj_R_arr (H := H) ho1 ho he) rfl hin hd (fun H1 locs1 hP1 hD1 hS1 => k ι cA H1 locs1 ls (fun _ _ => rfl) (mj_R_put (c := .inl (.boolean, n, .inl (upd f j.toNatClampNeg (vp_nar .boolean x)))) hR ho1 trivial (mj_R_ta hR ho1 ho he) hP1 hD1) hS1 (mj_c3 hcs) hcl hlv)
    case lastore =>
      have hl := eq_of_beq hc; subst hl
      obtain ⟨x, j, o, n, f, st2, rfl, he, hin, rfl⟩ := mo_stl_inv hs
      dsimp only at k; simp only [Nat.sub_self, Nat.add_zero] at k
      have ho : o ≤ h.1 := mj_hd (mj_c2 hcs) o rfl
      have ho1 := mj_R_ne0' hR he (by decide)
      exact va_last hx hb (mj_R_tys hK hR ho1 ho he) hR.1 hR.2.1 hS (o - 1) 0 (mj_R_arr (H := H) ho1 ho he) rfl hin hd (fun H1 locs1 hP1 hD1 hS1 => k ι cA H1 locs1 ls (fun _ _ => rfl) (mj_R_put (c := .inl (.long, n, .inr (.inl (vp_updL f j.toNatClampNeg x)))) hR ho1 trivial (mj_R_ta hR ho1 ho he) hP1 hD1) hS1 (mj_c3 hcs) hcl hlv)
    case aastore =>
      have hl := eq_of_beq hc; subst hl
      obtain ⟨w, j, o, n, ci, f, fs, st2, rfl, he, hw, hin, rfl⟩ := mo_sta_inv hs
      dsimp only at k; simp only [Nat.sub_self, Nat.add_zero] at k
      have ho : o ≤ h.1 := mj_hd (mj_c2 hcs) o rfl
      have ho1 := mj_R_ne0' hR he (by simp)
      have hwl : w ≤ h.1 := mj_hd hcs w rfl
      cases hv : vwCl[ci]? with
      | none =>
        obtain ⟨r, hr, -⟩ := hR.1 _ _ (mj_R_obj hR hwl hw)
        rw [hv] at hr; cases hr
      | some q =>
        obtain ⟨C, T, N⟩ := q
        have hC : mj_cn ci = C := (mj_cls ci C T N hv).2.2.2.2.2
        rw [hC] at he k
        have hcc : ∀ j i, f j = some i → i ≤ h.1 := by have := hR.2.2.2.1 o ho1 ho; rw [he] at this; exact this
        have hcc2 : mj_cc h.1 (.inl (.object C, n, .inr (.inr (.inr (.inr (va_up f j.toNatClampNeg (some w))))))) := by
          intro j2 i hi
          unfold va_up at hi
          split at hi
          · cases hi; exact hwl
          · exact hcc _ _ hi
        have hem : va_up (fun j => (f j).map ι) j.toNatClampNeg (some (ι w)) = (fun j2 => (va_up f j.toNatClampNeg (some w) j2).map ι) := by
          funext j2
          unfold va_up
          split <;> rfl
        exact va_astq (r := (C, T, N)) hx hb (mj_R_tys hK hR ho1 ho he) hR.1 hR.2.1 hS (o - 1) 0 (w - 1) ci (mj_R_arr (H := H) ho1 ho he) rfl (mj_R_obj hR hwl hw) hv hin hd (fun H1 locs1 hP1 hD1 hS1 => k ι cA H1 locs1 ls (fun _ _ => rfl) (mj_R_put (c := .inl (.object C, n, .inr (.inr (.inr (.inr (va_up f j.toNatClampNeg (some w))))))) hR ho1 hcc2 (mj_R_ta hR ho1 ho he) (by rw [hem] at hP1; exact hP1) (by rw [hem] at hD1; exact hD1)) hS1 (mj_c3 hcs) hcl hlv)
    case newarray t =>
      have hl := eq_of_beq hc; subst hl
      obtain ⟨n, st2, r, rfl, hn0, hn1, hr, rfl⟩ := mo_na_inv hs
      dsimp only at k hroom
      have e1 : h.1 + 1 - h.1 = 1 := by omega
      have e2 : h.2.1 + n.toNatClampNeg - h.2.1 = n.toNatClampNeg := by omega
      rw [e1, e2] at k hroom
      have hi : ∀ q : Nat, ∀ j, j ≤ h.1 → vf_upd ι (h.1 + 1) q j = ι j := fun q j hj => by simp [vf_upd, show ¬ j = h.1 + 1 by omega]
      have fin : ∀ (q : Nat) (cq : ClassId) (H1 : Heap), mj_cc h.1 r → mj_ta s cq r → va_P D vwCl (mj_ws ι cA h ++ [(q, mj_em ι cq r)]) H1 → va_D A (mj_ws ι cA h ++ [(q, mj_em ι cq r)]) → va_S A s.heap H1 locs → W p l e R s m args below meth c0 H1 locs (cells + 1) (slots + n.toNatClampNeg) Q (F0 m (pc + 2) ls (.ref q :: st2.map (mj_mv ι))) := by
        intro q cq H1 hc1 ht1 hP1 hD1 hS1
        have k2 := k (vf_upd ι (h.1 + 1) q) (vf_upd cA (h.1 + 1) cq) H1 locs ls (hi q) (mj_R_push hR hc1 ht1 hP1 hD1) hS1 (mj_cx (mj_cv_ref (Nat.le_refl _)) (fun v hv => (mj_c1 hcs v hv).le (Nat.le_succ _))) (fun q hq => (hcl q hq).le (Nat.le_succ _)) (by rw [mj_lm_eq hcl (hi q)]; exact hlv)
        rw [List.map_cons, mj_mvs_eq (mj_c1 hcs) (hi q)] at k2
        have e3 : mj_mv (vf_upd ι (h.1 + 1) q) (.ref (h.1 + 1)) = .ref q := by simp [mj_mv, vf_upd]
        rw [e3] at k2
        exact k2
      cases t
      case boolean =>
        cases hr
        exact va_newa (atype := .boolean) (ty := .boolean) hx hb (hGW _ mj_ac_boolean) rfl hK hR.1 hR.2.1 hS hA (fun _ => rfl) hn0 rfl (by show n.toNatClampNeg * 1 ≤ 536870912; omega) hroom.1 hroom.2 hd (fun q cq H1 hK1 hP1 hD1 hS1 => fin q cq H1 trivial (hK1.2 0 _ rfl) hP1 hD1 hS1)
      case byte =>
        cases hr
        exact va_newa (atype := .byte) (ty := .byte) hx hb (hGW _ mj_ac_byte) rfl hK hR.1 hR.2.1 hS hA (fun _ => rfl) hn0 rfl (by show n.toNatClampNeg * 1 ≤ 536870912; omega) hroom.1 hroom.2 hd (fun q cq H1 hK1 hP1 hD1 hS1 => fin q cq H1 trivial (hK1.2 0 _ rfl) hP1 hD1 hS1)
      case int =>
        cases hr
        exact va_newa (atype := .int) (ty := .int) hx hb (hGW _ mj_ac_int) rfl hK hR.1 hR.2.1 hS hA (fun _ => rfl) hn0 rfl (by show n.toNatClampNeg * 4 ≤ 536870912; omega) hroom.1 hroom.2 hd (fun q cq H1 hK1 hP1 hD1 hS1 => fin q cq H1 trivial (hK1.2 0 _ rfl) hP1 hD1 hS1)
      case long =>
        cases hr
        exact va_newa (atype := .long) (ty := .long) hx hb (hGW _ mj_ac_long) rfl hK hR.1 hR.2.1 hS hA (fun _ => rfl) hn0 rfl (by show n.toNatClampNeg * 8 ≤ 536870912; omega) hroom.1 hroom.2 hd (fun q cq H1 hK1 hP1 hD1 hS1 => fin q cq H1 trivial (hK1.2 0 _ rfl) hP1 hD1 hS1)
      all_goals exact nomatch hr
    case anewarray z =>
      rw [Bool.and_eq_true] at hc
      obtain ⟨hl, hc⟩ := hc
      have hl := eq_of_beq hl; subst hl
      obtain ⟨n, st2, rfl, hn0, hn1, ha, rfl⟩ := mo_naq_inv hs
      dsimp only at k hroom
      have e1 : h.1 + 1 - h.1 = 1 := by omega
      have e2 : h.2.1 + n.toNatClampNeg - h.2.1 = n.toNatClampNeg := by omega
      rw [e1, e2] at k hroom
      have hi : ∀ q : Nat, ∀ j, j ≤ h.1 → vf_upd ι (h.1 + 1) q j = ι j := fun q j hj => by simp [vf_upd, show ¬ j = h.1 + 1 by omega]
      cases hv : vwCl[a]? with
      | none => rw [hv] at hc; cases hc
      | some q =>
        obtain ⟨C, T, N⟩ := q
        rw [hv] at hc
        have hC : mj_cn a = C := (mj_cls a C T N hv).2.2.2.2.2
        have hao : va_AO (mj_cn a) s := by
          rcases ha with rfl | rfl | rfl
          · exact hEW _ mj_ao_2
          · exact hEW _ mj_ao_6
          · exact hEW _ mj_ao_8
        refine va_newq (C := mj_cn a) hx hb hown (hGW _ (mj_has_GW (by rw [hC]; exact hc) rfl)) hao hK hR.1 hR.2.1 hS hA hn0 rfl (by omega) hroom.1 hroom.2 hd (fun q cq H1 hK1 hP1 hD1 hS1 => ?_)
        have k2 := k (vf_upd ι (h.1 + 1) q) (vf_upd cA (h.1 + 1) cq) H1 locs ls (hi q) (mj_R_push (c := .inl (.object (mj_cn a), n.toNatClampNeg, .inr (.inr (.inr (.inr (fun _ => none)))))) hR (fun _ _ q => by cases q) (hK1.2 0 _ rfl) hP1 hD1) hS1 (mj_cx (mj_cv_ref (Nat.le_refl _)) (fun v hv => (mj_c1 hcs v hv).le (Nat.le_succ _))) (fun q hq => (hcl q hq).le (Nat.le_succ _)) (by rw [mj_lm_eq hcl (hi q)]; exact hlv)
        rw [List.map_cons, mj_mvs_eq (mj_c1 hcs) (hi q)] at k2
        have e3 : mj_mv (vf_upd ι (h.1 + 1) q) (.ref (h.1 + 1)) = .ref q := by simp [mj_mv, vf_upd]
        rw [e3] at k2
        exact k2
    case new z =>
      rw [Bool.and_eq_true] at hc
      obtain ⟨hl, hc⟩ := hc
      have hl := eq_of_beq hl; subst hl
      obtain ⟨fs, hfs, rfl⟩ := mo_new_inv hs
      dsimp only at k hroom
      cases hv : vwCl[a]? with
      | none => rw [hv] at hc; cases hc
      | some q =>
        obtain ⟨C, T, N⟩ := q
        rw [hv] at hc
        obtain ⟨g1, ⟨t, g2, g3, g3'⟩, g4, g5, g6, g7⟩ := mj_cls a C T N hv
        have hfs2 : fs = (List.range N).map (fun k => mj_dv (t k)) := Option.some.inj (hfs.symm.trans g3')
        have hlen : fs.length = N := by rw [hfs2]; simp
        rw [hlen] at k hroom
        have e1 : h.1 + 1 - h.1 = 1 := by omega
        have e2 : h.2.1 + N - h.2.1 = N := by omega
        rw [e1, e2] at k hroom
        have hi : ∀ q : Nat, ∀ j, j ≤ h.1 → vf_upd ι (h.1 + 1) q j = ι j := fun q j hj => by simp [vf_upd, show ¬ j = h.1 + 1 by omega]
        have hmem : ∀ w ∈ fs, ∃ j, w = mj_dv (t j) := fun w hw => by rw [hfs2] at hw; obtain ⟨j, -, hj⟩ := List.mem_map.mp hw; exact ⟨j, hj.symm⟩
        refine va_new (ci := a) (fs := fs.map (mj_mv ι)) hx hb hGW g1 t g3 hown (hGW _ (mj_has_GW hc rfl)) (hGW _ g5) (hGW _ g6) hK hR.1 hR.2.1 hS hA hv ?_ hroom.1 hroom.2 hd (fun q H1 hP1 hD1 hS1 => ?_)
        · intro j hj
          unfold vp_V
          rw [hfs2, List.map_map, List.getD_eq_getElem?_getD, List.getElem?_map, List.getElem?_range hj]
          show defaultValue (t j) = mj_mv ι (mj_dv (t j))
          rw [mj_dv_mv]; rfl
        · have k2 := k (vf_upd ι (h.1 + 1) q) (vf_upd cA (h.1 + 1) 0) H1 locs ls (hi q) (mj_R_push (c := .inr (a, fs)) hR (fun w hw => by obtain ⟨j, rfl⟩ := hmem w hw; cases t j <;> (intro i hi2; cases hi2)) trivial hP1 hD1) hS1 (mj_cx (mj_cv_ref (Nat.le_refl _)) (fun v hv => (hcs v hv).le (Nat.le_succ _))) (fun q hq => (hcl q hq).le (Nat.le_succ _)) (by rw [mj_lm_eq hcl (hi q)]; exact hlv)
          rw [List.map_cons, mj_mvs_eq hcs (hi q)] at k2
          have e3 : mj_mv (vf_upd ι (h.1 + 1) q) (.ref (h.1 + 1)) = .ref q := by simp [mj_mv, vf_upd]
          rw [e3] at k2
          exact k2
    case invokespecial z =>
      rw [Bool.and_eq_true] at hc
      obtain ⟨hl, hc⟩ := hc
      have hl := eq_of_beq hl; subst hl
      obtain ⟨o, st2, rfl, rfl, hw, rfl⟩ := mo_obj_inv hs
      dsimp only at k; simp only [Nat.sub_self, Nat.add_zero] at k
      rw [if_pos rfl] at hc
      exact W.objInit hx hb hown (hGW _ (mj_has_GW hc rfl)) (hGW _ mj_oi_inst) (hGW _ mj_oi_code) (g := F0 m pc ls (.ref (ι o) :: st2.map (mj_mv ι))) rfl (hlv.1.trans hml.symm) rfl hd (by omega) (by show 2 * 0 + _ + 12 ≤ _; rw [mj_w_map]; omega) (k ι cA H locs ls (fun _ _ => rfl) hR hS (mj_c1 hcs) hcl hlv)
    case invokestatic z =>
      rw [Bool.and_eq_true] at hc
      obtain ⟨hl, hc⟩ := hc
      have hl := eq_of_beq hl; subst hl
      by_cases hv0 : v = .null
      case neg => exact nomatch ((if_neg hv0).symm.trans hs)
      have hs := (if_pos hv0).symm.trans hs
      rcases mo_mth_inv hs with ⟨x, y, st2, rfl, hw, rfl, rfl⟩ | ⟨x, y, st2, rfl, hw, rfl, rfl⟩ | ⟨x, y, st2, rfl, hw, rfl, rfl⟩ | ⟨x, y, st2, rfl, hw, rfl, rfl⟩ | ⟨x, st2, rfl, hw, rfl, rfl⟩ | hs
      · dsimp only at k; simp only [Nat.sub_self, Nat.add_zero] at k; dsimp only at hroom; simp only [Nat.sub_self, Nat.add_zero] at hroom
        rw [if_neg (by decide)] at hc; simp only [Bool.and_eq_true] at hc
        exact va_mmax hx hb (hml.trans hlv.1.symm) hown (mj_lk hGW hc.1.2 hv0) (hGW _ mj_math_smaxi) (hGW _ mj_math_ini) (hGW _ mj_math_maxi) (by omega) (by rw [mj_w_map]; omega) hroom.1 hroom.2 hd (k ι cA H locs ls (fun _ _ => rfl) hR hS (mj_cx mj_cv_int (mj_c2 hcs)) hcl hlv)
      · dsimp only at k; simp only [Nat.sub_self, Nat.add_zero] at k; dsimp only at hroom; simp only [Nat.sub_self, Nat.add_zero] at hroom
        rw [if_neg (by decide)] at hc; simp only [Bool.and_eq_true] at hc
        exact va_mmin hx hb (hml.trans hlv.1.symm) hown (mj_lk hGW hc.1.2 hv0) (hGW _ mj_math_smini) (hGW _ mj_math_ini) (hGW _ mj_math_mini) (by omega) (by rw [mj_w_map]; omega) hroom.1 hroom.2 hd (k ι cA H locs ls (fun _ _ => rfl) hR hS (mj_cx mj_cv_int (mj_c2 hcs)) hcl hlv)
      · dsimp only at k; simp only [Nat.sub_self, Nat.add_zero] at k; dsimp only at hroom; simp only [Nat.sub_self, Nat.add_zero] at hroom
        rw [if_neg (by decide)] at hc; simp only [Bool.and_eq_true] at hc
        exact va_mmax_long hx hb (hml.trans hlv.1.symm) hown (mj_lk hGW hc.1.2 hv0) (hGW _ mj_math_smaxl) (hGW _ mj_math_ini) (hGW _ mj_math_maxl) (by omega) (by rw [mj_w_map]; omega) hroom.1 hroom.2 hd (k ι cA H locs ls (fun _ _ => rfl) hR hS (mj_cx mj_cv_long (mj_c2 hcs)) hcl hlv)
      · dsimp only at k; simp only [Nat.sub_self, Nat.add_zero] at k; dsimp only at hroom; simp only [Nat.sub_self, Nat.add_zero] at hroom
        rw [if_neg (by decide)] at hc; simp only [Bool.and_eq_true] at hc
        exact va_mmin_long hx hb (hml.trans hlv.1.symm) hown (mj_lk hGW hc.1.2 hv0) (hGW _ mj_math_sminl) (hGW _ mj_math_ini) (hGW _ mj_math_minl) (by omega) (by rw [mj_w_map]; omega) hroom.1 hroom.2 hd (k ι cA H locs ls (fun _ _ => rfl) hR hS (mj_cx mj_cv_long (mj_c2 hcs)) hcl hlv)
      · dsimp only at k; simp only [Nat.sub_self, Nat.add_zero] at k; dsimp only at hroom; simp only [Nat.sub_self, Nat.add_zero] at hroom
        rw [if_neg (by decide)] at hc; simp only [Bool.and_eq_true] at hc
        exact va_mabs_long hx hb (hml.trans hlv.1.symm) hown (mj_lk hGW hc.1.2 hv0) (hGW _ mj_math_sabsl) (hGW _ mj_math_ini) (hGW _ mj_math_absl) (by omega) (by rw [mj_w_map]; omega) hroom.1 hroom.2 hd (k ι cA H locs ls (fun _ _ => rfl) hR hS (mj_cx mj_cv_long (mj_c1 hcs)) hcl hlv)
      obtain ⟨n, dp, sp, o, o0, st2, r, rfl, rfl, hw, hz1, hz2, hcp, rfl⟩ := mo_cpy_inv hs
      dsimp only at k; simp only [Nat.sub_self, Nat.add_zero] at k
      rw [if_pos rfl] at hc
      have ho1 : 1 ≤ o := Nat.pos_of_ne_zero hz1
      have ho2 : 1 ≤ o0 := Nat.pos_of_ne_zero hz2
      have ho : o ≤ h.1 := mj_hd (mj_c2 hcs) o rfl
      have ho' : o0 ≤ h.1 := mj_hd (mj_c3 (mj_c1 hcs)) o0 rfl
      have hlo : ((st2.map (mj_mv ι)).map fun v => v.category).sum + (nativeFrameWords "java/lang/System" "arraycopy" 5 + 11) ≤ R.locals := by rw [mj_w_map, show nativeFrameWords "java/lang/System" "arraycopy" 5 = 7 from by decide]; omega
      unfold mj_copy at hcp
      split at hcp
      · next ty n0 f ty2 n1 g he0 he1 =>
        split at hcp
        · next hq =>
          obtain ⟨rfl, q1, q2, q3, q4, q5, q6, q7⟩ := hq
          cases hcp
          have hT : va_K D vwCl [(cA o0, ty), (cA o, ty)] s := (mj_R_tys hK hR ho2 ho' he0).app (mj_R_tys hK hR ho1 ho he1)
          exact va_copyi hx hb (hml.trans hlv.1.symm) hown (hGW _ (mj_has_GW hc rfl)) (hGW _ mj_acp_nat) (hGW _ mj_acp_stat) (hGW _ mj_acp_ini) hT hR.1 hR.2.1 hS (o0 - 1) (o - 1) 0 1 (mj_R_arr (H := H) ho2 ho' he0) (mj_R_arr (H := H) ho1 ho he1) rfl rfl q1 q2 q3 q4 q5 q6 q7 (by omega) hlo hd (fun H1 locs1 hP1 hD1 hS1 => k ι cA H1 locs1 ls (fun _ _ => rfl) (mj_R_put (c := .inl (ty, n1, .inl (va_cpy f g sp.toNatClampNeg dp.toNatClampNeg n.toNatClampNeg))) hR ho1 trivial (mj_R_ta hR ho1 ho he1) hP1 hD1) hS1 (mj_c5 hcs) hcl hlv)
        · cases hcp
      · next ty n0 f ty2 n1 g he0 he1 =>
        split at hcp
        · next hq =>
          obtain ⟨rfl, rfl, q2, q3, q4, q5, q6⟩ := hq
          cases hcp
          have hT : va_K D vwCl [(cA o0, .long), (cA o, .long)] s := (mj_R_tys hK hR ho2 ho' he0).app (mj_R_tys hK hR ho1 ho he1)
          exact va_copyl hx hb (hml.trans hlv.1.symm) hown (hGW _ (mj_has_GW hc rfl)) (hGW _ mj_acp_nat) (hGW _ mj_acp_stat) (hGW _ mj_acp_ini) hT hR.1 hR.2.1 hS (o0 - 1) (o - 1) 0 1 (mj_R_arr (H := H) ho2 ho' he0) (mj_R_arr (H := H) ho1 ho he1) rfl rfl rfl q2 q3 q4 q5 q6 (fun _ _ => rfl) (by omega) hlo hd (fun H1 locs1 hP1 hD1 hS1 => k ι cA H1 locs1 ls (fun _ _ => rfl) (mj_R_put (c := .inl (.long, n1, .inr (.inl (va_cpy f g sp.toNatClampNeg dp.toNatClampNeg n.toNatClampNeg)))) hR ho1 trivial (mj_R_ta hR ho1 ho he1) hP1 hD1) hS1 (mj_c5 hcs) hcl hlv)
        · cases hcp
      · cases hcp
    all_goals exact nomatch (show (none : Option MS) = some s' from hs)
  next => exact nomatch hs
end SIM
