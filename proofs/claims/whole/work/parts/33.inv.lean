/-! what a step says of the state that it began in -/
theorem mo_li_inv {o : Option Value} {pc : Nat} {ls : ML} {st : List Value} {h : MH} {s' : MS} (hs : mo_li o pc ls st h = some s') : ∃ (x : Int32), o = some (.int x) ∧ s' = (pc, ls, .int x :: st, h) := by
  unfold mo_li at hs
  split at hs
  · cases hs; exact ⟨_, rfl, rfl⟩
  · cases hs
theorem mo_ll_inv {o : Option Value} {pc : Nat} {ls : ML} {st : List Value} {h : MH} {s' : MS} (hs : mo_ll o pc ls st h = some s') : ∃ (x : Int64), o = some (.long x) ∧ s' = (pc, ls, .long x :: st, h) := by
  unfold mo_ll at hs
  split at hs
  · cases hs; exact ⟨_, rfl, rfl⟩
  · cases hs
theorem mo_la_inv {o : Option Value} {pc : Nat} {ls : ML} {st : List Value} {h : MH} {s' : MS} (hs : mo_la o pc ls st h = some s') : (∃ x : Nat, o = some (.ref x) ∧ s' = (pc, ls, .ref x :: st, h)) ∨ (o = some .null ∧ s' = (pc, ls, .null :: st, h)) := by
  unfold mo_la at hs
  split at hs
  · cases hs; exact Or.inl ⟨_, rfl, rfl⟩
  · cases hs; exact Or.inr ⟨rfl, rfl⟩
  · cases hs
theorem mo_si_inv {a : Nat} {pc : Nat} {ls : ML} {st : List Value} {h : MH} {s' : MS} (hs : mo_si a pc ls st h = some s') : ∃ (x : Int32) (st2 : List Value), st = .int x :: st2 ∧ s' = (pc, mj_s1 ls a (.int x), st2, h) := by
  unfold mo_si at hs
  split at hs
  · cases hs; exact ⟨_, _, rfl, rfl⟩
  · cases hs
theorem mo_sl_inv {a : Nat} {pc : Nat} {ls : ML} {st : List Value} {h : MH} {s' : MS} (hs : mo_sl a pc ls st h = some s') : ∃ (x : Int64) (st2 : List Value), st = .long x :: st2 ∧ s' = (pc, mj_s2 ls a (.long x), st2, h) := by
  unfold mo_sl at hs
  split at hs
  · cases hs; exact ⟨_, _, rfl, rfl⟩
  · cases hs
theorem mo_sa_inv {a : Nat} {pc : Nat} {ls : ML} {st : List Value} {h : MH} {s' : MS} (hs : mo_sa a pc ls st h = some s') : (∃ (x : Nat) (st2 : List Value), st = .ref x :: st2 ∧ s' = (pc, mj_s1 ls a (.ref x), st2, h)) ∨ (∃ st2 : List Value, st = .null :: st2 ∧ s' = (pc, mj_s1 ls a .null, st2, h)) := by
  unfold mo_sa at hs
  split at hs
  · cases hs; exact Or.inl ⟨_, _, rfl, rfl⟩
  · cases hs; exact Or.inr ⟨_, rfl, rfl⟩
  · cases hs
theorem mo_inc_inv {o : Option Value} {v : Value} {a : Nat} {pc : Nat} {ls : ML} {st : List Value} {h : MH} {s' : MS} (hs : mo_inc o v a pc ls st h = some s') : ∃ x k : Int32, o = some (.int x) ∧ v = .int k ∧ s' = (pc, mj_s1 ls a (.int (x + k)), st, h) := by
  unfold mo_inc at hs
  split at hs
  · cases hs; exact ⟨_, _, rfl, rfl, rfl⟩
  · cases hs
theorem mo_dup_inv {pc : Nat} {ls : ML} {st : List Value} {h : MH} {s' : MS} (hs : mo_dup pc ls st h = some s') : (∃ (x : Int32) (st2 : List Value), st = .int x :: st2 ∧ s' = (pc, ls, .int x :: .int x :: st2, h)) ∨ (∃ (x : Nat) (st2 : List Value), st = .ref x :: st2 ∧ s' = (pc, ls, .ref x :: .ref x :: st2, h)) := by
  unfold mo_dup at hs
  split at hs
  · cases hs; exact Or.inl ⟨_, _, rfl, rfl⟩
  · cases hs; exact Or.inr ⟨_, _, rfl, rfl⟩
  · cases hs
theorem mo_dup2_inv {pc : Nat} {ls : ML} {st : List Value} {h : MH} {s' : MS} (hs : mo_dup2 pc ls st h = some s') : ∃ (x : Int32) (y : Nat) (st2 : List Value), st = .int x :: .ref y :: st2 ∧ s' = (pc, ls, .int x :: .ref y :: .int x :: .ref y :: st2, h) := by
  unfold mo_dup2 at hs
  split at hs
  · cases hs; exact ⟨_, _, _, rfl, rfl⟩
  · cases hs
theorem mo_pop_inv {pc : Nat} {ls : ML} {st : List Value} {h : MH} {s' : MS} (hs : mo_pop pc ls st h = some s') : (∃ (x : Int32) (st2 : List Value), st = .int x :: st2 ∧ s' = (pc, ls, st2, h)) ∨ (∃ (x : Nat) (st2 : List Value), st = .ref x :: st2 ∧ s' = (pc, ls, st2, h)) := by
  unfold mo_pop at hs
  split at hs
  · cases hs; exact Or.inl ⟨_, _, rfl, rfl⟩
  · cases hs; exact Or.inr ⟨_, _, rfl, rfl⟩
  · cases hs
theorem mo_ii_inv {f : Int32 → Int32 → Int32} {pc : Nat} {ls : ML} {st : List Value} {h : MH} {s' : MS} (hs : mo_ii f pc ls st h = some s') : ∃ (x y : Int32) (st2 : List Value), st = .int y :: .int x :: st2 ∧ s' = (pc, ls, .int (f x y) :: st2, h) := by
  unfold mo_ii at hs
  split at hs
  · cases hs; exact ⟨_, _, _, rfl, rfl⟩
  · cases hs
theorem mo_lL_inv {f : Int64 → Int64 → Int64} {pc : Nat} {ls : ML} {st : List Value} {h : MH} {s' : MS} (hs : mo_lL f pc ls st h = some s') : ∃ (x y : Int64) (st2 : List Value), st = .long y :: .long x :: st2 ∧ s' = (pc, ls, .long (f x y) :: st2, h) := by
  unfold mo_lL at hs
  split at hs
  · cases hs; exact ⟨_, _, _, rfl, rfl⟩
  · cases hs
theorem mo_lI_inv {f : Int64 → Int32 → Int64} {pc : Nat} {ls : ML} {st : List Value} {h : MH} {s' : MS} (hs : mo_lI f pc ls st h = some s') : ∃ (x : Int64) (y : Int32) (st2 : List Value), st = .int y :: .long x :: st2 ∧ s' = (pc, ls, .long (f x y) :: st2, h) := by
  unfold mo_lI at hs
  split at hs
  · cases hs; exact ⟨_, _, _, rfl, rfl⟩
  · cases hs
theorem mo_di_inv {f : Int32 → Int32 → Int32} {pc : Nat} {ls : ML} {st : List Value} {h : MH} {s' : MS} (hs : mo_di f pc ls st h = some s') : ∃ (x y : Int32) (st2 : List Value), st = .int y :: .int x :: st2 ∧ ¬ y = 0 ∧ s' = (pc, ls, .int (f x y) :: st2, h) := by
  unfold mo_di at hs
  split at hs
  · split at hs
    · cases hs
    · rename_i hne; cases hs; exact ⟨_, _, _, rfl, hne, rfl⟩
  · cases hs
theorem mo_dl_inv {f : Int64 → Int64 → Int64} {pc : Nat} {ls : ML} {st : List Value} {h : MH} {s' : MS} (hs : mo_dl f pc ls st h = some s') : ∃ (x y : Int64) (st2 : List Value), st = .long y :: .long x :: st2 ∧ ¬ y = 0 ∧ s' = (pc, ls, .long (f x y) :: st2, h) := by
  unfold mo_dl at hs
  split at hs
  · split at hs
    · cases hs
    · rename_i hne; cases hs; exact ⟨_, _, _, rfl, hne, rfl⟩
  · cases hs
theorem mo_cmp_inv {pc : Nat} {ls : ML} {st : List Value} {h : MH} {s' : MS} (hs : mo_cmp pc ls st h = some s') : ∃ (x y : Int64) (st2 : List Value), st = .long y :: .long x :: st2 ∧ s' = (pc, ls, .int (lg_cmp x y) :: st2, h) := by
  unfold mo_cmp at hs
  split at hs
  · cases hs; exact ⟨_, _, _, rfl, rfl⟩
  · cases hs
theorem mo_i2l_inv {pc : Nat} {ls : ML} {st : List Value} {h : MH} {s' : MS} (hs : mo_i2l pc ls st h = some s') : ∃ (x : Int32) (st2 : List Value), st = .int x :: st2 ∧ s' = (pc, ls, .long x.toInt64 :: st2, h) := by
  unfold mo_i2l at hs
  split at hs
  · cases hs; exact ⟨_, _, rfl, rfl⟩
  · cases hs
theorem mo_l2i_inv {pc : Nat} {ls : ML} {st : List Value} {h : MH} {s' : MS} (hs : mo_l2i pc ls st h = some s') : ∃ (x : Int64) (st2 : List Value), st = .long x :: st2 ∧ s' = (pc, ls, .int x.toInt32 :: st2, h) := by
  unfold mo_l2i at hs
  split at hs
  · cases hs; exact ⟨_, _, rfl, rfl⟩
  · cases hs
theorem mo_i2b_inv {pc : Nat} {ls : ML} {st : List Value} {h : MH} {s' : MS} (hs : mo_i2b pc ls st h = some s') : ∃ (x : Int32) (st2 : List Value), st = .int x :: st2 ∧ s' = (pc, ls, .int x.toInt8.toInt32 :: st2, h) := by
  unfold mo_i2b at hs
  split at hs
  · cases hs; exact ⟨_, _, rfl, rfl⟩
  · cases hs
theorem mo_lneg_inv {pc : Nat} {ls : ML} {st : List Value} {h : MH} {s' : MS} (hs : mo_lneg pc ls st h = some s') : ∃ (x : Int64) (st2 : List Value), st = .long x :: st2 ∧ s' = (pc, ls, .long (-x) :: st2, h) := by
  unfold mo_lneg at hs
  split at hs
  · cases hs; exact ⟨_, _, rfl, rfl⟩
  · cases hs
theorem mo_if_inv {cnd : Jvm.ClassFile.Cond} {a : Nat} {pc : Nat} {ls : ML} {st : List Value} {h : MH} {s' : MS} (hs : mo_if cnd a pc ls st h = some s') : ∃ (x : Int32) (st2 : List Value), st = .int x :: st2 := by
  unfold mo_if at hs
  split at hs <;> first | exact ⟨_, _, rfl⟩ | cases hs
theorem mo_ic_inv {cnd : Jvm.ClassFile.Cond} {a : Nat} {pc : Nat} {ls : ML} {st : List Value} {h : MH} {s' : MS} (hs : mo_ic cnd a pc ls st h = some s') : ∃ (x y : Int32) (st2 : List Value), st = .int y :: .int x :: st2 := by
  unfold mo_ic at hs
  split at hs <;> first | exact ⟨_, _, _, rfl⟩ | cases hs
theorem mo_nul_inv {a : Nat} {pc : Nat} {ls : ML} {st : List Value} {h : MH} {s' : MS} (hs : mo_nul a pc ls st h = some s') : (∃ st2 : List Value, st = .null :: st2 ∧ s' = (a, ls, st2, h)) ∨ (∃ (x : Nat) (st2 : List Value), st = .ref x :: st2 ∧ s' = (pc, ls, st2, h)) := by
  unfold mo_nul at hs
  split at hs
  · cases hs; exact Or.inl ⟨_, rfl, rfl⟩
  · cases hs; exact Or.inr ⟨_, _, rfl, rfl⟩
  · cases hs
theorem mo_tsw_inv {d lo hi : Int} {offs : Array Int} {pc : Nat} {ls : ML} {st : List Value} {h : MH} {s' : MS} (hs : mo_tsw pc d lo hi offs ls st h = some s') : ∃ (x : Int32) (st2 : List Value), st = .int x :: st2 ∧ s' = (mj_tsw pc d lo hi offs x, ls, st2, h) := by
  unfold mo_tsw at hs
  split at hs
  · cases hs; exact ⟨_, _, rfl, rfl⟩
  · cases hs
theorem mo_lsw_inv {d : Int} {ps : Array (Int × Int)} {pc : Nat} {ls : ML} {st : List Value} {h : MH} {s' : MS} (hs : mo_lsw pc d ps ls st h = some s') : ∃ (x : Int32) (st2 : List Value), st = .int x :: st2 ∧ s' = (mj_lsw pc d ps x, ls, st2, h) := by
  unfold mo_lsw at hs
  split at hs
  · cases hs; exact ⟨_, _, rfl, rfl⟩
  · cases hs
theorem mo_get_inv {a b : Nat} {pc : Nat} {ls : ML} {st : List Value} {h : MH} {s' : MS} (hs : mo_get a b pc ls st h = some s') : ∃ (o : Nat) (st2 fs : List Value) (r : Value), st = .ref o :: st2 ∧ h.2.2 o = .inr (a, fs) ∧ fs[b]? = some r ∧ s' = (pc, ls, r :: st2, h) := by
  unfold mo_get at hs
  split at hs
  · rename_i o st2
    unfold mo_gc at hs
    split at hs
    · rename_i ci fs he
      split at hs
      · rename_i hci
        subst hci
        unfold mo_gv at hs
        split at hs
        · rename_i r hr
          cases hs
          exact ⟨_, _, _, _, rfl, he, hr, rfl⟩
        · cases hs
      · cases hs
    · cases hs
  · cases hs
theorem mo_put_inv {a b : Nat} {v : Value} {pc : Nat} {ls : ML} {st : List Value} {h : MH} {s' : MS} (hs : mo_put a b v pc ls st h = some s') : ∃ (x : Value) (o : Nat) (st2 fs : List Value), st = x :: .ref o :: st2 ∧ h.2.2 o = .inr (a, fs) ∧ b < fs.length ∧ mj_fit v x = true ∧ s' = (pc, ls, st2, (h.1, h.2.1, mj_up h.2.2 o (.inr (a, fs.set b x)))) := by
  unfold mo_put at hs
  split at hs
  · rename_i x o st2
    unfold mo_pc at hs
    split at hs
    · rename_i ci fs he
      split at hs
      · rename_i hci
        obtain ⟨rfl, h2, h3⟩ := hci
        cases hs
        exact ⟨_, _, _, _, rfl, he, h2, h3, rfl⟩
      · cases hs
    · cases hs
  · cases hs
theorem mo_len_inv {pc : Nat} {ls : ML} {st : List Value} {h : MH} {s' : MS} (hs : mo_len pc ls st h = some s') : ∃ (o : Nat) (st2 : List Value) (ty : FieldType) (x : vp_A), st = .ref o :: st2 ∧ h.2.2 o = .inl (ty, x) ∧ s' = (pc, ls, .int (Int32.ofNat x.1) :: st2, h) := by
  unfold mo_len at hs
  split at hs
  · rename_i o st2
    unfold mo_lenc at hs
    split at hs
    · rename_i ty n f he
      cases hs
      exact ⟨_, _, _, (n, f), rfl, he, rfl⟩
    · cases hs
  · cases hs
theorem mo_ld_inv {k : MC → Int32 → Nat → ML → List Value → MH → Option MS} {pc : Nat} {ls : ML} {st : List Value} {h : MH} {s' : MS} (hs : mo_ld k pc ls st h = some s') : ∃ (j : Int32) (o : Nat) (st2 : List Value), st = .int j :: .ref o :: st2 ∧ k (h.2.2 o) j pc ls st2 h = some s' := by
  unfold mo_ld at hs
  split at hs
  · exact ⟨_, _, _, rfl, hs⟩
  · cases hs
theorem mo_sti_inv {k : MC → Int32 → Int32 → Nat → Nat → ML → List Value → MH → Option MS} {pc : Nat} {ls : ML} {st : List Value} {h : MH} {s' : MS} (hs : mo_sti k pc ls st h = some s') : ∃ (x j : Int32) (o : Nat) (st2 : List Value), st = .int x :: .int j :: .ref o :: st2 ∧ k (h.2.2 o) j x o pc ls st2 h = some s' := by
  unfold mo_sti at hs
  split at hs
  · exact ⟨_, _, _, _, rfl, hs⟩
  · cases hs
theorem mo_ic1_inv {cl : MC} {i : Int32} {pc : Nat} {ls : ML} {st : List Value} {h : MH} {s' : MS} (hs : mo_ic1 cl i pc ls st h = some s') : ∃ (n : Nat) (f : Nat → Int32), cl = .inl (.int, n, .inl f) ∧ vp_in i n ∧ s' = (pc, ls, .int (f i.toNatClampNeg) :: st, h) := by
  unfold mo_ic1 at hs
  split at hs
  · split at hs
    · cases hs
    · rename_i hin; cases hs; exact ⟨_, _, rfl, hin, rfl⟩
  · cases hs
theorem mo_bc1_inv {cl : MC} {i : Int32} {pc : Nat} {ls : ML} {st : List Value} {h : MH} {s' : MS} (hs : mo_bc1 cl i pc ls st h = some s') : ∃ (ty : FieldType) (n : Nat) (f : Nat → Int32), (ty = .byte ∨ ty = .boolean) ∧ cl = .inl (ty, n, .inl f) ∧ vp_in i n ∧ s' = (pc, ls, .int (f i.toNatClampNeg) :: st, h) := by
  unfold mo_bc1 at hs
  split at hs
  · split at hs
    · cases hs
    · rename_i hin; cases hs; exact ⟨_, _, _, Or.inl rfl, rfl, hin, rfl⟩
  · split at hs
    · cases hs
    · rename_i hin; cases hs; exact ⟨_, _, _, Or.inr rfl, rfl, hin, rfl⟩
  · cases hs
theorem mo_lc1_inv {cl : MC} {i : Int32} {pc : Nat} {ls : ML} {st : List Value} {h : MH} {s' : MS} (hs : mo_lc1 cl i pc ls st h = some s') : ∃ (n : Nat) (f : Nat → Int64), cl = .inl (.long, n, .inr (.inl f)) ∧ vp_in i n ∧ s' = (pc, ls, .long (f i.toNatClampNeg) :: st, h) := by
  unfold mo_lc1 at hs
  split at hs
  · split at hs
    · cases hs
    · rename_i hin; cases hs; exact ⟨_, _, rfl, hin, rfl⟩
  · cases hs
theorem mo_ac1_inv {cl : MC} {i : Int32} {pc : Nat} {ls : ML} {st : List Value} {h : MH} {s' : MS} (hs : mo_ac1 cl i pc ls st h = some s') : ∃ (C : String) (n : Nat) (f : Nat → Option Nat), cl = .inl (.object C, n, .inr (.inr (.inr (.inr f)))) ∧ vp_in i n ∧ s' = (pc, ls, va_rf (f i.toNatClampNeg) :: st, h) := by
  unfold mo_ac1 at hs
  split at hs
  · split at hs
    · cases hs
    · rename_i hin; cases hs; exact ⟨_, _, _, rfl, hin, rfl⟩
  · cases hs
theorem mo_is1_inv {cl : MC} {i x : Int32} {o : Nat} {pc : Nat} {ls : ML} {st : List Value} {h : MH} {s' : MS} (hs : mo_is1 cl i x o pc ls st h = some s') : ∃ (n : Nat) (f : Nat → Int32), cl = .inl (.int, n, .inl f) ∧ ¬ o = 0 ∧ vp_in i n ∧ s' = (pc, ls, st, (h.1, h.2.1, mj_up h.2.2 o (.inl (.int, n, .inl (upd f i.toNatClampNeg x))))) := by
  unfold mo_is1 at hs
  split at hs
  · split at hs
    · cases hs
    · rename_i hin; cases hs; exact ⟨_, _, rfl, fun q => hin (Or.inl q), fun q => hin (Or.inr q), rfl⟩
  · cases hs
theorem mo_bs1_inv {cl : MC} {i x : Int32} {o : Nat} {pc : Nat} {ls : ML} {st : List Value} {h : MH} {s' : MS} (hs : mo_bs1 cl i x o pc ls st h = some s') : ∃ (ty : FieldType) (n : Nat) (f : Nat → Int32), (ty = .byte ∨ ty = .boolean) ∧ cl = .inl (ty, n, .inl f) ∧ vp_in i n ∧ s' = (pc, ls, st, (h.1, h.2.1, mj_up h.2.2 o (.inl (ty, n, .inl (upd f i.toNatClampNeg (vp_nar ty x)))))) := by
  unfold mo_bs1 at hs
  split at hs
  · split at hs
    · cases hs
    · rename_i hin; cases hs; exact ⟨_, _, _, Or.inl rfl, rfl, hin, rfl⟩
  · split at hs
    · cases hs
    · rename_i hin; cases hs; exact ⟨_, _, _, Or.inr rfl, rfl, hin, rfl⟩
  · cases hs
theorem mo_stl_inv {pc : Nat} {ls : ML} {st : List Value} {h : MH} {s' : MS} (hs : mo_stl pc ls st h = some s') : ∃ (x : Int64) (j : Int32) (o n : Nat) (f : Nat → Int64) (st2 : List Value), st = .long x :: .int j :: .ref o :: st2 ∧ h.2.2 o = .inl (.long, n, .inr (.inl f)) ∧ vp_in j n ∧ s' = (pc, ls, st2, (h.1, h.2.1, mj_up h.2.2 o (.inl (.long, n, .inr (.inl (vp_updL f j.toNatClampNeg x)))))) := by
  unfold mo_stl at hs
  split at hs
  · unfold mo_ls1 at hs
    split at hs
    · rename_i he
      split at hs
      · cases hs
      · rename_i hin; cases hs; exact ⟨_, _, _, _, _, _, rfl, he, hin, rfl⟩
    · cases hs
  · cases hs
theorem mo_sta_inv {pc : Nat} {ls : ML} {st : List Value} {h : MH} {s' : MS} (hs : mo_sta pc ls st h = some s') : ∃ (w : Nat) (j : Int32) (o n ci : Nat) (f : Nat → Option Nat) (fs st2 : List Value), st = .ref w :: .int j :: .ref o :: st2 ∧ h.2.2 o = .inl (.object (mj_cn ci), n, .inr (.inr (.inr (.inr f)))) ∧ h.2.2 w = .inr (ci, fs) ∧ vp_in j n ∧ s' = (pc, ls, st2, (h.1, h.2.1, mj_up h.2.2 o (.inl (.object (mj_cn ci), n, .inr (.inr (.inr (.inr (va_up f j.toNatClampNeg (some w))))))))) := by
  unfold mo_sta at hs
  split at hs
  · unfold mo_as1 at hs
    split at hs
    · rename_i he hw
      split at hs
      · cases hs
      · rename_i hin
        have h3 := fun q => hin (Or.inr (Or.inr q))
        have h4 := Classical.byContradiction h3
        subst h4
        cases hs
        exact ⟨_, _, _, _, _, _, _, _, rfl, he, hw, fun q => hin (q.elim Or.inl (fun z => Or.inr (Or.inl z))), rfl⟩
    · cases hs
  · cases hs
theorem mo_na_inv {t : ArrayType} {pc : Nat} {ls : ML} {st : List Value} {h : MH} {s' : MS} (hs : mo_na t pc ls st h = some s') : ∃ (n : Int32) (st2 : List Value) (r : MC), st = .int n :: st2 ∧ ¬ n < 0 ∧ n.toNatClampNeg ≤ 10000 ∧ mj_arr t n.toNatClampNeg = some r ∧ s' = (pc, ls, .ref (h.1 + 1) :: st2, (h.1 + 1, h.2.1 + n.toNatClampNeg, mj_up h.2.2 (h.1 + 1) r)) := by
  unfold mo_na at hs
  split at hs
  · split at hs
    · cases hs
    · rename_i hn
      obtain ⟨r, h1, h2⟩ := Option.map_eq_some_iff.mp hs
      exact ⟨_, _, r, rfl, fun q => hn (Or.inl q), Nat.not_lt.mp (fun q => hn (Or.inr q)), h1, h2.symm⟩
  · cases hs
theorem mo_naq_inv {a : Nat} {pc : Nat} {ls : ML} {st : List Value} {h : MH} {s' : MS} (hs : mo_naq a pc ls st h = some s') : ∃ (n : Int32) (st2 : List Value), st = .int n :: st2 ∧ ¬ n < 0 ∧ n.toNatClampNeg ≤ 10000 ∧ (a = 2 ∨ a = 6 ∨ a = 8) ∧ s' = (pc, ls, .ref (h.1 + 1) :: st2, (h.1 + 1, h.2.1 + n.toNatClampNeg, mj_up h.2.2 (h.1 + 1) (.inl (.object (mj_cn a), n.toNatClampNeg, .inr (.inr (.inr (.inr (fun _ => none)))))))) := by
  unfold mo_naq at hs
  split at hs
  · split at hs
    · cases hs
    · rename_i hn
      cases hs
      exact ⟨_, _, rfl, fun q => hn (Or.inl q), Nat.not_lt.mp (fun q => hn (Or.inr (Or.inl q))), Classical.byContradiction (fun q => hn (Or.inr (Or.inr q))), rfl⟩
  · cases hs
theorem mo_new_inv {a : Nat} {pc : Nat} {ls : ML} {st : List Value} {h : MH} {s' : MS} (hs : mo_new a pc ls st h = some s') : ∃ fs : List Value, mj_new[a]? = some fs ∧ s' = (pc, ls, .ref (h.1 + 1) :: st, (h.1 + 1, h.2.1 + fs.length, mj_up h.2.2 (h.1 + 1) (.inr (a, fs)))) := by
  unfold mo_new at hs
  split at hs
  · rename_i he
    cases hs
    exact ⟨_, he, rfl⟩
  · cases hs
theorem mo_obj_inv {a : Nat} {pc : Nat} {ls : ML} {st : List Value} {h : MH} {s' : MS} (hs : mo_obj a pc ls st h = some s') : ∃ (o : Nat) (st2 : List Value), st = .ref o :: st2 ∧ a = 1000 ∧ mj_w st2 ≤ 8 ∧ s' = (pc, ls, st2, h) := by
  unfold mo_obj at hs
  split at hs
  · split at hs
    · rename_i hq
      cases hs
      exact ⟨_, _, rfl, hq.1, hq.2, rfl⟩
    · cases hs
  · cases hs
theorem mo_cpy_inv {a : Nat} {pc : Nat} {ls : ML} {st : List Value} {h : MH} {s' : MS} (hs : mo_cpy a pc ls st h = some s') : ∃ (n dp sp : Int32) (o o0 : Nat) (st2 : List Value) (r : MC), st = .int n :: .int dp :: .ref o :: .int sp :: .ref o0 :: st2 ∧ a = 1001 ∧ mj_w st2 ≤ 8 ∧ ¬ o = 0 ∧ ¬ o0 = 0 ∧ mj_copy sp dp n (h.2.2 o0) (h.2.2 o) = some r ∧ s' = (pc, ls, st2, (h.1, h.2.1, mj_up h.2.2 o r)) := by
  unfold mo_cpy at hs
  split at hs
  · split at hs
    · rename_i hq
      obtain ⟨r, h1, h2⟩ := Option.map_eq_some_iff.mp hs
      exact ⟨_, _, _, _, _, _, r, rfl, hq.1, hq.2.1, hq.2.2.1, hq.2.2.2, h1, h2.symm⟩
    · cases hs
  · cases hs
theorem mo_mth_inv {a : Nat} {pc : Nat} {ls : ML} {st : List Value} {h : MH} {s' : MS} (hs : mo_mth a pc ls st h = some s') : (∃ (x y : Int32) (st2 : List Value), a = id_J9_max_7cf53 ∧ mj_w st2 ≤ 8 ∧ st = .int y :: .int x :: st2 ∧ s' = (pc, ls, .int (if x < y then y else x) :: st2, h)) ∨ (∃ (x y : Int32) (st2 : List Value), a = id_J9_min_7cf53 ∧ mj_w st2 ≤ 8 ∧ st = .int y :: .int x :: st2 ∧ s' = (pc, ls, .int (if y < x then y else x) :: st2, h)) ∨ (∃ (x y : Int64) (st2 : List Value), a = id_J9_max_f86c9 ∧ mj_w st2 ≤ 8 ∧ st = .long y :: .long x :: st2 ∧ s' = (pc, ls, .long (if y < x then x else y) :: st2, h)) ∨ (∃ (x y : Int64) (st2 : List Value), a = id_J9_min_f86c9 ∧ mj_w st2 ≤ 8 ∧ st = .long y :: .long x :: st2 ∧ s' = (pc, ls, .long (if y < x then y else x) :: st2, h)) ∨ (∃ (x : Int64) (st2 : List Value), a = id_J9_abs_067f4 ∧ mj_w st2 ≤ 8 ∧ st = .long x :: st2 ∧ s' = (pc, ls, .long (if 0 < x then x else -x) :: st2, h)) ∨ mo_cpy a pc ls st h = some s' := by
  unfold mo_mth at hs
  split at hs
  · rename_i ha
    split at hs
    · split at hs
      · rename_i hw
        cases hs
        exact Or.inl ⟨_, _, _, ha, hw, rfl, rfl⟩
      · cases hs
    · cases hs
  split at hs
  · rename_i ha
    split at hs
    · split at hs
      · rename_i hw
        cases hs
        exact Or.inr (Or.inl ⟨_, _, _, ha, hw, rfl, rfl⟩)
      · cases hs
    · cases hs
  split at hs
  · rename_i ha
    split at hs
    · split at hs
      · rename_i hw
        cases hs
        exact Or.inr (Or.inr (Or.inl ⟨_, _, _, ha, hw, rfl, rfl⟩))
      · cases hs
    · cases hs
  split at hs
  · rename_i ha
    split at hs
    · split at hs
      · rename_i hw
        cases hs
        exact Or.inr (Or.inr (Or.inr (Or.inl ⟨_, _, _, ha, hw, rfl, rfl⟩)))
      · cases hs
    · cases hs
  split at hs
  · rename_i ha
    split at hs
    · split at hs
      · rename_i hw
        cases hs
        exact Or.inr (Or.inr (Or.inr (Or.inr (Or.inl ⟨_, _, ha, hw, rfl, rfl⟩))))
      · cases hs
    · cases hs
  exact Or.inr (Or.inr (Or.inr (Or.inr (Or.inr hs))))
