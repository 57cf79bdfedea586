/-! the model packs: the best way -/
theorem lfC_b {vs : List Int64} {t : Nat} (hm : vs.length ≤ 32) (h : t = 2 → 0 < vs.length) : lfC vs t ≤ 5000 := by
  unfold lfC
  split
  · unfold nlen
    have := vl_le (zz (lmin vs))
    have := lay_b hm (wid_le vs)
    omega
  · split
    · rename_i q
      have q := h q
      have := pcost_lt (b := (fit0 vs).1) (w := (fit0 vs).2.1) hm (by have := (fit0_is q hm).2.1; omega)
      rw [(fit0_is q hm).2.2.2.1]
      omega
    · omega
theorem lfW_b {vs : List Int64} {t : Nat} (hm : vs.length ≤ 32) (h : t = 2 → 0 < vs.length) : vs.length ≤ lfW vs t ∧ lfW vs t ≤ 64 := by
  unfold lfW
  split
  · rename_i q
    have q := h q
    have h1 := (fit0_is q hm).2.2.1
    have h2 := pout_le (vs := vs) (b := (fit0 vs).1) (w := (fit0 vs).2.1)
    omega
  · omega
theorem cstB {vs : List Int64} {t : Nat} (hm : vs.length ≤ 32) : cst vs t ≤ 300 := by
  have hl := (lns_len vs).1
  have ha := (arr_ok vs).2.2
  unfold cst
  split
  · omega
  · unfold nlen
    have := vl_le (zz (lmin (lns vs)))
    have := lay_b (show (lns vs).length ≤ 32 by omega) (wid_le (lns vs))
    omega
  · have := lay_b hm (show bl ((arr vs).1.length - 1) ≤ 64 from Nat.le_trans (bl_le.mpr (show (arr vs).1.length - 1 < 2 ^ 6 by omega)) (by decide))
    omega
  · have := (vl_b (show dv vs < 2 ^ 64 from Nat.lt_trans (dv_lt vs) (by decide))).2
    omega
theorem rns_b {vs : List Int64} {t : Nat} (hm : vs.length ≤ 32) : rns vs t ≤ 32 := by
  unfold rns
  split
  · exact Nat.le_trans (trn_len (k := 4) (by decide)) hm
  · omega
theorem wy_b : ∀ (k : Nat) (vs : List Int64) (p b w : Nat) (x : N3), vs.length ≤ 32 → x ∈ wyQ can k vs p b w → x.1 ≤ b + 5000 + 300 * k ∧ x.2.1 ≤ w + 64 + 64 * k ∧ w + vs.length ≤ x.2.1
  | 0, vs, p, b, w, x, hm, h => by
    obtain ⟨t, t1, t2, rfl⟩ := lvs_mem.mp (show x ∈ lvs vs p b w from h)
    have h1 := lfC_b hm t2
    have h2 := lfW_b hm t2
    show b + lfC vs t ≤ _ ∧ w + lfW vs t ≤ _ ∧ _ ≤ w + lfW vs t
    omega
  | k + 1, vs, p, b, w, x, hm, h => by
    rcases List.mem_append.mp (show x ∈ lvs vs p b w ++ wyT _ 4 from h) with h | h
    · obtain ⟨t, t1, t2, rfl⟩ := lvs_mem.mp h
      have h1 := lfC_b hm t2
      have h2 := lfW_b hm t2
      show b + lfC vs t ≤ _ ∧ w + lfW vs t ≤ _ ∧ _ ≤ w + lfW vs t
      omega
    · have one : ∀ t, 3 ≤ t → t ≤ 6 → x ∈ (if can vs t = true then wyQ can k (trn vs t) (p * 8 + t) (b + cst vs t) (w + vs.length + rns vs t) else []) → x.1 ≤ b + 5000 + 300 * (k + 1) ∧ x.2.1 ≤ w + 64 + 64 * (k + 1) ∧ w + vs.length ≤ x.2.1 := by
        intro t t1 t2 hx
        split at hx
        · have h1 := wy_b k _ _ _ _ x (Nat.le_trans (trn_len ⟨t1, t2⟩) hm) hx
          have h2 := cstB (t := t) hm
          have h3 := rns_b (t := t) hm
          omega
        · cases hx
      rcases wyT_mem.mp h with h | h | h | h
      · exact one 3 (by decide) (by decide) h
      · exact one 4 (by decide) (by decide) h
      · exact one 5 (by decide) (by decide) h
      · exact one 6 (by decide) (by decide) h
def shfN (s : Nat) (x : N3) : N3 := (x.1 + s, x.2)
theorem wyT_map {g : Nat → List N3} {f : N3 → N3} : ∀ n, wyT (fun t => (g t).map f) n = (wyT g n).map f
  | 0 => rfl
  | n + 1 => by
    show (g (6 - n)).map f ++ wyT _ n = ((g (6 - n)) ++ wyT g n).map f
    rw [wyT_map n, List.map_append]
theorem lvs_shf {vs : List Int64} {p b w s : Nat} : lvs vs p (b + s) w = (lvs vs p b w).map (shfN s) := by
  unfold lvs
  rw [List.map_append]
  have e1 : b + s + 1 + 8 * vs.length = b + 1 + 8 * vs.length + s := by omega
  have e2 : b + s + nlen vs = b + nlen vs + s := by omega
  have e3 : b + s + (fit0 vs).2.2.2 = b + (fit0 vs).2.2.2 + s := by omega
  rw [e1, e2, e3]
  split <;> rfl
theorem wy_shf : ∀ (k : Nat) (vs : List Int64) (p b w s : Nat), wyQ can k vs p (b + s) w = (wyQ can k vs p b w).map (shfN s)
  | 0, vs, p, b, w, s => lvs_shf
  | k + 1, vs, p, b, w, s => by
    show lvs vs p (b + s) w ++ wyT (fun t => if can vs t = true then wyQ can k (trn vs t) (p * 8 + t) (b + s + cst vs t) (w + vs.length + rns vs t) else []) 4 = (lvs vs p b w ++ wyT (fun t => if can vs t = true then wyQ can k (trn vs t) (p * 8 + t) (b + cst vs t) (w + vs.length + rns vs t) else []) 4).map (shfN s)
    rw [List.map_append, lvs_shf, ← wyT_map]
    congr 2
    funext t
    split
    · rw [show b + s + cst vs t = b + cst vs t + s by omega, wy_shf k]
    · rfl
theorem IsBest.shf {A : List N3} {lim s : Nat} {x : N3} (h : IsBest A lim x) : IsBest (A.map (shfN s)) lim (shfN s x) := by
  obtain ⟨h1, h2, h3, h4⟩ := h
  refine ⟨List.mem_map_of_mem h1, h2, fun y hy hl => ?_, ?_⟩
  · obtain ⟨z, hz, rfl⟩ := List.mem_map.mp hy
    have := h3 z hz hl
    show x.1 + s < z.1 + s ∨ x.1 + s = z.1 + s ∧ x.2.1 ≤ z.2.1
    omega
  · rw [List.find?_map]
    have e : (same2 (shfN s x) ∘ shfN s) = same2 x := by
      funext z
      show (decide (z.1 + s = x.1 + s) && decide (z.2.1 = x.2.1)) = (decide (z.1 = x.1) && decide (z.2.1 = x.2.1))
      rw [show decide (z.1 + s = x.1 + s) = decide (z.1 = x.1) from by
        by_cases q : z.1 = x.1
        · rw [decide_eq_true q, decide_eq_true (by omega)]
        · rw [decide_eq_false q, decide_eq_false (by omega)]]
    rw [e, h4]
    rfl
theorem find_first {A : List N3} {p : N3 → Bool} : ∀ (m : Nat), m < A.length → p (A.getD m z3) = true → (∀ j, j < m → p (A.getD j z3) = false) → A.find? p = some (A.getD m z3) := by
  induction A with
  | nil => intro m hm; exact absurd hm (Nat.not_lt_zero m)
  | cons a r ih =>
    intro m hm h1 h2
    cases m with
    | zero =>
      rw [List.find?_cons, show p a = true from h1]
      rfl
    | succ m =>
      rw [List.find?_cons, show p a = false from h2 0 (by omega)]
      exact ih m (by simpa using hm) h1 (fun j hj => h2 (j + 1) (by omega))
def lx2 (a c : N3) : Prop := a.1 < c.1 ∨ a.1 = c.1 ∧ a.2.1 ≤ c.2.1
def BkI (A : List N3) (lim i : Nat) (best : Int32) : Prop := (best = -1 ∧ ∀ j, j < i → lim < (A.getD j z3).2.1) ∨ ∃ m, m < i ∧ best = nI m ∧ (A.getD m z3).2.1 ≤ lim ∧ (∀ j, j < i → (A.getD j z3).2.1 ≤ lim → lx2 (A.getD m z3) (A.getD j z3)) ∧ ∀ j, j < m → ¬ ((A.getD j z3).1 = (A.getD m z3).1 ∧ (A.getD j z3).2.1 = (A.getD m z3).2.1)
theorem BkI.skip {A : List N3} {lim i : Nat} {best : Int32} (h : BkI A lim i best) (hi : lim < (A.getD i z3).2.1) : BkI A lim (i + 1) best := by
  rcases h with ⟨h1, h2⟩ | ⟨m, m1, m2, m3, m4, m5⟩
  · refine Or.inl ⟨h1, fun j hj => ?_⟩
    by_cases e : j = i
    · rw [e]; exact hi
    · exact h2 j (by omega)
  · refine Or.inr ⟨m, by omega, m2, m3, fun j hj hl => ?_, m5⟩
    by_cases e : j = i
    · rw [e] at hl; omega
    · exact m4 j (by omega) hl
theorem BkI.new {A : List N3} {lim i : Nat} {best : Int32} (h : BkI A lim i best) (hi : (A.getD i z3).2.1 ≤ lim) (hn : ∀ m, m < i → best = nI m → (A.getD m z3).2.1 ≤ lim → (A.getD i z3).1 < (A.getD m z3).1 ∨ (A.getD i z3).1 = (A.getD m z3).1 ∧ (A.getD i z3).2.1 < (A.getD m z3).2.1) : BkI A lim (i + 1) (nI i) := by
  refine Or.inr ⟨i, by omega, rfl, hi, fun j hj hl => ?_, fun j hj he => ?_⟩
  · by_cases e : j = i
    · rw [e]; exact Or.inr ⟨rfl, Nat.le_refl _⟩
    · rcases h with ⟨h1, h2⟩ | ⟨m, m1, m2, m3, m4, m5⟩
      · have := h2 j (by omega)
        omega
      · have a1 := hn m m1 m2 m3
        have a2 := m4 j (by omega) hl
        unfold lx2 at a2 ⊢
        omega
  · rcases h with ⟨h1, h2⟩ | ⟨m, m1, m2, m3, m4, m5⟩
    · have := h2 j (by omega)
      omega
    · have a1 := hn m m1 m2 m3
      have a2 := m4 j (by omega) (by omega)
      unfold lx2 at a2
      omega
theorem BkI.keep {A : List N3} {lim i m : Nat} {best : Int32} (h : BkI A lim i best) (hA : i < 2 ^ 31) (hm : best = nI m) (hm2 : m < 2 ^ 31) (hk : lx2 (A.getD m z3) (A.getD i z3)) : BkI A lim (i + 1) best := by
  rcases h with ⟨h1, h2⟩ | ⟨m', m1, m2, m3, m4, m5⟩
  · have := nI_pos hm2
    rw [← hm, h1] at this
    exact absurd (by decide) this
  · have e : m' = m := (nI_eq (by omega) hm2).mp (m2.symm.trans hm)
    subst e
    refine Or.inr ⟨m', by omega, m2, m3, fun j hj hl => ?_, m5⟩
    by_cases e : j = i
    · rw [e]; exact hk
    · exact m4 j (by omega) hl
theorem BkI.some {A : List N3} {lim : Nat} {best : Int32} (h : BkI A lim A.length best) (hex : ∃ y ∈ A, y.2.1 ≤ lim) : ∃ m, m < A.length ∧ best = nI m ∧ IsBest A lim (A.getD m z3) := by
  obtain ⟨y, hy, hyl⟩ := hex
  obtain ⟨j, hj, hjy⟩ := mem_getD hy
  rcases h with ⟨h1, h2⟩ | ⟨m, m1, m2, m3, m4, m5⟩
  · have := h2 j hj
    rw [hjy] at this
    omega
  · refine ⟨m, m1, m2, getD_memN m1, m3, fun z hz hl => ?_, find_first m m1 ?_ (fun i hi => ?_)⟩
    · obtain ⟨i, hi, hiz⟩ := mem_getD hz
      have := m4 i hi (by rw [hiz]; exact hl)
      rw [hiz] at this
      exact this
    · unfold same2
      rw [decide_eq_true rfl, decide_eq_true rfl]; rfl
    · have := m5 i hi
      unfold same2
      by_cases q : (A.getD i z3).1 = (A.getD m z3).1
      · rw [decide_eq_true q, decide_eq_false (fun q2 => this ⟨q, q2⟩)]; rfl
      · rw [decide_eq_false q]; rfl
theorem BkI.none {A : List N3} {lim : Nat} {best : Int32} (h : BkI A lim A.length best) (hall : ∀ y ∈ A, lim < y.2.1) : best = -1 := by
  rcases h with ⟨h1, h2⟩ | ⟨m, m1, m2, m3, m4, m5⟩
  · exact h1
  · have := hall _ (getD_memN m1)
    omega
theorem BkI.zero {A : List N3} {lim : Nat} : BkI A lim 0 (-1) := Or.inl ⟨rfl, fun j hj => absurd hj (Nat.not_lt_zero j)⟩
def NB (A : List N3) : Prop := A.length ≤ 63 ∧ ∀ j, j < A.length → (A.getD j z3).1 < 2 ^ 20 ∧ (A.getD j z3).2.1 < 2 ^ 20
set_option maxHeartbeats 4000000 in
theorem lp_X12_best {d t N sl : Nat} {hp : Nat → MC} {Q : Option Value → MH → Prop} {c : Nat → Int32} {b : Int64} {A : List N3} {lim : Nat} (hlim : lim < 2 ^ 20) (hB : NB A) (hex : ∃ y ∈ A, y.2.1 ≤ lim) (hO : hp t = .inr (12, obL t c b)) (hY : WyM hp t c A) (hQ : ∀ m, m < A.length → IsBest A lim (A.getD m z3) → Q (some (.int (nI m))) (N, sl, hp)) : ∀ (r i : Nat) (best : Int32), i + r = A.length → BkI A lim i best → mj_rn d mi_X12_best (4, [(3, .int (nI i)), (2, .int best), (1, .int (nI lim)), (0, .ref t)], [], (N, sl, hp)) Q
  | 0, i, best, hr, hI => by
    have hl := hB.1
    have e : i = A.length := by omega
    subst e
    obtain ⟨m, m1, m2, m3⟩ := hI.some hex
    subst m2
    refine mj_rn.go [] 60 ?_
    simp only [lv_args, Value.category, y_e0, y_e1, y_k1, y_in0, y_in1, y_get, y_li, y_ll, y_la, y_la0, y_inc, y_gc, y_gv, y_pc, y_fitI, y_fitZ, y_fitL, y_fitR, y_fitN, y_len, y_ia, y_ba, y_za, y_la1, y_aa, y_is, y_bs, y_zs, y_ls, y_maxi, y_mini, y_maxl, y_minl, y_absl, y_cpy, y_obj, y_w0, y_w1, y_w2, y_w3, y_w4, x_iconst, x_bipush, x_sipush, x_lconst, x_ldc, x_ldc_w, x_ldc2_w, x_aconst_null, x_iload_n, x_iload, x_lload_n, x_lload, x_aload_n, x_aload, x_istore_n, x_istore, x_lstore_n, x_lstore, x_astore_n, x_astore_n_null, x_astore, x_astore_null, x_iinc, x_dup_int, x_dup_ref, x_dup2, x_pop_int, x_pop_ref, x_goto, x_if_eq, x_icmp_eq, x_if_ne, x_icmp_ne, x_if_lt, x_icmp_lt, x_if_ge, x_icmp_ge, x_if_gt, x_icmp_gt, x_if_le, x_icmp_le, x_ifnull_null, x_ifnull_ref, x_ifnonnull_null, x_ifnonnull_ref, x_tsw, x_lsw, x_iadd, x_isub, x_imul, x_iand, x_ior, x_ishl, x_ishr, x_iushr, x_ladd, x_lsub, x_lmul, x_land, x_lor, x_lxor, x_lshl, x_lshr, x_lushr, x_idiv, x_irem, x_ldiv, x_lrem, x_lcmp, x_i2l, x_l2i, x_i2b, x_lneg, x_getfield, x_putfield, x_arraylength, x_iaload, x_baload, x_laload, x_aaload, x_iastore, x_bastore, x_lastore, x_aastore, x_newarray, x_anewarray, x_new, x_invokevirtual, x_ireturn, x_lreturn, x_areturn, x_return_, x_invokestatic, x_invokespecial, x_invokestatic1, mj_b_some, mj_b_none, mj_b_ite, mj_ok_ite, mj_ok_some, mj_ok_none, mj_s1, mj_s2, ↓reduceIte, reduceCtorEq, Nat.reduceAdd, Nat.reduceEqDiff, Nat.reduceBEq, Nat.reduceLT, Nat.reduceLeDiff, Nat.reduceMul, Bool.false_eq_true, Bool.not_true, Bool.not_false, Bool.and_true, Bool.true_and, Bool.and_false, Bool.false_and, Bool.or_false, Bool.or_true, Bool.false_or, Bool.true_or, List.getElem?_cons_zero, List.getElem?_cons_succ, List.set_cons_zero, List.set_cons_succ, List.length_cons, List.length_nil, List.filter_cons, List.filter_nil, and_self, and_true, true_and, not_true_eq_false, not_false_eq_true, if_true, if_false, implies_true, forall_const, decide_true, decide_false, beq_self_eq_true, Nat.zero_add, Int32.reduceLT, Int32.reduceLE, Int32.reduceAdd, Int32.reduceSub, Int32.reduceMul, Option.toList_none, Option.toList_some, List.nil_append, List.cons_append, mj_M, id_J9_abs_067f4, Option.map_some, fe_X12_best_0, fe_X12_best_1, fe_X12_best_2, fe_X12_best_3, fe_X12_best_4, fe_X12_best_5, fe_X12_best_6, fe_X12_best_9, fe_X12_best_12, fe_X12_best_13, fe_X12_best_16, fe_X12_best_17, fe_X12_best_18, fe_X12_best_19, fe_X12_best_22, fe_X12_best_25, fe_X12_best_26, fe_X12_best_27, fe_X12_best_30, fe_X12_best_31, fe_X12_best_34, fe_X12_best_35, fe_X12_best_36, fe_X12_best_37, fe_X12_best_40, fe_X12_best_41, fe_X12_best_42, fe_X12_best_45, fe_X12_best_46, fe_X12_best_49, fe_X12_best_50, fe_X12_best_51, fe_X12_best_52, fe_X12_best_55, fe_X12_best_56, fe_X12_best_57, fe_X12_best_60, fe_X12_best_61, fe_X12_best_64, fe_X12_best_65, fe_X12_best_66, fe_X12_best_67, fe_X12_best_70, fe_X12_best_71, fe_X12_best_72, fe_X12_best_75, fe_X12_best_76, fe_X12_best_77, fe_X12_best_80, fe_X12_best_83, fe_X12_best_84, ol_len, og_0, og_1, og_2, og_3, og_4, og_5, og_6, og_7, og_8, og_9, og_10, os_10, og_11, os_11, og_12, os_12, og_13, os_13, og_14, og_15, og_16, og_17, og_18, os_18, og_19, os_19, og_20, os_20, og_21, os_21, og_22, og_23, og_24, og_25, og_26, og_27, os_27, og_28, os_28, og_29, og_30, og_31, os_31, og_32, og_33, os_33, og_34, os_34, og_35, os_35, og_36, os_36, og_37, os_37, og_38, os_38, og_39, os_39, og_40, og_41, og_42, og_43, og_44, og_45, og_46, og_47, og_48, og_49, up_up, up_s, pk_us, pk_un, hO, hY.1, show nI A.length ≤ nI A.length from nI_le (Nat.le_refl _) (by omega)]
    exact rt_X12_best fe_X12_best_84 (hQ m m1 m3)
  | r + 1, i, best, hr, hI => by
    have hl := hB.1
    obtain ⟨h21, cd, dp, cs, wk, b1, b2, b3, b4, b5⟩ := id hY
    have hil : i < A.length := by omega
    obtain ⟨g1, g2, g3, g4⟩ := b5 i hil
    obtain ⟨n1, n2⟩ := hB.2 i hil
    have c1 := nI_pos (show i < 2 ^ 31 by omega)
    have c2 := nI_clamp (show i < 2 ^ 31 by omega)
    have c3 : ¬ 80 ≤ i := by omega
    have ci : ¬ nI A.length ≤ nI i := nI_ge hil (by omega)
    by_cases p1 : (A.getD i z3).2.1 ≤ lim
    · have p1' : nI (A.getD i z3).2.1 ≤ nI lim := nI_le p1 (by omega)
      have new : BkI A lim (i + 1) (nI i) → mj_rn d mi_X12_best (4, [(3, .int (nI (i + 1))), (2, .int (nI i)), (1, .int (nI lim)), (0, .ref t)], [], (N, sl, hp)) Q := fun h => lp_X12_best hlim hB hex hO hY hQ r (i + 1) (nI i) (by omega) h
      have keep : BkI A lim (i + 1) best → mj_rn d mi_X12_best (4, [(3, .int (nI (i + 1))), (2, .int best), (1, .int (nI lim)), (0, .ref t)], [], (N, sl, hp)) Q := fun h => lp_X12_best hlim hB hex hO hY hQ r (i + 1) best (by omega) h
      rcases id hI with ⟨h1, h2⟩ | ⟨m, m1, m2, m3, m4, m5⟩
      · refine mj_rn.go [4] 60 ?_
        simp only [lv_args, Value.category, y_e0, y_e1, y_k1, y_in0, y_in1, y_get, y_li, y_ll, y_la, y_la0, y_inc, y_gc, y_gv, y_pc, y_fitI, y_fitZ, y_fitL, y_fitR, y_fitN, y_len, y_ia, y_ba, y_za, y_la1, y_aa, y_is, y_bs, y_zs, y_ls, y_maxi, y_mini, y_maxl, y_minl, y_absl, y_cpy, y_obj, y_w0, y_w1, y_w2, y_w3, y_w4, x_iconst, x_bipush, x_sipush, x_lconst, x_ldc, x_ldc_w, x_ldc2_w, x_aconst_null, x_iload_n, x_iload, x_lload_n, x_lload, x_aload_n, x_aload, x_istore_n, x_istore, x_lstore_n, x_lstore, x_astore_n, x_astore_n_null, x_astore, x_astore_null, x_iinc, x_dup_int, x_dup_ref, x_dup2, x_pop_int, x_pop_ref, x_goto, x_if_eq, x_icmp_eq, x_if_ne, x_icmp_ne, x_if_lt, x_icmp_lt, x_if_ge, x_icmp_ge, x_if_gt, x_icmp_gt, x_if_le, x_icmp_le, x_ifnull_null, x_ifnull_ref, x_ifnonnull_null, x_ifnonnull_ref, x_tsw, x_lsw, x_iadd, x_isub, x_imul, x_iand, x_ior, x_ishl, x_ishr, x_iushr, x_ladd, x_lsub, x_lmul, x_land, x_lor, x_lxor, x_lshl, x_lshr, x_lushr, x_idiv, x_irem, x_ldiv, x_lrem, x_lcmp, x_i2l, x_l2i, x_i2b, x_lneg, x_getfield, x_putfield, x_arraylength, x_iaload, x_baload, x_laload, x_aaload, x_iastore, x_bastore, x_lastore, x_aastore, x_newarray, x_anewarray, x_new, x_invokevirtual, x_ireturn, x_lreturn, x_areturn, x_return_, x_invokestatic, x_invokespecial, x_invokestatic1, mj_b_some, mj_b_none, mj_b_ite, mj_ok_ite, mj_ok_some, mj_ok_none, mj_s1, mj_s2, ↓reduceIte, reduceCtorEq, Nat.reduceAdd, Nat.reduceEqDiff, Nat.reduceBEq, Nat.reduceLT, Nat.reduceLeDiff, Nat.reduceMul, Bool.false_eq_true, Bool.not_true, Bool.not_false, Bool.and_true, Bool.true_and, Bool.and_false, Bool.false_and, Bool.or_false, Bool.or_true, Bool.false_or, Bool.true_or, List.getElem?_cons_zero, List.getElem?_cons_succ, List.set_cons_zero, List.set_cons_succ, List.length_cons, List.length_nil, List.filter_cons, List.filter_nil, and_self, and_true, true_and, not_true_eq_false, not_false_eq_true, if_true, if_false, implies_true, forall_const, decide_true, decide_false, beq_self_eq_true, Nat.zero_add, Int32.reduceLT, Int32.reduceLE, Int32.reduceAdd, Int32.reduceSub, Int32.reduceMul, Option.toList_none, Option.toList_some, List.nil_append, List.cons_append, mj_M, id_J9_abs_067f4, Option.map_some, fe_X12_best_0, fe_X12_best_1, fe_X12_best_2, fe_X12_best_3, fe_X12_best_4, fe_X12_best_5, fe_X12_best_6, fe_X12_best_9, fe_X12_best_12, fe_X12_best_13, fe_X12_best_16, fe_X12_best_17, fe_X12_best_18, fe_X12_best_19, fe_X12_best_22, fe_X12_best_25, fe_X12_best_26, fe_X12_best_27, fe_X12_best_30, fe_X12_best_31, fe_X12_best_34, fe_X12_best_35, fe_X12_best_36, fe_X12_best_37, fe_X12_best_40, fe_X12_best_41, fe_X12_best_42, fe_X12_best_45, fe_X12_best_46, fe_X12_best_49, fe_X12_best_50, fe_X12_best_51, fe_X12_best_52, fe_X12_best_55, fe_X12_best_56, fe_X12_best_57, fe_X12_best_60, fe_X12_best_61, fe_X12_best_64, fe_X12_best_65, fe_X12_best_66, fe_X12_best_67, fe_X12_best_70, fe_X12_best_71, fe_X12_best_72, fe_X12_best_75, fe_X12_best_76, fe_X12_best_77, fe_X12_best_80, fe_X12_best_83, fe_X12_best_84, ol_len, og_0, og_1, og_2, og_3, og_4, og_5, og_6, og_7, og_8, og_9, og_10, os_10, og_11, os_11, og_12, os_12, og_13, os_13, og_14, og_15, og_16, og_17, og_18, os_18, og_19, os_19, og_20, os_20, og_21, os_21, og_22, og_23, og_24, og_25, og_26, og_27, os_27, og_28, os_28, og_29, og_30, og_31, os_31, og_32, og_33, os_33, og_34, os_34, og_35, os_35, og_36, os_36, og_37, os_37, og_38, os_38, og_39, os_39, og_40, og_41, og_42, og_43, og_44, og_45, og_46, og_47, og_48, og_49, up_up, up_s, pk_us, pk_un, hO, h21, b4, g2, c1, c2, c3, or_self, nI_1, ci, p1', h1]
        refine mj_rn.drop ?_ (new (hI.new p1 (fun m m1 m2 _ => by
          have := nI_pos (show m < 2 ^ 31 by omega)
          rw [← m2, h1] at this
          exact absurd (by decide) this)))
        intro q hq; simp at hq ⊢; rcases hq with rfl | rfl | rfl | rfl <;> simp <;> rfl
      · have hml : m < A.length := by omega
        obtain ⟨k1, k2, k3, k4⟩ := b5 m hml
        obtain ⟨v1, v2⟩ := hB.2 m hml
        have d1 := nI_pos (show m < 2 ^ 31 by omega)
        have d2 := nI_clamp (show m < 2 ^ 31 by omega)
        have d3 : ¬ 80 ≤ m := by omega
        have nm : ¬ nI m = (-1 : Int32) := fun h => by
          rw [h] at d1
          exact d1 (by decide)
        have hu : ∀ m', m' < i → best = nI m' → m' = m := fun m' h1 h2 => (nI_eq (by omega) (by omega)).mp (h2.symm.trans m2)
        subst m2
        by_cases p2 : (A.getD i z3).1 < (A.getD m z3).1
        · refine mj_rn.go [4] 60 ?_
          simp only [lv_args, Value.category, y_e0, y_e1, y_k1, y_in0, y_in1, y_get, y_li, y_ll, y_la, y_la0, y_inc, y_gc, y_gv, y_pc, y_fitI, y_fitZ, y_fitL, y_fitR, y_fitN, y_len, y_ia, y_ba, y_za, y_la1, y_aa, y_is, y_bs, y_zs, y_ls, y_maxi, y_mini, y_maxl, y_minl, y_absl, y_cpy, y_obj, y_w0, y_w1, y_w2, y_w3, y_w4, x_iconst, x_bipush, x_sipush, x_lconst, x_ldc, x_ldc_w, x_ldc2_w, x_aconst_null, x_iload_n, x_iload, x_lload_n, x_lload, x_aload_n, x_aload, x_istore_n, x_istore, x_lstore_n, x_lstore, x_astore_n, x_astore_n_null, x_astore, x_astore_null, x_iinc, x_dup_int, x_dup_ref, x_dup2, x_pop_int, x_pop_ref, x_goto, x_if_eq, x_icmp_eq, x_if_ne, x_icmp_ne, x_if_lt, x_icmp_lt, x_if_ge, x_icmp_ge, x_if_gt, x_icmp_gt, x_if_le, x_icmp_le, x_ifnull_null, x_ifnull_ref, x_ifnonnull_null, x_ifnonnull_ref, x_tsw, x_lsw, x_iadd, x_isub, x_imul, x_iand, x_ior, x_ishl, x_ishr, x_iushr, x_ladd, x_lsub, x_lmul, x_land, x_lor, x_lxor, x_lshl, x_lshr, x_lushr, x_idiv, x_irem, x_ldiv, x_lrem, x_lcmp, x_i2l, x_l2i, x_i2b, x_lneg, x_getfield, x_putfield, x_arraylength, x_iaload, x_baload, x_laload, x_aaload, x_iastore, x_bastore, x_lastore, x_aastore, x_newarray, x_anewarray, x_new, x_invokevirtual, x_ireturn, x_lreturn, x_areturn, x_return_, x_invokestatic, x_invokespecial, x_invokestatic1, mj_b_some, mj_b_none, mj_b_ite, mj_ok_ite, mj_ok_some, mj_ok_none, mj_s1, mj_s2, ↓reduceIte, reduceCtorEq, Nat.reduceAdd, Nat.reduceEqDiff, Nat.reduceBEq, Nat.reduceLT, Nat.reduceLeDiff, Nat.reduceMul, Bool.false_eq_true, Bool.not_true, Bool.not_false, Bool.and_true, Bool.true_and, Bool.and_false, Bool.false_and, Bool.or_false, Bool.or_true, Bool.false_or, Bool.true_or, List.getElem?_cons_zero, List.getElem?_cons_succ, List.set_cons_zero, List.set_cons_succ, List.length_cons, List.length_nil, List.filter_cons, List.filter_nil, and_self, and_true, true_and, not_true_eq_false, not_false_eq_true, if_true, if_false, implies_true, forall_const, decide_true, decide_false, beq_self_eq_true, Nat.zero_add, Int32.reduceLT, Int32.reduceLE, Int32.reduceAdd, Int32.reduceSub, Int32.reduceMul, Option.toList_none, Option.toList_some, List.nil_append, List.cons_append, mj_M, id_J9_abs_067f4, Option.map_some, fe_X12_best_0, fe_X12_best_1, fe_X12_best_2, fe_X12_best_3, fe_X12_best_4, fe_X12_best_5, fe_X12_best_6, fe_X12_best_9, fe_X12_best_12, fe_X12_best_13, fe_X12_best_16, fe_X12_best_17, fe_X12_best_18, fe_X12_best_19, fe_X12_best_22, fe_X12_best_25, fe_X12_best_26, fe_X12_best_27, fe_X12_best_30, fe_X12_best_31, fe_X12_best_34, fe_X12_best_35, fe_X12_best_36, fe_X12_best_37, fe_X12_best_40, fe_X12_best_41, fe_X12_best_42, fe_X12_best_45, fe_X12_best_46, fe_X12_best_49, fe_X12_best_50, fe_X12_best_51, fe_X12_best_52, fe_X12_best_55, fe_X12_best_56, fe_X12_best_57, fe_X12_best_60, fe_X12_best_61, fe_X12_best_64, fe_X12_best_65, fe_X12_best_66, fe_X12_best_67, fe_X12_best_70, fe_X12_best_71, fe_X12_best_72, fe_X12_best_75, fe_X12_best_76, fe_X12_best_77, fe_X12_best_80, fe_X12_best_83, fe_X12_best_84, ol_len, og_0, og_1, og_2, og_3, og_4, og_5, og_6, og_7, og_8, og_9, og_10, os_10, og_11, os_11, og_12, os_12, og_13, os_13, og_14, og_15, og_16, og_17, og_18, os_18, og_19, os_19, og_20, os_20, og_21, os_21, og_22, og_23, og_24, og_25, og_26, og_27, os_27, og_28, os_28, og_29, og_30, og_31, os_31, og_32, og_33, os_33, og_34, os_34, og_35, os_35, og_36, os_36, og_37, os_37, og_38, os_38, og_39, os_39, og_40, og_41, og_42, og_43, og_44, og_45, og_46, og_47, og_48, og_49, up_up, up_s, pk_us, pk_un, hO, h21, b3, b4, g1, g2, k1, k2, c1, c2, c3, d1, d2, d3, or_self, nI_1, ci, p1', nm, nI_lt p2 (show (A.getD m z3).1 < 2 ^ 31 by omega)]
          refine mj_rn.drop ?_ (new (hI.new p1 (fun m' h1 h2 _ => by rw [hu m' h1 h2]; exact Or.inl p2)))
          intro q hq; simp at hq ⊢; rcases hq with rfl | rfl | rfl | rfl <;> simp <;> rfl
        · have p2' : ¬ nI (A.getD i z3).1 < nI (A.getD m z3).1 := nI_nlt (by omega) (by omega)
          by_cases p3 : (A.getD i z3).1 = (A.getD m z3).1
          · have p3' : (nI (A.getD i z3).1 = nI (A.getD m z3).1) = True := eq_true (by rw [p3])
            by_cases p4 : (A.getD i z3).2.1 < (A.getD m z3).2.1
            · refine mj_rn.go [4] 60 ?_
              simp only [lv_args, Value.category, y_e0, y_e1, y_k1, y_in0, y_in1, y_get, y_li, y_ll, y_la, y_la0, y_inc, y_gc, y_gv, y_pc, y_fitI, y_fitZ, y_fitL, y_fitR, y_fitN, y_len, y_ia, y_ba, y_za, y_la1, y_aa, y_is, y_bs, y_zs, y_ls, y_maxi, y_mini, y_maxl, y_minl, y_absl, y_cpy, y_obj, y_w0, y_w1, y_w2, y_w3, y_w4, x_iconst, x_bipush, x_sipush, x_lconst, x_ldc, x_ldc_w, x_ldc2_w, x_aconst_null, x_iload_n, x_iload, x_lload_n, x_lload, x_aload_n, x_aload, x_istore_n, x_istore, x_lstore_n, x_lstore, x_astore_n, x_astore_n_null, x_astore, x_astore_null, x_iinc, x_dup_int, x_dup_ref, x_dup2, x_pop_int, x_pop_ref, x_goto, x_if_eq, x_icmp_eq, x_if_ne, x_icmp_ne, x_if_lt, x_icmp_lt, x_if_ge, x_icmp_ge, x_if_gt, x_icmp_gt, x_if_le, x_icmp_le, x_ifnull_null, x_ifnull_ref, x_ifnonnull_null, x_ifnonnull_ref, x_tsw, x_lsw, x_iadd, x_isub, x_imul, x_iand, x_ior, x_ishl, x_ishr, x_iushr, x_ladd, x_lsub, x_lmul, x_land, x_lor, x_lxor, x_lshl, x_lshr, x_lushr, x_idiv, x_irem, x_ldiv, x_lrem, x_lcmp, x_i2l, x_l2i, x_i2b, x_lneg, x_getfield, x_putfield, x_arraylength, x_iaload, x_baload, x_laload, x_aaload, x_iastore, x_bastore, x_lastore, x_aastore, x_newarray, x_anewarray, x_new, x_invokevirtual, x_ireturn, x_lreturn, x_areturn, x_return_, x_invokestatic, x_invokespecial, x_invokestatic1, mj_b_some, mj_b_none, mj_b_ite, mj_ok_ite, mj_ok_some, mj_ok_none, mj_s1, mj_s2, ↓reduceIte, reduceCtorEq, Nat.reduceAdd, Nat.reduceEqDiff, Nat.reduceBEq, Nat.reduceLT, Nat.reduceLeDiff, Nat.reduceMul, Bool.false_eq_true, Bool.not_true, Bool.not_false, Bool.and_true, Bool.true_and, Bool.and_false, Bool.false_and, Bool.or_false, Bool.or_true, Bool.false_or, Bool.true_or, List.getElem?_cons_zero, List.getElem?_cons_succ, List.set_cons_zero, List.set_cons_succ, List.length_cons, List.length_nil, List.filter_cons, List.filter_nil, and_self, and_true, true_and, not_true_eq_false, not_false_eq_true, if_true, if_false, implies_true, forall_const, decide_true, decide_false, beq_self_eq_true, Nat.zero_add, Int32.reduceLT, Int32.reduceLE, Int32.reduceAdd, Int32.reduceSub, Int32.reduceMul, Option.toList_none, Option.toList_some, List.nil_append, List.cons_append, mj_M, id_J9_abs_067f4, Option.map_some, fe_X12_best_0, fe_X12_best_1, fe_X12_best_2, fe_X12_best_3, fe_X12_best_4, fe_X12_best_5, fe_X12_best_6, fe_X12_best_9, fe_X12_best_12, fe_X12_best_13, fe_X12_best_16, fe_X12_best_17, fe_X12_best_18, fe_X12_best_19, fe_X12_best_22, fe_X12_best_25, fe_X12_best_26, fe_X12_best_27, fe_X12_best_30, fe_X12_best_31, fe_X12_best_34, fe_X12_best_35, fe_X12_best_36, fe_X12_best_37, fe_X12_best_40, fe_X12_best_41, fe_X12_best_42, fe_X12_best_45, fe_X12_best_46, fe_X12_best_49, fe_X12_best_50, fe_X12_best_51, fe_X12_best_52, fe_X12_best_55, fe_X12_best_56, fe_X12_best_57, fe_X12_best_60, fe_X12_best_61, fe_X12_best_64, fe_X12_best_65, fe_X12_best_66, fe_X12_best_67, fe_X12_best_70, fe_X12_best_71, fe_X12_best_72, fe_X12_best_75, fe_X12_best_76, fe_X12_best_77, fe_X12_best_80, fe_X12_best_83, fe_X12_best_84, ol_len, og_0, og_1, og_2, og_3, og_4, og_5, og_6, og_7, og_8, og_9, og_10, os_10, og_11, os_11, og_12, os_12, og_13, os_13, og_14, og_15, og_16, og_17, og_18, os_18, og_19, os_19, og_20, os_20, og_21, os_21, og_22, og_23, og_24, og_25, og_26, og_27, os_27, og_28, os_28, og_29, og_30, og_31, os_31, og_32, og_33, os_33, og_34, os_34, og_35, os_35, og_36, os_36, og_37, os_37, og_38, os_38, og_39, os_39, og_40, og_41, og_42, og_43, og_44, og_45, og_46, og_47, og_48, og_49, up_up, up_s, pk_us, pk_un, hO, h21, b3, b4, g1, g2, k1, k2, c1, c2, c3, d1, d2, d3, or_self, nI_1, ci, p1', nm, p2', p3', not_true_eq_false, nI_ge p4 (show (A.getD m z3).2.1 < 2 ^ 31 by omega)]
              refine mj_rn.drop ?_ (new (hI.new p1 (fun m' h1 h2 _ => by rw [hu m' h1 h2]; exact Or.inr ⟨p3, p4⟩)))
              intro q hq; simp at hq ⊢; rcases hq with rfl | rfl | rfl | rfl <;> simp <;> rfl
            · refine mj_rn.go [4] 60 ?_
              simp only [lv_args, Value.category, y_e0, y_e1, y_k1, y_in0, y_in1, y_get, y_li, y_ll, y_la, y_la0, y_inc, y_gc, y_gv, y_pc, y_fitI, y_fitZ, y_fitL, y_fitR, y_fitN, y_len, y_ia, y_ba, y_za, y_la1, y_aa, y_is, y_bs, y_zs, y_ls, y_maxi, y_mini, y_maxl, y_minl, y_absl, y_cpy, y_obj, y_w0, y_w1, y_w2, y_w3, y_w4, x_iconst, x_bipush, x_sipush, x_lconst, x_ldc, x_ldc_w, x_ldc2_w, x_aconst_null, x_iload_n, x_iload, x_lload_n, x_lload, x_aload_n, x_aload, x_istore_n, x_istore, x_lstore_n, x_lstore, x_astore_n, x_astore_n_null, x_astore, x_astore_null, x_iinc, x_dup_int, x_dup_ref, x_dup2, x_pop_int, x_pop_ref, x_goto, x_if_eq, x_icmp_eq, x_if_ne, x_icmp_ne, x_if_lt, x_icmp_lt, x_if_ge, x_icmp_ge, x_if_gt, x_icmp_gt, x_if_le, x_icmp_le, x_ifnull_null, x_ifnull_ref, x_ifnonnull_null, x_ifnonnull_ref, x_tsw, x_lsw, x_iadd, x_isub, x_imul, x_iand, x_ior, x_ishl, x_ishr, x_iushr, x_ladd, x_lsub, x_lmul, x_land, x_lor, x_lxor, x_lshl, x_lshr, x_lushr, x_idiv, x_irem, x_ldiv, x_lrem, x_lcmp, x_i2l, x_l2i, x_i2b, x_lneg, x_getfield, x_putfield, x_arraylength, x_iaload, x_baload, x_laload, x_aaload, x_iastore, x_bastore, x_lastore, x_aastore, x_newarray, x_anewarray, x_new, x_invokevirtual, x_ireturn, x_lreturn, x_areturn, x_return_, x_invokestatic, x_invokespecial, x_invokestatic1, mj_b_some, mj_b_none, mj_b_ite, mj_ok_ite, mj_ok_some, mj_ok_none, mj_s1, mj_s2, ↓reduceIte, reduceCtorEq, Nat.reduceAdd, Nat.reduceEqDiff, Nat.reduceBEq, Nat.reduceLT, Nat.reduceLeDiff, Nat.reduceMul, Bool.false_eq_true, Bool.not_true, Bool.not_false, Bool.and_true, Bool.true_and, Bool.and_false, Bool.false_and, Bool.or_false, Bool.or_true, Bool.false_or, Bool.true_or, List.getElem?_cons_zero, List.getElem?_cons_succ, List.set_cons_zero, List.set_cons_succ, List.length_cons, List.length_nil, List.filter_cons, List.filter_nil, and_self, and_true, true_and, not_true_eq_false, not_false_eq_true, if_true, if_false, implies_true, forall_const, decide_true, decide_false, beq_self_eq_true, Nat.zero_add, Int32.reduceLT, Int32.reduceLE, Int32.reduceAdd, Int32.reduceSub, Int32.reduceMul, Option.toList_none, Option.toList_some, List.nil_append, List.cons_append, mj_M, id_J9_abs_067f4, Option.map_some, fe_X12_best_0, fe_X12_best_1, fe_X12_best_2, fe_X12_best_3, fe_X12_best_4, fe_X12_best_5, fe_X12_best_6, fe_X12_best_9, fe_X12_best_12, fe_X12_best_13, fe_X12_best_16, fe_X12_best_17, fe_X12_best_18, fe_X12_best_19, fe_X12_best_22, fe_X12_best_25, fe_X12_best_26, fe_X12_best_27, fe_X12_best_30, fe_X12_best_31, fe_X12_best_34, fe_X12_best_35, fe_X12_best_36, fe_X12_best_37, fe_X12_best_40, fe_X12_best_41, fe_X12_best_42, fe_X12_best_45, fe_X12_best_46, fe_X12_best_49, fe_X12_best_50, fe_X12_best_51, fe_X12_best_52, fe_X12_best_55, fe_X12_best_56, fe_X12_best_57, fe_X12_best_60, fe_X12_best_61, fe_X12_best_64, fe_X12_best_65, fe_X12_best_66, fe_X12_best_67, fe_X12_best_70, fe_X12_best_71, fe_X12_best_72, fe_X12_best_75, fe_X12_best_76, fe_X12_best_77, fe_X12_best_80, fe_X12_best_83, fe_X12_best_84, ol_len, og_0, og_1, og_2, og_3, og_4, og_5, og_6, og_7, og_8, og_9, og_10, os_10, og_11, os_11, og_12, os_12, og_13, os_13, og_14, og_15, og_16, og_17, og_18, os_18, og_19, os_19, og_20, os_20, og_21, os_21, og_22, og_23, og_24, og_25, og_26, og_27, os_27, og_28, os_28, og_29, og_30, og_31, os_31, og_32, og_33, os_33, og_34, os_34, og_35, os_35, og_36, os_36, og_37, os_37, og_38, os_38, og_39, os_39, og_40, og_41, og_42, og_43, og_44, og_45, og_46, og_47, og_48, og_49, up_up, up_s, pk_us, pk_un, hO, h21, b3, b4, g1, g2, k1, k2, c1, c2, c3, d1, d2, d3, or_self, nI_1, ci, p1', nm, p2', p3', not_true_eq_false, nI_le (show (A.getD m z3).2.1 ≤ (A.getD i z3).2.1 by omega) (show (A.getD i z3).2.1 < 2 ^ 31 by omega)]
              refine mj_rn.drop ?_ (keep (hI.keep (by omega) rfl (by omega) (Or.inr ⟨p3.symm, by omega⟩)))
              intro q hq; simp at hq ⊢; rcases hq with rfl | rfl | rfl | rfl <;> simp <;> rfl
          · have p3' : ¬ nI (A.getD i z3).1 = nI (A.getD m z3).1 := fun h => p3 ((nI_eq (by omega) (by omega)).mp h)
            refine mj_rn.go [4] 60 ?_
            simp only [lv_args, Value.category, y_e0, y_e1, y_k1, y_in0, y_in1, y_get, y_li, y_ll, y_la, y_la0, y_inc, y_gc, y_gv, y_pc, y_fitI, y_fitZ, y_fitL, y_fitR, y_fitN, y_len, y_ia, y_ba, y_za, y_la1, y_aa, y_is, y_bs, y_zs, y_ls, y_maxi, y_mini, y_maxl, y_minl, y_absl, y_cpy, y_obj, y_w0, y_w1, y_w2, y_w3, y_w4, x_iconst, x_bipush, x_sipush, x_lconst, x_ldc, x_ldc_w, x_ldc2_w, x_aconst_null, x_iload_n, x_iload, x_lload_n, x_lload, x_aload_n, x_aload, x_istore_n, x_istore, x_lstore_n, x_lstore, x_astore_n, x_astore_n_null, x_astore, x_astore_null, x_iinc, x_dup_int, x_dup_ref, x_dup2, x_pop_int, x_pop_ref, x_goto, x_if_eq, x_icmp_eq, x_if_ne, x_icmp_ne, x_if_lt, x_icmp_lt, x_if_ge, x_icmp_ge, x_if_gt, x_icmp_gt, x_if_le, x_icmp_le, x_ifnull_null, x_ifnull_ref, x_ifnonnull_null, x_ifnonnull_ref, x_tsw, x_lsw, x_iadd, x_isub, x_imul, x_iand, x_ior, x_ishl, x_ishr, x_iushr, x_ladd, x_lsub, x_lmul, x_land, x_lor, x_lxor, x_lshl, x_lshr, x_lushr, x_idiv, x_irem, x_ldiv, x_lrem, x_lcmp, x_i2l, x_l2i, x_i2b, x_lneg, x_getfield, x_putfield, x_arraylength, x_iaload, x_baload, x_laload, x_aaload, x_iastore, x_bastore, x_lastore, x_aastore, x_newarray, x_anewarray, x_new, x_invokevirtual, x_ireturn, x_lreturn, x_areturn, x_return_, x_invokestatic, x_invokespecial, x_invokestatic1, mj_b_some, mj_b_none, mj_b_ite, mj_ok_ite, mj_ok_some, mj_ok_none, mj_s1, mj_s2, ↓reduceIte, reduceCtorEq, Nat.reduceAdd, Nat.reduceEqDiff, Nat.reduceBEq, Nat.reduceLT, Nat.reduceLeDiff, Nat.reduceMul, Bool.false_eq_true, Bool.not_true, Bool.not_false, Bool.and_true, Bool.true_and, Bool.and_false, Bool.false_and, Bool.or_false, Bool.or_true, Bool.false_or, Bool.true_or, List.getElem?_cons_zero, List.getElem?_cons_succ, List.set_cons_zero, List.set_cons_succ, List.length_cons, List.length_nil, List.filter_cons, List.filter_nil, and_self, and_true, true_and, not_true_eq_false, not_false_eq_true, if_true, if_false, implies_true, forall_const, decide_true, decide_false, beq_self_eq_true, Nat.zero_add, Int32.reduceLT, Int32.reduceLE, Int32.reduceAdd, Int32.reduceSub, Int32.reduceMul, Option.toList_none, Option.toList_some, List.nil_append, List.cons_append, mj_M, id_J9_abs_067f4, Option.map_some, fe_X12_best_0, fe_X12_best_1, fe_X12_best_2, fe_X12_best_3, fe_X12_best_4, fe_X12_best_5, fe_X12_best_6, fe_X12_best_9, fe_X12_best_12, fe_X12_best_13, fe_X12_best_16, fe_X12_best_17, fe_X12_best_18, fe_X12_best_19, fe_X12_best_22, fe_X12_best_25, fe_X12_best_26, fe_X12_best_27, fe_X12_best_30, fe_X12_best_31, fe_X12_best_34, fe_X12_best_35, fe_X12_best_36, fe_X12_best_37, fe_X12_best_40, fe_X12_best_41, fe_X12_best_42, fe_X12_best_45, fe_X12_best_46, fe_X12_best_49, fe_X12_best_50, fe_X12_best_51, fe_X12_best_52, fe_X12_best_55, fe_X12_best_56, fe_X12_best_57, fe_X12_best_60, fe_X12_best_61, fe_X12_best_64, fe_X12_best_65, fe_X12_best_66, fe_X12_best_67, fe_X12_best_70, fe_X12_best_71, fe_X12_best_72, fe_X12_best_75, fe_X12_best_76, fe_X12_best_77, fe_X12_best_80, fe_X12_best_83, fe_X12_best_84, ol_len, og_0, og_1, og_2, og_3, og_4, og_5, og_6, og_7, og_8, og_9, og_10, os_10, og_11, os_11, og_12, os_12, og_13, os_13, og_14, og_15, og_16, og_17, og_18, os_18, og_19, os_19, og_20, os_20, og_21, os_21, og_22, og_23, og_24, og_25, og_26, og_27, os_27, og_28, os_28, og_29, og_30, og_31, os_31, og_32, og_33, os_33, og_34, os_34, og_35, os_35, og_36, os_36, og_37, os_37, og_38, os_38, og_39, os_39, og_40, og_41, og_42, og_43, og_44, og_45, og_46, og_47, og_48, og_49, up_up, up_s, pk_us, pk_un, hO, h21, b3, b4, g1, g2, k1, k2, c1, c2, c3, d1, d2, d3, or_self, nI_1, ci, p1', nm, p2', p3', not_false_eq_true]
            refine mj_rn.drop ?_ (keep (hI.keep (by omega) rfl (by omega) (Or.inl (by omega))))
            intro q hq; simp at hq ⊢; rcases hq with rfl | rfl | rfl | rfl <;> simp <;> rfl
    · refine mj_rn.go [4] 60 ?_
      simp only [lv_args, Value.category, y_e0, y_e1, y_k1, y_in0, y_in1, y_get, y_li, y_ll, y_la, y_la0, y_inc, y_gc, y_gv, y_pc, y_fitI, y_fitZ, y_fitL, y_fitR, y_fitN, y_len, y_ia, y_ba, y_za, y_la1, y_aa, y_is, y_bs, y_zs, y_ls, y_maxi, y_mini, y_maxl, y_minl, y_absl, y_cpy, y_obj, y_w0, y_w1, y_w2, y_w3, y_w4, x_iconst, x_bipush, x_sipush, x_lconst, x_ldc, x_ldc_w, x_ldc2_w, x_aconst_null, x_iload_n, x_iload, x_lload_n, x_lload, x_aload_n, x_aload, x_istore_n, x_istore, x_lstore_n, x_lstore, x_astore_n, x_astore_n_null, x_astore, x_astore_null, x_iinc, x_dup_int, x_dup_ref, x_dup2, x_pop_int, x_pop_ref, x_goto, x_if_eq, x_icmp_eq, x_if_ne, x_icmp_ne, x_if_lt, x_icmp_lt, x_if_ge, x_icmp_ge, x_if_gt, x_icmp_gt, x_if_le, x_icmp_le, x_ifnull_null, x_ifnull_ref, x_ifnonnull_null, x_ifnonnull_ref, x_tsw, x_lsw, x_iadd, x_isub, x_imul, x_iand, x_ior, x_ishl, x_ishr, x_iushr, x_ladd, x_lsub, x_lmul, x_land, x_lor, x_lxor, x_lshl, x_lshr, x_lushr, x_idiv, x_irem, x_ldiv, x_lrem, x_lcmp, x_i2l, x_l2i, x_i2b, x_lneg, x_getfield, x_putfield, x_arraylength, x_iaload, x_baload, x_laload, x_aaload, x_iastore, x_bastore, x_lastore, x_aastore, x_newarray, x_anewarray, x_new, x_invokevirtual, x_ireturn, x_lreturn, x_areturn, x_return_, x_invokestatic, x_invokespecial, x_invokestatic1, mj_b_some, mj_b_none, mj_b_ite, mj_ok_ite, mj_ok_some, mj_ok_none, mj_s1, mj_s2, ↓reduceIte, reduceCtorEq, Nat.reduceAdd, Nat.reduceEqDiff, Nat.reduceBEq, Nat.reduceLT, Nat.reduceLeDiff, Nat.reduceMul, Bool.false_eq_true, Bool.not_true, Bool.not_false, Bool.and_true, Bool.true_and, Bool.and_false, Bool.false_and, Bool.or_false, Bool.or_true, Bool.false_or, Bool.true_or, List.getElem?_cons_zero, List.getElem?_cons_succ, List.set_cons_zero, List.set_cons_succ, List.length_cons, List.length_nil, List.filter_cons, List.filter_nil, and_self, and_true, true_and, not_true_eq_false, not_false_eq_true, if_true, if_false, implies_true, forall_const, decide_true, decide_false, beq_self_eq_true, Nat.zero_add, Int32.reduceLT, Int32.reduceLE, Int32.reduceAdd, Int32.reduceSub, Int32.reduceMul, Option.toList_none, Option.toList_some, List.nil_append, List.cons_append, mj_M, id_J9_abs_067f4, Option.map_some, fe_X12_best_0, fe_X12_best_1, fe_X12_best_2, fe_X12_best_3, fe_X12_best_4, fe_X12_best_5, fe_X12_best_6, fe_X12_best_9, fe_X12_best_12, fe_X12_best_13, fe_X12_best_16, fe_X12_best_17, fe_X12_best_18, fe_X12_best_19, fe_X12_best_22, fe_X12_best_25, fe_X12_best_26, fe_X12_best_27, fe_X12_best_30, fe_X12_best_31, fe_X12_best_34, fe_X12_best_35, fe_X12_best_36, fe_X12_best_37, fe_X12_best_40, fe_X12_best_41, fe_X12_best_42, fe_X12_best_45, fe_X12_best_46, fe_X12_best_49, fe_X12_best_50, fe_X12_best_51, fe_X12_best_52, fe_X12_best_55, fe_X12_best_56, fe_X12_best_57, fe_X12_best_60, fe_X12_best_61, fe_X12_best_64, fe_X12_best_65, fe_X12_best_66, fe_X12_best_67, fe_X12_best_70, fe_X12_best_71, fe_X12_best_72, fe_X12_best_75, fe_X12_best_76, fe_X12_best_77, fe_X12_best_80, fe_X12_best_83, fe_X12_best_84, ol_len, og_0, og_1, og_2, og_3, og_4, og_5, og_6, og_7, og_8, og_9, og_10, os_10, og_11, os_11, og_12, os_12, og_13, os_13, og_14, og_15, og_16, og_17, og_18, os_18, og_19, os_19, og_20, os_20, og_21, os_21, og_22, og_23, og_24, og_25, og_26, og_27, os_27, og_28, os_28, og_29, og_30, og_31, os_31, og_32, og_33, os_33, og_34, os_34, og_35, os_35, og_36, os_36, og_37, os_37, og_38, os_38, og_39, os_39, og_40, og_41, og_42, og_43, og_44, og_45, og_46, og_47, og_48, og_49, up_up, up_s, pk_us, pk_un, hO, h21, b4, g2, c1, c2, c3, or_self, nI_1, ci, show ¬ nI (A.getD i z3).2.1 ≤ nI lim from nI_ge (by omega) (by omega)]
      refine mj_rn.drop ?_ (lp_X12_best hlim hB hex hO hY hQ r (i + 1) best (by omega) (hI.skip (by omega)))
      intro q hq; simp at hq ⊢; rcases hq with rfl | rfl | rfl | rfl <;> simp <;> rfl
theorem wp_X12_best {d t N sl : Nat} {hp : Nat → MC} {Q : Option Value → MH → Prop} {c : Nat → Int32} {b : Int64} {A : List N3} {lim : Nat} (hlim : lim < 2 ^ 20) (hB : NB A) (hex : ∃ y ∈ A, y.2.1 ≤ lim) (hO : hp t = .inr (12, obL t c b)) (hY : WyM hp t c A) (hQ : ∀ m, m < A.length → IsBest A lim (A.getD m z3) → Q (some (.int (nI m))) (N, sl, hp)) : mj_wp (d + 1) id_X12_best [.ref t, .int (nI lim)] (N, sl, hp) Q := by
  refine mj_wp.of mt_X12_best ?_
  have key := lp_X12_best (d := d) hlim hB hex hO hY hQ A.length 0 (-1) (by omega) BkI.zero
  rw [show nI 0 = (0 : Int32) from rfl] at key
  refine mj_rn.go [4] 60 ?_
  simp only [lv_args, Value.category, y_e0, y_e1, y_k1, y_in0, y_in1, y_get, y_li, y_ll, y_la, y_la0, y_inc, y_gc, y_gv, y_pc, y_fitI, y_fitZ, y_fitL, y_fitR, y_fitN, y_len, y_ia, y_ba, y_za, y_la1, y_aa, y_is, y_bs, y_zs, y_ls, y_maxi, y_mini, y_maxl, y_minl, y_absl, y_cpy, y_obj, y_w0, y_w1, y_w2, y_w3, y_w4, x_iconst, x_bipush, x_sipush, x_lconst, x_ldc, x_ldc_w, x_ldc2_w, x_aconst_null, x_iload_n, x_iload, x_lload_n, x_lload, x_aload_n, x_aload, x_istore_n, x_istore, x_lstore_n, x_lstore, x_astore_n, x_astore_n_null, x_astore, x_astore_null, x_iinc, x_dup_int, x_dup_ref, x_dup2, x_pop_int, x_pop_ref, x_goto, x_if_eq, x_icmp_eq, x_if_ne, x_icmp_ne, x_if_lt, x_icmp_lt, x_if_ge, x_icmp_ge, x_if_gt, x_icmp_gt, x_if_le, x_icmp_le, x_ifnull_null, x_ifnull_ref, x_ifnonnull_null, x_ifnonnull_ref, x_tsw, x_lsw, x_iadd, x_isub, x_imul, x_iand, x_ior, x_ishl, x_ishr, x_iushr, x_ladd, x_lsub, x_lmul, x_land, x_lor, x_lxor, x_lshl, x_lshr, x_lushr, x_idiv, x_irem, x_ldiv, x_lrem, x_lcmp, x_i2l, x_l2i, x_i2b, x_lneg, x_getfield, x_putfield, x_arraylength, x_iaload, x_baload, x_laload, x_aaload, x_iastore, x_bastore, x_lastore, x_aastore, x_newarray, x_anewarray, x_new, x_invokevirtual, x_ireturn, x_lreturn, x_areturn, x_return_, x_invokestatic, x_invokespecial, x_invokestatic1, mj_b_some, mj_b_none, mj_b_ite, mj_ok_ite, mj_ok_some, mj_ok_none, mj_s1, mj_s2, ↓reduceIte, reduceCtorEq, Nat.reduceAdd, Nat.reduceEqDiff, Nat.reduceBEq, Nat.reduceLT, Nat.reduceLeDiff, Nat.reduceMul, Bool.false_eq_true, Bool.not_true, Bool.not_false, Bool.and_true, Bool.true_and, Bool.and_false, Bool.false_and, Bool.or_false, Bool.or_true, Bool.false_or, Bool.true_or, List.getElem?_cons_zero, List.getElem?_cons_succ, List.set_cons_zero, List.set_cons_succ, List.length_cons, List.length_nil, List.filter_cons, List.filter_nil, and_self, and_true, true_and, not_true_eq_false, not_false_eq_true, if_true, if_false, implies_true, forall_const, decide_true, decide_false, beq_self_eq_true, Nat.zero_add, Int32.reduceLT, Int32.reduceLE, Int32.reduceAdd, Int32.reduceSub, Int32.reduceMul, Option.toList_none, Option.toList_some, List.nil_append, List.cons_append, mj_M, id_J9_abs_067f4, Option.map_some, fe_X12_best_0, fe_X12_best_1, fe_X12_best_2, fe_X12_best_3, fe_X12_best_4, fe_X12_best_5, fe_X12_best_6, fe_X12_best_9, fe_X12_best_12, fe_X12_best_13, fe_X12_best_16, fe_X12_best_17, fe_X12_best_18, fe_X12_best_19, fe_X12_best_22, fe_X12_best_25, fe_X12_best_26, fe_X12_best_27, fe_X12_best_30, fe_X12_best_31, fe_X12_best_34, fe_X12_best_35, fe_X12_best_36, fe_X12_best_37, fe_X12_best_40, fe_X12_best_41, fe_X12_best_42, fe_X12_best_45, fe_X12_best_46, fe_X12_best_49, fe_X12_best_50, fe_X12_best_51, fe_X12_best_52, fe_X12_best_55, fe_X12_best_56, fe_X12_best_57, fe_X12_best_60, fe_X12_best_61, fe_X12_best_64, fe_X12_best_65, fe_X12_best_66, fe_X12_best_67, fe_X12_best_70, fe_X12_best_71, fe_X12_best_72, fe_X12_best_75, fe_X12_best_76, fe_X12_best_77, fe_X12_best_80, fe_X12_best_83, fe_X12_best_84]
  refine mj_rn.drop ?_ key
  intro q hq; simp at hq ⊢; rcases hq with rfl | rfl | rfl | rfl <;> simp <;> rfl
