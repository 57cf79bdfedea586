/-! bits in rows of bytes -/
def bit (bs : List Nat) (j : Nat) : Bool := (bs.getD (j / 8) 0).testBit (j % 8)
theorem getD_set {l : List Nat} {c x k : Nat} (h : c < l.length) : (l.set c x).getD k 0 = if k = c then x else l.getD k 0 := by
  rw [List.getD_eq_getElem?_getD, List.getElem?_set]
  by_cases e : c = k
  · subst e
    simp [h]
  · rw [if_neg e, if_neg (fun q => e q.symm), ← List.getD_eq_getElem?_getD]
theorem bit_ext {a b : List Nat} (hl : a.length = b.length) (ha : ∀ x ∈ a, x < 256) (hb : ∀ x ∈ b, x < 256) (h : ∀ j, bit a j = bit b j) : a = b := by
  apply List.ext_getElem hl
  intro i h1 h2
  apply Nat.eq_of_testBit_eq
  intro k
  have e1 : a.getD i 0 = a[i] := by rw [List.getD_eq_getElem?_getD, List.getElem?_eq_getElem h1]; rfl
  have e2 : b.getD i 0 = b[i] := by rw [List.getD_eq_getElem?_getD, List.getElem?_eq_getElem h2]; rfl
  by_cases hk : k < 8
  · have := h (8 * i + k)
    unfold bit at this
    rw [show (8 * i + k) / 8 = i by omega, show (8 * i + k) % 8 = k by omega, e1, e2] at this
    exact this
  · have g : ∀ x, x < 256 → x.testBit k = false := fun x hx => Nat.testBit_lt_two_pow (Nat.lt_of_lt_of_le hx (show 2 ^ 8 ≤ 2 ^ k from Nat.pow_le_pow_right (by decide) (by omega)))
    rw [g _ (ha _ (List.getElem_mem h1)), g _ (hb _ (List.getElem_mem h2))]
theorem bit_part {B dn f s i : Nat} (hs : s + f ≤ 8) (hi : i < 8) : ((B / 2 ^ dn % 2 ^ f) * 2 ^ s).testBit i = (decide (s ≤ i) && decide (i < s + f) && B.testBit (dn + (i - s))) := by
  rw [Nat.testBit_mul_two_pow, Nat.testBit_mod_two_pow, Nat.testBit_div_two_pow]
  by_cases h1 : s ≤ i
  · by_cases h2 : i < s + f
    · rw [decide_eq_true h1, decide_eq_true h2, decide_eq_true (show i - s < f by omega), Nat.add_comm (i - s) dn]; rfl
    · rw [decide_eq_true h1, decide_eq_false h2, decide_eq_false (show ¬ i - s < f by omega)]; rfl
  · rw [decide_eq_false h1]
    simp
theorem bit_chunk {bs : List Nat} {F dn f c s B : Nat} (hc : c < bs.length) (e : F + dn = 8 * c + s) (hs : s + f ≤ 8) (j : Nat) : bit (bs.set c (bs.getD c 0 ||| (B / 2 ^ dn % 2 ^ f) * 2 ^ s)) j = (bit bs j || (decide (F + dn ≤ j) && decide (j < F + dn + f) && B.testBit (j - F))) := by
  unfold bit
  rw [getD_set hc]
  by_cases h : j / 8 = c
  · rw [if_pos h, Nat.testBit_or, bit_part hs (Nat.mod_lt _ (by decide)), h]
    congr 1
    by_cases h1 : F + dn ≤ j
    · rw [decide_eq_true h1, decide_eq_true (show s ≤ j % 8 by omega)]
      by_cases h2 : j < F + dn + f
      · rw [decide_eq_true h2, decide_eq_true (show j % 8 < s + f by omega), show dn + (j % 8 - s) = j - F by omega]
      · rw [decide_eq_false h2, decide_eq_false (show ¬ j % 8 < s + f by omega)]; rfl
    · rw [decide_eq_false h1, decide_eq_false (show ¬ s ≤ j % 8 by omega)]
      simp
  · rw [if_neg h]
    by_cases h1 : F + dn ≤ j
    · by_cases h2 : j < F + dn + f
      · omega
      · rw [decide_eq_false h2]; simp
    · rw [decide_eq_false h1]; simp
/-- the number of w bits at a place -/
def bitsN (bs : List Nat) (F : Nat) : Nat → Nat
  | 0 => 0
  | w + 1 => bitsN bs F w + if bit bs (F + w) = true then 2 ^ w else 0
theorem bitsN_lt (bs : List Nat) (F : Nat) : ∀ w, bitsN bs F w < 2 ^ w
  | 0 => Nat.lt_succ_self 0
  | w + 1 => by
    have := bitsN_lt bs F w
    unfold bitsN
    rw [Nat.pow_succ]
    split <;> omega
theorem bitsN_test (bs : List Nat) (F k : Nat) : ∀ w, (bitsN bs F w).testBit k = (decide (k < w) && bit bs (F + k))
  | 0 => by simp [bitsN]
  | w + 1 => by
    have h1 := bitsN_lt bs F w
    have ih := bitsN_test bs F k w
    unfold bitsN
    by_cases hb : bit bs (F + w) = true
    · rw [if_pos hb, Nat.add_comm (bitsN bs F w)]
      by_cases hk : k = w
      · subst hk
        rw [Nat.testBit_two_pow_add_eq, Nat.testBit_lt_two_pow h1, hb]
        simp
      · rcases Nat.lt_or_ge k w with q | q
        · rw [Nat.testBit_two_pow_add_gt q, ih, decide_eq_true q, decide_eq_true (show k < w + 1 by omega)]
        · have h2 : 2 ^ w + bitsN bs F w < 2 ^ k := Nat.lt_of_lt_of_le (show _ < 2 ^ (w + 1) by rw [Nat.pow_succ]; omega) (Nat.pow_le_pow_right (by decide) (by omega))
          rw [Nat.testBit_lt_two_pow h2, decide_eq_false (show ¬ k < w + 1 by omega)]
          simp
    · rw [if_neg hb, Nat.add_zero, ih]
      by_cases hk : k = w
      · subst hk
        rw [decide_eq_false (Nat.lt_irrefl k)]
        simp [hb]
      · rw [show decide (k < w) = decide (k < w + 1) by
          rcases Nat.lt_or_ge k w with q | q
          · rw [decide_eq_true q, decide_eq_true (show k < w + 1 by omega)]
          · rw [decide_eq_false (by omega), decide_eq_false (by omega)]]
theorem ish1 : ∀ f, f < 9 → (1 : Int32) <<< (nI f &&& 31) - 1 = nI (2 ^ f - 1) := by decide
theorem nI_mask {f : Nat} (hf : f < 9) : (nI (2 ^ f - 1)).toBitVec.toNat = 2 ^ f - 1 := pk_tn (by have : 2 ^ f ≤ 2 ^ 8 := Nat.pow_le_pow_right (by decide) (by omega); omega)
theorem ishl_s {p s : Nat} (hs : s < 8) (hp : p * 2 ^ s < 2 ^ 32) : nI p <<< (nI s &&& 31) = nI (p * 2 ^ s) := pk_shlN _ s (s_l s (by omega)) hp
/-- what comes of laying w bits of B from the bit F on -/
def laid (bs bs' : List Nat) (F w B : Nat) : Prop := bs'.length = bs.length ∧ ∀ j, bit bs' j = (bit bs j || (decide (F ≤ j) && decide (j < F + w) && decide (j < 8 * bs.length) && B.testBit (j - F)))
theorem laid.z {bs : List Nat} {F B : Nat} : laid bs bs F 0 B := ⟨rfl, fun j => by
  by_cases h1 : F ≤ j
  · rw [decide_eq_false (show ¬ j < F + 0 by omega)]; simp
  · rw [decide_eq_false h1]; simp⟩
theorem laid.in {bs b1 : List Nat} {F dn f c s B : Nat} (h : laid bs b1 F dn B) (hc : c < bs.length) (e : F + dn = 8 * c + s) (hs : s + f ≤ 8) : laid bs (b1.set c (b1.getD c 0 ||| (B / 2 ^ dn % 2 ^ f) * 2 ^ s)) F (dn + f) B := by
  refine ⟨by rw [List.length_set]; exact h.1, fun j => ?_⟩
  rw [bit_chunk (by rw [h.1]; exact hc) e hs, h.2 j, Bool.or_assoc]
  congr 1
  by_cases h1 : F ≤ j
  · by_cases h2 : j < F + dn
    · rw [decide_eq_true h1, decide_eq_true h2, decide_eq_true (show j < F + (dn + f) by omega), decide_eq_false (show ¬ F + dn ≤ j by omega)]; simp
    · by_cases h3 : j < F + dn + f
      · rw [decide_eq_true h1, decide_eq_false h2, decide_eq_true (show j < F + (dn + f) by omega), decide_eq_true (show F + dn ≤ j by omega), decide_eq_true h3, decide_eq_true (show j < 8 * bs.length by omega)]; simp
      · rw [decide_eq_true h1, decide_eq_false h2, decide_eq_false (show ¬ j < F + (dn + f) by omega), decide_eq_false h3]; simp
  · rw [decide_eq_false h1, decide_eq_false (show ¬ F + dn ≤ j by omega)]; simp
theorem laid.out {bs b1 : List Nat} {F dn f c s B : Nat} (h : laid bs b1 F dn B) (hc : bs.length ≤ c) (e : F + dn = 8 * c + s) : laid bs b1 F (dn + f) B := by
  refine ⟨h.1, fun j => ?_⟩
  rw [h.2 j]
  congr 1
  by_cases h4 : j < 8 * bs.length
  · by_cases h1 : F ≤ j
    · rw [decide_eq_true h1, decide_eq_true (show j < F + dn by omega), decide_eq_true (show j < F + (dn + f) by omega)]
    · rw [decide_eq_false h1]; simp
  · rw [decide_eq_false h4]; simp
theorem nI_rem8 {a c : Nat} (ha : a < 2 ^ 31) (hc : a / 8 = c) : nI a - nI c * 8 = nI (a % 8) := by
  have := pk_rem (a := a) (d := 8) ha (by decide) (by decide)
  rw [pk_div ha (by decide) (by decide), hc] at this
  exact this
theorem min_nI {a b : Nat} (ha : a < 2 ^ 31) (hb : b < 2 ^ 31) : (if nI b < nI a then nI b else nI a) = nI (min a b) := by
  rcases Nat.lt_or_ge b a with q | q
  · rw [if_pos (nI_lt q ha), Nat.min_eq_right (by omega)]
  · rw [if_neg (nI_nlt q hb), Nat.min_eq_left q]
set_option maxHeartbeats 1000000 in
theorem lp_X1_putBits {d t N sl F w : Nat} {x : Int64} {hp0 : Nat → MC} {bs0 : List Nat} {Q : Option Value → MH → Prop} (hw : w ≤ 64) (hF : F < 2 ^ 20) (hQ : ∀ (hp' : Nat → MC) (bs' : List Nat), BytesAt hp' t bs' → laid bs0 bs' F w (uN x) → Fr t (t + 2) hp0 hp' → Q none (N, sl, hp')) : ∀ (k st dn : Nat) (bs : List Nat) (hp : Nat → MC), st + k = 9 → dn ≤ w → (dn = w ∨ dn + F % 8 = 8 * st ∨ (st = 0 ∧ dn = 0)) → BytesAt hp t bs → laid bs0 bs F dn (uN x) → Fr t (t + 2) hp0 hp → mj_rn d mi_X1_putBits (6, [(6, .int (nI st)), (5, .int (nI dn)), (0, .ref t), (1, .int (nI F)), (2, .int (nI w)), (3, .long x)], [], (N, sl, hp)) Q
  | 0, st, dn, bs, hp, hst, hdn, hinv, hB, hL, hFr => by
    have e : dn = w := by omega
    subst e
    refine mj_rn.go [6] 4 ?_
    simp only [lv_args, Value.category, y_e0, y_e1, y_k1, y_in0, y_in1, y_get, y_li, y_ll, y_la, y_la0, y_inc, y_gc, y_gv, y_pc, y_fitI, y_fitZ, y_fitL, y_fitR, y_fitN, y_len, y_ia, y_ba, y_za, y_la1, y_aa, y_is, y_bs, y_zs, y_ls, y_maxi, y_mini, y_maxl, y_minl, y_absl, y_cpy, y_obj, y_w0, y_w1, y_w2, y_w3, y_w4, x_iconst, x_bipush, x_sipush, x_lconst, x_ldc, x_ldc_w, x_ldc2_w, x_aconst_null, x_iload_n, x_iload, x_lload_n, x_lload, x_aload_n, x_aload, x_istore_n, x_istore, x_lstore_n, x_lstore, x_astore_n, x_astore_n_null, x_astore, x_astore_null, x_iinc, x_dup_int, x_dup_ref, x_dup2, x_pop_int, x_pop_ref, x_goto, x_if_eq, x_icmp_eq, x_if_ne, x_icmp_ne, x_if_lt, x_icmp_lt, x_if_ge, x_icmp_ge, x_if_gt, x_icmp_gt, x_if_le, x_icmp_le, x_ifnull_null, x_ifnull_ref, x_ifnonnull_null, x_ifnonnull_ref, x_tsw, x_lsw, x_iadd, x_isub, x_imul, x_iand, x_ior, x_ishl, x_ishr, x_iushr, x_ladd, x_lsub, x_lmul, x_land, x_lor, x_lxor, x_lshl, x_lshr, x_lushr, x_idiv, x_irem, x_ldiv, x_lrem, x_lcmp, x_i2l, x_l2i, x_i2b, x_lneg, x_getfield, x_putfield, x_arraylength, x_iaload, x_baload, x_laload, x_aaload, x_iastore, x_bastore, x_lastore, x_aastore, x_newarray, x_anewarray, x_new, x_invokevirtual, x_ireturn, x_lreturn, x_areturn, x_return_, x_invokestatic, x_invokespecial, x_invokestatic1, mj_b_some, mj_b_none, mj_b_ite, mj_ok_ite, mj_ok_some, mj_ok_none, mj_s1, mj_s2, ↓reduceIte, reduceCtorEq, Nat.reduceAdd, Nat.reduceEqDiff, Nat.reduceBEq, Nat.reduceLT, Nat.reduceLeDiff, Nat.reduceMul, Bool.false_eq_true, Bool.not_true, Bool.not_false, Bool.and_true, Bool.true_and, Bool.and_false, Bool.false_and, Bool.or_false, Bool.or_true, Bool.false_or, Bool.true_or, List.getElem?_cons_zero, List.getElem?_cons_succ, List.set_cons_zero, List.set_cons_succ, List.length_cons, List.length_nil, List.filter_cons, List.filter_nil, and_self, and_true, true_and, not_true_eq_false, not_false_eq_true, if_true, if_false, implies_true, forall_const, decide_true, decide_false, beq_self_eq_true, Nat.zero_add, Int32.reduceLT, Int32.reduceLE, Int32.reduceAdd, Int32.reduceSub, Int32.reduceMul, Option.toList_none, Option.toList_some, List.nil_append, List.cons_append, mj_M, id_J9_abs_067f4, Option.map_some, fe_X1_putBits_0, fe_X1_putBits_1, fe_X1_putBits_3, fe_X1_putBits_4, fe_X1_putBits_6, fe_X1_putBits_8, fe_X1_putBits_10, fe_X1_putBits_13, fe_X1_putBits_15, fe_X1_putBits_16, fe_X1_putBits_19, fe_X1_putBits_20, fe_X1_putBits_22, fe_X1_putBits_23, fe_X1_putBits_25, fe_X1_putBits_26, fe_X1_putBits_28, fe_X1_putBits_29, fe_X1_putBits_31, fe_X1_putBits_32, fe_X1_putBits_34, fe_X1_putBits_35, fe_X1_putBits_37, fe_X1_putBits_39, fe_X1_putBits_41, fe_X1_putBits_42, fe_X1_putBits_43, fe_X1_putBits_45, fe_X1_putBits_46, fe_X1_putBits_49, fe_X1_putBits_51, fe_X1_putBits_53, fe_X1_putBits_56, fe_X1_putBits_58, fe_X1_putBits_59, fe_X1_putBits_62, fe_X1_putBits_65, fe_X1_putBits_67, fe_X1_putBits_68, fe_X1_putBits_71, fe_X1_putBits_72, fe_X1_putBits_75, fe_X1_putBits_76, fe_X1_putBits_78, fe_X1_putBits_79, fe_X1_putBits_80, fe_X1_putBits_81, fe_X1_putBits_83, fe_X1_putBits_84, fe_X1_putBits_85, fe_X1_putBits_86, fe_X1_putBits_87, fe_X1_putBits_89, fe_X1_putBits_90, fe_X1_putBits_93, fe_X1_putBits_95, fe_X1_putBits_96, fe_X1_putBits_99, fe_X1_putBits_101, fe_X1_putBits_102, fe_X1_putBits_104, fe_X1_putBits_106, fe_X1_putBits_107, fe_X1_putBits_108, fe_X1_putBits_109, fe_X1_putBits_110, fe_X1_putBits_112, fe_X1_putBits_114, fe_X1_putBits_115, fe_X1_putBits_117, fe_X1_putBits_120, fe_X1_putBits_123]
    refine ⟨fun _ => ?_, fun c => absurd (show nI 9 ≤ nI st from nI_le (by omega) (by omega)) c⟩
    exact rt_X1_putBits fe_X1_putBits_123 (hQ hp bs hB hL hFr)
  | k + 1, st, dn, bs, hp, hst, hdn, hinv, hB, hL, hFr => by
    by_cases hd : dn = w
    · subst hd
      refine mj_rn.go [6] 7 ?_
      simp only [lv_args, Value.category, y_e0, y_e1, y_k1, y_in0, y_in1, y_get, y_li, y_ll, y_la, y_la0, y_inc, y_gc, y_gv, y_pc, y_fitI, y_fitZ, y_fitL, y_fitR, y_fitN, y_len, y_ia, y_ba, y_za, y_la1, y_aa, y_is, y_bs, y_zs, y_ls, y_maxi, y_mini, y_maxl, y_minl, y_absl, y_cpy, y_obj, y_w0, y_w1, y_w2, y_w3, y_w4, x_iconst, x_bipush, x_sipush, x_lconst, x_ldc, x_ldc_w, x_ldc2_w, x_aconst_null, x_iload_n, x_iload, x_lload_n, x_lload, x_aload_n, x_aload, x_istore_n, x_istore, x_lstore_n, x_lstore, x_astore_n, x_astore_n_null, x_astore, x_astore_null, x_iinc, x_dup_int, x_dup_ref, x_dup2, x_pop_int, x_pop_ref, x_goto, x_if_eq, x_icmp_eq, x_if_ne, x_icmp_ne, x_if_lt, x_icmp_lt, x_if_ge, x_icmp_ge, x_if_gt, x_icmp_gt, x_if_le, x_icmp_le, x_ifnull_null, x_ifnull_ref, x_ifnonnull_null, x_ifnonnull_ref, x_tsw, x_lsw, x_iadd, x_isub, x_imul, x_iand, x_ior, x_ishl, x_ishr, x_iushr, x_ladd, x_lsub, x_lmul, x_land, x_lor, x_lxor, x_lshl, x_lshr, x_lushr, x_idiv, x_irem, x_ldiv, x_lrem, x_lcmp, x_i2l, x_l2i, x_i2b, x_lneg, x_getfield, x_putfield, x_arraylength, x_iaload, x_baload, x_laload, x_aaload, x_iastore, x_bastore, x_lastore, x_aastore, x_newarray, x_anewarray, x_new, x_invokevirtual, x_ireturn, x_lreturn, x_areturn, x_return_, x_invokestatic, x_invokespecial, x_invokestatic1, mj_b_some, mj_b_none, mj_b_ite, mj_ok_ite, mj_ok_some, mj_ok_none, mj_s1, mj_s2, ↓reduceIte, reduceCtorEq, Nat.reduceAdd, Nat.reduceEqDiff, Nat.reduceBEq, Nat.reduceLT, Nat.reduceLeDiff, Nat.reduceMul, Bool.false_eq_true, Bool.not_true, Bool.not_false, Bool.and_true, Bool.true_and, Bool.and_false, Bool.false_and, Bool.or_false, Bool.or_true, Bool.false_or, Bool.true_or, List.getElem?_cons_zero, List.getElem?_cons_succ, List.set_cons_zero, List.set_cons_succ, List.length_cons, List.length_nil, List.filter_cons, List.filter_nil, and_self, and_true, true_and, not_true_eq_false, not_false_eq_true, if_true, if_false, implies_true, forall_const, decide_true, decide_false, beq_self_eq_true, Nat.zero_add, Int32.reduceLT, Int32.reduceLE, Int32.reduceAdd, Int32.reduceSub, Int32.reduceMul, Option.toList_none, Option.toList_some, List.nil_append, List.cons_append, mj_M, id_J9_abs_067f4, Option.map_some, fe_X1_putBits_0, fe_X1_putBits_1, fe_X1_putBits_3, fe_X1_putBits_4, fe_X1_putBits_6, fe_X1_putBits_8, fe_X1_putBits_10, fe_X1_putBits_13, fe_X1_putBits_15, fe_X1_putBits_16, fe_X1_putBits_19, fe_X1_putBits_20, fe_X1_putBits_22, fe_X1_putBits_23, fe_X1_putBits_25, fe_X1_putBits_26, fe_X1_putBits_28, fe_X1_putBits_29, fe_X1_putBits_31, fe_X1_putBits_32, fe_X1_putBits_34, fe_X1_putBits_35, fe_X1_putBits_37, fe_X1_putBits_39, fe_X1_putBits_41, fe_X1_putBits_42, fe_X1_putBits_43, fe_X1_putBits_45, fe_X1_putBits_46, fe_X1_putBits_49, fe_X1_putBits_51, fe_X1_putBits_53, fe_X1_putBits_56, fe_X1_putBits_58, fe_X1_putBits_59, fe_X1_putBits_62, fe_X1_putBits_65, fe_X1_putBits_67, fe_X1_putBits_68, fe_X1_putBits_71, fe_X1_putBits_72, fe_X1_putBits_75, fe_X1_putBits_76, fe_X1_putBits_78, fe_X1_putBits_79, fe_X1_putBits_80, fe_X1_putBits_81, fe_X1_putBits_83, fe_X1_putBits_84, fe_X1_putBits_85, fe_X1_putBits_86, fe_X1_putBits_87, fe_X1_putBits_89, fe_X1_putBits_90, fe_X1_putBits_93, fe_X1_putBits_95, fe_X1_putBits_96, fe_X1_putBits_99, fe_X1_putBits_101, fe_X1_putBits_102, fe_X1_putBits_104, fe_X1_putBits_106, fe_X1_putBits_107, fe_X1_putBits_108, fe_X1_putBits_109, fe_X1_putBits_110, fe_X1_putBits_112, fe_X1_putBits_114, fe_X1_putBits_115, fe_X1_putBits_117, fe_X1_putBits_120, fe_X1_putBits_123]
      refine ⟨fun _ => ?_, fun _ => ⟨fun _ => ?_, fun c => absurd (nI_le (Nat.le_refl _) (by omega)) c⟩⟩
      · exact rt_X1_putBits fe_X1_putBits_123 (hQ hp bs hB hL hFr)
      · exact rt_X1_putBits fe_X1_putBits_123 (hQ hp bs hB hL hFr)
    · obtain ⟨g, h1, h2, h3, h4, h5⟩ := hB
      generalize hc : (F + dn) / 8 = c
      generalize hs : (F + dn) % 8 = sh
      have hsh : sh < 8 := by rw [← hs]; exact Nat.mod_lt _ (by decide)
      have e0 : F + dn = 8 * c + sh := by omega
      generalize hf : min (8 - sh) (w - dn) = f
      have e1 : nI (F + dn) / 8 = nI c := by rw [← hc]; exact pk_div (by omega) (by decide) (by decide)
      have e2 : nI (F + dn) - nI c * 8 = nI sh := by rw [← hs]; exact nI_rem8 (by omega) hc
      have e3 : (8 : Int32) - nI sh = nI (8 - sh) := pk_sub (a := 8) (by omega)
      have e4 : nI w - nI dn = nI (w - dn) := pk_sub hdn
      have e5 : (if nI (w - dn) < nI (8 - sh) then nI (w - dn) else nI (8 - sh)) = nI f := by rw [← hf]; exact min_nI (by omega) (by omega)
      have e6 : (1 : Int32) <<< (nI f &&& 31) - 1 = nI (2 ^ f - 1) := ish1 f (by omega)
      have e7 : (x.toUInt64 >>> ((nI dn).toInt64.toUInt64 &&& Int64.toUInt64 63)).toInt64.toInt32 &&& nI (2 ^ f - 1) = nI (uN x / 2 ^ dn % 2 ^ f) := by
        rw [pk_and _ f (nI_mask (by omega)), l2i_nat, uN_sk x (by omega)]
        congr 1
        exact Nat.mod_mod_of_dvd _ (Nat.pow_dvd_pow 2 (by omega))
      have hp1 : uN x / 2 ^ dn % 2 ^ f * 2 ^ sh < 256 := by
        have a1 : uN x / 2 ^ dn % 2 ^ f < 2 ^ f := Nat.mod_lt _ (Nat.two_pow_pos f)
        have a2 : uN x / 2 ^ dn % 2 ^ f * 2 ^ sh < 2 ^ f * 2 ^ sh := Nat.mul_lt_mul_of_pos_right a1 (Nat.two_pow_pos sh)
        have a3 : 2 ^ f * 2 ^ sh ≤ 2 ^ 8 := by rw [← Nat.pow_add]; exact Nat.pow_le_pow_right (by decide) (by omega)
        omega
      have e8 : nI (uN x / 2 ^ dn % 2 ^ f) <<< (nI sh &&& 31) = nI (uN x / 2 ^ dn % 2 ^ f * 2 ^ sh) := ishl_s hsh (by omega)
      have c1 : ¬ (9 : Int32) ≤ nI st := show ¬ nI 9 ≤ nI st from nI_ge (by omega) (by omega)
      have c2 : ¬ nI w ≤ nI dn := nI_ge (by omega) (by omega)
      have c3 : ¬ nI c < 0 := nI_pos (by omega)
      have hinv' : dn + f = w ∨ dn + f + F % 8 = 8 * (st + 1) ∨ (st + 1 = 0 ∧ dn + f = 0) := by omega
      by_cases hcl : c < bs.length
      · have c4 : ¬ nI bs.length ≤ nI c := nI_ge hcl (by omega)
        have c5 : ¬ nI 300 ≤ nI c := nI_ge (by omega) (by decide)
        have c6 : (nI c).toNatClampNeg = c := nI_clamp (by omega)
        have c7 : ¬ 300 ≤ c := by omega
        refine mj_rn.go [6] 90 ?_
        simp only [lv_args, Value.category, y_e0, y_e1, y_k1, y_in0, y_in1, y_get, y_li, y_ll, y_la, y_la0, y_inc, y_gc, y_gv, y_pc, y_fitI, y_fitZ, y_fitL, y_fitR, y_fitN, y_len, y_ia, y_ba, y_za, y_la1, y_aa, y_is, y_bs, y_zs, y_ls, y_maxi, y_mini, y_maxl, y_minl, y_absl, y_cpy, y_obj, y_w0, y_w1, y_w2, y_w3, y_w4, x_iconst, x_bipush, x_sipush, x_lconst, x_ldc, x_ldc_w, x_ldc2_w, x_aconst_null, x_iload_n, x_iload, x_lload_n, x_lload, x_aload_n, x_aload, x_istore_n, x_istore, x_lstore_n, x_lstore, x_astore_n, x_astore_n_null, x_astore, x_astore_null, x_iinc, x_dup_int, x_dup_ref, x_dup2, x_pop_int, x_pop_ref, x_goto, x_if_eq, x_icmp_eq, x_if_ne, x_icmp_ne, x_if_lt, x_icmp_lt, x_if_ge, x_icmp_ge, x_if_gt, x_icmp_gt, x_if_le, x_icmp_le, x_ifnull_null, x_ifnull_ref, x_ifnonnull_null, x_ifnonnull_ref, x_tsw, x_lsw, x_iadd, x_isub, x_imul, x_iand, x_ior, x_ishl, x_ishr, x_iushr, x_ladd, x_lsub, x_lmul, x_land, x_lor, x_lxor, x_lshl, x_lshr, x_lushr, x_idiv, x_irem, x_ldiv, x_lrem, x_lcmp, x_i2l, x_l2i, x_i2b, x_lneg, x_getfield, x_putfield, x_arraylength, x_iaload, x_baload, x_laload, x_aaload, x_iastore, x_bastore, x_lastore, x_aastore, x_newarray, x_anewarray, x_new, x_invokevirtual, x_ireturn, x_lreturn, x_areturn, x_return_, x_invokestatic, x_invokespecial, x_invokestatic1, mj_b_some, mj_b_none, mj_b_ite, mj_ok_ite, mj_ok_some, mj_ok_none, mj_s1, mj_s2, ↓reduceIte, reduceCtorEq, Nat.reduceAdd, Nat.reduceEqDiff, Nat.reduceBEq, Nat.reduceLT, Nat.reduceLeDiff, Nat.reduceMul, Bool.false_eq_true, Bool.not_true, Bool.not_false, Bool.and_true, Bool.true_and, Bool.and_false, Bool.false_and, Bool.or_false, Bool.or_true, Bool.false_or, Bool.true_or, List.getElem?_cons_zero, List.getElem?_cons_succ, List.set_cons_zero, List.set_cons_succ, List.length_cons, List.length_nil, List.filter_cons, List.filter_nil, and_self, and_true, true_and, not_true_eq_false, not_false_eq_true, if_true, if_false, implies_true, forall_const, decide_true, decide_false, beq_self_eq_true, Nat.zero_add, Int32.reduceLT, Int32.reduceLE, Int32.reduceAdd, Int32.reduceSub, Int32.reduceMul, Option.toList_none, Option.toList_some, List.nil_append, List.cons_append, mj_M, id_J9_abs_067f4, Option.map_some, fe_X1_putBits_0, fe_X1_putBits_1, fe_X1_putBits_3, fe_X1_putBits_4, fe_X1_putBits_6, fe_X1_putBits_8, fe_X1_putBits_10, fe_X1_putBits_13, fe_X1_putBits_15, fe_X1_putBits_16, fe_X1_putBits_19, fe_X1_putBits_20, fe_X1_putBits_22, fe_X1_putBits_23, fe_X1_putBits_25, fe_X1_putBits_26, fe_X1_putBits_28, fe_X1_putBits_29, fe_X1_putBits_31, fe_X1_putBits_32, fe_X1_putBits_34, fe_X1_putBits_35, fe_X1_putBits_37, fe_X1_putBits_39, fe_X1_putBits_41, fe_X1_putBits_42, fe_X1_putBits_43, fe_X1_putBits_45, fe_X1_putBits_46, fe_X1_putBits_49, fe_X1_putBits_51, fe_X1_putBits_53, fe_X1_putBits_56, fe_X1_putBits_58, fe_X1_putBits_59, fe_X1_putBits_62, fe_X1_putBits_65, fe_X1_putBits_67, fe_X1_putBits_68, fe_X1_putBits_71, fe_X1_putBits_72, fe_X1_putBits_75, fe_X1_putBits_76, fe_X1_putBits_78, fe_X1_putBits_79, fe_X1_putBits_80, fe_X1_putBits_81, fe_X1_putBits_83, fe_X1_putBits_84, fe_X1_putBits_85, fe_X1_putBits_86, fe_X1_putBits_87, fe_X1_putBits_89, fe_X1_putBits_90, fe_X1_putBits_93, fe_X1_putBits_95, fe_X1_putBits_96, fe_X1_putBits_99, fe_X1_putBits_101, fe_X1_putBits_102, fe_X1_putBits_104, fe_X1_putBits_106, fe_X1_putBits_107, fe_X1_putBits_108, fe_X1_putBits_109, fe_X1_putBits_110, fe_X1_putBits_112, fe_X1_putBits_114, fe_X1_putBits_115, fe_X1_putBits_117, fe_X1_putBits_120, fe_X1_putBits_123, h1, h2, nI_lit, nI_add, e1, e2, e3, e4, e5, e6, e7, e8, nI_1, show ¬ (8 : Int32) = 0 by decide, up_s, up_n, ne_01, ne_10, c1, c2, c3, c4, c5, c6, c7, or_self]
        refine mj_rn.drop (ls' := [(6, .int (nI (st + 1))), (5, .int (nI (dn + f))), (0, .ref t), (1, .int (nI F)), (2, .int (nI w)), (3, .long x)]) (by intro q hq; simp at hq ⊢; rcases hq with rfl | rfl | rfl | rfl | rfl | rfl <;> simp) ?_
        have hlen := hL.1
        refine lp_X1_putBits hw hF hQ k (st + 1) (dn + f) (bs.set c (bs.getD c 0 ||| uN x / 2 ^ dn % 2 ^ f * 2 ^ sh)) _ (by omega) (by omega) hinv' ⟨upd g c (vp_nar .byte (g c ||| nI (uN x / 2 ^ dn % 2 ^ f * 2 ^ sh)).toInt8.toInt32), ?_, up_s, ?_, ?_, ?_⟩ (hL.in (by omega) e0 (by omega)) (hFr.tr (Fr.up (by omega) (by omega)))
        · rw [up_n (by omega), List.length_set]; exact h1
        · exact sb_fitU h3 (by rw [pk_vb]; exact pk_fb _)
        · intro j hj
          rw [List.length_set] at hj
          rw [getD_set hcl]
          by_cases hjc : j = c
          · subst hjc
            rw [if_pos rfl, pk_us, pk_vb, bp_b]
            have a1 := (h4 j hj).1
            have a2 := (h4 j hj).2
            have a3 : bs.getD j 0 ||| uN x / 2 ^ dn % 2 ^ f * 2 ^ sh < 2 ^ 8 := Nat.or_lt_two_pow a2 hp1
            refine ⟨?_, a3⟩
            have a4 : (g j ||| nI (uN x / 2 ^ dn % 2 ^ f * 2 ^ sh)) &&& 255 = (g j &&& 255) ||| (nI (uN x / 2 ^ dn % 2 ^ f * 2 ^ sh) &&& 255) := by
              apply b_ext
              intro i _
              rw [b_and, b_or, b_or, b_and, b_and]
              cases bt (g j) i <;> cases bt (nI (uN x / 2 ^ dn % 2 ^ f * 2 ^ sh)) i <;> cases bt 255 i <;> rfl
            rw [a4, a1, b8_and, b8_nI hp1, fa_or]
          · rw [if_neg hjc, pk_un hjc]
            exact h4 j hj
        · rw [List.length_set]; exact h5
      · have c4 : nI bs.length ≤ nI c := nI_le (by omega) (by omega)
        refine mj_rn.go [6] 90 ?_
        simp only [lv_args, Value.category, y_e0, y_e1, y_k1, y_in0, y_in1, y_get, y_li, y_ll, y_la, y_la0, y_inc, y_gc, y_gv, y_pc, y_fitI, y_fitZ, y_fitL, y_fitR, y_fitN, y_len, y_ia, y_ba, y_za, y_la1, y_aa, y_is, y_bs, y_zs, y_ls, y_maxi, y_mini, y_maxl, y_minl, y_absl, y_cpy, y_obj, y_w0, y_w1, y_w2, y_w3, y_w4, x_iconst, x_bipush, x_sipush, x_lconst, x_ldc, x_ldc_w, x_ldc2_w, x_aconst_null, x_iload_n, x_iload, x_lload_n, x_lload, x_aload_n, x_aload, x_istore_n, x_istore, x_lstore_n, x_lstore, x_astore_n, x_astore_n_null, x_astore, x_astore_null, x_iinc, x_dup_int, x_dup_ref, x_dup2, x_pop_int, x_pop_ref, x_goto, x_if_eq, x_icmp_eq, x_if_ne, x_icmp_ne, x_if_lt, x_icmp_lt, x_if_ge, x_icmp_ge, x_if_gt, x_icmp_gt, x_if_le, x_icmp_le, x_ifnull_null, x_ifnull_ref, x_ifnonnull_null, x_ifnonnull_ref, x_tsw, x_lsw, x_iadd, x_isub, x_imul, x_iand, x_ior, x_ishl, x_ishr, x_iushr, x_ladd, x_lsub, x_lmul, x_land, x_lor, x_lxor, x_lshl, x_lshr, x_lushr, x_idiv, x_irem, x_ldiv, x_lrem, x_lcmp, x_i2l, x_l2i, x_i2b, x_lneg, x_getfield, x_putfield, x_arraylength, x_iaload, x_baload, x_laload, x_aaload, x_iastore, x_bastore, x_lastore, x_aastore, x_newarray, x_anewarray, x_new, x_invokevirtual, x_ireturn, x_lreturn, x_areturn, x_return_, x_invokestatic, x_invokespecial, x_invokestatic1, mj_b_some, mj_b_none, mj_b_ite, mj_ok_ite, mj_ok_some, mj_ok_none, mj_s1, mj_s2, ↓reduceIte, reduceCtorEq, Nat.reduceAdd, Nat.reduceEqDiff, Nat.reduceBEq, Nat.reduceLT, Nat.reduceLeDiff, Nat.reduceMul, Bool.false_eq_true, Bool.not_true, Bool.not_false, Bool.and_true, Bool.true_and, Bool.and_false, Bool.false_and, Bool.or_false, Bool.or_true, Bool.false_or, Bool.true_or, List.getElem?_cons_zero, List.getElem?_cons_succ, List.set_cons_zero, List.set_cons_succ, List.length_cons, List.length_nil, List.filter_cons, List.filter_nil, and_self, and_true, true_and, not_true_eq_false, not_false_eq_true, if_true, if_false, implies_true, forall_const, decide_true, decide_false, beq_self_eq_true, Nat.zero_add, Int32.reduceLT, Int32.reduceLE, Int32.reduceAdd, Int32.reduceSub, Int32.reduceMul, Option.toList_none, Option.toList_some, List.nil_append, List.cons_append, mj_M, id_J9_abs_067f4, Option.map_some, fe_X1_putBits_0, fe_X1_putBits_1, fe_X1_putBits_3, fe_X1_putBits_4, fe_X1_putBits_6, fe_X1_putBits_8, fe_X1_putBits_10, fe_X1_putBits_13, fe_X1_putBits_15, fe_X1_putBits_16, fe_X1_putBits_19, fe_X1_putBits_20, fe_X1_putBits_22, fe_X1_putBits_23, fe_X1_putBits_25, fe_X1_putBits_26, fe_X1_putBits_28, fe_X1_putBits_29, fe_X1_putBits_31, fe_X1_putBits_32, fe_X1_putBits_34, fe_X1_putBits_35, fe_X1_putBits_37, fe_X1_putBits_39, fe_X1_putBits_41, fe_X1_putBits_42, fe_X1_putBits_43, fe_X1_putBits_45, fe_X1_putBits_46, fe_X1_putBits_49, fe_X1_putBits_51, fe_X1_putBits_53, fe_X1_putBits_56, fe_X1_putBits_58, fe_X1_putBits_59, fe_X1_putBits_62, fe_X1_putBits_65, fe_X1_putBits_67, fe_X1_putBits_68, fe_X1_putBits_71, fe_X1_putBits_72, fe_X1_putBits_75, fe_X1_putBits_76, fe_X1_putBits_78, fe_X1_putBits_79, fe_X1_putBits_80, fe_X1_putBits_81, fe_X1_putBits_83, fe_X1_putBits_84, fe_X1_putBits_85, fe_X1_putBits_86, fe_X1_putBits_87, fe_X1_putBits_89, fe_X1_putBits_90, fe_X1_putBits_93, fe_X1_putBits_95, fe_X1_putBits_96, fe_X1_putBits_99, fe_X1_putBits_101, fe_X1_putBits_102, fe_X1_putBits_104, fe_X1_putBits_106, fe_X1_putBits_107, fe_X1_putBits_108, fe_X1_putBits_109, fe_X1_putBits_110, fe_X1_putBits_112, fe_X1_putBits_114, fe_X1_putBits_115, fe_X1_putBits_117, fe_X1_putBits_120, fe_X1_putBits_123, h1, h2, nI_lit, nI_add, e1, e2, e3, e4, e5, e6, e7, e8, nI_1, show ¬ (8 : Int32) = 0 by decide, c1, c2, c3, c4]
        refine mj_rn.drop (ls' := [(6, .int (nI (st + 1))), (5, .int (nI (dn + f))), (0, .ref t), (1, .int (nI F)), (2, .int (nI w)), (3, .long x)]) (by intro q hq; simp at hq ⊢; rcases hq with rfl | rfl | rfl | rfl | rfl | rfl <;> simp) ?_
        have hlen := hL.1
        exact lp_X1_putBits hw hF hQ k (st + 1) (dn + f) bs hp (by omega) (by omega) hinv' ⟨g, h1, h2, h3, h4, h5⟩ (hL.out (by omega) e0) hFr
theorem wp_X1_putBits {d t N sl F w : Nat} {x : Int64} {hp : Nat → MC} {bs : List Nat} {Q : Option Value → MH → Prop} (hw : w ≤ 64) (hF : F < 2 ^ 20) (hB : BytesAt hp t bs) (hQ : ∀ (hp' : Nat → MC) (bs' : List Nat), BytesAt hp' t bs' → laid bs bs' F w (uN x) → Fr t (t + 2) hp hp' → Q none (N, sl, hp')) : mj_wp (d + 1) id_X1_putBits [.ref t, .int (nI F), .int (nI w), .long x] (N, sl, hp) Q := by
  refine mj_wp.of mt_X1_putBits (mj_rn.go [6] 20 ?_)
  simp only [lv_args, Value.category, y_e0, y_e1, y_k1, y_in0, y_in1, y_get, y_li, y_ll, y_la, y_la0, y_inc, y_gc, y_gv, y_pc, y_fitI, y_fitZ, y_fitL, y_fitR, y_fitN, y_len, y_ia, y_ba, y_za, y_la1, y_aa, y_is, y_bs, y_zs, y_ls, y_maxi, y_mini, y_maxl, y_minl, y_absl, y_cpy, y_obj, y_w0, y_w1, y_w2, y_w3, y_w4, x_iconst, x_bipush, x_sipush, x_lconst, x_ldc, x_ldc_w, x_ldc2_w, x_aconst_null, x_iload_n, x_iload, x_lload_n, x_lload, x_aload_n, x_aload, x_istore_n, x_istore, x_lstore_n, x_lstore, x_astore_n, x_astore_n_null, x_astore, x_astore_null, x_iinc, x_dup_int, x_dup_ref, x_dup2, x_pop_int, x_pop_ref, x_goto, x_if_eq, x_icmp_eq, x_if_ne, x_icmp_ne, x_if_lt, x_icmp_lt, x_if_ge, x_icmp_ge, x_if_gt, x_icmp_gt, x_if_le, x_icmp_le, x_ifnull_null, x_ifnull_ref, x_ifnonnull_null, x_ifnonnull_ref, x_tsw, x_lsw, x_iadd, x_isub, x_imul, x_iand, x_ior, x_ishl, x_ishr, x_iushr, x_ladd, x_lsub, x_lmul, x_land, x_lor, x_lxor, x_lshl, x_lshr, x_lushr, x_idiv, x_irem, x_ldiv, x_lrem, x_lcmp, x_i2l, x_l2i, x_i2b, x_lneg, x_getfield, x_putfield, x_arraylength, x_iaload, x_baload, x_laload, x_aaload, x_iastore, x_bastore, x_lastore, x_aastore, x_newarray, x_anewarray, x_new, x_invokevirtual, x_ireturn, x_lreturn, x_areturn, x_return_, x_invokestatic, x_invokespecial, x_invokestatic1, mj_b_some, mj_b_none, mj_b_ite, mj_ok_ite, mj_ok_some, mj_ok_none, mj_s1, mj_s2, ↓reduceIte, reduceCtorEq, Nat.reduceAdd, Nat.reduceEqDiff, Nat.reduceBEq, Nat.reduceLT, Nat.reduceLeDiff, Nat.reduceMul, Bool.false_eq_true, Bool.not_true, Bool.not_false, Bool.and_true, Bool.true_and, Bool.and_false, Bool.false_and, Bool.or_false, Bool.or_true, Bool.false_or, Bool.true_or, List.getElem?_cons_zero, List.getElem?_cons_succ, List.set_cons_zero, List.set_cons_succ, List.length_cons, List.length_nil, List.filter_cons, List.filter_nil, and_self, and_true, true_and, not_true_eq_false, not_false_eq_true, if_true, if_false, implies_true, forall_const, decide_true, decide_false, beq_self_eq_true, Nat.zero_add, Int32.reduceLT, Int32.reduceLE, Int32.reduceAdd, Int32.reduceSub, Int32.reduceMul, Option.toList_none, Option.toList_some, List.nil_append, List.cons_append, mj_M, id_J9_abs_067f4, Option.map_some, fe_X1_putBits_0, fe_X1_putBits_1, fe_X1_putBits_3, fe_X1_putBits_4, fe_X1_putBits_6, fe_X1_putBits_8, fe_X1_putBits_10, fe_X1_putBits_13, fe_X1_putBits_15, fe_X1_putBits_16, fe_X1_putBits_19, fe_X1_putBits_20, fe_X1_putBits_22, fe_X1_putBits_23, fe_X1_putBits_25, fe_X1_putBits_26, fe_X1_putBits_28, fe_X1_putBits_29, fe_X1_putBits_31, fe_X1_putBits_32, fe_X1_putBits_34, fe_X1_putBits_35, fe_X1_putBits_37, fe_X1_putBits_39, fe_X1_putBits_41, fe_X1_putBits_42, fe_X1_putBits_43, fe_X1_putBits_45, fe_X1_putBits_46, fe_X1_putBits_49, fe_X1_putBits_51, fe_X1_putBits_53, fe_X1_putBits_56, fe_X1_putBits_58, fe_X1_putBits_59, fe_X1_putBits_62, fe_X1_putBits_65, fe_X1_putBits_67, fe_X1_putBits_68, fe_X1_putBits_71, fe_X1_putBits_72, fe_X1_putBits_75, fe_X1_putBits_76, fe_X1_putBits_78, fe_X1_putBits_79, fe_X1_putBits_80, fe_X1_putBits_81, fe_X1_putBits_83, fe_X1_putBits_84, fe_X1_putBits_85, fe_X1_putBits_86, fe_X1_putBits_87, fe_X1_putBits_89, fe_X1_putBits_90, fe_X1_putBits_93, fe_X1_putBits_95, fe_X1_putBits_96, fe_X1_putBits_99, fe_X1_putBits_101, fe_X1_putBits_102, fe_X1_putBits_104, fe_X1_putBits_106, fe_X1_putBits_107, fe_X1_putBits_108, fe_X1_putBits_109, fe_X1_putBits_110, fe_X1_putBits_112, fe_X1_putBits_114, fe_X1_putBits_115, fe_X1_putBits_117, fe_X1_putBits_120, fe_X1_putBits_123]
  exact lp_X1_putBits hw hF hQ 9 0 0 bs hp (by omega) (by omega) (Or.inr (Or.inr ⟨rfl, rfl⟩)) hB laid.z Fr.rf
