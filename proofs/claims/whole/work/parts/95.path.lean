/-! a way's number, its turns, its bytes -/
theorem way_cases {ok : List Int64 → Nat → Bool} {k : Nat} {vs : List Int64} {ds : List Nat} (hk : k ≤ 2) (h : WayQ ok k vs ds) : (∃ t, ds = [t] ∧ t < 3 ∧ (t = 2 → 0 < vs.length)) ∨ (∃ a t, ds = [a, t] ∧ 1 ≤ k ∧ (3 ≤ a ∧ a ≤ 6) ∧ ok vs a = true ∧ t < 3 ∧ (t = 2 → 0 < (trn vs a).length)) ∨ (∃ a b t, ds = [a, b, t] ∧ k = 2 ∧ (3 ≤ a ∧ a ≤ 6) ∧ ok vs a = true ∧ (3 ≤ b ∧ b ≤ 6) ∧ ok (trn vs a) b = true ∧ t < 3 ∧ (t = 2 → 0 < (trn (trn vs a) b).length)) := by
  match k, ds, h with
  | 0, [], h => exact h.elim
  | k + 1, [], h => exact h.elim
  | 0, [t], h => exact Or.inl ⟨t, rfl, h.1, h.2⟩
  | k + 1, [t], h => exact Or.inl ⟨t, rfl, h.1, h.2⟩
  | 0, _ :: _ :: _, h => exact h.elim
  | 1, [a, t], h => exact Or.inr (Or.inl ⟨a, t, rfl, by omega, h.1, h.2.1, h.2.2.1, h.2.2.2⟩)
  | k + 2, [a, t], h => exact Or.inr (Or.inl ⟨a, t, rfl, by omega, h.1, h.2.1, h.2.2.1, h.2.2.2⟩)
  | 1, _ :: _ :: _ :: _, h => exact h.2.2.elim
  | 2, [a, b, t], h => exact Or.inr (Or.inr ⟨a, b, t, rfl, rfl, h.1, h.2.1, h.2.2.1, h.2.2.2.1, h.2.2.2.2.1, h.2.2.2.2.2⟩)
  | 2, _ :: _ :: _ :: _ :: _, h => exact h.2.2.2.2.elim
  | k + 3, _ :: _ :: _ :: _, h => omega
theorem plen_1 {t : Nat} (h : t < 3) : plen t = 1 := by unfold plen; rw [if_pos (by omega)]
theorem plen_2 {a t : Nat} (ha : 3 ≤ a ∧ a ≤ 6) (h : t < 3) : plen (a * 8 + t) = 2 := by unfold plen; rw [if_neg (by omega), if_pos (by omega)]
theorem plen_3 {a b t : Nat} (ha : 3 ≤ a ∧ a ≤ 6) (hb : 3 ≤ b ∧ b ≤ 6) (h : t < 3) : plen ((a * 8 + b) * 8 + t) = 3 := by unfold plen; rw [if_neg (by omega), if_neg (by omega)]
theorem tat_1 {t : Nat} (h : t < 3) : tat t 0 = t := by
  unfold tat
  rw [plen_1 h]
  show t / 1 % 8 = t
  omega
theorem tat_2 {a t : Nat} (ha : 3 ≤ a ∧ a ≤ 6) (h : t < 3) : tat (a * 8 + t) 0 = a ∧ tat (a * 8 + t) 1 = t := by
  unfold tat
  rw [plen_2 ha h]
  exact ⟨by show (a * 8 + t) / 8 % 8 = a; omega, by show (a * 8 + t) / 1 % 8 = t; omega⟩
theorem tat_3 {a b t : Nat} (ha : 3 ≤ a ∧ a ≤ 6) (hb : 3 ≤ b ∧ b ≤ 6) (h : t < 3) : tat ((a * 8 + b) * 8 + t) 0 = a ∧ tat ((a * 8 + b) * 8 + t) 1 = b ∧ tat ((a * 8 + b) * 8 + t) 2 = t := by
  unfold tat
  rw [plen_3 ha hb h]
  exact ⟨by show ((a * 8 + b) * 8 + t) / 64 % 8 = a; omega, by show ((a * 8 + b) * 8 + t) / 8 % 8 = b; omega, by show ((a * 8 + b) * 8 + t) / 1 % 8 = t; omega⟩
def eRow : List Nat → List Int64 → List Nat
  | [], _ => []
  | [t], vs => eLeaf vs t
  | t :: r, vs => t :: (eHead vs t ++ (eRow r (trn vs t) ++ eTail vs t))
theorem wp1 {t : Nat} : wpath 0 [t] = t := by show 0 * 8 + t = t; omega
theorem wp2 {a t : Nat} : wpath 0 [a, t] = a * 8 + t := by show (0 * 8 + a) * 8 + t = _; omega
theorem wp3 {a b t : Nat} : wpath 0 [a, b, t] = (a * 8 + b) * 8 + t := by show ((0 * 8 + a) * 8 + b) * 8 + t = _; omega
theorem enc_row {ok : List Int64 → Nat → Bool} {k : Nat} {P : List (Option Int64)} {ds : List Nat} (hk : k ≤ 2) (h : WayQ ok k (pv P) ds) : encX P (wpath 0 ds) = eFrm P ++ eRow ds (pv P) := by
  unfold encX
  rcases way_cases hk h with ⟨t, rfl, h1, h2⟩ | ⟨a, t, rfl, hk1, ha, h3, h1, h2⟩ | ⟨a, b, t, rfl, hk2, ha, h3, hb, h4, h1, h2⟩
  · rw [wp1, plen_1 h1, tat_1 h1]
    show eFrm P ++ ([] ++ (eLeaf (pv P) t ++ [])) = eFrm P ++ eLeaf (pv P) t
    rw [List.nil_append, List.append_nil]
  · rw [wp2, plen_2 ha h1]
    obtain ⟨t1, t2⟩ := tat_2 ha h1
    show eFrm P ++ (([] ++ (tat (a * 8 + t) 0 :: eHead (pv P) (tat (a * 8 + t) 0))) ++ (eLeaf (trn (pv P) (tat (a * 8 + t) 0)) (tat (a * 8 + t) 1) ++ (eTail (pv P) (tat (a * 8 + t) 0) ++ []))) = eFrm P ++ (a :: (eHead (pv P) a ++ (eLeaf (trn (pv P) a) t ++ eTail (pv P) a)))
    rw [t1, t2, List.nil_append, List.append_nil]
    rfl
  · rw [wp3, plen_3 ha hb h1]
    obtain ⟨t1, t2, t3⟩ := tat_3 ha hb h1
    show eFrm P ++ ((([] ++ (tat ((a * 8 + b) * 8 + t) 0 :: eHead (pv P) (tat ((a * 8 + b) * 8 + t) 0))) ++ (tat ((a * 8 + b) * 8 + t) 1 :: eHead (trn (pv P) (tat ((a * 8 + b) * 8 + t) 0)) (tat ((a * 8 + b) * 8 + t) 1))) ++ (eLeaf (trn (trn (pv P) (tat ((a * 8 + b) * 8 + t) 0)) (tat ((a * 8 + b) * 8 + t) 1)) (tat ((a * 8 + b) * 8 + t) 2) ++ (eTail (trn (pv P) (tat ((a * 8 + b) * 8 + t) 0)) (tat ((a * 8 + b) * 8 + t) 1) ++ (eTail (pv P) (tat ((a * 8 + b) * 8 + t) 0) ++ [])))) = eFrm P ++ (a :: (eHead (pv P) a ++ ((b :: (eHead (trn (pv P) a) b ++ (eLeaf (trn (trn (pv P) a) b) t ++ eTail (trn (pv P) a) b))) ++ eTail (pv P) a)))
    rw [t1, t2, t3, List.nil_append, List.append_nil]
    simp only [List.append_assoc, List.cons_append]
/-! how many bytes -/
theorem pchs_len {s : PS} {vs : List Int64} : ∀ n, n ≤ vs.length → (pchs s vs n).length = ((vs.take n).map (gL s.1 s.2.1 lnG)).sum
  | 0, _ => by simp [pchs]
  | n + 1, h => by
    rw [pchs_snoc, List.length_append, pchs_len n (by omega), takeL_snoc (by omega), List.map_append, List.sum_append]
    congr 1
    show _ = gL s.1 s.2.1 lnG (vs.getD n 0) + 0
    unfold gL
    have e : cov s (vs.getD n 0) = cv s.1 s.2.1 (vs.getD n 0) := rfl
    rw [e]
    split
    · rfl
    · rw [List.length_cons, vb_len (uN_lt _)]
      unfold lnG ln
      omega
theorem ePat_len {vs : List Int64} (h0 : 0 < vs.length) (hm : vs.length ≤ 32) : (ePat vs).length = (fit0 vs).2.2.2 := by
  obtain ⟨h1, h2, h3, h4, h5⟩ := fit0_is h0 hm
  rw [h4]
  unfold ePat ePatS pcost
  simp only [List.length_append, List.length_cons, vb_len (uN_lt _), ly_len, pxs_len]
  rw [pchs_len vs.length (Nat.le_refl _), List.take_length]
  unfold ln
  omega
theorem eLeaf_len {vs : List Int64} {t : Nat} (ht : t < 3) (h0 : t = 2 → 0 < vs.length) (hm : vs.length ≤ 32) : (eLeaf vs t).length = lfC vs t := by
  rcases (show t = 0 ∨ t = 1 ∨ t = 2 by omega) with rfl | rfl | rfl
  · exact ePla_len vs
  · exact eNar_len vs
  · exact ePat_len (h0 rfl) hm
theorem turn_len {vs : List Int64} {t : Nat} (ht : 3 ≤ t ∧ t ≤ 6) : 1 + (eHead vs t).length + (eTail vs t).length = cst vs t := by
  have hdl := dv_lt vs
  rcases (show t = 3 ∨ t = 4 ∨ t = 5 ∨ t = 6 by omega) with rfl | rfl | rfl | rfl
  · rfl
  · show 1 + 1 + (eNar (lns vs)).length = 2 + nlen (lns vs)
    rw [eNar_len]
  · show 1 + 1 + (eRnk vs).length = 2 + lay vs.length (bl ((arr vs).1.length - 1))
    rw [eRnk_len]
  · show 1 + (vb (dv vs)).length + 0 = 1 + vl (dv vs)
    rw [vb_len (by omega)]
    rfl
theorem eRow_len {ok : List Int64 → Nat → Bool} : ∀ (k : Nat) (vs : List Int64) (ds : List Nat), WayQ ok k vs ds → vs.length ≤ 32 → (eRow ds vs).length = wcost ds vs
  | 0, _, [], h, _ => h.elim
  | k + 1, _, [], h, _ => h.elim
  | 0, vs, [t], h, hm => eLeaf_len h.1 h.2 hm
  | k + 1, vs, [t], h, hm => eLeaf_len h.1 h.2 hm
  | 0, _, _ :: _ :: _, h, _ => h.elim
  | k + 1, vs, t :: a :: r, h, hm => by
    have ih := eRow_len k (trn vs t) (a :: r) h.2.2 (Nat.le_trans (trn_len h.1) hm)
    have tl := turn_len (vs := vs) h.1
    show (t :: (eHead vs t ++ (eRow (a :: r) (trn vs t) ++ eTail vs t))).length = cst vs t + wcost (a :: r) (trn vs t)
    simp only [List.length_cons, List.length_append]
    omega
theorem eFrm_len {P : List (Option Int64)} : (eFrm P).length + 1 = arnd P := by
  unfold eFrm arnd
  split
  · simp [ly_len, gpx_len]; omega
  · simp
/-- what the writer asks of a code -/
def PathOk (P : List (Option Int64)) (p : Nat) : Prop := p < 512 ∧ (∀ j, j < plen p - 1 → 3 ≤ tat p j ∧ tat p j ≤ 6) ∧ tat p (plen p - 1) ≤ 2 ∧ (∀ j, j < plen p - 1 → tat p j = 5 → 0 < (chn P p j).length) ∧ (tat p (plen p - 1) = 2 → 0 < (chn P p (plen p - 1)).length)
theorem can_pos {vs : List Int64} {t : Nat} (h : can vs t = true) (h6 : ¬ t = 6) : 0 < vs.length := by
  unfold can at h
  rw [if_neg h6] at h
  have := of_decide_eq_true h
  omega
theorem path_ok {k : Nat} {P : List (Option Int64)} {ds : List Nat} (hk : k ≤ 2) (h : WayQ can k (pv P) ds) : PathOk P (wpath 0 ds) := by
  unfold PathOk
  rcases way_cases hk h with ⟨t, rfl, h1, h2⟩ | ⟨a, t, rfl, hk1, ha, h3, h1, h2⟩ | ⟨a, b, t, rfl, hk2, ha, h3, hb, h4, h1, h2⟩
  · rw [wp1, plen_1 h1, tat_1 h1]
    exact ⟨by omega, fun j hj => by omega, by omega, fun j hj => by omega, h2⟩
  · obtain ⟨t1, t2⟩ := tat_2 ha h1
    rw [wp2, plen_2 ha h1]
    show _ ∧ _ ∧ tat (a * 8 + t) 1 ≤ 2 ∧ _ ∧ (tat (a * 8 + t) 1 = 2 → 0 < (trn (pv P) (tat (a * 8 + t) 0)).length)
    rw [t1, t2]
    refine ⟨by omega, fun j hj => ?_, by omega, fun j hj => ?_, h2⟩
    · have : j = 0 := by omega
      subst this
      rw [t1]; exact ha
    · have : j = 0 := by omega
      subst this
      rw [t1]
      exact fun q => can_pos h3 (by omega)
  · obtain ⟨t1, t2, t3⟩ := tat_3 ha hb h1
    rw [wp3, plen_3 ha hb h1]
    show _ ∧ _ ∧ tat ((a * 8 + b) * 8 + t) 2 ≤ 2 ∧ _ ∧ (tat ((a * 8 + b) * 8 + t) 2 = 2 → 0 < (trn (trn (pv P) (tat ((a * 8 + b) * 8 + t) 0)) (tat ((a * 8 + b) * 8 + t) 1)).length)
    rw [t1, t2, t3]
    refine ⟨by omega, fun j hj => ?_, by omega, fun j hj => ?_, h2⟩
    · rcases (show j = 0 ∨ j = 1 by omega) with rfl | rfl
      · rw [t1]; exact ha
      · rw [t2]; exact hb
    · rcases (show j = 0 ∨ j = 1 by omega) with rfl | rfl
      · rw [t1]
        exact fun q => can_pos h3 (by omega)
      · rw [t2]
        show b = 5 → 0 < (trn (pv P) (tat ((a * 8 + b) * 8 + t) 0)).length
        rw [t1]
        exact fun q => can_pos h4 (by omega)
noncomputable def bst (P : List (Option Int64)) (dep lim : Nat) : N3 := Classical.epsilon (IsBest (wyQ can dep (pv P) 0 (arnd P) 0) lim)
theorem bst_of {P : List (Option Int64)} {dep lim : Nat} {x : N3} (h : IsBest (wyQ can dep (pv P) 0 (arnd P) 0) lim x) : bst P dep lim = x := IsBest.uq (Classical.epsilon_spec (p := IsBest (wyQ can dep (pv P) 0 (arnd P) 0) lim) ⟨x, h⟩) h
theorem arnd_b {P : List (Option Int64)} (h : P.length ≤ 32) : arnd P ≤ 8 := by
  unfold arnd lay
  split <;> omega
/-- what the best is: a code that can be written, in room enough -/
theorem best_ok {P : List (Option Int64)} {dep lim : Nat} {x : N3} (hd : dep ≤ 2) (hl : 32 ≤ lim) (hP : P.length ≤ 32) (h : IsBest (wyQ can dep (pv P) 0 (arnd P) 0) lim x) : PathOk P x.2.2 ∧ (enc P x.2.2).length = x.1 ∧ x.1 ≤ 265 ∧ x.2.1 ≤ lim ∧ ∃ ds, WayQ can dep (pv P) ds ∧ x.2.2 = wpath 0 ds ∧ x.2.1 = wwork ds (pv P) := by
  obtain ⟨h1, h2, h3, h4⟩ := h
  have hpv := pv_len P
  obtain ⟨ds, d1, d2⟩ := (wyQ_mem dep (pv P) 0 (arnd P) 0 x).mp h1
  have hx3 : x.2.2 = wpath 0 ds := by rw [d2]
  have hx1 : x.1 = arnd P + wcost ds (pv P) := by rw [d2]
  have hx2 : x.2.1 = wwork ds (pv P) := by rw [d2]; show 0 + _ = _; omega
  have hel := eRow_len dep (pv P) ds d1 (by omega)
  have hfl := eFrm_len (P := P)
  have h0 : WayQ can dep (pv P) [0] := by cases dep <;> exact ⟨by omega, by omega⟩
  have hp := h3 _ ((wyQ_mem dep (pv P) 0 (arnd P) 0 (arnd P + wcost [0] (pv P), 0 + wwork [0] (pv P), wpath 0 [0])).mpr ⟨[0], h0, rfl⟩) (show 0 + (pv P).length ≤ lim by omega)
  have hp2 : x.1 < arnd P + (1 + 8 * (pv P).length) ∨ (x.1 = arnd P + (1 + 8 * (pv P).length) ∧ x.2.1 ≤ 0 + (pv P).length) := hp
  have hab := arnd_b hP
  refine ⟨by rw [hx3]; exact path_ok hd d1, ?_, by omega, h2, ds, d1, hx3, hx2⟩
  unfold enc
  rw [hx3, enc_row hd d1]
  simp only [List.length_append, List.length_cons, List.length_nil]
  omega
/-! Packer: survey, packInto -/
def PkG (hp : Nat → MC) (t : Nat) : Prop := PkC hp t ∧ RowG hp (t + 2) ∧ PatchG hp (t + 6) ∧ (∃ n F, FRaw hp (t + 8) n F) ∧ WrG hp (t + 12) ∧ ∀ j, j ≤ 2 → RowG hp (t + 32 + 4 * j)
theorem PkG.sm {hp hp' : Nat → MC} {t : Nat} (h : PkG hp t) (hS : Same t (t + 44) hp hp') : PkG hp' t := by
  obtain ⟨h1, h2, h3, ⟨n, F, h4⟩, h5, h6⟩ := h
  exact ⟨h1.sm (fun i a b => hS i (by omega) (by omega)), h2.sm (fun i a b => hS i (by omega) (by omega)), h3.sm (fun i a b => hS i (by omega) (by omega)), ⟨n, F, by rw [hS _ (by omega) (by omega)]; exact h4.1, by rw [hS _ (by omega) (by omega)]; exact h4.2.1, by rw [hS _ (by omega) (by omega)]; exact h4.2.2.1, by rw [hS _ (by omega) (by omega)]; exact h4.2.2.2⟩, h5.sm (fun i a b => hS i (by omega) (by omega)), fun j hj => (h6 j hj).sm (fun i a b => hS i (by omega) (by omega))⟩
set_option maxHeartbeats 4000000 in
theorem wp_X4_survey {d t N sl : Nat} {hp : Nat → MC} {Q : Option Value → MH → Prop} {fr u dep n0 : Nat} {F0 : Nat → N3} {P : List (Option Int64)} (hdep : dep ≤ 2) (hfr : fr + 4 ≤ t ∨ t + 44 ≤ fr ∨ fr = t + 8) (hd : u + 3 ≤ t ∨ t + 44 ≤ u) (hd2 : u + 3 ≤ fr ∨ fr + 4 ≤ u) (hK : PkG hp t) (hFr : FRaw hp fr n0 F0) (hB : BlockAt hp u P) (hQ : ∀ hp', PkG hp' t → FrontAt hp' fr (offs [] (wys dep (pv P) 0 (arnd P) 0)) → FI (offs [] (wys dep (pv P) 0 (arnd P) 0)) → FB (offs [] (wys dep (pv P) 0 (arnd P) 0)) → (offs [] (wys dep (pv P) 0 (arnd P) 0)).length ≤ 63 → FrE t (t + 32) fr hp hp' → Q none (N, sl, hp')) : mj_wp (d + dep + 7) id_X4_survey [.ref t, .ref fr, .ref u, .int (nI dep)] (N, sl, hp) Q := by
  have hl := hB.len
  have hab := arnd_b hl
  obtain ⟨hC, hG2, hP6, hF8, hW, hRw⟩ := hK
  refine mj_wp.of mt_X4_survey ?_
  refine mj_rn.go [] 60 ?_
  simp only [lv_args, Value.category, y_e0, y_e1, y_k1, y_in0, y_in1, y_get, y_li, y_ll, y_la, y_la0, y_inc, y_gc, y_gv, y_pc, y_fitI, y_fitZ, y_fitL, y_fitR, y_fitN, y_len, y_ia, y_ba, y_za, y_la1, y_aa, y_is, y_bs, y_zs, y_ls, y_maxi, y_mini, y_maxl, y_minl, y_absl, y_cpy, y_obj, y_w0, y_w1, y_w2, y_w3, y_w4, x_iconst, x_bipush, x_sipush, x_lconst, x_ldc, x_ldc_w, x_ldc2_w, x_aconst_null, x_iload_n, x_iload, x_lload_n, x_lload, x_aload_n, x_aload, x_istore_n, x_istore, x_lstore_n, x_lstore, x_astore_n, x_astore_n_null, x_astore, x_astore_null, x_iinc, x_dup_int, x_dup_ref, x_dup2, x_pop_int, x_pop_ref, x_goto, x_if_eq, x_icmp_eq, x_if_ne, x_icmp_ne, x_if_lt, x_icmp_lt, x_if_ge, x_icmp_ge, x_if_gt, x_icmp_gt, x_if_le, x_icmp_le, x_ifnull_null, x_ifnull_ref, x_ifnonnull_null, x_ifnonnull_ref, x_tsw, x_lsw, x_iadd, x_isub, x_imul, x_iand, x_ior, x_ishl, x_ishr, x_iushr, x_ladd, x_lsub, x_lmul, x_land, x_lor, x_lxor, x_lshl, x_lshr, x_lushr, x_idiv, x_irem, x_ldiv, x_lrem, x_lcmp, x_i2l, x_l2i, x_i2b, x_lneg, x_getfield, x_putfield, x_arraylength, x_iaload, x_baload, x_laload, x_aaload, x_iastore, x_bastore, x_lastore, x_aastore, x_newarray, x_anewarray, x_new, x_invokevirtual, x_ireturn, x_lreturn, x_areturn, x_return_, x_invokestatic, x_invokespecial, x_invokestatic1, mj_b_some, mj_b_none, mj_b_ite, mj_ok_ite, mj_ok_some, mj_ok_none, mj_s1, mj_s2, ↓reduceIte, reduceCtorEq, Nat.reduceAdd, Nat.reduceEqDiff, Nat.reduceBEq, Nat.reduceLT, Nat.reduceLeDiff, Nat.reduceMul, Bool.false_eq_true, Bool.not_true, Bool.not_false, Bool.and_true, Bool.true_and, Bool.and_false, Bool.false_and, Bool.or_false, Bool.or_true, Bool.false_or, Bool.true_or, List.getElem?_cons_zero, List.getElem?_cons_succ, List.set_cons_zero, List.set_cons_succ, List.length_cons, List.length_nil, List.filter_cons, List.filter_nil, and_self, and_true, true_and, not_true_eq_false, not_false_eq_true, if_true, if_false, implies_true, forall_const, decide_true, decide_false, beq_self_eq_true, Nat.zero_add, Int32.reduceLT, Int32.reduceLE, Int32.reduceAdd, Int32.reduceSub, Int32.reduceMul, Option.toList_none, Option.toList_some, List.nil_append, List.cons_append, mj_M, id_J9_abs_067f4, Option.map_some, fe_X4_survey_0, fe_X4_survey_1, fe_X4_survey_4, fe_X4_survey_5, fe_X4_survey_8, fe_X4_survey_9, fe_X4_survey_10, fe_X4_survey_11, fe_X4_survey_14, fe_X4_survey_15, fe_X4_survey_16, fe_X4_survey_17, fe_X4_survey_18, fe_X4_survey_19, fe_X4_survey_20, fe_X4_survey_21, fe_X4_survey_24, fe_X4_survey_25, fe_X4_survey_28]
  refine ca_X3_empty fe_X4_survey_1 (Nat.le_of_ble_eq_true rfl) hFr.1 (wp_X3_empty hFr fun hp1 hF1 hX1 => ?_)
  have hL1 : FrontAt hp1 fr [] := ⟨F0, hF1, fun j hj => absurd hj (Nat.not_lt_zero j)⟩
  have hC1 := hC.sm (hX1.sm (by omega))
  have hB1 := hB.fr hX1 (by omega)
  obtain ⟨f, hf1, hf2⟩ := hC1.rw
  have hf0 : f 0 = some (t + 32) := hf2 0 (by omega)
  obtain ⟨a1, a2, a3, hR0⟩ := (hRw 0 (by omega)).sm (hX1.sm (by omega))
  refine mj_rn.go [] 60 ?_
  simp only [lv_args, Value.category, y_e0, y_e1, y_k1, y_in0, y_in1, y_get, y_li, y_ll, y_la, y_la0, y_inc, y_gc, y_gv, y_pc, y_fitI, y_fitZ, y_fitL, y_fitR, y_fitN, y_len, y_ia, y_ba, y_za, y_la1, y_aa, y_is, y_bs, y_zs, y_ls, y_maxi, y_mini, y_maxl, y_minl, y_absl, y_cpy, y_obj, y_w0, y_w1, y_w2, y_w3, y_w4, x_iconst, x_bipush, x_sipush, x_lconst, x_ldc, x_ldc_w, x_ldc2_w, x_aconst_null, x_iload_n, x_iload, x_lload_n, x_lload, x_aload_n, x_aload, x_istore_n, x_istore, x_lstore_n, x_lstore, x_astore_n, x_astore_n_null, x_astore, x_astore_null, x_iinc, x_dup_int, x_dup_ref, x_dup2, x_pop_int, x_pop_ref, x_goto, x_if_eq, x_icmp_eq, x_if_ne, x_icmp_ne, x_if_lt, x_icmp_lt, x_if_ge, x_icmp_ge, x_if_gt, x_icmp_gt, x_if_le, x_icmp_le, x_ifnull_null, x_ifnull_ref, x_ifnonnull_null, x_ifnonnull_ref, x_tsw, x_lsw, x_iadd, x_isub, x_imul, x_iand, x_ior, x_ishl, x_ishr, x_iushr, x_ladd, x_lsub, x_lmul, x_land, x_lor, x_lxor, x_lshl, x_lshr, x_lushr, x_idiv, x_irem, x_ldiv, x_lrem, x_lcmp, x_i2l, x_l2i, x_i2b, x_lneg, x_getfield, x_putfield, x_arraylength, x_iaload, x_baload, x_laload, x_aaload, x_iastore, x_bastore, x_lastore, x_aastore, x_newarray, x_anewarray, x_new, x_invokevirtual, x_ireturn, x_lreturn, x_areturn, x_return_, x_invokestatic, x_invokespecial, x_invokestatic1, mj_b_some, mj_b_none, mj_b_ite, mj_ok_ite, mj_ok_some, mj_ok_none, mj_s1, mj_s2, ↓reduceIte, reduceCtorEq, Nat.reduceAdd, Nat.reduceEqDiff, Nat.reduceBEq, Nat.reduceLT, Nat.reduceLeDiff, Nat.reduceMul, Bool.false_eq_true, Bool.not_true, Bool.not_false, Bool.and_true, Bool.true_and, Bool.and_false, Bool.false_and, Bool.or_false, Bool.or_true, Bool.false_or, Bool.true_or, List.getElem?_cons_zero, List.getElem?_cons_succ, List.set_cons_zero, List.set_cons_succ, List.length_cons, List.length_nil, List.filter_cons, List.filter_nil, and_self, and_true, true_and, not_true_eq_false, not_false_eq_true, if_true, if_false, implies_true, forall_const, decide_true, decide_false, beq_self_eq_true, Nat.zero_add, Int32.reduceLT, Int32.reduceLE, Int32.reduceAdd, Int32.reduceSub, Int32.reduceMul, Option.toList_none, Option.toList_some, List.nil_append, List.cons_append, mj_M, id_J9_abs_067f4, Option.map_some, fe_X4_survey_0, fe_X4_survey_1, fe_X4_survey_4, fe_X4_survey_5, fe_X4_survey_8, fe_X4_survey_9, fe_X4_survey_10, fe_X4_survey_11, fe_X4_survey_14, fe_X4_survey_15, fe_X4_survey_16, fe_X4_survey_17, fe_X4_survey_18, fe_X4_survey_19, fe_X4_survey_20, fe_X4_survey_21, fe_X4_survey_24, fe_X4_survey_25, fe_X4_survey_28, hC1.ob, hf1, sb_cl0, show ¬ (0 : Int32) < 0 from by decide, show ¬ 3 ≤ 0 from by decide, or_self, hf0, va_rf_some]
  refine ca_X8_gather fe_X4_survey_11 (Nat.le_of_ble_eq_true rfl) hR0.ob (wp_X8_gather (by omega) hR0 hB1 fun hp2 hR2 hX2 => ?_)
  have hB2 := hB1.fr hX2 (by omega)
  have hC2 := hC1.sm (hX2.sm (by omega))
  have hL2 := hL1.fr hX2 (by omega)
  have hS2 : ExS hp2 t 0 := ⟨hC2, (hG2.sm (hX1.sm (by omega))).sm (hX2.sm (by omega)), (hP6.sm (hX1.sm (by omega))).sm (hX2.sm (by omega)), fun j j1 j2 => ((hRw j j2).sm (hX1.sm (by omega))).sm (hX2.sm (by omega))⟩
  refine mj_rn.go [] 60 ?_
  simp only [lv_args, Value.category, y_e0, y_e1, y_k1, y_in0, y_in1, y_get, y_li, y_ll, y_la, y_la0, y_inc, y_gc, y_gv, y_pc, y_fitI, y_fitZ, y_fitL, y_fitR, y_fitN, y_len, y_ia, y_ba, y_za, y_la1, y_aa, y_is, y_bs, y_zs, y_ls, y_maxi, y_mini, y_maxl, y_minl, y_absl, y_cpy, y_obj, y_w0, y_w1, y_w2, y_w3, y_w4, x_iconst, x_bipush, x_sipush, x_lconst, x_ldc, x_ldc_w, x_ldc2_w, x_aconst_null, x_iload_n, x_iload, x_lload_n, x_lload, x_aload_n, x_aload, x_istore_n, x_istore, x_lstore_n, x_lstore, x_astore_n, x_astore_n_null, x_astore, x_astore_null, x_iinc, x_dup_int, x_dup_ref, x_dup2, x_pop_int, x_pop_ref, x_goto, x_if_eq, x_icmp_eq, x_if_ne, x_icmp_ne, x_if_lt, x_icmp_lt, x_if_ge, x_icmp_ge, x_if_gt, x_icmp_gt, x_if_le, x_icmp_le, x_ifnull_null, x_ifnull_ref, x_ifnonnull_null, x_ifnonnull_ref, x_tsw, x_lsw, x_iadd, x_isub, x_imul, x_iand, x_ior, x_ishl, x_ishr, x_iushr, x_ladd, x_lsub, x_lmul, x_land, x_lor, x_lxor, x_lshl, x_lshr, x_lushr, x_idiv, x_irem, x_ldiv, x_lrem, x_lcmp, x_i2l, x_l2i, x_i2b, x_lneg, x_getfield, x_putfield, x_arraylength, x_iaload, x_baload, x_laload, x_aaload, x_iastore, x_bastore, x_lastore, x_aastore, x_newarray, x_anewarray, x_new, x_invokevirtual, x_ireturn, x_lreturn, x_areturn, x_return_, x_invokestatic, x_invokespecial, x_invokestatic1, mj_b_some, mj_b_none, mj_b_ite, mj_ok_ite, mj_ok_some, mj_ok_none, mj_s1, mj_s2, ↓reduceIte, reduceCtorEq, Nat.reduceAdd, Nat.reduceEqDiff, Nat.reduceBEq, Nat.reduceLT, Nat.reduceLeDiff, Nat.reduceMul, Bool.false_eq_true, Bool.not_true, Bool.not_false, Bool.and_true, Bool.true_and, Bool.and_false, Bool.false_and, Bool.or_false, Bool.or_true, Bool.false_or, Bool.true_or, List.getElem?_cons_zero, List.getElem?_cons_succ, List.set_cons_zero, List.set_cons_succ, List.length_cons, List.length_nil, List.filter_cons, List.filter_nil, and_self, and_true, true_and, not_true_eq_false, not_false_eq_true, if_true, if_false, implies_true, forall_const, decide_true, decide_false, beq_self_eq_true, Nat.zero_add, Int32.reduceLT, Int32.reduceLE, Int32.reduceAdd, Int32.reduceSub, Int32.reduceMul, Option.toList_none, Option.toList_some, List.nil_append, List.cons_append, mj_M, id_J9_abs_067f4, Option.map_some, fe_X4_survey_0, fe_X4_survey_1, fe_X4_survey_4, fe_X4_survey_5, fe_X4_survey_8, fe_X4_survey_9, fe_X4_survey_10, fe_X4_survey_11, fe_X4_survey_14, fe_X4_survey_15, fe_X4_survey_16, fe_X4_survey_17, fe_X4_survey_18, fe_X4_survey_19, fe_X4_survey_20, fe_X4_survey_21, fe_X4_survey_24, fe_X4_survey_25, fe_X4_survey_28]
  refine ca_X4_bytesAround fe_X4_survey_21 (Nat.le_of_ble_eq_true rfl) hC2.ob (wp_X4_bytesAround hB2 ?_)
  have hwn : wn dep ≤ 63 := by
    rcases (show dep = 0 ∨ dep = 1 ∨ dep = 2 by omega) with rfl | rfl | rfl <;> decide
  have h8 : (0 + 1) * 8 ^ (dep + 1) ≤ 2 ^ 30 := by
    rcases (show dep = 0 ∨ dep = 1 ∨ dep = 2 by omega) with rfl | rfl | rfl <;> decide
  refine mj_rn.go [] 60 ?_
  simp only [lv_args, Value.category, y_e0, y_e1, y_k1, y_in0, y_in1, y_get, y_li, y_ll, y_la, y_la0, y_inc, y_gc, y_gv, y_pc, y_fitI, y_fitZ, y_fitL, y_fitR, y_fitN, y_len, y_ia, y_ba, y_za, y_la1, y_aa, y_is, y_bs, y_zs, y_ls, y_maxi, y_mini, y_maxl, y_minl, y_absl, y_cpy, y_obj, y_w0, y_w1, y_w2, y_w3, y_w4, x_iconst, x_bipush, x_sipush, x_lconst, x_ldc, x_ldc_w, x_ldc2_w, x_aconst_null, x_iload_n, x_iload, x_lload_n, x_lload, x_aload_n, x_aload, x_istore_n, x_istore, x_lstore_n, x_lstore, x_astore_n, x_astore_n_null, x_astore, x_astore_null, x_iinc, x_dup_int, x_dup_ref, x_dup2, x_pop_int, x_pop_ref, x_goto, x_if_eq, x_icmp_eq, x_if_ne, x_icmp_ne, x_if_lt, x_icmp_lt, x_if_ge, x_icmp_ge, x_if_gt, x_icmp_gt, x_if_le, x_icmp_le, x_ifnull_null, x_ifnull_ref, x_ifnonnull_null, x_ifnonnull_ref, x_tsw, x_lsw, x_iadd, x_isub, x_imul, x_iand, x_ior, x_ishl, x_ishr, x_iushr, x_ladd, x_lsub, x_lmul, x_land, x_lor, x_lxor, x_lshl, x_lshr, x_lushr, x_idiv, x_irem, x_ldiv, x_lrem, x_lcmp, x_i2l, x_l2i, x_i2b, x_lneg, x_getfield, x_putfield, x_arraylength, x_iaload, x_baload, x_laload, x_aaload, x_iastore, x_bastore, x_lastore, x_aastore, x_newarray, x_anewarray, x_new, x_invokevirtual, x_ireturn, x_lreturn, x_areturn, x_return_, x_invokestatic, x_invokespecial, x_invokestatic1, mj_b_some, mj_b_none, mj_b_ite, mj_ok_ite, mj_ok_some, mj_ok_none, mj_s1, mj_s2, ↓reduceIte, reduceCtorEq, Nat.reduceAdd, Nat.reduceEqDiff, Nat.reduceBEq, Nat.reduceLT, Nat.reduceLeDiff, Nat.reduceMul, Bool.false_eq_true, Bool.not_true, Bool.not_false, Bool.and_true, Bool.true_and, Bool.and_false, Bool.false_and, Bool.or_false, Bool.or_true, Bool.false_or, Bool.true_or, List.getElem?_cons_zero, List.getElem?_cons_succ, List.set_cons_zero, List.set_cons_succ, List.length_cons, List.length_nil, List.filter_cons, List.filter_nil, and_self, and_true, true_and, not_true_eq_false, not_false_eq_true, if_true, if_false, implies_true, forall_const, decide_true, decide_false, beq_self_eq_true, Nat.zero_add, Int32.reduceLT, Int32.reduceLE, Int32.reduceAdd, Int32.reduceSub, Int32.reduceMul, Option.toList_none, Option.toList_some, List.nil_append, List.cons_append, mj_M, id_J9_abs_067f4, Option.map_some, fe_X4_survey_0, fe_X4_survey_1, fe_X4_survey_4, fe_X4_survey_5, fe_X4_survey_8, fe_X4_survey_9, fe_X4_survey_10, fe_X4_survey_11, fe_X4_survey_14, fe_X4_survey_15, fe_X4_survey_16, fe_X4_survey_17, fe_X4_survey_18, fe_X4_survey_19, fe_X4_survey_20, fe_X4_survey_21, fe_X4_survey_24, fe_X4_survey_25, fe_X4_survey_28]
  refine ca_X4_explore fe_X4_survey_25 (Nat.le_of_ble_eq_true rfl) hC2.ob (wp_X4_exploreK d dep t N sl (t + 32) fr 0 dep 0 (arnd P) 0 hp2 _ (pv P) [] [] [] (by omega) hdep rfl hfr hS2 hR2 hL2 (fun i j _ hj => absurd hj (Nat.not_lt_zero j)) (fun j hj => absurd hj (Nat.not_lt_zero j)) (by simp; omega) (by omega) (by omega) h8 ?_)
  intro hp3 hS3 hR3 hL3 hI3 hB3 hl3 hE3
  have hwl := wys_len dep (pv P) 0 (arnd P) 0
  simp only [List.length_nil, Nat.zero_add] at hl3
  refine mj_rn.go [] 20 ?_
  simp only [lv_args, Value.category, y_e0, y_e1, y_k1, y_in0, y_in1, y_get, y_li, y_ll, y_la, y_la0, y_inc, y_gc, y_gv, y_pc, y_fitI, y_fitZ, y_fitL, y_fitR, y_fitN, y_len, y_ia, y_ba, y_za, y_la1, y_aa, y_is, y_bs, y_zs, y_ls, y_maxi, y_mini, y_maxl, y_minl, y_absl, y_cpy, y_obj, y_w0, y_w1, y_w2, y_w3, y_w4, x_iconst, x_bipush, x_sipush, x_lconst, x_ldc, x_ldc_w, x_ldc2_w, x_aconst_null, x_iload_n, x_iload, x_lload_n, x_lload, x_aload_n, x_aload, x_istore_n, x_istore, x_lstore_n, x_lstore, x_astore_n, x_astore_n_null, x_astore, x_astore_null, x_iinc, x_dup_int, x_dup_ref, x_dup2, x_pop_int, x_pop_ref, x_goto, x_if_eq, x_icmp_eq, x_if_ne, x_icmp_ne, x_if_lt, x_icmp_lt, x_if_ge, x_icmp_ge, x_if_gt, x_icmp_gt, x_if_le, x_icmp_le, x_ifnull_null, x_ifnull_ref, x_ifnonnull_null, x_ifnonnull_ref, x_tsw, x_lsw, x_iadd, x_isub, x_imul, x_iand, x_ior, x_ishl, x_ishr, x_iushr, x_ladd, x_lsub, x_lmul, x_land, x_lor, x_lxor, x_lshl, x_lshr, x_lushr, x_idiv, x_irem, x_ldiv, x_lrem, x_lcmp, x_i2l, x_l2i, x_i2b, x_lneg, x_getfield, x_putfield, x_arraylength, x_iaload, x_baload, x_laload, x_aaload, x_iastore, x_bastore, x_lastore, x_aastore, x_newarray, x_anewarray, x_new, x_invokevirtual, x_ireturn, x_lreturn, x_areturn, x_return_, x_invokestatic, x_invokespecial, x_invokestatic1, mj_b_some, mj_b_none, mj_b_ite, mj_ok_ite, mj_ok_some, mj_ok_none, mj_s1, mj_s2, ↓reduceIte, reduceCtorEq, Nat.reduceAdd, Nat.reduceEqDiff, Nat.reduceBEq, Nat.reduceLT, Nat.reduceLeDiff, Nat.reduceMul, Bool.false_eq_true, Bool.not_true, Bool.not_false, Bool.and_true, Bool.true_and, Bool.and_false, Bool.false_and, Bool.or_false, Bool.or_true, Bool.false_or, Bool.true_or, List.getElem?_cons_zero, List.getElem?_cons_succ, List.set_cons_zero, List.set_cons_succ, List.length_cons, List.length_nil, List.filter_cons, List.filter_nil, and_self, and_true, true_and, not_true_eq_false, not_false_eq_true, if_true, if_false, implies_true, forall_const, decide_true, decide_false, beq_self_eq_true, Nat.zero_add, Int32.reduceLT, Int32.reduceLE, Int32.reduceAdd, Int32.reduceSub, Int32.reduceMul, Option.toList_none, Option.toList_some, List.nil_append, List.cons_append, mj_M, id_J9_abs_067f4, Option.map_some, fe_X4_survey_0, fe_X4_survey_1, fe_X4_survey_4, fe_X4_survey_5, fe_X4_survey_8, fe_X4_survey_9, fe_X4_survey_10, fe_X4_survey_11, fe_X4_survey_14, fe_X4_survey_15, fe_X4_survey_16, fe_X4_survey_17, fe_X4_survey_18, fe_X4_survey_19, fe_X4_survey_20, fe_X4_survey_21, fe_X4_survey_24, fe_X4_survey_25, fe_X4_survey_28]
  have hF8' : ∃ n F, FRaw hp3 (t + 8) n F := by
    rcases (show fr = t + 8 ∨ ¬ fr = t + 8 from Decidable.em _) with q | q
    · obtain ⟨F, hF, -⟩ := hL3
      rw [q] at hF
      exact ⟨_, F, hF⟩
    · obtain ⟨n, F, hF⟩ := hF8
      have hS : ∀ i, t + 8 ≤ i → i < t + 12 → hp3 i = hp i := fun i i1 i2 => ((hE3 i (by omega) (by omega) (by omega)).trans (hX2 i (by omega))).trans (hX1 i (by omega))
      exact ⟨n, F, by rw [hS _ (by omega) (by omega)]; exact hF.1, by rw [hS _ (by omega) (by omega)]; exact hF.2.1, by rw [hS _ (by omega) (by omega)]; exact hF.2.2.1, by rw [hS _ (by omega) (by omega)]; exact hF.2.2.2⟩
  refine rt_X4_survey fe_X4_survey_28 (hQ hp3 ⟨hS3.1, hS3.2.1, hS3.2.2.1, hF8', ?_, fun j hj => ?_⟩ hL3 hI3 hB3 (by omega) ?_)
  · exact hW.sm (fun i i1 i2 => ((hE3 i (by omega) (by omega) (by omega)).trans (hX2 i (by omega))).trans (hX1 i (by omega)))
  · rcases Nat.eq_zero_or_pos j with q | q
    · subst q; exact hR3
    · exact hS3.2.2.2 j q hj
  · exact (hX1.e (by omega)).tr ((hX2.e (by omega)).tr hE3)
