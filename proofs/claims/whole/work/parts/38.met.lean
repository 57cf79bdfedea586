/-! calls, returns, and the contract of every method -/
theorem mj_GW_good {w : Jvm.Cond} (h : w ∈ mj_GW) : w ∈ lw_tbl ∧ ((w.onTables && w.keeps) = true ∨ ∃ ty, w = .arrayClass ty) := ⟨(List.mem_filter.mp h).1, good_of_word (List.mem_filter.mp h).2⟩
theorem mj_wy_good {y : Nat} (hy : y < 259) : GoodIn mj_GW (mj_wy (mj_tab y)) := by
  intro w hw
  rcases List.mem_cons.mp hw with rfl | hw
  · have h1 := (mj_tab_mem hy).2.1
    exact ⟨List.mem_filter.mpr ⟨h1, rfl⟩, good_of_word rfl⟩
  · exact ⟨hw, (mj_GW_good hw).2⟩
theorem mj_lm_args {ι : Nat → Nat} : ∀ (As : List Value) (i : Nat), lv_args i (As.map (mj_mv ι)) = mj_lm ι (lv_args i As)
  | [], _ => rfl
  | v :: r, i => by
    show (i, mj_mv ι v) :: lv_args (if (mj_mv ι v).category = 2 then i + 2 else i + 1) (r.map (mj_mv ι)) = (i, mj_mv ι v) :: mj_lm ι (lv_args (if v.category = 2 then i + 2 else i + 1) r)
    rw [mj_mv_cat, mj_lm_args r]
theorem mj_sl_len : ∀ (vs : List Value), (lg_sl vs).length = mj_w vs
  | [] => rfl
  | v :: r => by
    have h1 : (lg_sl (v :: r)).length = (if v.category = 2 then [Slot.val v, Slot.second] else [Slot.val v]).length + (lg_sl r).length := by simp [lg_sl]
    have h2 : mj_w (v :: r) = v.category + mj_w r := by simp [mj_w]
    rw [h1, h2, mj_sl_len r]
    rcases lv_cat v with h | h <;> simp [h]
theorem mj_args_cl {n : Nat} : ∀ (As : List Value) (i : Nat), (∀ v ∈ As, mj_cv n v) → ∀ q ∈ lv_args i As, mj_cv n q.2
  | [], _, _, q, hq => by cases hq
  | v :: r, i, h, q, hq => by
    rcases List.mem_cons.mp hq with rfl | hq
    · exact h v List.mem_cons_self
    · exact mj_args_cl r _ (fun w hw => h w (List.mem_cons_of_mem _ hw)) q hq
theorem mj_w_rev (st : List Value) : mj_w st.reverse = mj_w st := by
  unfold mj_w
  rw [List.map_reverse, List.sum_reverse]
theorem mj_own_vw {ci : Nat} {r : vw_C} (h : vwCl[ci]? = some r) : r.1 = mj_own.getD ci "" := by
  match ci, h with
  | 0, h => cases h; rfl
  | 1, h => cases h; rfl
  | 2, h => cases h; rfl
  | 3, h => cases h; rfl
  | 4, h => cases h; rfl
  | 5, h => cases h; rfl
  | 6, h => cases h; rfl
  | 7, h => cases h; rfl
  | 8, h => cases h; rfl
  | 9, h => cases h; rfl
  | 10, h => cases h; rfl
  | 11, h => cases h; rfl
  | 12, h => cases h; rfl
  | k + 13, h => simp [vwCl] at h
section SIMC
variable {p : Program} {l : Launch} {e : Env} {R : Room} {s : State} {m : MethodId} {args : Array Value} {below : List Frame} {meth : Method} {c0 : Code} {Q : State → Prop} {D : va_G} {A : Nat → Prop} {b L : Nat} {xs : Nat → Int32} {cM : MI} {d : Nat}
/-- behind a call, for any answer -/
theorem mj_callk {A1 : Nat → Prop} {free : Addr → Prop} {H : Heap} {locs : List Loc} {cells slots mc ms pc : Nat} {ls : Array Slot} {st0 rest : List Value} {P : Outcome → State → Prop} (hr : va_Run p l e R s m args below meth c0 H locs cells slots mc ms (F0 m pc ls st0) rest (fun st oc t => P oc t ∧ va_F A1 st t) free) (hS : va_S A s.heap H locs) (hA1 : ∀ q, A1 q → A q) (hf : ∀ q, free q → A q)
    (kk : ∀ (v : Option Value) (t : State) (H1 : Heap) (locs1 : List Loc), t.heap = H1 → s.vm.Alike t.vm → P (.returned v) t → va_S A s.heap H1 locs1 → W p l e R s m args below meth c0 H1 locs1 (cells + mc) (slots + ms) Q (F0 m (pc + 3) ls (v.toList ++ rest))) : W p l e R s m args below meth c0 H locs cells slots Q (F0 m pc ls st0) := by
  intro T hT X
  obtain ⟨v, st₀, t, T', L2, h0, X', hL, e1, e2, ⟨hp, hz, hk⟩, st⟩ := hr T hT X
  rw [h0] at hz hk
  obtain ⟨t2, a1, b1⟩ := kk v t T'.heap (locs ++ L2) e1.symm (by rw [← e2]; exact X'.warmed.alike) hp
    ⟨Nat.le_trans hS.1 (by rw [e1]; exact hz), fun q h1 h2 => by rw [e1, hk q (Nat.lt_of_lt_of_le h1 hS.1) (fun z => h2 (hA1 q z))]; exact hS.2.1 q h1 h2, fun q hq => by
      rcases List.mem_append.mp hq with h | h
      · exact hS.2.2 q h
      · exact hf _ (hL q h)⟩ T' rfl X'
  exact ⟨t2, st t2 a1, b1⟩
theorem mj_inv_spec {c : MI} {pc : Nat} {lv : ML} {st : List Value} {h : MH} {y : Nat} {As rest : List Value} (hi : mj_inv c (pc, lv, st, h) = some (y, As, rest)) : ∃ (i : Instr) (len n : Nat) (v : Value), mj_f c pc = some (i, len, y, n, v) ∧ y < 259 ∧ mj_w rest ≤ 8 ∧ mj_w As ≤ (mj_tab y).2.2.1 ∧
    ((∃ k, i = .invokestatic k ∧ As.length = n ∧ st = As.reverse ++ rest ∧ mj_kd y = 0) ∨ (∃ k o As2, i = .invokespecial k ∧ As = .ref o :: As2 ∧ As2.length = n ∧ st = As2.reverse ++ .ref o :: rest ∧ mj_kd y = 1) ∨ (∃ k o As2, i = .invokevirtual k ∧ As = .ref o :: As2 ∧ As2.length = n ∧ st = As2.reverse ++ .ref o :: rest ∧ mj_kd y = 2 ∧ mj_isA h o (mj_tab y).2.2.2.2.1 = true)) := by
  unfold mj_inv at hi
  dsimp only at hi
  split at hi
  · rename_i k len a n v hf
    split at hi
    · rename_i hq
      cases hi
      refine ⟨_, _, _, _, hf, hq.1, hq.2.2.1, by rw [mj_w_rev]; exact hq.2.2.2.1, Or.inl ⟨k, rfl, ?_, ?_, hq.2.2.2.2⟩⟩
      · rw [List.length_reverse, List.length_take]; omega
      · rw [List.reverse_reverse, List.take_append_drop]
    · cases hi
  · rename_i k len a n v hf
    split at hi
    · rename_i o rst hdr
      split at hi
      · rename_i hq
        cases hi
        refine ⟨_, _, _, _, hf, hq.1, hq.2.2.1, ?_, Or.inr (Or.inl ⟨k, o, _, rfl, rfl, ?_, ?_, hq.2.2.2.2⟩)⟩
        · have : mj_w (Value.ref o :: (List.take n st).reverse) = 1 + mj_w (List.take n st).reverse := by simp [mj_w, Value.category]
          rw [this, mj_w_rev]; exact hq.2.2.2.1
        · rw [List.length_reverse, List.length_take]; omega
        · rw [List.reverse_reverse, ← hdr, List.take_append_drop]
      · cases hi
    · cases hi
  · rename_i k len a n v hf
    split at hi
    · rename_i o rst hdr
      split at hi
      · rename_i hq
        cases hi
        refine ⟨_, _, _, _, hf, hq.1, hq.2.2.1, ?_, Or.inr (Or.inr ⟨k, o, _, rfl, rfl, ?_, ?_, hq.2.2.2.2.1, hq.2.2.2.2.2⟩)⟩
        · have : mj_w (Value.ref o :: (List.take n st).reverse) = 1 + mj_w (List.take n st).reverse := by simp [mj_w, Value.category]
          rw [this, mj_w_rev]; exact hq.2.2.2.1
        · rw [List.length_reverse, List.length_take]; omega
        · rw [List.reverse_reverse, ← hdr, List.take_append_drop]
      · cases hi
    · cases hi
  · cases hi
/-- a link's word, plain or among nest mates -/
theorem mj_link_or {own : String} {k : Nat} {y : MethodName} {v : Value} {pos : Nat} (h : mj_link own k y v pos = true) : Cond.methodLink own k y ∈ mj_GW ∨ ∃ host, Cond.methodLinkNest own k y host ∈ mj_EW := by
  unfold mj_link at h
  split at h
  · exact Or.inl (mj_has_GW h rfl)
  · split at h
    · rename_i o k' y' host he
      simp only [Bool.and_eq_true, decide_eq_true_eq] at h
      obtain ⟨⟨rfl, rfl⟩, rfl⟩ := h
      exact Or.inr ⟨host, List.mem_filter.mpr ⟨List.mem_of_getElem? he, rfl⟩⟩
    · cases h
set_option maxHeartbeats 4000000 in
theorem mj_simc (F : mj_F p R s m args meth c0 D A b L xs cM d) {pc : Nat} {lv : ML} {st : List Value} {h h1 : MH} {y : Nat} {As rest : List Value} {r1 : Option Value} {ι : Nat → Nat} {cA : Nat → ClassId} {H : Heap} {locs : List Loc} {ls : Array Slot} {cells slots : Nat} (hi : mj_inv cM (pc, lv, st, h) = some (y, As, rest)) (hM : mj_Met l d (mj_tab y) As h r1 h1) (hR : mj_R D A b L xs ι cA h s H) (hS : va_S A s.heap H locs) (hcs : ∀ v ∈ st, mj_cv h.1 v) (hcl : ∀ q ∈ lv, mj_cv h.1 q.2) (hlv : lv_has ls cM.2.2.1 (mj_lm ι lv)) (hroom : cells + (h1.1 - h.1) ≤ R.cells ∧ slots + (h1.2.1 - h.2.1) ≤ R.slots) (hmo : h.1 ≤ h1.1)
    (k : ∀ (ι' : Nat → Nat) (cA' : Nat → ClassId) (H' : Heap) (locs' : List Loc), (∀ j, j ≤ h.1 → ι' j = ι j) → mj_R D A b L xs ι' cA' h1 s H' → va_S A s.heap H' locs' → (∀ v ∈ r1.toList ++ rest, mj_cv h1.1 v) → (∀ q ∈ lv, mj_cv h1.1 q.2) → lv_has ls cM.2.2.1 (mj_lm ι' lv) → W p l e R s m args below meth c0 H' locs' (cells + (h1.1 - h.1)) (slots + (h1.2.1 - h.2.1)) Q (F0 m (pc + 3) ls ((r1.toList ++ rest).map (mj_mv ι')))) :
    W p l e R s m args below meth c0 H locs cells slots Q (F0 m pc ls (st.map (mj_mv ι))) := by
  obtain ⟨hx, hb, hml, hown, hname, hck, hGW, hEW, hK, hX, hbl, hbA, hA, hRf, hRl⟩ := F
  obtain ⟨i, len, n, v, hf, hy, hwr, hwa, hkind⟩ := mj_inv_spec hi
  obtain ⟨pos, hc⟩ := mj_ck_of hck hf
  unfold mj_ck at hc
  rw [Bool.and_eq_true] at hc
  obtain ⟨hd0, hc⟩ := hc
  have hd := of_decide_eq_true hd0
  clear hd0
  obtain ⟨hyc, hyw, pq, hym⟩ := mj_tab_mem hy
  unfold mj_m2 at hym
  simp only [Bool.and_eq_true, decide_eq_true_eq] at hym
  obtain ⟨⟨⟨⟨⟨⟨hy1, hy2⟩, hy3⟩, hy4⟩, hy5⟩, hy6⟩, hy7⟩ := hym
  have hini := hGW _ (mj_has_GW hy1 rfl)
  have hG := mj_wy_good hy
  have hA1 : ∀ q, va_A (mj_ws ι cA h) H.size q → A q := by
    intro q hq
    rcases hq with ⟨j, ee, hj⟩ | hq
    · exact hR.2.1.2 j _ hj
    · exact hA q (Nat.le_trans hS.1 hq)
  have hMM := hM D b L xs ι cA H.size
  have hXH : va_X b L xs s H := hX.kept (hS.2.1 b hbl hbA)
  have hB : ∀ U : State, U.heap = H → s.WarmedH U.vm → mj_B D b L xs ι cA h H.size U := by
    intro U hU hW
    refine ⟨by rw [hU], hK.moved hW.alike, ?_, ?_, ?_, mj_EW_warm hW hEW⟩
    · rw [hU]
      exact (hR.wk (fun _ _ => trivial)).moved hW.alike
    · rw [hU]
      exact hXH.moved hW.alike
    · intro j j1 j2 e1
      apply hbA
      rw [← e1]
      exact hR.2.1.2 (j - 1) _ (mj_ws_at j1 j2)
  have hfr : (mj_room d (h1.1 - h.1) (h1.2.1 - h.2.1)).frames + 1 ≤ R.frames ∧ 8 + ((mj_tab y).2.2.1 + 11) + (mj_room d (h1.1 - h.1) (h1.2.1 - h.2.1)).locals ≤ R.locals := by
    show d + 1 ≤ R.frames ∧ 8 + ((mj_tab y).2.2.1 + 11) + 60 * d ≤ R.locals
    omega
  have fin : va_Run p l e R s m args below meth c0 H locs cells slots (h1.1 - h.1) (h1.2.1 - h.2.1) (F0 m pc ls (st.map (mj_mv ι))) (rest.map (mj_mv ι)) (fun st oc t => mj_E D b L xs ι cA h H.size r1 h1 oc t ∧ va_F (va_A (mj_ws ι cA h) H.size) st t) (va_A (mj_ws ι cA h) H.size) → W p l e R s m args below meth c0 H locs cells slots Q (F0 m pc ls (st.map (mj_mv ι))) := by
    intro hr
    refine mj_callk hr hS hA1 hA1 (fun w t H1 locs1 ht hvm hE hS1 => ?_)
    obtain ⟨ι', cA', ho, hι, hrc, hR1⟩ := hE
    cases ho
    rw [ht] at hR1
    have hR2 := (hR1.wk hA1).moved hvm.symm
    have hrest : ∀ v ∈ rest, mj_cv h.1 v := by
      intro v hv
      apply hcs
      rcases hkind with ⟨_, -, -, e1, -⟩ | ⟨_, _, _, -, -, -, e1, -⟩ | ⟨_, _, _, -, -, -, e1, -⟩ <;> rw [e1] <;> simp [hv]
    have k2 := k ι' cA' H1 locs1 hι hR2 hS1 (fun v hv => by
      rcases List.mem_append.mp hv with q | q
      · cases r1 with
        | none => cases q
        | some w => rw [List.mem_singleton.mp (show v ∈ [w] from q)]; exact hrc w rfl
      · exact (hrest v q).le hmo) (fun q hq => (hcl q hq).le hmo) (by rw [mj_lm_eq hcl hι]; exact hlv)
    rw [List.map_append, mj_mvs_eq hrest hι] at k2
    cases r1 with
    | none => exact k2
    | some w => exact k2
  have hroomW : 2 * (F0 m pc ls (st.map (mj_mv ι))).monitorRoom + ((rest.map (mj_mv ι)).map fun v => v.category).sum ≤ 8 := by
    show 2 * 0 + _ ≤ 8
    rw [mj_w_map]; omega
  have hSx : CallFix p m c0 cM.2.1 cM.2.2.1 s args mj_GW (mj_nm cM) := ⟨hx, hb, hml, hown, hGW⟩
  have hdd : (mj_tab y).1.cls ≠ "java/lang/invoke/MethodHandle" ∧ (mj_tab y).1.cls ≠ "java/lang/invoke/VarHandle" := ⟨hy5, hy6⟩
  rcases hkind with ⟨kk, rfl, hn, rfl, hkd⟩ | ⟨kk, o, As2, rfl, rfl, hn, rfl, hkd⟩ | ⟨kk, o, As2, rfl, rfl, hn, rfl, hkd, hisA⟩
  · -- a static call
    dsimp only at hd hc
    rw [Bool.and_eq_true] at hc
    obtain ⟨hl, hc⟩ := hc
    have hl := eq_of_beq hl
    subst hl
    rw [if_neg (by omega)] at hc
    simp only [Bool.and_eq_true, decide_eq_true_eq] at hc
    obtain ⟨⟨_, hlk⟩, hnp⟩ := hc
    rw [hkd] at hy2
    have hst := hGW _ (mj_has_GW hy2 rfl)
    have hstk : ((As.reverse ++ rest).map (mj_mv ι)) = (As.map (mj_mv ι)).reverse ++ rest.map (mj_mv ι) := by simp
    have hpre : PreS s H (va_Pc (As.map (mj_mv ι)) (mj_B D b L xs ι cA h H.size)) (As.map (mj_mv ι)) := ⟨mj_B_blind, fun U hU hW => ⟨rfl, hB U hU hW⟩⟩
    rcases mj_link_or hlk with q | ⟨host, q⟩
    · exact fin (va_runS hSx hMM ⟨callB_of n hGW hG rfl rfl rfl hini (hGW _ q) ⟨hy5, hy6, hnp⟩ hfr, hst⟩ hpre rfl (by rw [List.length_map]; exact hn) hlv.1 hstk hroomW hd hroom)
    · exact fin (va_runSN hSx hMM ⟨va_cnB n hGW hG rfl rfl rfl (hEW _ q) hini ⟨hy5, hy6, hnp⟩ hfr, hst, trivial⟩ hpre rfl (by rw [List.length_map]; exact hn) hlv.1 hstk hroomW hd hroom)
  · -- a constructor
    dsimp only at hd hc
    rw [Bool.and_eq_true] at hc
    obtain ⟨hl, hc⟩ := hc
    have hl := eq_of_beq hl
    subst hl
    rw [if_neg (by omega)] at hc
    simp only [Bool.and_eq_true, decide_eq_true_eq] at hc
    obtain ⟨⟨⟨⟨_, hlk⟩, hnm⟩, hrn⟩, hnp⟩ := hc
    rw [hkd] at hy2
    simp only [Bool.and_eq_true, decide_eq_true_eq] at hy2
    have hst := hGW _ (mj_has_GW hy2.1 rfl)
    have hstk : ((As2.reverse ++ .ref o :: rest).map (mj_mv ι)) = (As2.map (mj_mv ι)).reverse ++ .ref (ι o) :: rest.map (mj_mv ι) := by simp [mj_mv]
    have hpre : PreS s H (va_Pc ((Value.ref o :: As2).map (mj_mv ι)) (mj_B D b L xs ι cA h H.size)) (.ref (ι o) :: As2.map (mj_mv ι)) := ⟨mj_B_blind, fun U hU hW => ⟨rfl, hB U hU hW⟩⟩
    have hwy : mj_wy (mj_tab y) = Cond.code (mj_tab y).1 (mj_tab y).2.1 (mj_tab y).2.2.1 none :: mj_GW := by unfold mj_wy; rw [hrn]
    rcases mj_link_or hlk with q | ⟨host, q⟩
    · exact fin (va_runI hSx hMM ⟨callB_of n hGW hG hwy rfl rfl hini (hGW _ q) ⟨hy5, hy6, hnp⟩ hfr, hnm, hst⟩ hpre rfl (by rw [List.length_map]; exact hn) hlv.1 hstk hroomW hd hroom)
    · exact fin (va_runIN hSx hMM ⟨va_cnB n hGW hG hwy rfl rfl (hEW _ q) hini ⟨hy5, hy6, hnp⟩ hfr, hnm, hst⟩ hpre rfl (by rw [List.length_map]; exact hn) hlv.1 hstk hroomW hd hroom)
  · -- a call that the object's class selects
    dsimp only at hd hc
    simp only [Bool.and_eq_true, decide_eq_true_eq] at hc
    obtain ⟨⟨⟨hl, _⟩, hlk⟩, hnp⟩ := hc
    have hl := eq_of_beq hl
    subst hl
    rw [hkd] at hy2
    simp only [Bool.and_eq_true] at hy2
    have hst := hGW _ (mj_has_GW hy2.1 rfl)
    have hsel := hGW _ (mj_has_GW hy2.2 rfl)
    have hstk : ((As2.reverse ++ .ref o :: rest).map (mj_mv ι)) = (As2.map (mj_mv ι)).reverse ++ .ref (ι o) :: rest.map (mj_mv ι) := by simp [mj_mv]
    have ho : o ≤ h.1 := hcs (.ref o) (by simp) o rfl
    have hrecv : ∃ cellB : Cell, H[ι o]? = some cellB ∧ cellB.vm.isStatics = false ∧ s.vm.findClass (mj_tab y).1.cls = some cellB.cls := by
      unfold mj_isA at hisA
      split at hisA
      · rename_i ci fs he
        have hci := eq_of_beq hisA
        obtain ⟨rr, hr1, cell, g1, g2, g3, -⟩ := hR.1 _ _ (mj_R_obj hR ho he)
        refine ⟨cell, g1, by rw [g3]; rfl, ?_⟩
        have hq := (hK.1 ci rr hr1).2.1
        rw [g2]
        have hnm : rr.1 = (mj_tab y).1.cls := by
          rw [hy4]
          unfold mj_nm
          rw [← hci]
          exact mj_own_vw hr1
        rw [← hnm]
        exact hq
      · cases hisA
    have hpre : PreV s H (mj_tab y).1.cls (ι o) (va_Pc ((Value.ref o :: As2).map (mj_mv ι)) (mj_B D b L xs ι cA h H.size)) (As2.map (mj_mv ι)) := ⟨mj_B_blind, hrecv, fun U hU hW => ⟨rfl, hB U hU hW⟩⟩
    rcases mj_link_or hlk with q | ⟨host, q⟩
    · exact fin (va_runV hSx hMM ⟨callB_of n hGW hG rfl rfl rfl hini (hGW _ q) ⟨hy5, hy6, hnp⟩ hfr, hst, hsel⟩ hpre rfl (by rw [List.length_map]; exact hn) hlv.1 hstk hroomW hd hroom)
    · exact fin (va_runVN hSx hMM ⟨va_cnB n hGW hG rfl rfl rfl (hEW _ q) hini ⟨hy5, hy6, hnp⟩ hfr, hst, hsel⟩ hpre rfl (by rw [List.length_map]; exact hn) hlv.1 hstk hroomW hd hroom)
end SIMC
