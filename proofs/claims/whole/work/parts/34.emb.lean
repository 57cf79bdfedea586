/-! the small machine's world in the machine's heap -/
def mj_GW : List Jvm.Cond := lw_tbl.filter goodWord
def mj_isN (w : Jvm.Cond) : Bool := match w with
  | .methodLinkNest _ _ _ _ => true
  | .arrayOver (.object _) => true
  | _ => false
def mj_EW : List Jvm.Cond := lw_tbl.filter mj_isN
def mj_mv (ι : Nat → Nat) (v : Value) : Value := match v with
  | .ref i => .ref (ι i)
  | v => v
def mj_em (ι : Nat → Nat) (cA : ClassId) (c : MC) : va_E := match c with
  | .inr (ci, fs) => .inr (ci, fs.map (mj_mv ι))
  | .inl (_, n, .inl f) => .inl (cA, n, .inl f)
  | .inl (_, n, .inr (.inl f)) => .inl (cA, n, .inr (.inl f))
  | .inl (_, n, .inr (.inr (.inl f))) => .inl (cA, n, .inr (.inr (.inl f)))
  | .inl (_, n, .inr (.inr (.inr (.inl f)))) => .inl (cA, n, .inr (.inr (.inr (.inl f))))
  | .inl (_, n, .inr (.inr (.inr (.inr f)))) => .inl (cA, n, .inr (.inr (.inr (.inr (fun j => (f j).map ι)))))
def mj_ws (ι : Nat → Nat) (cA : Nat → ClassId) (h : MH) : va_W := (List.range h.1).map (fun k => (ι (k + 1), mj_em ι (cA (k + 1)) (h.2.2 (k + 1))))
/-- no reference beyond n -/
def mj_cv (n : Nat) (v : Value) : Prop := ∀ i, v = .ref i → i ≤ n
def mj_cc (n : Nat) (c : MC) : Prop := match c with
  | .inr (_, fs) => ∀ v ∈ fs, mj_cv n v
  | .inl (_, _, .inr (.inr (.inr (.inr f)))) => ∀ j i, f j = some i → i ≤ n
  | .inl _ => True
def mj_ch (h : MH) : Prop := ∀ k, 1 ≤ k → k ≤ h.1 → mj_cc h.1 (h.2.2 k)
def mj_ta (U : State) (cA : ClassId) (c : MC) : Prop := match c with
  | .inl (ty, _) => ArrOfT U cA ty ∧ va_RA U cA ty
  | .inr _ => True
def mj_R (D : va_G) (A : Nat → Prop) (b L : Nat) (xs : Nat → Int32) (ι : Nat → Nat) (cA : Nat → ClassId) (h : MH) (U : State) (H : Heap) : Prop :=
  va_P D vwCl (mj_ws ι cA h) H ∧ va_D A (mj_ws ι cA h) ∧ (∀ k, 1 ≤ k → k ≤ h.1 → mj_ta U (cA k) (h.2.2 k)) ∧ mj_ch h ∧ ι 0 = b ∧ h.2.2 0 = .inl (.int, L, .inl xs)
theorem mj_cv_int {n : Nat} {x : Int32} : mj_cv n (.int x) := fun i h => by cases h
theorem mj_cv_long {n : Nat} {x : Int64} : mj_cv n (.long x) := fun i h => by cases h
theorem mj_cv_null {n : Nat} : mj_cv n .null := fun i h => by cases h
theorem mj_cv_ref {n i : Nat} (h : i ≤ n) : mj_cv n (.ref i) := fun j e => by cases e; exact h
theorem mj_cv.le {n m : Nat} {v : Value} (h : mj_cv n v) (hm : n ≤ m) : mj_cv m v := fun i e => Nat.le_trans (h i e) hm
theorem mj_cc.le {n m : Nat} {c : MC} (h : mj_cc n c) (hm : n ≤ m) : mj_cc m c := by
  unfold mj_cc at *
  split
  · intro v hv
    exact (h v hv).le hm
  · intro j i e
    exact Nat.le_trans (h j i e) hm
  · trivial
theorem mj_mv_cat {ι : Nat → Nat} (v : Value) : (mj_mv ι v).category = v.category := by cases v <;> rfl
theorem mj_mv_eq {ι ι' : Nat → Nat} {n : Nat} {v : Value} (hc : mj_cv n v) (hi : ∀ k, k ≤ n → ι' k = ι k) : mj_mv ι' v = mj_mv ι v := by
  cases v <;> try rfl
  next a => show Value.ref (ι' a) = Value.ref (ι a); rw [hi a (hc a rfl)]
theorem mj_mvs_eq {ι ι' : Nat → Nat} {n : Nat} {st : List Value} (hc : ∀ v ∈ st, mj_cv n v) (hi : ∀ k, k ≤ n → ι' k = ι k) : st.map (mj_mv ι') = st.map (mj_mv ι) := List.map_congr_left (fun v hv => mj_mv_eq (hc v hv) hi)
theorem mj_em_eq {ι ι' : Nat → Nat} {n : Nat} {c : MC} {cA : ClassId} (hc : mj_cc n c) (hi : ∀ k, k ≤ n → ι' k = ι k) : mj_em ι' cA c = mj_em ι cA c := by
  obtain ⟨ty, m, f | f | f | f | f⟩ | ⟨ci, fs⟩ := c
  · rfl
  · rfl
  · rfl
  · rfl
  · show Sum.inl (cA, m, Sum.inr (Sum.inr (Sum.inr (Sum.inr (fun j => (f j).map ι'))))) = Sum.inl (cA, m, Sum.inr (Sum.inr (Sum.inr (Sum.inr (fun j => (f j).map ι)))))
    have e : (fun j => (f j).map ι') = (fun j => (f j).map ι) := by
      funext j
      cases hj : f j with
      | none => rfl
      | some i => show some (ι' i) = some (ι i); rw [hi i (hc j i hj)]
    rw [e]
  · show Sum.inr (ci, fs.map (mj_mv ι')) = Sum.inr (ci, fs.map (mj_mv ι))
    rw [mj_mvs_eq hc hi]
theorem mj_ws_at {ι : Nat → Nat} {cA : Nat → ClassId} {h : MH} {o : Nat} (h1 : 1 ≤ o) (h2 : o ≤ h.1) : (mj_ws ι cA h)[o - 1]? = some (ι o, mj_em ι (cA o) (h.2.2 o)) := by
  unfold mj_ws
  rw [List.getElem?_map, List.getElem?_range (by omega)]
  show some (ι (o - 1 + 1), _) = _
  rw [Nat.sub_add_cancel h1]
theorem mj_ws_inv {ι : Nat → Nat} {cA : Nat → ClassId} {h : MH} {k : Nat} {q : Nat × va_E} (hk : (mj_ws ι cA h)[k]? = some q) : k < h.1 ∧ q = (ι (k + 1), mj_em ι (cA (k + 1)) (h.2.2 (k + 1))) := by
  unfold mj_ws at hk
  rw [List.getElem?_map] at hk
  by_cases hl : k < h.1
  · rw [List.getElem?_range hl] at hk
    exact ⟨hl, (Option.some.inj hk).symm⟩
  · rw [List.getElem?_eq_none (by simp; omega)] at hk
    cases hk
theorem mj_ws_len {ι : Nat → Nat} {cA : Nat → ClassId} {h : MH} : (mj_ws ι cA h).length = h.1 := by simp [mj_ws]
theorem mj_ws_set {ι : Nat → Nat} {cA : Nat → ClassId} {h : MH} {o : Nat} {c : MC} (h1 : 1 ≤ o) : (mj_ws ι cA h).set (o - 1) (ι o, mj_em ι (cA o) c) = mj_ws ι cA (h.1, h.2.1, mj_up h.2.2 o c) := by
  apply List.ext_getElem?
  intro k
  rw [List.getElem?_set]
  by_cases hk : o - 1 = k
  · rw [if_pos hk]
    have ho : k + 1 = o := by omega
    rw [mj_ws_len]
    by_cases hl : k < h.1
    · rw [if_pos (by omega)]
      have := mj_ws_at (ι := ι) (cA := cA) (h := (h.1, h.2.1, mj_up h.2.2 o c)) (o := o) h1 (show o ≤ h.1 by omega)
      rw [hk] at this
      rw [this]
      simp [mj_up]
    · rw [if_neg (by omega), List.getElem?_eq_none (by rw [mj_ws_len]; show h.1 ≤ k; omega)]
  · rw [if_neg hk]
    by_cases hl : k < h.1
    · have e1 := mj_ws_at (ι := ι) (cA := cA) (h := h) (o := k + 1) (by omega) (by omega)
      have e2 := mj_ws_at (ι := ι) (cA := cA) (h := (h.1, h.2.1, mj_up h.2.2 o c)) (o := k + 1) (by omega) (show k + 1 ≤ h.1 by omega)
      rw [Nat.add_sub_cancel] at e1 e2
      rw [e1, e2]
      simp [mj_up, show ¬ k + 1 = o by omega]
    · rw [List.getElem?_eq_none (by rw [mj_ws_len]; omega), List.getElem?_eq_none (by rw [mj_ws_len]; show h.1 ≤ k; omega)]
theorem mj_ws_push {ι : Nat → Nat} {cA : Nat → ClassId} {h : MH} {q sl : Nat} {cq : ClassId} {c : MC} (hc : mj_ch h) (hcc : mj_cc h.1 c) : mj_ws ι cA h ++ [(q, mj_em ι cq c)] = mj_ws (vf_upd ι (h.1 + 1) q) (vf_upd cA (h.1 + 1) cq) (h.1 + 1, sl, mj_up h.2.2 (h.1 + 1) c) := by
  have hi : ∀ k, k ≤ h.1 → vf_upd ι (h.1 + 1) q k = ι k := fun k hk => by simp [vf_upd, show ¬ k = h.1 + 1 by omega]
  apply List.ext_getElem?
  intro k
  by_cases hl : k < h.1
  · rw [List.getElem?_append_left (by rw [mj_ws_len]; exact hl)]
    have e1 := mj_ws_at (ι := ι) (cA := cA) (h := h) (o := k + 1) (by omega) (by omega)
    have e2 := mj_ws_at (ι := vf_upd ι (h.1 + 1) q) (cA := vf_upd cA (h.1 + 1) cq) (h := (h.1 + 1, sl, mj_up h.2.2 (h.1 + 1) c)) (o := k + 1) (by omega) (show k + 1 ≤ h.1 + 1 by omega)
    rw [Nat.add_sub_cancel] at e1 e2
    rw [e1, e2, hi (k + 1) (by omega)]
    have e3 : mj_up h.2.2 (h.1 + 1) c (k + 1) = h.2.2 (k + 1) := by simp [mj_up, show ¬ k = h.1 by omega]
    have e4 : vf_upd cA (h.1 + 1) cq (k + 1) = cA (k + 1) := by simp [vf_upd, show ¬ k = h.1 by omega]
    show _ = some (ι (k + 1), mj_em (vf_upd ι (h.1 + 1) q) (vf_upd cA (h.1 + 1) cq (k + 1)) (mj_up h.2.2 (h.1 + 1) c (k + 1)))
    rw [e3, e4, mj_em_eq (hc (k + 1) (by omega) (by omega)) hi]
  · rw [List.getElem?_append_right (by rw [mj_ws_len]; omega), mj_ws_len]
    by_cases he : k = h.1
    · subst he
      have e2 := mj_ws_at (ι := vf_upd ι (h.1 + 1) q) (cA := vf_upd cA (h.1 + 1) cq) (h := (h.1 + 1, sl, mj_up h.2.2 (h.1 + 1) c)) (o := h.1 + 1) (by omega) (Nat.le_refl _)
      rw [Nat.add_sub_cancel] at e2
      rw [e2, Nat.sub_self]
      have e3 : mj_up h.2.2 (h.1 + 1) c (h.1 + 1) = c := by simp [mj_up]
      show _ = some (vf_upd ι (h.1 + 1) q (h.1 + 1), mj_em (vf_upd ι (h.1 + 1) q) (vf_upd cA (h.1 + 1) cq (h.1 + 1)) (mj_up h.2.2 (h.1 + 1) c (h.1 + 1)))
      rw [e3, mj_em_eq hcc hi]
      simp [vf_upd]
    · rw [List.getElem?_eq_none (by simp; omega), List.getElem?_eq_none (by rw [mj_ws_len]; show h.1 + 1 ≤ k; omega)]
theorem mj_R_put {D : va_G} {A : Nat → Prop} {b L : Nat} {xs : Nat → Int32} {ι : Nat → Nat} {cA : Nat → ClassId} {h : MH} {U : State} {H H1 : Heap} {o : Nat} {c : MC} (hR : mj_R D A b L xs ι cA h U H) (h1 : 1 ≤ o) (hc : mj_cc h.1 c) (ht : mj_ta U (cA o) c) (hP : va_P D vwCl ((mj_ws ι cA h).set (o - 1) (ι o, mj_em ι (cA o) c)) H1) (hD : va_D A ((mj_ws ι cA h).set (o - 1) (ι o, mj_em ι (cA o) c))) : mj_R D A b L xs ι cA (h.1, h.2.1, mj_up h.2.2 o c) U H1 := by
  rw [mj_ws_set h1] at hP hD
  obtain ⟨-, -, r3, r4, r5, r6⟩ := hR
  refine ⟨hP, hD, fun k k1 k2 => ?_, fun k k1 k2 => ?_, r5, ?_⟩
  · show mj_ta U (cA k) (mj_up h.2.2 o c k)
    unfold mj_up
    by_cases hk : k = o
    · rw [if_pos hk, hk]; exact ht
    · rw [if_neg hk]; exact r3 k k1 k2
  · show mj_cc h.1 (mj_up h.2.2 o c k)
    unfold mj_up
    by_cases hk : k = o
    · rw [if_pos hk]; exact hc
    · rw [if_neg hk]; exact r4 k k1 k2
  · show mj_up h.2.2 o c 0 = _
    unfold mj_up
    rw [if_neg (by omega)]
    exact r6
theorem mj_R_push {D : va_G} {A : Nat → Prop} {b L : Nat} {xs : Nat → Int32} {ι : Nat → Nat} {cA : Nat → ClassId} {h : MH} {U : State} {H H1 : Heap} {q sl : Nat} {cq : ClassId} {c : MC} (hR : mj_R D A b L xs ι cA h U H) (hc : mj_cc h.1 c) (ht : mj_ta U cq c) (hP : va_P D vwCl (mj_ws ι cA h ++ [(q, mj_em ι cq c)]) H1) (hD : va_D A (mj_ws ι cA h ++ [(q, mj_em ι cq c)])) : mj_R D A b L xs (vf_upd ι (h.1 + 1) q) (vf_upd cA (h.1 + 1) cq) (h.1 + 1, sl, mj_up h.2.2 (h.1 + 1) c) U H1 := by
  obtain ⟨-, -, r3, r4, r5, r6⟩ := hR
  rw [mj_ws_push (sl := sl) r4 hc] at hP hD
  refine ⟨hP, hD, fun k k1 k2 => ?_, fun k k1 k2 => ?_, ?_, ?_⟩
  · have k2' : k ≤ h.1 + 1 := k2
    show mj_ta U (vf_upd cA (h.1 + 1) cq k) (mj_up h.2.2 (h.1 + 1) c k)
    unfold mj_up vf_upd
    by_cases hk : k = h.1 + 1
    · rw [if_pos hk, if_pos hk]; exact ht
    · rw [if_neg hk, if_neg hk]; exact r3 k k1 (by omega)
  · have k2' : k ≤ h.1 + 1 := k2
    show mj_cc (h.1 + 1) (mj_up h.2.2 (h.1 + 1) c k)
    unfold mj_up
    by_cases hk : k = h.1 + 1
    · rw [if_pos hk]; exact hc.le (Nat.le_succ _)
    · rw [if_neg hk]; exact (r4 k k1 (by omega)).le (Nat.le_succ _)
  · show vf_upd ι (h.1 + 1) q 0 = b
    simp [vf_upd, r5]
  · show mj_up h.2.2 (h.1 + 1) c 0 = _
    simp [mj_up, r6]
/-- the locals -/
def mj_lm (ι : Nat → Nat) (lv : ML) : ML := lv.map (fun q => (q.1, mj_mv ι q.2))
theorem mj_lm_s1 {ι : Nat → Nat} {lv : ML} {a : Nat} {v : Value} : mj_lm ι (mj_s1 lv a v) = mj_s1 (mj_lm ι lv) a (mj_mv ι v) := by
  unfold mj_lm mj_s1
  rw [List.map_cons, List.filter_map]
  congr 2
  apply List.filter_congr
  intro q _
  simp [mj_mv_cat]
theorem mj_lm_s2 {ι : Nat → Nat} {lv : ML} {a : Nat} {v : Value} : mj_lm ι (mj_s2 lv a v) = mj_s2 (mj_lm ι lv) a (mj_mv ι v) := by
  unfold mj_lm mj_s2
  rw [List.map_cons, List.filter_map]
  congr 2
  apply List.filter_congr
  intro q _
  simp [mj_mv_cat]
theorem mj_get_mem : ∀ {lv : ML} {a : Nat} {v : Value}, mj_get lv a = some v → (a, v) ∈ lv
  | [], _, _, h => by simp [mj_get] at h
  | (k, w) :: r, a, v, h => by
    unfold mj_get at h
    split at h
    · rename_i hk
      cases h
      rw [hk]
      exact List.mem_cons_self
    · exact List.mem_cons_of_mem _ (mj_get_mem h)
theorem mj_get_at {ι : Nat → Nat} {lv : ML} {a nL : Nat} {v : Value} {ls : Array Slot} (h : lv_has ls nL (mj_lm ι lv)) (hg : mj_get lv a = some v) : ls[a]? = some (.val (mj_mv ι v)) := h.2.2 (a, mj_mv ι v) (List.mem_map.mpr ⟨(a, v), mj_get_mem hg, rfl⟩)
theorem mj_get_idx {ι : Nat → Nat} {lv : ML} {a : Nat} {v : Value} (hg : mj_get lv a = some v) : ∃ k : Nat, (mj_lm ι lv)[k]? = some (a, mj_mv ι v) := List.getElem?_of_mem (List.mem_map.mpr ⟨(a, v), mj_get_mem hg, rfl⟩)
theorem mj_s1_sub {n : Nat} {lv : ML} {a : Nat} {v : Value} (hl : ∀ q ∈ lv, mj_cv n q.2) (hv : mj_cv n v) : ∀ q ∈ mj_s1 lv a v, mj_cv n q.2 := by
  intro q hq
  rcases List.mem_cons.mp hq with rfl | hq
  · exact hv
  · exact hl q (List.mem_filter.mp hq).1
theorem mj_s2_sub {n : Nat} {lv : ML} {a : Nat} {v : Value} (hl : ∀ q ∈ lv, mj_cv n q.2) (hv : mj_cv n v) : ∀ q ∈ mj_s2 lv a v, mj_cv n q.2 := by
  intro q hq
  rcases List.mem_cons.mp hq with rfl | hq
  · exact hv
  · exact hl q (List.mem_filter.mp hq).1
theorem mj_w_map {ι : Nat → Nat} (st : List Value) : ((st.map (mj_mv ι)).map fun v => v.category).sum = mj_w st := by
  unfold mj_w
  rw [List.map_map]
  congr 1
  apply List.map_congr_left
  intro v _
  exact mj_mv_cat v
theorem mj_look_mem : ∀ {t : MJT} {pc : Nat} {x : MJX}, mj_look t pc = some x → ∃ pos, (pc, pos, x) ∈ t
  | [], _, _, h => by simp [mj_look] at h
  | (p, q, y) :: r, pc, x, h => by
    unfold mj_look at h
    split at h
    · rename_i hk
      cases h
      exact ⟨q, by rw [hk]; exact List.mem_cons_self⟩
    · obtain ⟨pos, hp⟩ := mj_look_mem h
      exact ⟨pos, List.mem_cons_of_mem _ hp⟩
theorem mj_ck_of {c : MI} {pc : Nat} {x : MJX} (hc : mj_cks c = true) (hf : mj_f c pc = some x) : ∃ pos, mj_ck c pc pos x = true := by
  obtain ⟨pos, hp⟩ := mj_look_mem (t := c.2.2.2.2.2) hf
  rw [show mj_cks c = c.2.2.2.2.2.all (fun e => mj_ck c e.1 e.2.1 e.2.2) from rfl, List.all_eq_true] at hc
  exact ⟨pos, hc (pc, pos, x) hp⟩
theorem mj_has_mem {pos : Nat} {w : Jvm.Cond} (h : mj_has pos w = true) : w ∈ lw_tbl := List.mem_of_getElem? (of_decide_eq_true h)
theorem mj_has_GW {pos : Nat} {w : Jvm.Cond} (h : mj_has pos w = true) (hg : goodWord w = true) : w ∈ mj_GW := List.mem_filter.mpr ⟨mj_has_mem h, hg⟩
