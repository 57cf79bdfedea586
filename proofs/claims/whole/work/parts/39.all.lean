/-! every method keeps its contract -/
theorem mj_inv_cl {P : Value → Prop} {c : MI} {pc : Nat} {lv : ML} {st : List Value} {h : MH} {y : Nat} {As rest : List Value} (hi : mj_inv c (pc, lv, st, h) = some (y, As, rest)) (hc : ∀ v ∈ st, P v) : (∀ v ∈ As, P v) ∧ y < 259 ∧ mj_w As ≤ (mj_tab y).2.2.1 := by
  obtain ⟨i, len, n, v, hf, hy, hwr, hwa, hkind⟩ := mj_inv_spec hi
  refine ⟨fun w hw => hc w ?_, hy, hwa⟩
  rcases hkind with ⟨_, -, -, e1, -⟩ | ⟨_, _, _, -, rfl, -, e1, -⟩ | ⟨_, _, _, -, rfl, -, e1, -⟩
  · rw [e1]; simp [hw]
  · rw [e1]
    rcases List.mem_cons.mp hw with rfl | hw
    · simp
    · simp [hw]
  · rw [e1]
    rcases List.mem_cons.mp hw with rfl | hw
    · simp
    · simp [hw]
section SIMA
variable {p : Program} {l : Launch} {e : Env} {R : Room} {s : State} {m : MethodId} {args : Array Value} {below : List Frame} {meth : Method} {c0 : Code} {Q : State → Prop} {D : va_G} {A : Nat → Prop} {b L : Nat} {xs : Nat → Int32} {cM : MI} {d : Nat}
set_option maxHeartbeats 1000000 in
theorem mj_sim (F : mj_F p R s m args meth c0 D A b L xs cM d) (hM : ∀ (y : Nat) (As : List Value) (h : MH) (r : Option Value) (h' : MH), mj_ev d y As h r h' → y < 259 → mj_w As ≤ (mj_tab y).2.2.1 → (∀ v ∈ As, mj_cv h.1 v) → mj_Met l d (mj_tab y) As h r h') {h0 : MH} {ι0 : Nat → Nat} {r : Option Value} {h' : MH} (hcap : h'.1 - h0.1 ≤ R.cells ∧ h'.2.1 - h0.2.1 ≤ R.slots)
    (hret : ∀ (ι : Nat → Nat) (cA : Nat → ClassId) (H : Heap) (locs : List Loc) (ls : Array Slot) (pc : Nat) (lv : ML) (st : List Value), mj_ret cM (pc, lv, st, h') = some r → (∀ j, j ≤ h0.1 → ι j = ι0 j) → mj_R D A b L xs ι cA h' s H → va_S A s.heap H locs → (∀ v ∈ st, mj_cv h'.1 v) → W p l e R s m args below meth c0 H locs (h'.1 - h0.1) (h'.2.1 - h0.2.1) Q (F0 m pc ls (st.map (mj_mv ι)))) :
    ∀ (n pc : Nat) (lv : ML) (st : List Value) (h : MH) (ι : Nat → Nat) (cA : Nat → ClassId) (H : Heap) (locs : List Loc) (ls : Array Slot), mj_run (mj_ev d) cM n (pc, lv, st, h) r h' → (∀ j, j ≤ h0.1 → ι j = ι0 j) → mj_R D A b L xs ι cA h s H → va_S A s.heap H locs → (∀ v ∈ st, mj_cv h.1 v) → (∀ q ∈ lv, mj_cv h.1 q.2) → lv_has ls cM.2.2.1 (mj_lm ι lv) → h0.1 ≤ h.1 → h0.2.1 ≤ h.2.1 → W p l e R s m args below meth c0 H locs (h.1 - h0.1) (h.2.1 - h0.2.1) Q (F0 m pc ls (st.map (mj_mv ι))) := by
  intro n
  induction n with
  | zero => intro pc lv st h ι cA H locs ls hrun; exact hrun.elim
  | succ n ih =>
    intro pc lv st h ι cA H locs ls hrun hι hR hS hcs hcl hlv hle1 hle2
    rcases hrun with ⟨s', h1, h2⟩ | ⟨lv', h1, h2⟩ | ⟨h1, h2⟩ | ⟨y, As, rest, r1, h1, h2, h3, h4⟩
    · obtain ⟨pc', lv', st', hh⟩ := s'
      have m1 := mj_st_mono h1
      have m2 := mj_run_mono (mj_ev_mono d) n h2
      dsimp only at m1 m2
      have e1 : h.1 - h0.1 + (hh.1 - h.1) = hh.1 - h0.1 := by omega
      have e2 : h.2.1 - h0.2.1 + (hh.2.1 - h.2.1) = hh.2.1 - h0.2.1 := by omega
      refine mj_sim1 F h1 hR hS hcs hcl hlv ⟨by dsimp only; omega, by dsimp only; omega⟩ (fun ι' cA' H' locs' ls' hi hR' hS' hcs' hcl' hlv' => ?_)
      dsimp only at *
      rw [e1, e2]
      exact ih pc' lv' st' hh ι' cA' H' locs' ls' h2 (fun j hj => (hi j (by omega)).trans (hι j hj)) hR' hS' hcs' hcl' hlv' (by omega) (by omega)
    · exact ih pc lv' st h ι cA H locs ls h2 hι hR hS hcs (fun q hq => hcl q (h1 q hq)) ⟨hlv.1, hlv.2.1, fun q hq => by
        obtain ⟨w, hw, rfl⟩ := List.mem_map.mp hq
        exact hlv.2.2 _ (List.mem_map.mpr ⟨w, h1 w hw, rfl⟩)⟩ hle1 hle2
    · dsimp only at h2
      subst h2
      exact hret ι cA H locs ls pc lv st h1 hι hR hS hcs
    · obtain ⟨ca, cy, cw⟩ := mj_inv_cl h2 hcs
      have m1 := mj_ev_mono d _ _ _ _ _ h3
      have m2 := mj_run_mono (mj_ev_mono d) n h4
      dsimp only at m1 m2 h3 h4
      have e1 : h.1 - h0.1 + (h1.1 - h.1) = h1.1 - h0.1 := by omega
      have e2 : h.2.1 - h0.2.1 + (h1.2.1 - h.2.1) = h1.2.1 - h0.2.1 := by omega
      refine mj_simc F h2 (hM y As h r1 h1 h3 cy cw ca) hR hS hcs hcl hlv ⟨by omega, by omega⟩ m1.1 (fun ι' cA' H' locs' hi hR' hS' hcs' hcl' hlv' => ?_)
      rw [e1, e2]
      exact ih (pc + 3) lv (r1.toList ++ rest) h1 ι' cA' H' locs' ls h4 (fun j hj => (hi j (by omega)).trans (hι j hj)) hR' hS' hcs' hcl' hlv' (by omega) (by omega)
end SIMA
theorem mj_len1 {c : MI} {pc : Nat} {i : Instr} {x : Nat × Nat × Nat × Value} (hck : mj_cks c = true) (hf : mj_f c pc = some (i, x)) (hi : i = .return_ ∨ i = .ireturn ∨ i = .lreturn ∨ i = .areturn) : decode c.2.1 pc = .ok (i, 1) := by
  obtain ⟨pos, hc⟩ := mj_ck_of hck hf
  obtain ⟨len, a, b, v⟩ := x
  unfold mj_ck at hc
  rw [Bool.and_eq_true] at hc
  obtain ⟨hd0, hc⟩ := hc
  have hd := of_decide_eq_true hd0
  dsimp only at hd
  rcases hi with rfl | rfl | rfl | rfl <;> (have hl := eq_of_beq (show (len == 1) = true from hc); subst hl; exact hd)
/-- what a return says of the state -/
theorem mj_ret_inv {c : MI} {pc : Nat} {lv : ML} {st : List Value} {h : MH} {r : Option Value} (hr : mj_ret c (pc, lv, st, h) = some r) : ∃ x : Nat × Nat × Nat × Value, (mj_f c pc = some (.return_, x) ∧ st = [] ∧ c.2.2.2.1 = none ∧ r = none) ∨ (∃ z : Int32, mj_f c pc = some (.ireturn, x) ∧ st = [.int z] ∧ r = some (.int z) ∧ (c.2.2.2.1 = some .int ∨ (c.2.2.2.1 = some .boolean ∧ (z = 0 ∨ z = 1)))) ∨ (∃ z : Int64, mj_f c pc = some (.lreturn, x) ∧ st = [.long z] ∧ r = some (.long z) ∧ c.2.2.2.1 = some .long) ∨ (∃ v : Value, mj_f c pc = some (.areturn, x) ∧ st = [v] ∧ r = some v ∧ (v = .null ∨ ∃ a, v = .ref a) ∧ ∃ C, c.2.2.2.1 = some (.object C)) := by
  unfold mj_ret at hr
  dsimp only at hr
  split at hr
  · rename_i x hf
    split at hr
    · rename_i hq
      cases hr
      exact ⟨x, Or.inl ⟨hf, rfl, hq, rfl⟩⟩
    · cases hr
  · rename_i x z hf
    split at hr
    · rename_i hq
      cases hr
      exact ⟨x, Or.inr (Or.inl ⟨z, hf, rfl, rfl, Or.inl hq⟩)⟩
    · rename_i hq
      split at hr
      · rename_i hz
        cases hr
        exact ⟨x, Or.inr (Or.inl ⟨z, hf, rfl, rfl, Or.inr ⟨hq, hz⟩⟩)⟩
      · cases hr
    · cases hr
  · rename_i x z hf
    split at hr
    · rename_i hq
      cases hr
      exact ⟨x, Or.inr (Or.inr (Or.inl ⟨z, hf, rfl, rfl, hq⟩))⟩
    · cases hr
  · rename_i x z hf
    split at hr
    · rename_i hq
      cases hr
      exact ⟨x, Or.inr (Or.inr (Or.inr ⟨_, hf, rfl, rfl, Or.inr ⟨z, rfl⟩, _, hq⟩))⟩
    · cases hr
  · rename_i x hf
    split at hr
    · rename_i hq
      cases hr
      exact ⟨x, Or.inr (Or.inr (Or.inr ⟨_, hf, rfl, rfl, Or.inl rfl, _, hq⟩))⟩
    · cases hr
  · cases hr
set_option maxHeartbeats 2000000 in
theorem mj_met (l : Launch) : ∀ (d y : Nat) (As : List Value) (h : MH) (r : Option Value) (h' : MH), mj_ev d y As h r h' → y < 259 → mj_w As ≤ (mj_tab y).2.2.1 → (∀ v ∈ As, mj_cv h.1 v) → mj_Met l d (mj_tab y) As h r h' := by
  intro d
  induction d with
  | zero => intro y As h r h' H; exact H.elim
  | succ d ih =>
    intro y As h r h' hev hy hw hcA D b L xs ι cA sz
    obtain ⟨n, hrun⟩ := hev
    obtain ⟨hyc, hyw, pq, hym⟩ := mj_tab_mem hy
    unfold mj_m2 at hym
    simp only [Bool.and_eq_true, decide_eq_true_eq] at hym
    obtain ⟨⟨⟨⟨⟨⟨hy1, hy2⟩, hy3⟩, hy4⟩, hy5⟩, hy6⟩, hy7⟩ := hym
    refine Met.ofW (cc := (mj_tab y).2.1) (maxL := (mj_tab y).2.2.1) (ret := (mj_tab y).2.2.2.1) hy3 rfl ?_
    intro p e s m args below meth c s₁ B hml hv
    obtain ⟨rfl, hsz, hK, hR, hX, hne, hEW⟩ := hv
    subst hsz
    have hts := atoms_spec (ws := mj_wy (mj_tab y)) B.pre
    have hown : s.vm.findClass (mj_nm (mj_tab y)) = some m.cls := by rw [← hy4]; exact findClass_of_methodNamed B.named
    have hlocks := B.notSynchronized
    have hbl : b < s.heap.size := by
      obtain ⟨scr, h1, -⟩ := hX
      exact (Array.getElem?_eq_some_iff.mp h1).1
    have hbA : ¬ va_A (mj_ws ι cA h) s.heap.size b := by
      intro q
      rcases q with ⟨k, ee, hk⟩ | q
      · obtain ⟨h1, h2⟩ := mj_ws_inv hk
        exact hne (k + 1) (by omega) (by omega) (congrArg Prod.fst h2).symm
      · omega
    have hr0 : meth.sig.returnType = (mj_tab y).2.2.2.1 := B.returns
    have F : mj_F p (headSpec (mj_wy (mj_tab y)) (mj_room (d + 1) (h'.1 - h.1) (h'.2.1 - h.2.1))).room s m (As.map (mj_mv ι)).toArray meth c D (va_A (mj_ws ι cA h) s.heap.size) b L xs (mj_tab y) d := ⟨B.exec, B.bytes, hml, hown, fun q => (name_of_methodNamed B.named B.method).1.trans q, hyc, fun w hw => hts w (List.mem_cons_of_mem _ hw), hEW, hK, hX, hbl, hbA, fun q hq => Or.inr hq, Nat.le_refl _, Nat.le_refl _⟩
    have hR' : mj_R D (va_A (mj_ws ι cA h) s.heap.size) b L xs ι cA h s s.heap := ⟨hR.1, hR.2.1.self, hR.2.2⟩
    have hl := lv_entry (As.map (mj_mv ι)) (n := (mj_tab y).2.2.1) (by rw [mj_sl_len]; have := mj_w_map (ι := ι) As; unfold mj_w at *; rw [this]; exact hw)
    rw [mj_lm_args] at hl
    rw [lg_entry_eq]
    have go := mj_sim (Q := MQ below (mj_Qc D b L xs ι cA h s.heap.size r h') (As.map (mj_mv ι)).toArray s (h'.1 - h.1) (h'.2.1 - h.2.1) (va_A (mj_ws ι cA h) s.heap.size)) (below := below) (e := e) (l := l) F ih (h0 := h) (ι0 := ι) (r := r) (h' := h') ⟨Nat.le_refl _, Nat.le_refl _⟩ ?_ n 0 (lv_args 0 As) [] h ι cA s.heap [] _ hrun (fun _ _ => rfl) hR' va_S.rf (fun _ q => by cases q) (mj_args_cl As 0 hcA) hl (Nat.le_refl _) (Nat.le_refl _)
    · rw [Nat.sub_self, Nat.sub_self] at go
      exact go
    · intro ι' cA' H locs ls pc lv st hret hι hR1 hS1 hcs
      have hq : ∀ t : State, t.heap = H → s.WarmedH t.vm → (∀ v, r = some v → mj_cv h'.1 v) → mj_Qc D b L xs ι cA h s.heap.size r h' (As.map (mj_mv ι)).toArray s (.returned (r.map (mj_mv ι'))) t := by
        intro t ht hW hrc
        exact ⟨⟨ι', cA', rfl, hι, hrc, by rw [ht]; exact hR1.moved hW.alike⟩, hS1.F ht⟩
      obtain ⟨x, ⟨hf, rfl, hrt, rfl⟩ | ⟨z, hf, rfl, rfl, hrt⟩ | ⟨z, hf, rfl, rfl, hrt⟩ | ⟨v, hf, rfl, rfl, hv, C, hrt⟩⟩ := mj_ret_inv hret
      · exact W.vret F.1 F.2.1 (hr0.trans hrt) (fun t ht hW => hq t ht hW (fun v q => by cases q)) hS1.2.2 (mj_len1 hyc hf (Or.inl rfl)) hlocks
      · rcases hrt with hrt | ⟨hrt, hz⟩
        · exact W.iret F.1 F.2.1 (hr0.trans hrt) (fun t ht hW => hq t ht hW (fun v q => by cases q; exact mj_cv_int)) hS1.2.2 (mj_len1 hyc hf (Or.inr (Or.inl rfl))) hlocks
        · exact W.zret F.1 F.2.1 (hr0.trans hrt) (by rcases hz with rfl | rfl <;> rfl) (fun t ht hW => hq t ht hW (fun v q => by cases q; exact mj_cv_int)) hS1.2.2 (mj_len1 hyc hf (Or.inr (Or.inl rfl))) hlocks
      · exact W.lret F.1 F.2.1 (hr0.trans hrt) (fun t ht hW => hq t ht hW (fun v q => by cases q; exact mj_cv_long)) hS1.2.2 (mj_len1 hyc hf (Or.inr (Or.inr (Or.inl rfl)))) hlocks
      · exact W.aret F.1 F.2.1 (hr0.trans hrt) (Or.inl ⟨C, rfl⟩) (by rcases hv with rfl | ⟨a, rfl⟩; exact Or.inl rfl; exact Or.inr ⟨ι' a, rfl⟩) (fun t ht hW => hq t ht hW (fun w q => by cases q; exact hcs v List.mem_cons_self)) hS1.2.2 (mj_len1 hyc hf (Or.inr (Or.inr (Or.inr rfl)))) hlocks
