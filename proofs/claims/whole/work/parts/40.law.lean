/-! THE CLAIM OUT OF ONE WALK OF THE LAW'S BODY. Your part is whole_start (and what it stands on); all else here is the same for every law, but numbers. -/
def R_law : String := "PackedColumnsLaw"
def lw_P (b : Addr) (xs : List Int32) (args : Array Value) (s : State) : Prop := args = #[.ref b] ∧ s.IntsAt b xs ∧ xs.length ≤ 5632 ∧ (Jvm.Cond.and given_1 narrow_1).before args s = true
def lw_Q (_ : Array Value) (s : State) (o : Outcome) (t : State) : Prop := o = .returned (some (.int 1)) ∧ Framed s o t [] 600000 7302250
def lw_Z (below : List Frame) (a : Array Value) (s : State) : State → Prop := fun t => ∃ o, t.status = .running ∧ Ended t below o ∧ lw_Q a s o t
/-- the law's own end, with 1 on the stack, nothing written that was there before, its room as the claim has it -/
theorem lw_ret {p : Program} {l : Launch} {e : Env} {s : State} {m : MethodId} {below : List Frame} {meth : Method} {c : Code} {b : Nat} (hx : p.tables.exec = Jvm.exec) (hb : c.code = code) (hr : meth.sig.returnType = ret) (hlocks : meth.locks = false) {pc : Nat} {H : Heap} {ls : Array Slot} (hdg : decode code pc = .ok (.ireturn, 1)) : W p l e room_1 s m #[Value.ref b] below meth c H [] 600000 7302250 (lw_Z below #[Value.ref b] s) (F0 m pc ls [.int 1]) := by
  intro T hT X
  obtain ⟨fs, hret, hrun, hended, hW, hframe⟩ := X.leave (v := some (.int 1)) (hlocks := hlocks) (fun h => by rw [hr] at h; cases h)
  have hmeth' : T.vm.method? m = some meth := X.method'
  refine ⟨T.setFrames fs, ?_, .returned (some (.int 1)), hrun, hended, rfl, ⟨_, rfl⟩, hW, hframe⟩
  jvm_step X.here [X.here.top, hx, hb, hdg, hmeth', hr, ret, narrow_b1]
  (try refine ⟨rfl, ?_⟩); (try refine ⟨rfl, ?_⟩)
  first | (intro acts; rw [hret _ acts rfl rfl rfl]) | rw [hret _ _ rfl rfl rfl]
  exact Steps.refl _
/-- what holds at the law's entry: the machine, the code, the tables' words (any of lw_tbl by 'hts w (by decide +kernel)'), the script of L ints xs at the cell b, what the Statement gives of the start (any of its parts by flat_of_before) -/
def lw_At (p : Program) (s : State) (m : MethodId) (meth : Method) (c : Code) (b L : Nat) (xs : Nat → Int32) : Prop :=
  p.tables.exec = Jvm.exec ∧ c.code = code ∧ meth.sig.returnType = ret ∧ c.maxLocals = 4 ∧ s.vm.findClass R_law = some m.cls ∧ (∀ w ∈ lw_tbl, w.before #[Value.ref b] s = true) ∧ va_X b L xs s s.heap ∧ b < s.heap.size ∧ meth.locks = false ∧ (Jvm.Cond.and given_1 narrow_1).before #[Value.ref b] s = true
/-- the world in which the law begins: the script alone -/
def mj_h0 (L : Nat) (xs : Nat → Int32) : MH := (0, 0, fun _ => .inl (.int, L, .inl xs))
/-- what is left: the small machine's run of the law, on every script, comes to 1, within the room -/
def mj_Truth : Prop := ∀ (L : Nat) (xs : Nat → Int32), L ≤ 5632 → ∃ (d n : Nat) (h' : MH), d ≤ 1000 ∧ mj_run (mj_ev d) mi_L_law n (0, [(0, .ref 0)], [], mj_h0 L xs) (some (.int 1)) h' ∧ h'.1 ≤ 600000 ∧ h'.2.1 ≤ 7302250
theorem mj_EW_of {args : Array Value} {s : State} (h : ∀ w ∈ lw_tbl, w.before args s = true) : ∀ w ∈ mj_EW, va_Nw w s := by
  intro w hw
  have h1 := h w (List.mem_filter.mp hw).1
  have h2 := (List.mem_filter.mp hw).2
  cases w with
  | methodLinkNest a i x z => exact va_Nw.of rfl h1
  | arrayOver ty => exact h1
  | _ => exact Bool.noConfusion (show false = true from h2)
theorem mj_K0 {args : Array Value} {s : State} (h : ∀ w ∈ mj_GW, w.before args s = true) : ∃ D : va_G, va_K D vwCl [] s := by
  have key : ∀ k : Nat, ∃ (cC : ClassId) (iS : Nat → Nat), ∀ q : vw_C, vwCl[k]? = some q → u_Kn s q.1 q.2.1 q.2.2 cC iS := by
    intro k
    cases hk : vwCl[k]? with
    | none => exact ⟨0, fun _ => 0, fun q hq => by cases hq⟩
    | some q =>
      obtain ⟨C, T, N⟩ := q
      obtain ⟨g1, -, -, g5, -⟩ := mj_cls k C T N hk
      obtain ⟨cC, iS, hKn⟩ := u_known (C := C) (T := T) (N := N) (n := N) h g1 (h _ g5)
      exact ⟨cC, iS, fun q hq => by cases hq; exact hKn⟩
  refine ⟨(fun k => Classical.choose (key k), fun k => Classical.choose (Classical.choose_spec (key k))), fun k q hq => Classical.choose_spec (Classical.choose_spec (key k)) q hq, fun k q hq => by simp at hq⟩
set_option maxHeartbeats 2000000 in
theorem whole_open (HT : mj_Truth) {p : Program} {e : Env} {s : State} {m : MethodId} {below : List Frame} {meth : Method} {c : Code} (l : Launch) {b L : Nat} {xs : Nat → Int32} (hL : L ≤ 5632) (C0 : lw_At p s m meth c b L xs) : W p l e room_1 s m #[Value.ref b] below meth c s.heap [] 0 0 (lw_Z below #[Value.ref b] s) (entryFrame m ([Value.ref b] : List Value).toArray 4) := by
  obtain ⟨hx, hb, hr, hml, hown, hts, hX, hbl, hlocks, hgv⟩ := C0
  obtain ⟨d, n, h', hd, hrun, hc1, hc2⟩ := HT L xs hL
  have hGW : ∀ w ∈ mj_GW, w.before #[Value.ref b] s = true := fun w hw => hts w (List.mem_filter.mp hw).1
  obtain ⟨D, hK⟩ := mj_K0 hGW
  have F : mj_F p room_1 s m #[Value.ref b] meth c D (fun q : Nat => s.heap.size ≤ q) b L xs mi_L_law d := ⟨hx, hb, hml, hown, fun q => absurd q (by decide), ck_L_law, hGW, mj_EW_of hts, hK, hX, hbl, Nat.not_le.mpr hbl, fun _ q => q, by show d + 1 ≤ 2048; omega, by show 60 * (d + 1) ≤ 84000; omega⟩
  have hR : mj_R D (fun q : Nat => s.heap.size ≤ q) b L xs (fun _ => b) (fun _ => 0) (mj_h0 L xs) s s.heap := ⟨fun k q h => by simp [mj_ws, mj_h0] at h, ⟨fun i j p q h => by simp [mj_ws, mj_h0] at h, fun k q h => by simp [mj_ws, mj_h0] at h⟩, fun k k1 k2 => by have : k ≤ 0 := k2; omega, fun k k1 k2 => by have : k ≤ 0 := k2; omega, rfl, rfl⟩
  have hl := lv_entry ([.ref b]) (n := 4) (Nat.le_of_ble_eq_true rfl)
  rw [lg_entry_eq]
  have go := mj_sim (Q := lw_Z below #[Value.ref b] s) (below := below) (e := e) (l := l) F (mj_met l d) (h0 := mj_h0 L xs) (ι0 := fun _ => b) (r := some (.int 1)) (h' := h') ⟨by show h'.1 - 0 ≤ 600000; omega, by show h'.2.1 - 0 ≤ 7302250; omega⟩ ?_ n 0 [(0, .ref 0)] [] (mj_h0 L xs) (fun _ => b) (fun _ => 0) s.heap [] _ hrun (fun _ _ => rfl) hR va_S.rf (fun _ q => by cases q) (fun q hq => by
    rcases List.mem_singleton.mp hq with rfl
    exact mj_cv_ref (Nat.le_refl _)) hl (Nat.le_refl _) (Nat.le_refl _)
  · rw [Nat.sub_self, Nat.sub_self] at go
    exact go
  · intro ι cA H locs ls pc lv st hret hι hR1 hS1 hcs
    obtain ⟨x, ⟨hf, rfl, hrt, hz⟩ | ⟨z, hf, rfl, hz, hrt⟩ | ⟨z, hf, rfl, hz, hrt⟩ | ⟨v, hf, rfl, hz, hv, C, hrt⟩⟩ := mj_ret_inv hret
    · cases hz
    · cases hz
      refine va_forget hS1.2.2 ?_
      refine W.widen (k := 600000) (n := 7302250) (by show h'.1 - 0 ≤ _; omega) (by show h'.2.1 - 0 ≤ _; omega) ?_
      have e1 : mi_L_law.2.1 = code := rfl
      have hdd := mj_len1 (c := mi_L_law) ck_L_law hf (Or.inr (Or.inl rfl))
      rw [e1] at hdd
      exact lw_ret hx hb hr hlocks hdd
    · cases hz
    · cases hrt
