/-! what is written is read: numbers -/
theorem lN_uN (x : Int64) : lN (uN x) = x := uN_inj (uN_lN (uN_lt x))
theorem nat_xor_ones {a : Nat} (h : a < 2 ^ 64) : a ^^^ (2 ^ 64 - 1) = 2 ^ 64 - (a + 1) := by
  apply Nat.eq_of_testBit_eq
  intro i
  rw [Nat.testBit_xor, Nat.testBit_two_pow_sub_succ h, Nat.testBit_two_pow_sub_one]
  by_cases hi : i < 64
  · rw [decide_eq_true hi]
    cases a.testBit i <;> rfl
  · rw [decide_eq_false hi, Nat.testBit_lt_two_pow (Nat.lt_of_lt_of_le h (Nat.pow_le_pow_right (by decide) (by omega)))]
    rfl
theorem sar63 (v : Int64) : uN (v >>> ((63 : Int32).toInt64 &&& 63)) = if uN v < 2 ^ 63 then 0 else 2 ^ 64 - 1 := by
  show (v >>> ((63 : Int32).toInt64 &&& 63)).toBitVec.toNat = _
  have hc : ((63 : Int32).toInt64 &&& 63).toBitVec.smod 64 = BitVec.ofNat 64 63 := by decide
  rw [Int64.toBitVec_shiftRight, hc, BitVec.sshiftRight'_ofNat_eq_sshiftRight, BitVec.toNat_sshiftRight, BitVec.msb_eq_decide]
  have hv : v.toBitVec.toNat = uN v := rfl
  have hlt := uN_lt v
  rw [hv]
  by_cases h : uN v < 2 ^ 63
  · rw [if_pos h, decide_eq_false (by show ¬ 2 ^ 63 ≤ _; omega), if_neg (by decide)]
    show uN v >>> 63 = 0
    rw [Nat.shiftRight_eq_div_pow]
    omega
  · rw [if_neg h, decide_eq_true (by show 2 ^ 63 ≤ _; omega), if_pos rfl]
    show 2 ^ 64 - 1 - (2 ^ 64 - 1 - uN v) >>> 63 = _
    rw [Nat.shiftRight_eq_div_pow]
    omega
theorem xor_lN (x y : Int64) : uN (x ^^^ y) = uN x ^^^ uN y := by
  rw [← lN_uN x, ← lN_uN y, lN_xor, lN_uN, lN_uN, uN_lN]
  exact Nat.xor_lt_two_pow (uN_lt x) (uN_lt y)
theorem uN_and1 (x : Int64) : uN (x &&& 1) = uN x % 2 := by
  show (x.toUInt64 &&& Int64.toUInt64 1).toNat = _
  rw [UInt64.toNat_and]
  exact Nat.and_two_pow_sub_one_eq_mod _ 1
theorem zs_zz (v : Int64) : zs (zz v) = v := by
  apply uN_inj
  have hlt := uN_lt v
  have hz : uN (zz v) = if uN v < 2 ^ 63 then 2 * uN v else 2 ^ 65 - 1 - 2 * uN v := by
    unfold zz
    rw [xor_lN, uN_shl, sar63]
    by_cases h : uN v < 2 ^ 63
    · rw [if_pos h, if_pos h, Nat.xor_zero]
      omega
    · rw [if_neg h, if_neg h, nat_xor_ones (by omega)]
      omega
  have h1 : uN ((zz v).toUInt64 >>> ((1 : Int32).toInt64.toUInt64 &&& Int64.toUInt64 63)).toInt64 = uN (zz v) / 2 := by
    have := uN_sk (zz v) (k := 1) (by decide)
    exact this
  unfold zs
  rw [xor_lN, h1]
  by_cases h : uN v < 2 ^ 63
  · rw [if_pos h] at hz
    have e : zz v &&& 1 = 0 := (uN_bit _).mpr (by omega)
    rw [e, hz, show uN (-(0 : Int64)) = 0 from by decide, Nat.xor_zero]
    omega
  · rw [if_neg h] at hz
    have e : zz v &&& 1 = 1 := uN_inj (by rw [uN_and1]; show _ = 1; omega)
    rw [e, hz, show uN (-(1 : Int64)) = 2 ^ 64 - 1 from by decide, nat_xor_ones (by omega)]
    omega
/-! bytes at a place -/
def AtB (bs : List Nat) (n : Nat) (X : List Nat) : Prop := ∃ pre post, bs = pre ++ (X ++ post) ∧ pre.length = n
theorem AtB.app {bs X Y : List Nat} {n : Nat} (h : AtB bs n (X ++ Y)) : AtB bs n X ∧ AtB bs (n + X.length) Y := by
  obtain ⟨pre, post, h1, h2⟩ := h
  exact ⟨⟨pre, Y ++ post, by rw [h1, List.append_assoc], h2⟩, ⟨pre ++ X, post, by rw [h1, List.append_assoc, List.append_assoc], by rw [List.length_append, h2]⟩⟩
theorem AtB.cons {bs Y : List Nat} {n b : Nat} (h : AtB bs n (b :: Y)) : n < bs.length ∧ bs.getD n 0 = b ∧ AtB bs (n + 1) Y := by
  obtain ⟨pre, post, h1, h2⟩ := h
  refine ⟨by rw [h1, List.length_append, List.cons_append, List.length_cons]; omega, ?_, ⟨pre ++ [b], post, by rw [h1, List.append_assoc]; rfl, by rw [List.length_append, h2]; rfl⟩⟩
  rw [h1, List.getD_eq_getElem?_getD, List.getElem?_append_right (by omega), h2, Nat.sub_self]
  rfl
theorem AtB.len {bs X : List Nat} {n : Nat} (h : AtB bs n X) : n + X.length ≤ bs.length := by
  obtain ⟨pre, post, h1, h2⟩ := h
  rw [h1, List.length_append, List.length_append]
  omega
theorem AtB.get {bs X : List Nat} {n i : Nat} (h : AtB bs n X) (hi : i < X.length) : bs.getD (n + i) 0 = X.getD i 0 := by
  obtain ⟨pre, post, h1, h2⟩ := h
  rw [h1, List.getD_eq_getElem?_getD, List.getElem?_append_right (by omega), List.getElem?_append_left (by omega), show n + i - pre.length = i by omega, ← List.getD_eq_getElem?_getD]
theorem rB_at {bs Y : List Nat} {n b lo hi kd : Nat} (h : AtB bs n (b :: Y)) (h1 : lo ≤ b) (h2 : b < hi) : rB bs n lo hi kd = .inr (b, n + 1) := by
  obtain ⟨a1, a2, -⟩ := h.cons
  unfold rB
  rw [if_pos a1, a2, if_neg (by omega)]
theorem vl_pow {v : Nat} : v < 2 ^ (7 * vl v) := by
  have h1 : v ≤ v ||| 1 := Nat.left_le_or
  have h2 : v ||| 1 < 2 ^ bl (v ||| 1) := bl_le.mp (Nat.le_refl _)
  have h3 : bl (v ||| 1) ≤ 7 * vl v := by unfold vl; omega
  exact Nat.lt_of_le_of_lt h1 (Nat.lt_of_lt_of_le h2 (Nat.pow_le_pow_right (by decide) h3))
theorem vby_get {v i : Nat} (h : v < 2 ^ 64) (hi : i < vl v) : (vb v).getD i 0 = if i + 1 = vl v then v / 2 ^ (7 * i) % 128 else v / 2 ^ (7 * i) % 128 + 128 := by
  have hb := vl_b h
  unfold vb
  by_cases e : i + 1 = vl v
  · rw [if_pos e, List.getD_eq_getElem?_getD, List.getElem?_append_right (by simp; omega)]
    simp only [List.length_map, List.length_range]
    rw [show i - (vl v - 1) = 0 by omega, show vl v - 1 = i by omega]
    rfl
  · rw [if_neg e, List.getD_eq_getElem?_getD, List.getElem?_append_left (by simp; omega), List.getElem?_map, List.getElem?_range (by omega)]
    rfl
theorem mod_step (v i : Nat) : v % 2 ^ (7 * i) + v / 2 ^ (7 * i) % 128 * 2 ^ (7 * i) = v % 2 ^ (7 * (i + 1)) := by
  rw [Nat.mul_add, Nat.pow_add, Nat.mod_mul, Nat.mul_comm (2 ^ (7 * i))]
theorem rVA_at {bs : List Nat} {n v : Nat} (hv : v < 2 ^ 64) (h : AtB bs n (vb v)) : ∀ (k i : Nat), i + k + 1 = vl v → rVA bs n (10 - i) i (v % 2 ^ (7 * i)) = .inr (v, n + vl v) := by
  have hb := vl_b hv
  have hl := h.len
  rw [vb_len hv] at hl
  intro k
  induction k with
  | zero =>
    intro i hi
    have hg := h.get (i := i) (by rw [vb_len hv]; omega)
    rw [vby_get hv (by omega), if_pos (by omega)] at hg
    obtain ⟨f, hf⟩ : ∃ f, 10 - i = f + 1 := ⟨9 - i, by omega⟩
    rw [hf]
    unfold rVA
    have hlt : v / 2 ^ (7 * i) % 128 < 128 := Nat.mod_lt _ (by decide)
    rw [if_pos (by omega), hg, if_neg, if_pos hlt, Nat.mod_mod, mod_step]
    · rw [show i + 1 = vl v by omega, Nat.mod_eq_of_lt vl_pow, show n + i + 1 = n + vl v by omega]
    · rintro ⟨q1, q2⟩
      subst q1
      have : v / 2 ^ (7 * 9) < 2 := by
        rw [Nat.div_lt_iff_lt_mul (Nat.two_pow_pos _)]
        omega
      omega
  | succ k ih =>
    intro i hi
    have hg := h.get (i := i) (by rw [vb_len hv]; omega)
    rw [vby_get hv (by omega), if_neg (by omega)] at hg
    obtain ⟨f, hf⟩ : ∃ f, 10 - i = f + 1 := ⟨9 - i, by omega⟩
    have hf2 : f = 10 - (i + 1) := by omega
    have hlt : v / 2 ^ (7 * i) % 128 < 128 := Nat.mod_lt _ (by decide)
    rw [hf]
    unfold rVA
    rw [if_pos (by omega), hg, if_neg (by omega), if_neg (by omega), Nat.add_mod_right, Nat.mod_mod, mod_step, hf2]
    exact ih (i + 1) (by omega)
theorem rV_at {bs : List Nat} {n v : Nat} (hv : v < 2 ^ 64) (h : AtB bs n (vb v)) : rV bs n = .inr (v, n + vl v) := by
  have hb := vl_b hv
  have := rVA_at hv h (vl v - 1) 0 (by omega)
  rw [Nat.mul_zero, Nat.pow_zero, Nat.mod_one] at this
  exact this
theorem rL_at {bs xs : List Nat} {n m w : Nat} (h : AtB bs n (ly w xs)) (hm : xs.length = m) : rL bs n m w = .inr (n + lay m w) := by
  have hl := h.len
  rw [ly_len, hm] at hl
  unfold rL
  rw [if_pos hl]
theorem rX_at {bs xs : List Nat} {n m w : Nat} (h : AtB bs n (ly w xs)) (hm : xs.length = m) (hx : ∀ x ∈ xs, x < 2 ^ w) : rX bs n m w = xs := by
  obtain ⟨pre, post, h1, h2⟩ := h
  subst hm
  apply List.ext_getElem?
  intro i
  unfold rX
  rw [List.getElem?_map]
  by_cases i2 : i < xs.length
  · rw [List.getElem?_range i2, List.getElem?_eq_getElem i2]
    show some (bitsN bs (n * 8 + i * w) w) = some xs[i]
    rw [h1, ← h2, ly_read i2, List.getD_eq_getElem?_getD, List.getElem?_eq_getElem i2]
    congr 1
    exact Nat.mod_eq_of_lt (hx _ (List.getElem_mem i2))
  · rw [List.getElem?_eq_none (by simp; omega), List.getElem?_eq_none (by omega)]
    rfl
/-! rows -/
theorem lmin_le : ∀ (vs : List Int64) (v : Int64), v ∈ vs → lmin vs ≤ v := by
  intro vs
  rw [← List.reverse_reverse vs]
  induction vs.reverse with
  | nil => intro v hv; simp at hv
  | cons a r ih =>
    intro v hv
    rw [List.reverse_cons] at hv ⊢
    rcases Nat.eq_zero_or_pos r.reverse.length with q | q
    · have : r.reverse = [] := List.eq_nil_of_length_eq_zero q
      rw [this] at hv ⊢
      have : v = a := by simpa using hv
      rw [this]
      exact Int64.le_refl _
    · rw [lmin_snoc q]
      rcases List.mem_append.mp hv with h | h
      · have := ih v h
        split
        · rename_i z
          exact Int64.le_trans (Int64.le_of_lt z) this
        · exact this
      · have : v = a := by simpa using h
        subst this
        split
        · exact Int64.le_refl _
        · rename_i z
          exact Int64.not_lt.mp z
theorem lmax_ge : ∀ (vs : List Int64) (l v : Int64), (v ∈ vs ∨ v = l) → v ≤ lmax l vs := by
  intro vs
  rw [← List.reverse_reverse vs]
  induction vs.reverse with
  | nil => 
    intro l v hv
    rcases hv with h | h
    · simp at h
    · rw [h]; exact Int64.le_refl _
  | cons a r ih =>
    intro l v hv
    rw [List.reverse_cons] at hv ⊢
    rw [lmax_snoc]
    have hcase : (v ∈ r.reverse ∨ v = l) ∨ v = a := by
      rcases hv with h | h
      · rcases List.mem_append.mp h with h | h
        · exact Or.inl (Or.inl h)
        · exact Or.inr (by simpa using h)
      · exact Or.inl (Or.inr h)
    rcases hcase with h | h
    · have := ih l v h
      split
      · exact this
      · rename_i z
        exact Int64.le_trans this (Int64.not_lt.mp z)
    · subst h
      split
      · rename_i z
        exact Int64.le_of_lt z
      · exact Int64.le_refl _
theorem wid_fit {vs : List Int64} {v : Int64} (h : v ∈ vs) : uN (v - lmin vs) < 2 ^ wid vs := by
  refine Nat.lt_of_le_of_lt (uN_sub_mono (lmin_le vs v h) (lmax_ge vs (lmin vs) v (Or.inl h))) ?_
  exact bl_le.mp (Nat.le_refl _)
theorem sub_add64 (a b : Int64) : a + (b - a) = b := by
  rw [Int64.add_comm, Int64.sub_add_cancel]
theorem rNar_at {bs : List Nat} {n : Nat} {vs : List Int64} (h : AtB bs n (vb (uN (zz (lmin vs))) ++ (wid vs :: ly (wid vs) (vs.map fun v => uN (v - lmin vs))))) : rNar bs n vs.length = .inr (vs, n + nlen vs - 1) := by
  obtain ⟨h1, h2⟩ := h.app
  rw [vb_len (uN_lt _)] at h2
  obtain ⟨-, -, h3⟩ := h2.cons
  have e1 := rV_at (uN_lt _) h1
  have e2 := rB_at (lo := 0) (hi := 65) (kd := 2) h2 (Nat.zero_le _) (by have := wid_le vs; omega)
  have hx : ∀ x ∈ (vs.map fun v => uN (v - lmin vs)), x < 2 ^ wid vs := by
    intro x hx
    obtain ⟨v, hv, rfl⟩ := List.mem_map.mp hx
    exact wid_fit hv
  have e3 := rL_at h3 (show (vs.map fun v => uN (v - lmin vs)).length = vs.length by simp)
  have e4 := rX_at h3 (show (vs.map fun v => uN (v - lmin vs)).length = vs.length by simp) hx
  unfold rNar
  rw [rBd_r e1, rBd_r e2]
  show rBd (rL bs (n + vl (uN (zz (lmin vs))) + 1) vs.length (wid vs)) _ = _
  rw [rBd_r e3]
  show Sum.inr ((rX bs (n + vl (uN (zz (lmin vs))) + 1) vs.length (wid vs)).map _, _) = _
  rw [e4, List.map_map]
  congr 1
  refine Prod.ext ?_ ?_
  · show vs.map _ = vs
    refine (List.map_congr_left fun v _ => ?_).trans (List.map_id' vs)
    show zs (lN (uN (zz (lmin vs)))) + lN (uN (v - lmin vs)) = v
    rw [lN_uN, lN_uN, zs_zz, sub_add64]
  · show n + vl (uN (zz (lmin vs))) + 1 + lay vs.length (wid vs) = n + nlen vs - 1
    unfold nlen
    omega
/-! plain -/
theorem b8_k (v : Int64) {k : Nat} (hk : k < 64) : b8 (v.toUInt64 >>> ((nI k).toInt64.toUInt64 &&& Int64.toUInt64 63)).toInt64.toInt32 = uN v / 2 ^ k % 256 := by
  unfold b8
  rw [l2i_nat, uN_sk v hk]
  exact Nat.mod_mod_of_dvd _ (by decide)
theorem lb_eq (v : Int64) : lb v = [uN v / 2 ^ 56 % 256, uN v / 2 ^ 48 % 256, uN v / 2 ^ 40 % 256, uN v / 2 ^ 32 % 256, uN v / 2 ^ 24 % 256, uN v / 2 ^ 16 % 256, uN v / 2 ^ 8 % 256, uN v / 2 ^ 0 % 256] := by
  unfold lb
  rw [← b8_k v (k := 56) (by decide), ← b8_k v (k := 48) (by decide), ← b8_k v (k := 40) (by decide), ← b8_k v (k := 32) (by decide), ← b8_k v (k := 24) (by decide), ← b8_k v (k := 16) (by decide), ← b8_k v (k := 8) (by decide), ← b8_k v (k := 0) (by decide)]
  rfl
theorem l8_step {a b : Nat} (ha : a < 2 ^ 56) (hb : b < 256) : lN a <<< ((8 : Int32).toInt64 &&& 63) ||| lN b = lN (a * 256 + b) := by
  have h1 : lN a <<< ((8 : Int32).toInt64 &&& 63) = lN (a * 2 ^ 8) := wb_shl a (k := 8) (by decide)
  rw [h1, wb_or (by omega) (by omega)]
  congr 1
  have := Nat.two_pow_add_eq_or_of_lt (i := 8) (b := b) (by omega) a
  rw [Nat.mul_comm a, ← this]
theorem l8_nat {bs : List Nat} {n : Nat} (hb : ∀ k, k < 8 → bs.getD (n + k) 0 < 256) {f : Nat → Nat} (h0 : f 0 = 0) (hs : ∀ k, k < 8 → f (k + 1) = f k * 256 + bs.getD (n + k) 0) : ∀ k, k ≤ 8 → l8 bs n k = lN (f k) ∧ f k < 2 ^ (8 * k)
  | 0, _ => by rw [h0]; exact ⟨rfl, by decide⟩
  | k + 1, hk => by
    obtain ⟨i1, i2⟩ := l8_nat hb h0 hs k (by omega)
    have hb' := hb k (by omega)
    have hp : 2 ^ (8 * k) ≤ 2 ^ 56 := Nat.pow_le_pow_right (by decide) (by omega)
    have e : 2 ^ (8 * (k + 1)) = 2 ^ (8 * k) * 256 := by rw [Nat.mul_add, Nat.pow_add]
    refine ⟨?_, ?_⟩
    · show l8 bs n k <<< ((8 : Int32).toInt64 &&& 63) ||| lN (bs.getD (n + k) 0) = _
      rw [i1, l8_step (by omega) hb', hs k (by omega)]
    · rw [hs k (by omega), e]
      omega
theorem l8_at {bs : List Nat} {n : Nat} {v : Int64} (h : AtB bs n (lb v)) : l8 bs n 8 = v := by
  have hl : (lb v).length = 8 := rfl
  have hg : ∀ k, k < 8 → bs.getD (n + k) 0 = uN v / 2 ^ (56 - 8 * k) % 256 := by
    intro k hk
    rw [h.get (by omega), lb_eq]
    rcases (show k = 0 ∨ k = 1 ∨ k = 2 ∨ k = 3 ∨ k = 4 ∨ k = 5 ∨ k = 6 ∨ k = 7 by omega) with rfl | rfl | rfl | rfl | rfl | rfl | rfl | rfl <;> rfl
  have hlt := uN_lt v
  have := l8_nat (bs := bs) (n := n) (f := fun k => uN v / 2 ^ (64 - 8 * k)) (fun k hk => by rw [hg k hk]; exact Nat.mod_lt _ (by decide)) (by show uN v / 2 ^ 64 = 0; omega) (fun k hk => by
    rw [hg k hk]
    show uN v / 2 ^ (64 - 8 * (k + 1)) = uN v / 2 ^ (64 - 8 * k) * 256 + _
    rw [show 64 - 8 * (k + 1) = 56 - 8 * k by omega, show 64 - 8 * k = (56 - 8 * k) + 8 by omega, Nat.pow_add, ← Nat.div_div_eq_div_mul]
    omega) 8 (by omega)
  rw [this.1]
  show lN (uN v / 2 ^ 0) = v
  rw [Nat.pow_zero, Nat.div_one, lN_uN]
theorem lb_at {bs : List Nat} : ∀ (vs : List Int64) (n i : Nat), AtB bs n (vs.flatMap lb) → i < vs.length → AtB bs (n + 8 * i) (lb (vs.getD i 0))
  | [], n, i, h, hi => absurd hi (Nat.not_lt_zero i)
  | v :: r, n, i, h, hi => by
    rw [List.flatMap_cons] at h
    obtain ⟨h1, h2⟩ := h.app
    cases i with
    | zero => exact h1
    | succ i =>
      have := lb_at r (n + 8) i h2 (by simp at hi; omega)
      rw [show n + 8 * (i + 1) = n + 8 + 8 * i by omega]
      exact this
theorem rPla_at {bs : List Nat} {n : Nat} {vs : List Int64} (h : AtB bs n (vs.flatMap lb)) : rPla bs n vs.length = .inr (vs, n + 8 * vs.length) := by
  have hl := h.len
  rw [flatMap_lb] at hl
  have hy : lay vs.length 64 = 8 * vs.length := by unfold lay; omega
  unfold rPla rL
  rw [hy, if_pos hl]
  show Sum.inr ((List.range vs.length).map _, _) = _
  congr 1
  refine Prod.ext ?_ rfl
  refine ext_getD (by simp) fun j hj => ?_
  have hj' : j < vs.length := by simpa using hj
  show ((List.range vs.length).map _).getD j 0 = _
  rw [List.getD_eq_getElem?_getD, List.getElem?_map, List.getElem?_range hj']
  exact l8_at (lb_at vs n j h hj')
