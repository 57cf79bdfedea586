/-! what a patch is does not hang on what it was before -/
def PB (s : PS) : Prop := s.2.1 ≤ 64 ∧ s.2.2.1 < 2 ^ 12 ∧ s.2.2.2 < 2 ^ 21
theorem kib_P {s : PS} {b : Int64} {w o c : Nat} (h : PB s) (hw : w ≤ 64) (ho : o < 2 ^ 12) (hc : c < 2 ^ 21) : PB (kib s b w o c) := by
  unfold kib
  split
  · exact ⟨hw, ho, hc⟩
  · exact h
theorem lay_b {m w : Nat} (hm : m ≤ 32) (hw : w ≤ 64) : lay m w ≤ 256 := by
  have : m * w ≤ 32 * 64 := Nat.mul_le_mul hm hw
  unfold lay
  omega
theorem tbA_P {us : List Int64} {ts : List Nat} {m first : Nat} (hm : m ≤ 32) (hts : ∀ j, ts.getD j 0 ≤ 32) : ∀ (k sp ro wm : Nat) (s : PS), sp + k * 400 < 2 ^ 20 → ro + k * 32 < 2 ^ 12 → PB s → PB (tbA us ts m first k s sp ro wm)
  | 0, sp, ro, wm, s, _, _, h => h
  | k + 1, sp, ro, wm, s, hsp, hro, h => by
    unfold tbA
    split
    · exact h
    · have hln := ln_b (us.getD (first + k) 0)
      have ht := hts (first + k)
      have hmul : ts.getD (first + k) 0 * (1 + ln (us.getD (first + k) 0)) ≤ 32 * 11 := Nat.mul_le_mul (hts _) (by omega)
      have hw : bl (uN (us.getD (first + k) 0 - us.getD first 0)) ≤ 64 := bl_le.mpr (uN_lt _)
      have hl := lay_b hm hw
      refine tbA_P hm hts k _ _ _ _ (by omega) (by omega) ?_
      split
      · exact kib_P h hw (by omega) (by omega)
      · exact h
theorem tbA_first {us : List Int64} {ts : List Nat} {m first : Nat} (hm : m ≤ 32) (hts : ∀ j, ts.getD j 0 ≤ 32) : ∀ (k sp ro : Nat) (s s' : PS), sp + (k + 1) * 400 < 2 ^ 20 → ro + (k + 1) * 32 < 2 ^ 12 → s.2.2.2 = 2147483647 → s'.2.2.2 = 2147483647 → tbA us ts m first (k + 1) s sp ro 64 = tbA us ts m first (k + 1) s' sp ro 64 ∧ PB (tbA us ts m first (k + 1) s sp ro 64)
  | k, sp, ro, s, s', hsp, hro, h1, h2 => by
    have hln := ln_b (us.getD (first + k) 0)
    have ht := hts (first + k)
    have hmul : ts.getD (first + k) 0 * (1 + ln (us.getD (first + k) 0)) ≤ 32 * 11 := Nat.mul_le_mul (hts _) (by omega)
    have hw : bl (uN (us.getD (first + k) 0 - us.getD first 0)) ≤ 64 := bl_le.mpr (uN_lt _)
    have hl := lay_b hm hw
    unfold tbA
    rw [h1, h2, if_neg (show ¬ 2147483647 < sp by omega), if_neg (show ¬ 2147483647 < sp by omega)]
    by_cases hlt : bl (uN (us.getD (first + k) 0 - us.getD first 0)) < 64
    · rw [if_pos hlt, if_pos hlt, if_pos hlt]
      have e : ∀ q : PS, q.2.2.2 = 2147483647 → kib q (us.getD first 0) (bl (uN (us.getD (first + k) 0 - us.getD first 0))) ro (sp + lay m (bl (uN (us.getD (first + k) 0 - us.getD first 0)))) = (us.getD first 0, bl (uN (us.getD (first + k) 0 - us.getD first 0)), ro, sp + lay m (bl (uN (us.getD (first + k) 0 - us.getD first 0)))) := by
        intro q hq
        unfold kib
        rw [if_pos (Or.inl (by rw [hq]; omega))]
      rw [e s h1, e s' h2]
      exact ⟨rfl, tbA_P hm hts k _ _ _ _ (by omega) (by omega) ⟨hw, by show ro < 2 ^ 12; omega, by show sp + _ < 2 ^ 21; omega⟩⟩
    · rw [if_neg hlt, if_neg hlt, if_neg hlt]
      cases k with
      | zero =>
        refine absurd ?_ hlt
        rw [Nat.add_zero, Int64.sub_self]
        decide
      | succ k => exact tbA_first hm hts k _ _ s s' (by omega) (by omega) h1 h2
theorem fitA_P {us : List Int64} {ts : List Nat} {m : Nat} (hu : us.length ≤ 32) (hm : m ≤ 32) (hts : ∀ j, ts.getD j 0 ≤ 32) : ∀ (k i below rb : Nat) (s : PS), i + k ≤ us.length → below ≤ i * 400 → rb ≤ i * 32 → PB s → PB (fitA us ts m k i below rb s)
  | 0, _, _, _, _, _, _, _, h => h
  | k + 1, i, below, rb, s, hi, hb, hr, h => by
    have hln := ln_b (us.getD i 0)
    have ht := hts i
    have hmul : ts.getD i 0 * (1 + ln (us.getD i 0)) ≤ 32 * 11 := Nat.mul_le_mul (hts _) (by omega)
    unfold fitA
    split
    · exact h
    · exact fitA_P hu hm hts k _ _ _ _ (by omega) (by omega) (by omega) (tbA_P hm hts _ _ _ _ _ (by omega) (by omega) h)
theorem arr_pos {vs : List Int64} (h : 0 < vs.length) : 0 < (arr vs).1.length := by
  obtain ⟨l, v, rfl⟩ : ∃ l v, vs = l ++ [v] := ⟨vs.dropLast, vs.getLast (fun q => by rw [q] at h; exact absurd h (by decide)), (List.dropLast_concat_getLast _).symm⟩
  rw [arr_snoc]
  unfold insS
  split
  · rename_i q
    have := q.1
    show 0 < (arr l).1.length
    omega
  · rw [insL_len (rk_le _ _)]
    omega
def fit0 (vs : List Int64) : PS := fit vs (0, 0, 0, 0)
theorem fit_any {vs : List Int64} (h : 0 < vs.length) (h2 : vs.length ≤ 32) (s : PS) : fit vs s = fit0 vs ∧ PB (fit0 vs) := by
  have hp := arr_pos h
  have hok := arr_ok vs
  have hts : ∀ j, (arr vs).2.getD j 0 ≤ 32 := fun j => Nat.le_trans (arr_times vs j) h2
  have hln := ln_b ((arr vs).1.getD 0 0)
  unfold fit0 fit
  obtain ⟨n, hn⟩ : ∃ n, (arr vs).1.length = n + 1 := ⟨(arr vs).1.length - 1, by omega⟩
  have key : ∀ q q' : PS, q.2.2.2 = 2147483647 → q'.2.2.2 = 2147483647 → tb (arr vs).1 (arr vs).2 vs.length 0 0 0 q = tb (arr vs).1 (arr vs).2 vs.length 0 0 0 q' ∧ PB (tb (arr vs).1 (arr vs).2 vs.length 0 0 0 q) := by
    intro q q' hq hq'
    unfold tb
    rw [Nat.sub_zero, hn]
    exact tbA_first h2 hts n _ _ q q' (by omega) (by omega) hq hq'
  rw [hn]
  unfold fitA
  rw [if_neg (by show ¬ 2147483647 < 4 + 0; decide), if_neg (by show ¬ 2147483647 < 4 + 0; decide)]
  have k1 := key (s.1, s.2.1, s.2.2.1, 2147483647) (0, 0, 0, 2147483647) rfl rfl
  rw [k1.1]
  refine ⟨rfl, fitA_P (by omega) h2 hts n _ _ _ _ (by omega) ?_ ?_ (key (0, 0, 0, 2147483647) (0, 0, 0, 2147483647) rfl rfl).2⟩
  · have hmul : (arr vs).2.getD 0 0 * (1 + ln ((arr vs).1.getD 0 0)) ≤ 32 * 11 := Nat.mul_le_mul (hts _) (by omega)
    omega
  · have := hts 0
    omega
