/-! a laying: numbers of w bits, one behind the other -/
def lyN (w : Nat) : List Nat → Nat
  | [] => 0
  | x :: r => 2 ^ w * lyN w r + x % 2 ^ w
def ly (w : Nat) (xs : List Nat) : List Nat := (List.range (lay xs.length w)).map (fun j => lyN w xs / 2 ^ (8 * j) % 2 ^ 8)
theorem ly_len (w : Nat) (xs : List Nat) : (ly w xs).length = lay xs.length w := by simp [ly]
theorem ly_lt {w : Nat} {xs : List Nat} : ∀ x ∈ ly w xs, x < 256 := by
  intro x hx
  obtain ⟨j, -, rfl⟩ := List.mem_map.mp hx
  exact Nat.mod_lt _ (by decide)
theorem lyN_test (w : Nat) : ∀ (xs : List Nat) (j : Nat), (lyN w xs).testBit j = (decide (j < xs.length * w) && (xs.getD (j / w) 0).testBit (j % w))
  | [], j => by simp [lyN]
  | x :: r, j => by
    unfold lyN
    rw [Nat.testBit_two_pow_mul_add _ (Nat.mod_lt _ (Nat.two_pow_pos w)), List.length_cons, Nat.add_mul, Nat.one_mul]
    by_cases h : j < w
    · rw [if_pos h, Nat.testBit_mod_two_pow, decide_eq_true h, decide_eq_true (show j < r.length * w + w by omega), Nat.div_eq_of_lt h, Nat.mod_eq_of_lt h]
      rfl
    · rw [if_neg h, lyN_test w r]
      rcases Nat.eq_zero_or_pos w with hw | hw
      · subst hw
        simp
      · have e1 : j / w = (j - w) / w + 1 := by
          rw [← Nat.add_div_right _ hw, Nat.sub_add_cancel (by omega)]
        have e2 : j % w = (j - w) % w := by
          rw [← Nat.add_mod_right (j - w) w, Nat.sub_add_cancel (by omega)]
        rw [e1, e2]
        have e3 : decide (j - w < r.length * w) = decide (j < r.length * w + w) := by
          by_cases q : j - w < r.length * w
          · rw [decide_eq_true q, decide_eq_true (by omega)]
          · rw [decide_eq_false q, decide_eq_false (by omega)]
        rw [e3]
        simp
theorem ly_bit (w : Nat) (xs : List Nat) (j : Nat) : bit (ly w xs) j = (lyN w xs).testBit j := by
  unfold bit
  have e : (ly w xs).getD (j / 8) 0 = if j / 8 < lay xs.length w then lyN w xs / 2 ^ (8 * (j / 8)) % 2 ^ 8 else 0 := by
    unfold ly
    rw [List.getD_eq_getElem?_getD, List.getElem?_map]
    by_cases h : j / 8 < lay xs.length w
    · rw [if_pos h, List.getElem?_range h]; rfl
    · rw [if_neg h, List.getElem?_eq_none (by simp; omega)]; rfl
  rw [e]
  by_cases h : j / 8 < lay xs.length w
  · rw [if_pos h, Nat.testBit_mod_two_pow, Nat.testBit_div_two_pow, decide_eq_true (Nat.mod_lt _ (by decide)), Bool.true_and]
    congr 1
    omega
  · rw [if_neg h, Nat.zero_testBit, lyN_test, decide_eq_false, Bool.false_and]
    unfold lay at h
    generalize xs.length * w = a at *
    omega
theorem bit_appL {a b : List Nat} {j : Nat} (h : j < 8 * a.length) : bit (a ++ b) j = bit a j := by
  unfold bit
  rw [List.getD_eq_getElem?_getD, List.getElem?_append_left (by omega), ← List.getD_eq_getElem?_getD]
theorem bit_appR {a b : List Nat} {j : Nat} : bit (a ++ b) (8 * a.length + j) = bit b j := by
  unfold bit
  rw [List.getD_eq_getElem?_getD, List.getElem?_append_right (by omega), ← List.getD_eq_getElem?_getD, show (8 * a.length + j) / 8 - a.length = j / 8 by omega, show (8 * a.length + j) % 8 = j % 8 by omega]
theorem bit_out {a : List Nat} {j : Nat} (h : 8 * a.length ≤ j) : bit a j = false := by
  unfold bit
  rw [List.getD_eq_getElem?_getD, List.getElem?_eq_none (by omega)]
  exact Nat.zero_testBit _
/-- what is laid so far -/
def LyI (w : Nat) (xs : List Nat) (i : Nat) (Z : List Nat) : Prop := Z.length = lay xs.length w ∧ ∀ j, bit Z j = (decide (j < i * w) && (lyN w xs).testBit j)
theorem LyI.z {w : Nat} {xs : List Nat} : LyI w xs 0 (List.replicate (lay xs.length w) 0) := by
  refine ⟨List.length_replicate, fun j => ?_⟩
  rw [Nat.zero_mul, decide_eq_false (Nat.not_lt_zero j), Bool.false_and]
  unfold bit
  rw [List.getD_eq_getElem?_getD, List.getElem?_replicate]
  split <;> exact Nat.zero_testBit _
theorem LyI.fin {w : Nat} {xs Z : List Nat} (h : LyI w xs xs.length Z) (hb : ∀ x ∈ Z, x < 256) : Z = ly w xs := by
  refine bit_ext (by rw [h.1, ly_len]) hb ly_lt fun j => ?_
  rw [h.2, ly_bit, lyN_test]
  cases decide (j < xs.length * w) <;> rfl
theorem LyI.st {w i : Nat} {xs Z Z' : List Nat} (h : LyI w xs i Z) (hi : i < xs.length) (hl : Z'.length = Z.length) (hz : ∀ j, bit Z' j = (bit Z j || (decide (i * w ≤ j) && decide (j < i * w + w) && (xs.getD i 0).testBit (j - i * w)))) : LyI w xs (i + 1) Z' := by
  refine ⟨hl.trans h.1, fun j => ?_⟩
  rw [hz j, h.2 j, Nat.add_mul, Nat.one_mul]
  by_cases h1 : j < i * w
  · rw [decide_eq_true h1, decide_eq_true (show j < i * w + w by omega), decide_eq_false (show ¬ i * w ≤ j by omega)]
    simp
  · rw [decide_eq_false h1, decide_eq_true (show i * w ≤ j by omega)]
    by_cases h2 : j < i * w + w
    · rw [decide_eq_true h2, lyN_test]
      have hm : i * w + w ≤ xs.length * w := by
        have := Nat.mul_le_mul_right w (show i + 1 ≤ xs.length from hi)
        rw [Nat.add_mul, Nat.one_mul] at this
        exact this
      rw [decide_eq_true (show j < xs.length * w by omega)]
      have hw : 0 < w := by omega
      have e1 : j / w = i := by
        refine Nat.div_eq_of_lt_le (by omega) ?_
        rw [Nat.add_mul, Nat.one_mul]; exact h2
      have e2 : j % w = j - i * w := by
        have := Nat.div_add_mod j w
        rw [e1, Nat.mul_comm] at this
        omega
      rw [e1, e2]
      simp
    · rw [decide_eq_false h2]
      simp
theorem LyI.skip {w i : Nat} {xs Z : List Nat} (h : LyI w xs i Z) (hi : i < xs.length) (h0 : xs.getD i 0 = 0) : LyI w xs (i + 1) Z := h.st hi rfl (fun j => by rw [h0, Nat.zero_testBit]; simp)
/-- reading what was laid -/
theorem ly_read {a c xs : List Nat} {w i : Nat} (hi : i < xs.length) : bitsN (a ++ (ly w xs ++ c)) (a.length * 8 + i * w) w = xs.getD i 0 % 2 ^ w := by
  have hm : i * w + w ≤ xs.length * w := by
    have := Nat.mul_le_mul_right w (show i + 1 ≤ xs.length from hi)
    rw [Nat.add_mul, Nat.one_mul] at this
    exact this
  apply Nat.eq_of_testBit_eq
  intro k
  rw [bitsN_test, Nat.testBit_mod_two_pow]
  by_cases hk : k < w
  · rw [decide_eq_true hk, Bool.true_and, Bool.true_and, show a.length * 8 + i * w + k = 8 * a.length + (i * w + k) by omega, bit_appR, bit_appL, ly_bit, lyN_test, decide_eq_true (show i * w + k < xs.length * w by omega), Bool.true_and]
    · have e1 : (i * w + k) / w = i := by
        rw [Nat.mul_comm, Nat.mul_add_div (by omega), Nat.div_eq_of_lt hk, Nat.add_zero]
      have e2 : (i * w + k) % w = k := by
        rw [Nat.mul_comm, Nat.mul_add_mod, Nat.mod_eq_of_lt hk]
      rw [e1, e2]
    · rw [ly_len]
      unfold lay
      generalize xs.length * w = z at *
      omega
  · rw [decide_eq_false hk, Bool.false_and, Bool.false_and]
theorem laid_app {bs Z bs' : List Nat} {o w B : Nat} (h : laid (bs ++ Z) bs' (bs.length * 8 + o) w B) (ho : o + w ≤ 8 * Z.length) (h1 : ∀ x ∈ bs, x < 256) (h2 : ∀ x ∈ bs', x < 256) : ∃ Z', bs' = bs ++ Z' ∧ Z'.length = Z.length ∧ ∀ j, bit Z' j = (bit Z j || (decide (o ≤ j) && decide (j < o + w) && B.testBit (j - o))) := by
  obtain ⟨hl, hb⟩ := h
  rw [List.length_append] at hl
  have e1 : bs'.take bs.length = bs := by
    refine bit_ext (by rw [List.length_take]; omega) (fun x hx => h2 x (List.mem_of_mem_take hx)) h1 fun j => ?_
    by_cases hj : j < 8 * bs.length
    · have a1 : bit (bs'.take bs.length) j = bit bs' j := by
        unfold bit
        rw [List.getD_eq_getElem?_getD, List.getElem?_take, if_pos (by omega), ← List.getD_eq_getElem?_getD]
      rw [a1, hb, bit_appL hj, decide_eq_false (show ¬ bs.length * 8 + o ≤ j by omega)]
      simp
    · rw [bit_out (by rw [List.length_take]; omega), bit_out (by omega)]
  refine ⟨bs'.drop bs.length, by have := List.take_append_drop bs.length bs'; rw [e1] at this; exact this.symm, by rw [List.length_drop]; omega, fun j => ?_⟩
  have a1 : bit (bs'.drop bs.length) j = bit bs' (8 * bs.length + j) := by
    unfold bit
    rw [List.getD_eq_getElem?_getD, List.getElem?_drop, ← List.getD_eq_getElem?_getD, show (8 * bs.length + j) / 8 = bs.length + j / 8 by omega, show (8 * bs.length + j) % 8 = j % 8 by omega]
  rw [a1, hb, bit_appR, List.length_append]
  by_cases hj : o ≤ j
  · by_cases hj2 : j < o + w
    · rw [decide_eq_true hj, decide_eq_true hj2, decide_eq_true (show bs.length * 8 + o ≤ 8 * bs.length + j by omega), decide_eq_true (show 8 * bs.length + j < bs.length * 8 + o + w by omega), decide_eq_true (show 8 * bs.length + j < 8 * (bs.length + Z.length) by omega), show 8 * bs.length + j - (bs.length * 8 + o) = j - o by omega]
      simp
    · rw [decide_eq_true hj, decide_eq_false hj2, decide_eq_false (show ¬ 8 * bs.length + j < bs.length * 8 + o + w by omega)]
      simp
  · rw [decide_eq_false hj, decide_eq_false (show ¬ bs.length * 8 + o ≤ 8 * bs.length + j by omega)]
    simp
/-! bytes come behind, where there is room -/
theorem wp_X1_putR {d t N sl : Nat} {hp : Nat → MC} {Q : Option Value → MH → Prop} {bs : List Nat} {b : Int32} (hr : bs.length + 1 ≤ 300) (hB : BytesAt hp t bs) (hQ : ∀ hp', BytesAt hp' t (bs ++ [b8 b]) → Fr t (t + 2) hp hp' → Q none (N, sl, hp')) : mj_wp (d + 1) id_X1_put [.ref t, .int b] (N, sl, hp) Q :=
  wp_X1_put hB fun hp' h1 h2 => hQ hp' (by rw [List.take_of_length_le (by simp; omega)] at h1; exact h1) h2
theorem vb_len {n : Nat} (h : n < 2 ^ 64) : (vb n).length = vl n := by
  have := vl_b h
  unfold vb
  simp
  omega
theorem wp_X1_putVarintR {d t N sl : Nat} {hp : Nat → MC} {Q : Option Value → MH → Prop} {bs : List Nat} {x : Int64} (hr : bs.length + vl (uN x) ≤ 300) (hB : BytesAt hp t bs) (hQ : ∀ hp', BytesAt hp' t (bs ++ vb (uN x)) → Fr t (t + 2) hp hp' → Q none (N, sl, hp')) : mj_wp (d + 4) id_X1_putVarint [.ref t, .long x] (N, sl, hp) Q :=
  wp_X1_putVarint hB fun hp' h1 h2 => hQ hp' (by rw [List.take_of_length_le (by rw [List.length_append, vb_len (uN_lt x)]; omega)] at h1; exact h1) h2
theorem wp_X1_putLongR {d t N sl : Nat} {hp : Nat → MC} {Q : Option Value → MH → Prop} {bs : List Nat} {v : Int64} (hr : bs.length + 8 ≤ 300) (hB : BytesAt hp t bs) (hQ : ∀ hp', BytesAt hp' t (bs ++ lb v) → Fr t (t + 2) hp hp' → Q none (N, sl, hp')) : mj_wp (d + 2) id_X1_putLong [.ref t, .long v] (N, sl, hp) Q :=
  wp_X1_putLong hB fun hp' h1 h2 => hQ hp' (by rw [List.take_of_length_le (by rw [List.length_append, show (lb v).length = 8 from rfl]; omega)] at h1; exact h1) h2
theorem wp_X1_reserveR {d t N sl : Nat} {hp : Nat → MC} {Q : Option Value → MH → Prop} {bs : List Nat} {n : Nat} (hr : bs.length + n ≤ 300) (hB : BytesAt hp t bs) (hQ : ∀ hp', BytesAt hp' t (bs ++ List.replicate n 0) → Fr t (t + 2) hp hp' → Q (some (.int (nI (bs.length * 8)))) (N, sl, hp')) : mj_wp (d + 2) id_X1_reserve [.ref t, .int (nI n)] (N, sl, hp) Q :=
  wp_X1_reserve (by omega) hB fun hp' h1 h2 => hQ hp' (by rw [List.take_of_length_le (by simp; omega)] at h1; exact h1) h2
theorem wp_X1_putBitsL {d t N sl : Nat} {hp : Nat → MC} {Q : Option Value → MH → Prop} {bs Z xs : List Nat} {F w i : Nat} {x : Int64} (hF : F = bs.length * 8 + i * w) (hw : w ≤ 64) (hi : i < xs.length) (hx : uN x = xs.getD i 0) (hZ : LyI w xs i Z) (hB : BytesAt hp t (bs ++ Z)) (hQ : ∀ hp' Z', BytesAt hp' t (bs ++ Z') → LyI w xs (i + 1) Z' → Fr t (t + 2) hp hp' → Q none (N, sl, hp')) : mj_wp (d + 1) id_X1_putBits [.ref t, .int (nI F), .int (nI w), .long x] (N, sl, hp) Q := by
  have hlen := hB.len
  rw [List.length_append, hZ.1] at hlen
  have hm : i * w + w ≤ xs.length * w := by
    have := Nat.mul_le_mul_right w (show i + 1 ≤ xs.length from hi)
    rw [Nat.add_mul, Nat.one_mul] at this
    exact this
  have hl8 : xs.length * w ≤ 8 * lay xs.length w := by unfold lay; generalize xs.length * w = z; omega
  subst hF
  refine wp_X1_putBits hw (by omega) hB fun hp' bs' hB' hL hFr => ?_
  obtain ⟨Z', rfl, hl, hb⟩ := laid_app hL (by rw [hZ.1]; omega) (fun y hy => hB.lt y (List.mem_append_left _ hy)) hB'.lt
  exact hQ hp' Z' hB' (hZ.st hi hl (by rw [← hx]; exact hb)) hFr
