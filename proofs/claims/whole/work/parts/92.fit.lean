/-! the patch that is kept is the least one: bytes, then width, then base -/
def sU (us : List Int64) (ts : List Nat) (f : Int64 → Nat) : Nat → Nat
  | 0 => 0
  | n + 1 => sU us ts f n + ts.getD n 0 * f (us.getD n 0)
theorem sU_s {us : List Int64} {ts : List Nat} {f : Int64 → Nat} {n : Nat} : sU us ts f (n + 1) = sU us ts f n + ts.getD n 0 * f (us.getD n 0) := rfl
theorem getD_setN {l : List Nat} {r x j : Nat} (h : r < l.length) : (l.set r x).getD j 0 = if j = r then x else l.getD j 0 := getD_set h
theorem sU_set {us : List Int64} {ts : List Nat} {f : Int64 → Nat} {r : Nat} (h : r < ts.length) : ∀ n, sU us (ts.set r (ts.getD r 0 + 1)) f n = sU us ts f n + if r < n then f (us.getD r 0) else 0
  | 0 => by simp [sU]
  | n + 1 => by
    rw [sU_s, sU_s, sU_set h n, getD_set h]
    by_cases e : n = r
    · subst e
      rw [if_pos rfl, if_neg (by omega), if_pos (by omega), Nat.add_mul]
      omega
    · rw [if_neg e]
      by_cases q : r < n
      · rw [if_pos q, if_pos (by omega)]; omega
      · rw [if_neg q, if_neg (by omega)]; omega
theorem sU_ins {us : List Int64} {ts : List Nat} {f : Int64 → Nat} {r : Nat} {v : Int64} (h : r ≤ us.length) (hl : ts.length = us.length) : ∀ n, sU (insL us r v) (insL ts r 1) f n = if n ≤ r then sU us ts f n else sU us ts f (n - 1) + f v
  | 0 => by simp [sU]
  | n + 1 => by
    rw [sU_s, sU_ins h hl n, insL_get (by omega), insL_get h]
    rcases Nat.lt_trichotomy n r with q | q | q
    · rw [if_pos (by omega), if_pos q, if_pos q, if_pos (by omega), sU_s]
    · subst q
      rw [if_pos (Nat.le_refl _), if_neg (by omega), if_pos rfl, if_neg (by omega), if_pos rfl, if_neg (by omega), Nat.add_sub_cancel, Nat.one_mul]
    · rw [if_neg (by omega), if_neg (by omega), if_neg (by omega), if_neg (by omega), if_neg (by omega), if_neg (by omega)]
      obtain ⟨k, rfl⟩ : ∃ k, n = k + 1 := ⟨n - 1, by omega⟩
      rw [Nat.add_sub_cancel, Nat.add_sub_cancel]
      show _ = (sU us ts f k + ts.getD k 0 * f (us.getD k 0)) + f v
      omega
theorem arr_sum (f : Int64 → Nat) : ∀ (vs : List Int64), (vs.map f).sum = sU (arr vs).1 (arr vs).2 f (arr vs).1.length := by
  intro vs
  rw [← List.reverse_reverse vs]
  induction vs.reverse with
  | nil => rfl
  | cons a r ih =>
    rw [List.reverse_cons, arr_snoc, List.map_append, List.sum_append, ih]
    obtain ⟨h1, h2, h3⟩ := arr_ok r.reverse
    have hrk := rk_le (arr r.reverse).1 a
    unfold insS
    split
    · rename_i hc
      rw [sU_set (by omega), if_pos hc.1, hc.2]
      simp
    · rw [insL_len hrk, sU_ins hrk h2, if_neg (by omega), Nat.add_sub_cancel]
      simp
theorem insL_mem {us : List Int64} {r j : Nat} {v : Int64} (h : r ≤ us.length) (hj : j < us.length + 1) : (insL us r v).getD j 0 = v ∨ ∃ i, i < us.length ∧ (insL us r v).getD j 0 = us.getD i 0 := by
  rw [insL_get h]
  rcases Nat.lt_trichotomy j r with q | q | q
  · rw [if_pos q]; exact Or.inr ⟨j, by omega, rfl⟩
  · rw [if_neg (by omega), if_pos q]; exact Or.inl rfl
  · rw [if_neg (by omega), if_neg (by omega)]; exact Or.inr ⟨j - 1, by omega, rfl⟩
theorem arr_mem : ∀ (vs : List Int64), (∀ j, j < (arr vs).1.length → (arr vs).1.getD j 0 ∈ vs) ∧ ∀ v ∈ vs, ∃ j, j < (arr vs).1.length ∧ (arr vs).1.getD j 0 = v := by
  intro vs
  rw [← List.reverse_reverse vs]
  induction vs.reverse with
  | nil => exact ⟨fun j hj => absurd hj (Nat.not_lt_zero j), fun v hv => by simp at hv⟩
  | cons a r ih =>
    rw [List.reverse_cons, arr_snoc]
    obtain ⟨h1, h2, h3⟩ := arr_ok r.reverse
    obtain ⟨i1, i2⟩ := ih
    have hrk := rk_le (arr r.reverse).1 a
    unfold insS
    split
    · rename_i hc
      refine ⟨fun j hj => List.mem_append_left _ (i1 j hj), fun v hv => ?_⟩
      rcases List.mem_append.mp hv with q | q
      · exact i2 v q
      · rcases List.mem_singleton.mp q with rfl
        exact ⟨_, hc.1, hc.2⟩
    · rw [insL_len hrk]
      refine ⟨fun j hj => ?_, fun v hv => ?_⟩
      · rcases insL_mem (v := a) hrk hj with q | ⟨i, hi, q⟩
        · show (insL _ _ a).getD j 0 ∈ _
          rw [q]; exact List.mem_append_right _ (List.mem_singleton.mpr rfl)
        · show (insL _ _ a).getD j 0 ∈ _
          rw [q]; exact List.mem_append_left _ (i1 i hi)
      · show ∃ j, j < _ + 1 ∧ (insL _ _ a).getD j 0 = v
        rcases List.mem_append.mp hv with q | q
        · obtain ⟨i, hi, e⟩ := i2 v q
          by_cases hir : i < rk (arr r.reverse).1 a
          · exact ⟨i, by omega, by rw [insL_get hrk, if_pos hir]; exact e⟩
          · exact ⟨i + 1, by omega, by rw [insL_get hrk, if_neg (by omega), if_neg (by omega)]; exact e⟩
        · rcases List.mem_singleton.mp q with rfl
          exact ⟨rk (arr r.reverse).1 v, by omega, by rw [insL_get hrk, if_neg (by omega), if_pos rfl]⟩
/-- sums with a piece left out -/
theorem sU_congr {us : List Int64} {ts : List Nat} {f g : Int64 → Nat} : ∀ n, (∀ l, l < n → f (us.getD l 0) = g (us.getD l 0)) → sU us ts f n = sU us ts g n
  | 0, _ => rfl
  | n + 1, h => by
    rw [sU_s, sU_s, sU_congr n (fun l hl => h l (by omega)), h n (by omega)]
theorem sU_mono {us : List Int64} {ts : List Nat} {f : Int64 → Nat} {a : Nat} : ∀ k, sU us ts f a ≤ sU us ts f (a + k)
  | 0 => Nat.le_refl _
  | k + 1 => by
    have := sU_mono (us := us) (ts := ts) (f := f) (a := a) k
    rw [← Nat.add_assoc, sU_s]
    omega
theorem sU_le {us : List Int64} {ts : List Nat} {f : Int64 → Nat} {a b : Nat} (h : a ≤ b) : sU us ts f a ≤ sU us ts f b := by
  obtain ⟨k, rfl⟩ : ∃ k, b = a + k := ⟨b - a, by omega⟩
  exact sU_mono k
theorem sU_split {us : List Int64} {ts : List Nat} {f g : Int64 → Nat} {a b : Nat} (hab : a ≤ b) (h1 : ∀ l, l < a → f (us.getD l 0) = g (us.getD l 0)) (h2 : ∀ l, a ≤ l → l < b → f (us.getD l 0) = 0) : ∀ k, (∀ l, b ≤ l → l < b + k → f (us.getD l 0) = g (us.getD l 0)) → sU us ts f (b + k) + sU us ts g b = sU us ts g a + sU us ts g (b + k)
  | 0, _ => by
    have key : ∀ j, a + j ≤ b → sU us ts f (a + j) = sU us ts g a := by
      intro j
      induction j with
      | zero => intro _; exact sU_congr a h1
      | succ j ih =>
        intro hj
        rw [← Nat.add_assoc, sU_s, ih (by omega), h2 (a + j) (by omega) (by omega)]
        omega
    have := key (b - a) (by omega)
    rw [show a + (b - a) = b by omega] at this
    rw [Nat.add_zero, this]
  | k + 1, h3 => by
    have ih := sU_split (ts := ts) hab h1 h2 k (fun l l1 l2 => h3 l l1 (by omega))
    rw [← Nat.add_assoc, sU_s, sU_s, h3 (b + k) (by omega) (by omega)]
    omega
theorem sU_ge {us : List Int64} {ts : List Nat} {f g : Int64 → Nat} {a b : Nat} (hab : a ≤ b) (h1 : ∀ l, l < a → f (us.getD l 0) = g (us.getD l 0)) : ∀ k, (∀ l, b ≤ l → l < b + k → f (us.getD l 0) = g (us.getD l 0)) → sU us ts g a + sU us ts g (b + k) ≤ sU us ts f (b + k) + sU us ts g b
  | 0, _ => by
    have e := sU_congr (ts := ts) a h1
    have := sU_le (us := us) (ts := ts) (f := f) hab
    rw [Nat.add_zero]
    omega
  | k + 1, h3 => by
    have ih := sU_ge (ts := ts) hab h1 k (fun l l1 l2 => h3 l l1 (by omega))
    rw [← Nat.add_assoc, sU_s, sU_s, h3 (b + k) (by omega) (by omega)]
    omega
/-! distances -/
theorem uN_sub {u v : Int64} (h : u ≤ v) : (uN (v - u) : Int) = v.toInt - u.toInt := by
  have h' := (fa_le64 u v).mp h
  have e1 : uN (v - u) = (v - u).toBitVec.toNat := rfl
  have e2 : v.toInt = v.toBitVec.toInt := rfl
  have e3 : u.toInt = u.toBitVec.toInt := rfl
  have hv := v.toBitVec.isLt
  have hu := u.toBitVec.isLt
  rw [e1, Int64.toBitVec_sub, BitVec.toNat_sub]
  rw [e2, e3, BitVec.toInt_eq_toNat_cond, BitVec.toInt_eq_toNat_cond] at h'
  rw [e2, e3, BitVec.toInt_eq_toNat_cond, BitVec.toInt_eq_toNat_cond]
  split at h' <;> split at h' <;> omega
theorem uN_sub_mono {u v w : Int64} (h : u ≤ v) (h2 : v ≤ w) : uN (v - u) ≤ uN (w - u) := by
  have e1 := uN_sub h
  have e2 := uN_sub (Int64.le_trans h h2)
  have := (fa_le64 v w).mp h2
  omega
theorem bl_mono {a b : Nat} (h : a ≤ b) : bl a ≤ bl b := bl_le.mpr (Nat.lt_of_le_of_lt h (bl_le.mp (Nat.le_refl _)))
def dD (us : List Int64) (i j : Nat) : Nat := bl (uN (us.getD j 0 - us.getD i 0))
theorem dD_self {us : List Int64} {i : Nat} : dD us i i = 0 := by
  unfold dD
  rw [Int64.sub_self]
  rfl
theorem dD_mono {us : List Int64} {i j l : Nat} (h : SS us) (hij : i ≤ j) (hjl : j ≤ l) (hl : l < us.length) : dD us i j ≤ dD us i l := bl_mono (uN_sub_mono (SS_le h hij (by omega)) (SS_le h hjl hl))
/-- whether a value is within reach of a base and a width -/
def cv (b : Int64) (w : Nat) (v : Int64) : Bool := decide (b ≤ v) && decide (bl (uN (v - b)) ≤ w)
def gL (b : Int64) (w : Nat) (f : Int64 → Nat) (v : Int64) : Nat := if cv b w v = true then 0 else f v
def lnG (v : Int64) : Nat := 1 + ln v
def one (_ : Int64) : Nat := 1
def CW (us : List Int64) (ts : List Nat) (m i w : Nat) : Nat := 3 + ln (us.getD i 0) + lay m w + sU us ts (gL (us.getD i 0) w lnG) us.length
def OW (us : List Int64) (ts : List Nat) (i w : Nat) : Nat := sU us ts (gL (us.getD i 0) w one) us.length
def lx (c w : Nat) (b : Int64) (c' w' : Nat) (b' : Int64) : Prop := c < c' ∨ c = c' ∧ (w < w' ∨ w = w' ∧ b ≤ b')
theorem lx.tr {c w c' w' c2 w2 : Nat} {b b' b2 : Int64} (h1 : lx c w b c' w' b') (h2 : lx c' w' b' c2 w2 b2) : lx c w b c2 w2 b2 := by
  rcases h1 with h1 | ⟨h1, h1' | ⟨h1', h1''⟩⟩ <;> rcases h2 with h2 | ⟨h2, h2' | ⟨h2', h2''⟩⟩
  · exact Or.inl (by omega)
  · exact Or.inl (by omega)
  · exact Or.inl (by omega)
  · exact Or.inl (by omega)
  · exact Or.inr ⟨by omega, Or.inl (by omega)⟩
  · exact Or.inr ⟨by omega, Or.inl (by omega)⟩
  · exact Or.inl (by omega)
  · exact Or.inr ⟨by omega, Or.inl (by omega)⟩
  · exact Or.inr ⟨by omega, Or.inr ⟨by omega, Int64.le_trans h1'' h2''⟩⟩
def lxS (s : PS) (c w : Nat) (b : Int64) : Prop := lx s.2.2.2 s.2.1 s.1 c w b
def cand (us : List Int64) (ts : List Nat) (m : Nat) (s : PS) (i w : Nat) : Prop := lxS s (CW us ts m i w) w (us.getD i 0)
def MX : Nat := 2147483647
def real (us : List Int64) (ts : List Nat) (m : Nat) (s : PS) (i : Nat) : Prop := ∃ j w, j ≤ i ∧ j < us.length ∧ w ≤ 63 ∧ s = (us.getD j 0, w, OW us ts j w, CW us ts m j w)
theorem lay_mono {m w w' : Nat} (h : w ≤ w') : lay m w ≤ lay m w' := by
  unfold lay
  have : m * w ≤ m * w' := Nat.mul_le_mul_left m h
  omega
theorem cv_below {us : List Int64} (h : SS us) {i l w : Nat} (hi : i < us.length) (hl : l < i) : cv (us.getD i 0) w (us.getD l 0) = false := by
  unfold cv
  rw [decide_eq_false (Int64.not_le.mpr (h l i hl hi))]
  rfl
theorem cv_above {us : List Int64} (h : SS us) {i l w : Nat} (hi : i ≤ l) (hl : l < us.length) : cv (us.getD i 0) w (us.getD l 0) = decide (dD us i l ≤ w) := by
  unfold cv
  rw [decide_eq_true (SS_le h hi hl), Bool.true_and]
  rfl
/-- what is left out where the last one within reach is known -/
theorem sU_known {us : List Int64} {ts : List Nat} (h : SS us) {i j w : Nat} {f : Int64 → Nat} (hij : i ≤ j) (hj : j < us.length) (h1 : dD us i j ≤ w) (h2 : ∀ l, j < l → l < us.length → w < dD us i l) : sU us ts (gL (us.getD i 0) w f) us.length + sU us ts f (j + 1) = sU us ts f i + sU us ts f us.length := by
  have := sU_split (us := us) (ts := ts) (f := gL (us.getD i 0) w f) (g := f) (a := i) (b := j + 1) (by omega) (fun l hl => by unfold gL; rw [cv_below h (by omega) hl]; rfl) (fun l l1 l2 => by
    unfold gL
    rw [cv_above h l1 (by omega), decide_eq_true (Nat.le_trans (dD_mono h l1 (show l ≤ j by omega) hj) h1)]
    rfl) (us.length - (j + 1)) (fun l l1 l2 => by
    unfold gL
    have := h2 l (by omega) (by omega)
    rw [cv_above h (by omega) (by omega), decide_eq_false (by omega)]
    rfl)
  rw [show j + 1 + (us.length - (j + 1)) = us.length by omega] at this
  exact this
theorem sU_least {us : List Int64} {ts : List Nat} (h : SS us) {i a w : Nat} {f : Int64 → Nat} (hi : i < us.length) (hia : i ≤ a) (ha : a ≤ us.length) (h2 : ∀ l, a ≤ l → l < us.length → w < dD us i l) : sU us ts f i + sU us ts f us.length ≤ sU us ts (gL (us.getD i 0) w f) us.length + sU us ts f a := by
  have := sU_ge (us := us) (ts := ts) (f := gL (us.getD i 0) w f) (g := f) (a := i) (b := a) hia (fun l hl => by unfold gL; rw [cv_below h hi hl]; rfl) (us.length - a) (fun l l1 l2 => by
    unfold gL
    have := h2 l l1 (by omega)
    rw [cv_above h (by omega) (by omega), decide_eq_false (by omega)]
    rfl)
  rw [show a + (us.length - a) = us.length by omega] at this
  exact this
theorem kib_cases (s : PS) (b : Int64) (w o c : Nat) : (kib s b w o c = (b, w, o, c) ∧ (c < s.2.2.2 ∨ (c = s.2.2.2 ∧ w < s.2.1))) ∨ (kib s b w o c = s ∧ (s.2.2.2 < c ∨ (s.2.2.2 = c ∧ s.2.1 ≤ w))) := by
  unfold kib
  by_cases h : c < s.2.2.2 ∨ (c = s.2.2.2 ∧ w < s.2.1)
  · rw [if_pos h]; exact Or.inl ⟨rfl, h⟩
  · rw [if_neg h]; exact Or.inr ⟨rfl, by omega⟩
theorem real_lt {us : List Int64} {ts : List Nat} {m i : Nat} {s : PS} (hb : ∀ j w, j < us.length → w ≤ 63 → CW us ts m j w < MX) (h : real us ts m s i) : s.2.2.2 < MX := by
  obtain ⟨j, w, z1, z2, z3, z4⟩ := h
  rw [z4]
  exact hb j w z2 z3
theorem tbA_best {us : List Int64} {ts : List Nat} {m i : Nat} (h : SS us) (hi : i < us.length) (hb : ∀ j w, j < us.length → w ≤ 63 → CW us ts m j w < MX) : ∀ (k sp ro wm : Nat) (s : PS), i + k ≤ us.length → sp + sU us ts lnG (i + k) = 3 + ln (us.getD i 0) + sU us ts lnG i + sU us ts lnG us.length → ro + sU us ts one (i + k) = sU us ts one i + sU us ts one us.length → wm ≤ 64 → (∀ l, i + k ≤ l → l < us.length → wm ≤ dD us i l) → ((s.2.2.2 = MX ∧ wm = 64) ∨ real us ts m s i) → (∀ w, wm ≤ w → w ≤ 63 → cand us ts m s i w) → (∀ w, w ≤ 63 → cand us ts m (tbA us ts m i k s sp ro wm) i w) ∧ (∀ c w b, lxS s c w b → s.2.2.2 < MX → lxS (tbA us ts m i k s sp ro wm) c w b) ∧ real us ts m (tbA us ts m i k s sp ro wm) i
  | 0, sp, ro, wm, s, hk, hsp, hro, hwm, hD, hs, hacc => by
    have h0 := hD i (by omega) hi
    rw [dD_self] at h0
    have hr : real us ts m s i := by
      rcases hs with q | q
      · omega
      · exact q
    exact ⟨fun w hw => hacc w (by omega) hw, fun c w b q _ => q, hr⟩
  | k + 1, sp, ro, wm, s, hk, hsp, hro, hwm, hD, hs, hacc => by
    have e0 : tbA us ts m i (k + 1) s sp ro wm = if s.2.2.2 < sp then s else tbA us ts m i k (if dD us i (i + k) < wm then kib s (us.getD i 0) (dD us i (i + k)) ro (sp + lay m (dD us i (i + k))) else s) (sp + ts.getD (i + k) 0 * (1 + ln (us.getD (i + k) 0))) (ro + ts.getD (i + k) 0) (if dD us i (i + k) < wm then dD us i (i + k) else wm) := rfl
    rw [e0]
    by_cases hst : s.2.2.2 < sp
    · rw [if_pos hst]
      have low : ∀ w, w < wm → s.2.2.2 < CW us ts m i w := by
        intro w hw
        have := sU_least (ts := ts) (f := lnG) h hi (show i ≤ i + (k + 1) by omega) hk (w := w) (fun l l1 l2 => by have := hD l l1 l2; omega)
        unfold CW
        omega
      have hr : real us ts m s i := by
        rcases hs with ⟨q, q2⟩ | q
        · have h2 := low 0 (by omega)
          have h3 := hb i 0 hi (by omega)
          omega
        · exact q
      refine ⟨fun w hw => ?_, fun c w b q _ => q, hr⟩
      by_cases q : wm ≤ w
      · exact hacc w q hw
      · exact Or.inl (low w (by omega))
    · rw [if_neg hst]
      have hsp' : sp + ts.getD (i + k) 0 * (1 + ln (us.getD (i + k) 0)) + sU us ts lnG (i + k) = 3 + ln (us.getD i 0) + sU us ts lnG i + sU us ts lnG us.length := by
        rw [← hsp, ← Nat.add_assoc i k 1, sU_s]
        unfold lnG
        omega
      have hro' : ro + ts.getD (i + k) 0 + sU us ts one (i + k) = sU us ts one i + sU us ts one us.length := by
        rw [← hro, ← Nat.add_assoc i k 1, sU_s]
        unfold one
        omega
      by_cases hw : dD us i (i + k) < wm
      · rw [if_pos hw, if_pos hw]
        have kn : ∀ w, dD us i (i + k) ≤ w → w < wm → CW us ts m i w = sp + lay m w := by
          intro w w1 w2
          have := sU_known (ts := ts) (f := lnG) h (show i ≤ i + k by omega) (by omega) w1 (fun l l1 l2 => by have := hD l (by omega) l2; omega)
          unfold CW
          rw [show i + k + 1 = i + (k + 1) by omega] at this
          omega
        have ko : OW us ts i (dD us i (i + k)) = ro := by
          have := sU_known (ts := ts) (f := one) h (show i ≤ i + k by omega) (by omega) (Nat.le_refl _) (fun l l1 l2 => by have := hD l (by omega) l2; omega)
          unfold OW
          rw [show i + k + 1 = i + (k + 1) by omega] at this
          omega
        have kc := kn _ (Nat.le_refl _) hw
        have hD' : ∀ l, i + k ≤ l → l < us.length → dD us i (i + k) ≤ dD us i l := fun l l1 l2 => dD_mono h (by omega) l1 l2
        have hnew : real us ts m (us.getD i 0, dD us i (i + k), ro, sp + lay m (dD us i (i + k))) i := ⟨i, dD us i (i + k), Nat.le_refl _, hi, by omega, by rw [ko, kc]⟩
        have hbn := hb i (dD us i (i + k)) hi (by omega)
        rw [kc] at hbn
        generalize hs1 : kib s (us.getD i 0) (dD us i (i + k)) ro (sp + lay m (dD us i (i + k))) = s1
        have hk1 := kib_cases s (us.getD i 0) (dD us i (i + k)) ro (sp + lay m (dD us i (i + k)))
        rw [hs1] at hk1
        have hlx1 : lxS s1 (CW us ts m i (dD us i (i + k))) (dD us i (i + k)) (us.getD i 0) := by
          rw [kc]
          rcases hk1 with ⟨q1, q2⟩ | ⟨q1, q2⟩
          · rw [q1]; exact Or.inr ⟨rfl, Or.inr ⟨rfl, Int64.le_refl _⟩⟩
          · rw [q1]
            rcases q2 with q2 | ⟨q2, q3⟩
            · exact Or.inl q2
            · rcases Nat.lt_or_ge s.2.1 (dD us i (i + k)) with q4 | q4
              · exact Or.inr ⟨q2, Or.inl q4⟩
              · refine Or.inr ⟨q2, Or.inr ⟨by omega, ?_⟩⟩
                rcases hs with z | ⟨j, w, z1, z2, z3, z4⟩
                · omega
                · rw [z4]
                  exact SS_le h z1 hi
        have hup : ∀ c w b, lxS s c w b → lxS s1 c w b := by
          intro c w b q
          rcases hk1 with ⟨q1, q2⟩ | ⟨q1, q2⟩
          · rw [q1]
            refine lx.tr ?_ q
            rcases q2 with q2 | ⟨q2, q3⟩
            · exact Or.inl q2
            · exact Or.inr ⟨q2, Or.inl q3⟩
          · rw [q1]; exact q
        have hreal1 : real us ts m s1 i := by
          rcases hk1 with ⟨q1, q2⟩ | ⟨q1, q2⟩
          · rw [q1]; exact hnew
          · rw [q1]
            rcases hs with z | z
            · omega
            · exact z
        have ih := tbA_best h hi hb k (sp + ts.getD (i + k) 0 * (1 + ln (us.getD (i + k) 0))) (ro + ts.getD (i + k) 0) (dD us i (i + k)) s1 (by omega) hsp' hro' (by omega) hD' (Or.inr hreal1) ?_
        · exact ⟨ih.1, fun c w b q _ => ih.2.1 c w b (hup c w b q) (real_lt hb hreal1), ih.2.2⟩
        · intro w w1 w2
          by_cases q : wm ≤ w
          · exact hup _ _ _ (hacc w q w2)
          · refine lx.tr hlx1 ?_
            rw [kc, kn w w1 (by omega)]
            have := lay_mono (m := m) w1
            rcases Nat.lt_or_ge (lay m (dD us i (i + k))) (lay m w) with z | z
            · exact Or.inl (by omega)
            · rcases Nat.lt_or_ge (dD us i (i + k)) w with z2 | z2
              · exact Or.inr ⟨by omega, Or.inl z2⟩
              · exact Or.inr ⟨by omega, Or.inr ⟨by omega, Int64.le_refl _⟩⟩
      · rw [if_neg hw, if_neg hw]
        exact tbA_best h hi hb k _ _ wm s (by omega) hsp' hro' hwm (fun l l1 l2 => by
          by_cases q : l = i + k
          · rw [q]; omega
          · exact hD l (by omega) l2) hs hacc
theorem ln_1 (v : Int64) : 1 ≤ ln v := (ln_b v).1
theorem fitA_best {us : List Int64} {ts : List Nat} {m : Nat} (h : SS us) (hb : ∀ j w, j < us.length → w ≤ 63 → CW us ts m j w < MX) : ∀ (k i : Nat) (s : PS), i + k = us.length → ((i = 0 ∧ s.2.2.2 = MX ∧ 0 < k) ∨ real us ts m s i) → (∀ j w, j < i → w ≤ 63 → cand us ts m s j w) → (∀ j w, j < us.length → w ≤ 63 → cand us ts m (fitA us ts m k i (sU us ts lnG i) (sU us ts one i) s) j w) ∧ real us ts m (fitA us ts m k i (sU us ts lnG i) (sU us ts one i) s) us.length
  | 0, i, s, hk, hs, hall => by
    have hr : real us ts m s i := by
      rcases hs with q | q
      · omega
      · exact q
    have hi : i = us.length := by omega
    rw [hi] at hr
    exact ⟨fun j w hj hw => hall j w (by omega) hw, hr⟩
  | k + 1, i, s, hk, hs, hall => by
    have e0 : fitA us ts m (k + 1) i (sU us ts lnG i) (sU us ts one i) s = if s.2.2.2 < 4 + sU us ts lnG i then s else fitA us ts m k (i + 1) (sU us ts lnG (i + 1)) (sU us ts one (i + 1)) (tb us ts m i (sU us ts lnG i) (sU us ts one i) s) := by
      rw [sU_s, sU_s]
      show (if _ then _ else fitA us ts m k (i + 1) _ _ _) = _
      unfold lnG one
      rw [Nat.mul_one]
    have hi : i < us.length := by omega
    rw [e0]
    by_cases hst : s.2.2.2 < 4 + sU us ts lnG i
    · rw [if_pos hst]
      have low : ∀ j w, i ≤ j → j < us.length → s.2.2.2 < CW us ts m j w := by
        intro j w j1 j2
        have h1 := sU_least (ts := ts) (f := lnG) h j2 (show j ≤ us.length by omega) (Nat.le_refl _) (w := w) (fun l l1 l2 => by omega)
        have h2 := sU_le (us := us) (ts := ts) (f := lnG) j1
        have h3 := ln_1 (us.getD j 0)
        unfold CW
        omega
      have hr : real us ts m s us.length := by
        rcases hs with q | ⟨j, w, z1, z2, z3, z4⟩
        · have := low i 0 (Nat.le_refl _) hi
          have := hb i 0 hi (by omega)
          omega
        · exact ⟨j, w, by omega, z2, z3, z4⟩
      refine ⟨fun j w hj hw => ?_, hr⟩
      by_cases q : j < i
      · exact hall j w q hw
      · exact Or.inl (low j w (by omega) hj)
    · rw [if_neg hst]
      have hs' : (s.2.2.2 = MX ∧ 64 = 64) ∨ real us ts m s i := by
        rcases hs with q | q
        · exact Or.inl ⟨q.2.1, rfl⟩
        · exact Or.inr q
      have tb1 := tbA_best h hi hb (us.length - i) (3 + ln (us.getD i 0) + sU us ts lnG i) (sU us ts one i) 64 s (by omega) (by rw [show i + (us.length - i) = us.length by omega]) (by rw [show i + (us.length - i) = us.length by omega]) (by omega) (fun l l1 l2 => by omega) hs' (fun w w1 w2 => by omega)
      have hr1 : real us ts m (tb us ts m i (sU us ts lnG i) (sU us ts one i) s) (i + 1) := by
        obtain ⟨j, w, z1, z2, z3, z4⟩ := tb1.2.2
        exact ⟨j, w, by omega, z2, z3, z4⟩
      refine fitA_best h hb k (i + 1) _ (by omega) (Or.inr hr1) fun j w hj hw => ?_
      by_cases q : j = i
      · rw [q]; exact tb1.1 w hw
      · rcases hs with z | z
        · omega
        · exact tb1.2.1 _ _ _ (hall j w (by omega) hw) (real_lt hb z)
/-! in words of the row itself -/
def pcost (vs : List Int64) (b : Int64) (w : Nat) : Nat := 3 + ln b + lay vs.length w + (vs.map (gL b w lnG)).sum
def pout (vs : List Int64) (b : Int64) (w : Nat) : Nat := (vs.map (gL b w one)).sum
def IsFit (vs : List Int64) (s : PS) : Prop := s.1 ∈ vs ∧ s.2.1 ≤ 63 ∧ s.2.2.1 = pout vs s.1 s.2.1 ∧ s.2.2.2 = pcost vs s.1 s.2.1 ∧ ∀ b ∈ vs, ∀ w, w ≤ 63 → lxS s (pcost vs b w) w b
theorem lx_anti {c w c' w' : Nat} {b b' : Int64} (h1 : lx c w b c' w' b') (h2 : lx c' w' b' c w b) : c = c' ∧ w = w' ∧ b = b' := by
  rcases h1 with h1 | ⟨h1, h1' | ⟨h1', h1''⟩⟩ <;> rcases h2 with h2 | ⟨h2, h2' | ⟨h2', h2''⟩⟩
  · omega
  · omega
  · omega
  · omega
  · omega
  · omega
  · omega
  · omega
  · exact ⟨h1, h1', Int64.le_antisymm h1'' h2''⟩
theorem IsFit.uq {vs : List Int64} {s s' : PS} (h : IsFit vs s) (h' : IsFit vs s') : s = s' := by
  obtain ⟨a1, a2, a3, a4, a5⟩ := h
  obtain ⟨b1, b2, b3, b4, b5⟩ := h'
  have l1 := a5 s'.1 b1 s'.2.1 b2
  have l2 := b5 s.1 a1 s.2.1 a2
  unfold lxS at l1 l2
  rw [← b4] at l1
  rw [← a4] at l2
  obtain ⟨e1, e2, e3⟩ := lx_anti l1 l2
  obtain ⟨x1, x2, x3, x4⟩ := s
  obtain ⟨y1, y2, y3, y4⟩ := s'
  simp only at e1 e2 e3 a3 b3
  subst e1 e2 e3
  rw [a3, b3]
theorem sum_le_mul {l : List Nat} {k : Nat} (h : ∀ x ∈ l, x ≤ k) : l.sum ≤ l.length * k := by
  induction l with
  | nil => simp
  | cons a r ih =>
    have h1 := ih (fun x hx => h x (List.mem_cons_of_mem _ hx))
    have h2 := h a (List.mem_cons_self ..)
    rw [List.sum_cons, List.length_cons, Nat.add_mul]
    omega
theorem pcost_lt {vs : List Int64} {b : Int64} {w : Nat} (hm : vs.length ≤ 32) (hw : w ≤ 64) : pcost vs b w < 2 ^ 12 := by
  have h1 := (ln_b b).2
  have h2 := lay_b hm hw
  have h3 := sum_le_mul (l := vs.map (gL b w lnG)) (k := 11) (fun x hx => by
    obtain ⟨v, -, rfl⟩ := List.mem_map.mp hx
    have := (ln_b v).2
    unfold gL lnG
    split <;> omega)
  rw [List.length_map] at h3
  unfold pcost
  omega
theorem CW_eq {vs : List Int64} {i w : Nat} : CW (arr vs).1 (arr vs).2 vs.length i w = pcost vs ((arr vs).1.getD i 0) w := by
  unfold CW pcost
  rw [arr_sum]
theorem OW_eq {vs : List Int64} {i w : Nat} : OW (arr vs).1 (arr vs).2 i w = pout vs ((arr vs).1.getD i 0) w := by
  unfold OW pout
  rw [arr_sum]
theorem fit0_is {vs : List Int64} (h0 : 0 < vs.length) (hm : vs.length ≤ 32) : IsFit vs (fit0 vs) := by
  obtain ⟨o1, o2, o3⟩ := arr_ok vs
  obtain ⟨m1, m2⟩ := arr_mem vs
  have hp := arr_pos h0
  have hb : ∀ j w, j < (arr vs).1.length → w ≤ 63 → CW (arr vs).1 (arr vs).2 vs.length j w < MX := fun j w _ hw => by
    rw [CW_eq]
    have := pcost_lt (b := (arr vs).1.getD j 0) hm (show w ≤ 64 by omega)
    unfold MX
    omega
  have hf := fitA_best (m := vs.length) o1 hb (arr vs).1.length 0 (0, 0, 0, 2147483647) (by omega) (Or.inl ⟨rfl, rfl, hp⟩) (fun j w hj => absurd hj (Nat.not_lt_zero j))
  have e : fitA (arr vs).1 (arr vs).2 vs.length (arr vs).1.length 0 (sU (arr vs).1 (arr vs).2 lnG 0) (sU (arr vs).1 (arr vs).2 one 0) (0, 0, 0, 2147483647) = fit0 vs := rfl
  rw [e] at hf
  obtain ⟨j, w, z1, z2, z3, z4⟩ := hf.2
  rw [CW_eq, OW_eq] at z4
  rw [z4] at hf ⊢
  refine ⟨m1 j z2, z3, rfl, rfl, fun b hbv w' hw' => ?_⟩
  obtain ⟨i, hi, rfl⟩ := m2 b hbv
  have := hf.1 i w' hi hw'
  unfold cand at this
  rw [CW_eq] at this
  exact this
