/-! words for the pure part: what stays, what changes -/
def Fr (lo hi : Nat) (hp hp' : Nat → MC) : Prop := ∀ i, (i < lo ∨ hi ≤ i) → hp' i = hp i
theorem Fr.rf {lo hi : Nat} {hp : Nat → MC} : Fr lo hi hp hp := fun _ _ => rfl
theorem Fr.tr {lo hi : Nat} {hp hp1 hp2 : Nat → MC} (h1 : Fr lo hi hp hp1) (h2 : Fr lo hi hp1 hp2) : Fr lo hi hp hp2 := fun i h => (h2 i h).trans (h1 i h)
theorem Fr.wd {lo hi lo' hi' : Nat} {hp hp1 : Nat → MC} (h : Fr lo hi hp hp1) (h1 : lo' ≤ lo) (h2 : hi ≤ hi') : Fr lo' hi' hp hp1 := fun i hi => h i (by omega)
theorem Fr.up {lo hi a : Nat} {hp : Nat → MC} {c : MC} (h1 : lo ≤ a) (h2 : a < hi) : Fr lo hi hp (mj_up hp a c) := fun i hi => by unfold mj_up; rw [if_neg (by omega)]
theorem up_s {hp : Nat → MC} {a : Nat} {c : MC} : mj_up hp a c a = c := by simp [mj_up]
theorem up_n {hp : Nat → MC} {a k : Nat} {c : MC} (h : ¬ k = a) : mj_up hp a c k = hp k := by simp [mj_up, h]
theorem ne_01 {t k : Nat} : ¬ t = t + (k + 1) := by omega
theorem ne_10 {t k : Nat} : ¬ t + (k + 1) = t := by omega
/-- the byte of an int -/
def b8 (x : Int32) : Nat := x.toBitVec.toNat % 256
theorem b8_lt (x : Int32) : b8 x < 256 := Nat.mod_lt _ (by decide)
theorem b8_and (x : Int32) : x &&& 255 = nI (b8 x) := pk_and x 8 rfl
theorem b8_i8 (x : Int32) : x.toInt8.toInt32 &&& 255 = nI (b8 x) := by rw [bp_b, b8_and]
theorem b8_nI {n : Nat} (h : n < 256) : b8 (nI n) = n := by
  unfold b8
  rw [pk_tn (by omega)]
  exact Nat.mod_eq_of_lt h
theorem nI_lit (n : Nat) : Int32.ofNat n = nI n := rfl
theorem take_app_len {l1 l2 : List Nat} {n : Nat} (h : (l1 ++ l2).length ≤ n) : (l1 ++ l2).take n = l1 ++ l2 := List.take_of_length_le h
/-- taking 300 in steps -/
theorem take_step {a b c : List Nat} {n : Nat} : ((a ++ b).take n ++ c).take n = (a ++ (b ++ c)).take n := by
  rw [← List.append_assoc]
  by_cases h : (a ++ b).length ≤ n
  · rw [List.take_of_length_le h]
  · have h2 : n ≤ (a ++ b).length := by omega
    rw [List.take_append_of_le_length (by rw [List.length_take]; omega), List.take_take, Nat.min_self, List.take_append_of_le_length h2]
