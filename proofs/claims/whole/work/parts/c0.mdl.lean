/-! the model: its object -/
def obL (t : Nat) (c : Nat → Int32) (b : Int64) : List Value := [.ref (t + 1), .ref (t + 2), .ref (t + 3), .ref (t + 4), .ref (t + 5), .ref (t + 6), .ref (t + 7), .ref (t + 8), .ref (t + 9), .ref (t + 10), .int (c 10), .int (c 11), .int (c 12), .int (c 13), .ref (t + 11), .ref (t + 12), .ref (t + 13), .ref (t + 14), .long b, .int (c 19), .int (c 20), .int (c 21), .ref (t + 15), .ref (t + 16), .ref (t + 17), .ref (t + 18), .ref (t + 19), .int (c 27), .int (c 28), .ref (t + 20), .ref (t + 21), .int (c 31), .ref (t + 22), .int (c 33), .int (c 34), .int (c 35), .int (c 36), .int (c 37), .int (c 38), .int (c 39), .ref (t + 23), .ref (t + 24), .ref (t + 25), .ref (t + 26), .ref (t + 27), .ref (t + 28), .ref (t + 29), .ref (t + 30), .ref (t + 31), .ref (t + 32)]
theorem ol_len {t : Nat} {c : Nat → Int32} {b : Int64} : (obL t c b).length = 50 := rfl
theorem og_0 {t : Nat} {c : Nat → Int32} {b : Int64} : (obL t c b)[0]? = some (.ref (t + 1)) := rfl
theorem og_1 {t : Nat} {c : Nat → Int32} {b : Int64} : (obL t c b)[1]? = some (.ref (t + 2)) := rfl
theorem og_2 {t : Nat} {c : Nat → Int32} {b : Int64} : (obL t c b)[2]? = some (.ref (t + 3)) := rfl
theorem og_3 {t : Nat} {c : Nat → Int32} {b : Int64} : (obL t c b)[3]? = some (.ref (t + 4)) := rfl
theorem og_4 {t : Nat} {c : Nat → Int32} {b : Int64} : (obL t c b)[4]? = some (.ref (t + 5)) := rfl
theorem og_5 {t : Nat} {c : Nat → Int32} {b : Int64} : (obL t c b)[5]? = some (.ref (t + 6)) := rfl
theorem og_6 {t : Nat} {c : Nat → Int32} {b : Int64} : (obL t c b)[6]? = some (.ref (t + 7)) := rfl
theorem og_7 {t : Nat} {c : Nat → Int32} {b : Int64} : (obL t c b)[7]? = some (.ref (t + 8)) := rfl
theorem og_8 {t : Nat} {c : Nat → Int32} {b : Int64} : (obL t c b)[8]? = some (.ref (t + 9)) := rfl
theorem og_9 {t : Nat} {c : Nat → Int32} {b : Int64} : (obL t c b)[9]? = some (.ref (t + 10)) := rfl
theorem og_10 {t : Nat} {c : Nat → Int32} {b : Int64} : (obL t c b)[10]? = some (.int (c 10)) := rfl
theorem os_10 {t : Nat} {c : Nat → Int32} {b : Int64} {v : Int32} : (obL t c b).set 10 (.int v) = obL t (upd c 10 v) b := rfl
theorem og_11 {t : Nat} {c : Nat → Int32} {b : Int64} : (obL t c b)[11]? = some (.int (c 11)) := rfl
theorem os_11 {t : Nat} {c : Nat → Int32} {b : Int64} {v : Int32} : (obL t c b).set 11 (.int v) = obL t (upd c 11 v) b := rfl
theorem og_12 {t : Nat} {c : Nat → Int32} {b : Int64} : (obL t c b)[12]? = some (.int (c 12)) := rfl
theorem os_12 {t : Nat} {c : Nat → Int32} {b : Int64} {v : Int32} : (obL t c b).set 12 (.int v) = obL t (upd c 12 v) b := rfl
theorem og_13 {t : Nat} {c : Nat → Int32} {b : Int64} : (obL t c b)[13]? = some (.int (c 13)) := rfl
theorem os_13 {t : Nat} {c : Nat → Int32} {b : Int64} {v : Int32} : (obL t c b).set 13 (.int v) = obL t (upd c 13 v) b := rfl
theorem og_14 {t : Nat} {c : Nat → Int32} {b : Int64} : (obL t c b)[14]? = some (.ref (t + 11)) := rfl
theorem og_15 {t : Nat} {c : Nat → Int32} {b : Int64} : (obL t c b)[15]? = some (.ref (t + 12)) := rfl
theorem og_16 {t : Nat} {c : Nat → Int32} {b : Int64} : (obL t c b)[16]? = some (.ref (t + 13)) := rfl
theorem og_17 {t : Nat} {c : Nat → Int32} {b : Int64} : (obL t c b)[17]? = some (.ref (t + 14)) := rfl
theorem og_18 {t : Nat} {c : Nat → Int32} {b : Int64} : (obL t c b)[18]? = some (.long b) := rfl
theorem os_18 {t : Nat} {c : Nat → Int32} {b : Int64} {v : Int64} : (obL t c b).set 18 (.long v) = obL t c v := rfl
theorem og_19 {t : Nat} {c : Nat → Int32} {b : Int64} : (obL t c b)[19]? = some (.int (c 19)) := rfl
theorem os_19 {t : Nat} {c : Nat → Int32} {b : Int64} {v : Int32} : (obL t c b).set 19 (.int v) = obL t (upd c 19 v) b := rfl
theorem og_20 {t : Nat} {c : Nat → Int32} {b : Int64} : (obL t c b)[20]? = some (.int (c 20)) := rfl
theorem os_20 {t : Nat} {c : Nat → Int32} {b : Int64} {v : Int32} : (obL t c b).set 20 (.int v) = obL t (upd c 20 v) b := rfl
theorem og_21 {t : Nat} {c : Nat → Int32} {b : Int64} : (obL t c b)[21]? = some (.int (c 21)) := rfl
theorem os_21 {t : Nat} {c : Nat → Int32} {b : Int64} {v : Int32} : (obL t c b).set 21 (.int v) = obL t (upd c 21 v) b := rfl
theorem og_22 {t : Nat} {c : Nat → Int32} {b : Int64} : (obL t c b)[22]? = some (.ref (t + 15)) := rfl
theorem og_23 {t : Nat} {c : Nat → Int32} {b : Int64} : (obL t c b)[23]? = some (.ref (t + 16)) := rfl
theorem og_24 {t : Nat} {c : Nat → Int32} {b : Int64} : (obL t c b)[24]? = some (.ref (t + 17)) := rfl
theorem og_25 {t : Nat} {c : Nat → Int32} {b : Int64} : (obL t c b)[25]? = some (.ref (t + 18)) := rfl
theorem og_26 {t : Nat} {c : Nat → Int32} {b : Int64} : (obL t c b)[26]? = some (.ref (t + 19)) := rfl
theorem og_27 {t : Nat} {c : Nat → Int32} {b : Int64} : (obL t c b)[27]? = some (.int (c 27)) := rfl
theorem os_27 {t : Nat} {c : Nat → Int32} {b : Int64} {v : Int32} : (obL t c b).set 27 (.int v) = obL t (upd c 27 v) b := rfl
theorem og_28 {t : Nat} {c : Nat → Int32} {b : Int64} : (obL t c b)[28]? = some (.int (c 28)) := rfl
theorem os_28 {t : Nat} {c : Nat → Int32} {b : Int64} {v : Int32} : (obL t c b).set 28 (.int v) = obL t (upd c 28 v) b := rfl
theorem og_29 {t : Nat} {c : Nat → Int32} {b : Int64} : (obL t c b)[29]? = some (.ref (t + 20)) := rfl
theorem og_30 {t : Nat} {c : Nat → Int32} {b : Int64} : (obL t c b)[30]? = some (.ref (t + 21)) := rfl
theorem og_31 {t : Nat} {c : Nat → Int32} {b : Int64} : (obL t c b)[31]? = some (.int (c 31)) := rfl
theorem os_31 {t : Nat} {c : Nat → Int32} {b : Int64} {v : Int32} : (obL t c b).set 31 (.int v) = obL t (upd c 31 v) b := rfl
theorem og_32 {t : Nat} {c : Nat → Int32} {b : Int64} : (obL t c b)[32]? = some (.ref (t + 22)) := rfl
theorem og_33 {t : Nat} {c : Nat → Int32} {b : Int64} : (obL t c b)[33]? = some (.int (c 33)) := rfl
theorem os_33 {t : Nat} {c : Nat → Int32} {b : Int64} {v : Int32} : (obL t c b).set 33 (.int v) = obL t (upd c 33 v) b := rfl
theorem og_34 {t : Nat} {c : Nat → Int32} {b : Int64} : (obL t c b)[34]? = some (.int (c 34)) := rfl
theorem os_34 {t : Nat} {c : Nat → Int32} {b : Int64} {v : Int32} : (obL t c b).set 34 (.int v) = obL t (upd c 34 v) b := rfl
theorem og_35 {t : Nat} {c : Nat → Int32} {b : Int64} : (obL t c b)[35]? = some (.int (c 35)) := rfl
theorem os_35 {t : Nat} {c : Nat → Int32} {b : Int64} {v : Int32} : (obL t c b).set 35 (.int v) = obL t (upd c 35 v) b := rfl
theorem og_36 {t : Nat} {c : Nat → Int32} {b : Int64} : (obL t c b)[36]? = some (.int (c 36)) := rfl
theorem os_36 {t : Nat} {c : Nat → Int32} {b : Int64} {v : Int32} : (obL t c b).set 36 (.int v) = obL t (upd c 36 v) b := rfl
theorem og_37 {t : Nat} {c : Nat → Int32} {b : Int64} : (obL t c b)[37]? = some (.int (c 37)) := rfl
theorem os_37 {t : Nat} {c : Nat → Int32} {b : Int64} {v : Int32} : (obL t c b).set 37 (.int v) = obL t (upd c 37 v) b := rfl
theorem og_38 {t : Nat} {c : Nat → Int32} {b : Int64} : (obL t c b)[38]? = some (.int (c 38)) := rfl
theorem os_38 {t : Nat} {c : Nat → Int32} {b : Int64} {v : Int32} : (obL t c b).set 38 (.int v) = obL t (upd c 38 v) b := rfl
theorem og_39 {t : Nat} {c : Nat → Int32} {b : Int64} : (obL t c b)[39]? = some (.int (c 39)) := rfl
theorem os_39 {t : Nat} {c : Nat → Int32} {b : Int64} {v : Int32} : (obL t c b).set 39 (.int v) = obL t (upd c 39 v) b := rfl
theorem og_40 {t : Nat} {c : Nat → Int32} {b : Int64} : (obL t c b)[40]? = some (.ref (t + 23)) := rfl
theorem og_41 {t : Nat} {c : Nat → Int32} {b : Int64} : (obL t c b)[41]? = some (.ref (t + 24)) := rfl
theorem og_42 {t : Nat} {c : Nat → Int32} {b : Int64} : (obL t c b)[42]? = some (.ref (t + 25)) := rfl
theorem og_43 {t : Nat} {c : Nat → Int32} {b : Int64} : (obL t c b)[43]? = some (.ref (t + 26)) := rfl
theorem og_44 {t : Nat} {c : Nat → Int32} {b : Int64} : (obL t c b)[44]? = some (.ref (t + 27)) := rfl
theorem og_45 {t : Nat} {c : Nat → Int32} {b : Int64} : (obL t c b)[45]? = some (.ref (t + 28)) := rfl
theorem og_46 {t : Nat} {c : Nat → Int32} {b : Int64} : (obL t c b)[46]? = some (.ref (t + 29)) := rfl
theorem og_47 {t : Nat} {c : Nat → Int32} {b : Int64} : (obL t c b)[47]? = some (.ref (t + 30)) := rfl
theorem og_48 {t : Nat} {c : Nat → Int32} {b : Int64} : (obL t c b)[48]? = some (.ref (t + 31)) := rfl
theorem og_49 {t : Nat} {c : Nat → Int32} {b : Int64} : (obL t c b)[49]? = some (.ref (t + 32)) := rfl
theorem up_up {hp : Nat → MC} {a : Nat} {x y : MC} : mj_up (mj_up hp a x) a y = mj_up hp a y := by
  funext i
  simp only [mj_up]
  split <;> rfl
/-- only the model's cells of these numbers change -/
def On (t : Nat) (ks : List Nat) (hp hp' : Nat → MC) : Prop := ∀ i, (∀ k ∈ ks, ¬ i = t + k) → hp' i = hp i
theorem On.at {t k : Nat} {ks : List Nat} {hp hp' : Nat → MC} (h : On t ks hp hp') (hk : k ∉ ks) : hp' (t + k) = hp (t + k) := h _ fun q hq e => hk ((Nat.add_left_cancel e) ▸ hq)
theorem On.refl {t : Nat} {ks : List Nat} {hp : Nat → MC} : On t ks hp hp := fun _ _ => rfl
theorem On.tr {t : Nat} {ks : List Nat} {hp hp' hp'' : Nat → MC} (h : On t ks hp hp') (h' : On t ks hp' hp'') : On t ks hp hp'' := fun i hi => (h' i hi).trans (h i hi)
theorem On.mono {t : Nat} {ks ks' : List Nat} {hp hp' : Nat → MC} (h : On t ks hp hp') (hs : ∀ k ∈ ks, k ∈ ks') : On t ks' hp hp' := fun i hi => h i fun k hk => hi k (hs k hk)
theorem On.up {t k : Nat} {ks : List Nat} {hp : Nat → MC} {x : MC} (hk : k ∈ ks) : On t ks hp (mj_up hp (t + k) x) := fun i hi => up_n (hi k hk)
theorem On.up0 {t : Nat} {ks : List Nat} {hp : Nat → MC} {x : MC} (hk : 0 ∈ ks) : On t ks hp (mj_up hp t x) := fun i hi => up_n (hi 0 hk)
theorem On.fr {t : Nat} {ks : List Nat} {hp hp' : Nat → MC} (h : On t ks hp hp') (hk : ∀ k ∈ ks, k < 33) : Fr t (t + 33) hp hp' := fun i hi => h i fun k q => by have := hk k q; omega
