/-! ways as rows of turns -/
def lfC (vs : List Int64) (t : Nat) : Nat := if t = 1 then nlen vs else if t = 2 then (fit0 vs).2.2.2 else 1 + 8 * vs.length
def lfW (vs : List Int64) (t : Nat) : Nat := if t = 2 then vs.length + (fit0 vs).2.2.1 else vs.length
def wcost : List Nat → List Int64 → Nat
  | [], _ => 0
  | [t], vs => lfC vs t
  | t :: r, vs => cst vs t + wcost r (trn vs t)
def wwork : List Nat → List Int64 → Nat
  | [], _ => 0
  | [t], vs => lfW vs t
  | t :: r, vs => vs.length + rns vs t + wwork r (trn vs t)
def wpath (p : Nat) (ds : List Nat) : Nat := ds.foldl (fun p t => p * 8 + t) p
/-- whether a turn can be taken at all -/
def can (vs : List Int64) (t : Nat) : Bool := if t = 6 then decide (1 < dv vs) else decide (1 < vs.length)
/-- a row of turns: by what a turn must keep to -/
def WayQ (ok : List Int64 → Nat → Bool) : Nat → List Int64 → List Nat → Prop
  | _, _, [] => False
  | _, vs, [t] => t < 3 ∧ (t = 2 → 0 < vs.length)
  | 0, _, _ :: _ :: _ => False
  | k + 1, vs, t :: a :: r => (3 ≤ t ∧ t ≤ 6) ∧ ok vs t = true ∧ WayQ ok k (trn vs t) (a :: r)
theorem wt_can {vs : List Int64} {t : Nat} (ht : 3 ≤ t ∧ t ≤ 6) (h : wt vs t = true) : can vs t = true := by
  unfold can
  rcases (show t = 3 ∨ t = 4 ∨ t = 5 ∨ t = 6 by omega) with rfl | rfl | rfl | rfl
  · exact h
  · rw [wt_4] at h
    have h1 := of_decide_eq_true h
    have h2 := (lns_len vs).2
    rw [if_neg (by decide)]
    exact decide_eq_true (by omega)
  · rw [wt_5] at h
    rw [if_neg (by decide)]
    exact (Bool.and_eq_true_iff.mp h).1
  · exact h
def wyQ (ok : List Int64 → Nat → Bool) : Nat → List Int64 → Nat → Nat → Nat → List N3
  | 0, vs, p, b, w => lvs vs p b w
  | k + 1, vs, p, b, w => lvs vs p b w ++ wyT (fun t => if ok vs t = true then wyQ ok k (trn vs t) (p * 8 + t) (b + cst vs t) (w + vs.length + rns vs t) else []) 4
theorem wyQ_wys : ∀ k vs p b w, wyQ wt k vs p b w = wys k vs p b w
  | 0, vs, p, b, w => rfl
  | k + 1, vs, p, b, w => by
    unfold wyQ wys
    simp only [wyQ_wys k]
theorem wyT_mem {g : Nat → List N3} {x : N3} : x ∈ wyT g 4 ↔ x ∈ g 3 ∨ x ∈ g 4 ∨ x ∈ g 5 ∨ x ∈ g 6 := by
  simp [wyT]
theorem lvs_mem {vs : List Int64} {p b w : Nat} {x : N3} : x ∈ lvs vs p b w ↔ ∃ t, t < 3 ∧ (t = 2 → 0 < vs.length) ∧ x = (b + lfC vs t, w + lfW vs t, p * 8 + t) := by
  unfold lvs
  constructor
  · intro h
    rcases List.mem_append.mp h with h | h
    · rcases List.mem_cons.mp h with rfl | h
      · exact ⟨0, by omega, by omega, by show _ = (b + (1 + 8 * vs.length), w + vs.length, p * 8 + 0); rw [Nat.add_assoc, Nat.add_zero]⟩
      · rcases List.mem_singleton.mp h with rfl
        exact ⟨1, by omega, by omega, rfl⟩
    · by_cases h0 : 0 < vs.length
      · rw [if_pos h0] at h
        rcases List.mem_singleton.mp h with rfl
        exact ⟨2, by omega, fun _ => h0, by show _ = (b + (fit0 vs).2.2.2, w + (vs.length + (fit0 vs).2.2.1), p * 8 + 2); rw [Nat.add_assoc]⟩
      · rw [if_neg h0] at h
        simp at h
  · rintro ⟨t, h1, h2, rfl⟩
    rcases (show t = 0 ∨ t = 1 ∨ t = 2 by omega) with rfl | rfl | rfl
    · refine List.mem_append_left _ (List.mem_cons.mpr (Or.inl ?_))
      show (b + (1 + 8 * vs.length), w + vs.length, p * 8 + 0) = _
      rw [Nat.add_assoc, Nat.add_zero]
    · exact List.mem_append_left _ (List.mem_cons_of_mem _ (List.mem_singleton.mpr rfl))
    · refine List.mem_append_right _ ?_
      rw [if_pos (h2 rfl)]
      refine List.mem_singleton.mpr ?_
      show (b + (fit0 vs).2.2.2, w + (vs.length + (fit0 vs).2.2.1), p * 8 + 2) = _
      rw [Nat.add_assoc w]
theorem wyQ_mem {ok : List Int64 → Nat → Bool} : ∀ (k : Nat) (vs : List Int64) (p b w : Nat) (x : N3), x ∈ wyQ ok k vs p b w ↔ ∃ ds, WayQ ok k vs ds ∧ x = (b + wcost ds vs, w + wwork ds vs, wpath p ds)
  | 0, vs, p, b, w, x => by
    show x ∈ lvs vs p b w ↔ _
    rw [lvs_mem]
    constructor
    · rintro ⟨t, h1, h2, rfl⟩
      exact ⟨[t], ⟨h1, h2⟩, rfl⟩
    · rintro ⟨ds, h1, rfl⟩
      match ds, h1 with
      | [], h1 => exact h1.elim
      | [t], h1 => exact ⟨t, h1.1, h1.2, rfl⟩
      | _ :: _ :: _, h1 => exact h1.elim
  | k + 1, vs, p, b, w, x => by
    have ih := fun t => wyQ_mem (ok := ok) k (trn vs t) (p * 8 + t) (b + cst vs t) (w + vs.length + rns vs t) x
    have key : ∀ t, 3 ≤ t ∧ t ≤ 6 → (x ∈ (if ok vs t = true then wyQ ok k (trn vs t) (p * 8 + t) (b + cst vs t) (w + vs.length + rns vs t) else []) ↔ ∃ a r, ok vs t = true ∧ WayQ ok k (trn vs t) (a :: r) ∧ x = (b + wcost (t :: a :: r) vs, w + wwork (t :: a :: r) vs, wpath p (t :: a :: r))) := by
      intro t ht
      by_cases h : ok vs t = true
      · rw [if_pos h, ih t]
        constructor
        · rintro ⟨ds, h1, h2⟩
          match ds, h1 with
          | [], h1 => cases k <;> exact h1.elim
          | a :: r, h1 =>
            refine ⟨a, r, h, h1, ?_⟩
            rw [h2]
            show (b + cst vs t + _, w + vs.length + rns vs t + _, _) = (b + (cst vs t + _), w + (vs.length + rns vs t + _), _)
            rw [Nat.add_assoc b, Nat.add_assoc w, Nat.add_assoc w]
            rfl
        · rintro ⟨a, r, -, h1, h2⟩
          refine ⟨a :: r, h1, ?_⟩
          rw [h2]
          show (b + (cst vs t + _), w + (vs.length + rns vs t + _), _) = (b + cst vs t + _, w + vs.length + rns vs t + _, _)
          rw [Nat.add_assoc b, Nat.add_assoc w, Nat.add_assoc w]
          rfl
      · rw [if_neg h]
        constructor
        · intro q; simp at q
        · rintro ⟨a, r, h1, -⟩
          exact absurd h1 h
    show x ∈ lvs vs p b w ++ wyT _ 4 ↔ _
    rw [List.mem_append, lvs_mem, wyT_mem, key 3 (by omega), key 4 (by omega), key 5 (by omega), key 6 (by omega)]
    constructor
    · rintro (⟨t, h1, h2, rfl⟩ | ⟨a, r, h1, h2, rfl⟩ | ⟨a, r, h1, h2, rfl⟩ | ⟨a, r, h1, h2, rfl⟩ | ⟨a, r, h1, h2, rfl⟩)
      · exact ⟨[t], ⟨h1, h2⟩, rfl⟩
      · exact ⟨3 :: a :: r, ⟨by omega, h1, h2⟩, rfl⟩
      · exact ⟨4 :: a :: r, ⟨by omega, h1, h2⟩, rfl⟩
      · exact ⟨5 :: a :: r, ⟨by omega, h1, h2⟩, rfl⟩
      · exact ⟨6 :: a :: r, ⟨by omega, h1, h2⟩, rfl⟩
    · rintro ⟨ds, h1, rfl⟩
      match ds, h1 with
      | [], h1 => exact h1.elim
      | [t], h1 => exact Or.inl ⟨t, h1.1, h1.2, rfl⟩
      | t :: a :: r, h1 =>
        obtain ⟨h3, h4, h5⟩ := h1
        rcases (show t = 3 ∨ t = 4 ∨ t = 5 ∨ t = 6 by omega) with rfl | rfl | rfl | rfl
        · exact Or.inr (Or.inl ⟨a, r, h4, h5, rfl⟩)
        · exact Or.inr (Or.inr (Or.inl ⟨a, r, h4, h5, rfl⟩))
        · exact Or.inr (Or.inr (Or.inr (Or.inl ⟨a, r, h4, h5, rfl⟩)))
        · exact Or.inr (Or.inr (Or.inr (Or.inr ⟨a, r, h4, h5, rfl⟩)))
/-! a turn that is not worth while leaves the row as it is -/
theorem hds_same {vs : List Int64} : ∀ n, n ≤ vs.length → (lnsA vs n).length = n → hdsA vs n = vs.take n ∧ (∀ i, i < n → bg vs i = true)
  | 0, _, _ => ⟨by simp [hdsA], fun i hi => absurd hi (Nat.not_lt_zero i)⟩
  | n + 1, hn, hl => by
    have h1 : (lnsA vs (n + 1)).length = if bg vs n = true then (lnsA vs n).length + 1 else (lnsA vs n).length := by
      show (if bg vs n = true then lnsA vs n ++ [1] else inc (lnsA vs n)).length = _
      split
      · simp
      · simp [inc]
    have h2 := (lnsA_len vs n).1
    have hb : bg vs n = true := by
      by_cases q : bg vs n = true
      · exact q
      · rw [if_neg q] at h1
        omega
    rw [if_pos hb] at h1
    obtain ⟨i1, i2⟩ := hds_same (vs := vs) n (by omega) (by omega)
    refine ⟨?_, fun i hi => ?_⟩
    · rw [hdsA_snoc, if_pos hb, i1, takeL_snoc (by omega)]
    · by_cases e : i = n
      · rw [e]; exact hb
      · exact i2 i (by omega)
theorem ris_SS {vs : List Int64} (h : ris vs = true) : SS vs := by
  unfold ris at h
  rw [List.all_eq_true] at h
  have st : ∀ i, i + 1 < vs.length → vs.getD i 0 < vs.getD (i + 1) 0 := by
    intro i hi
    have := h (i + 1) (List.mem_range.mpr hi)
    simp at this
    exact this
  intro i j hij hj
  obtain ⟨k, rfl⟩ : ∃ k, j = i + 1 + k := ⟨j - (i + 1), by omega⟩
  induction k with
  | zero => exact st i hj
  | succ k ih => exact Int64.lt_trans (ih (by omega) (by omega)) (st (i + 1 + k) hj)
theorem rk_all {us : List Int64} {v : Int64} (h : ∀ i, i < us.length → us.getD i 0 < v) : rk us v = us.length := rk_of (Nat.le_refl _) h (fun i h1 h2 => by omega)
theorem insL_end {us : List Int64} {v : Int64} : insL us us.length v = us ++ [v] := by
  unfold insL
  rw [List.take_length, List.drop_length]
theorem arr_rising : ∀ (n : Nat) (vs : List Int64), n ≤ vs.length → SS vs → (arr (vs.take n)).1 = vs.take n
  | 0, vs, _, _ => by simp [arr]
  | n + 1, vs, hn, h => by
    have ih := arr_rising n vs (by omega) h
    rw [takeL_snoc (by omega), arr_snoc]
    have hlt : ∀ i, i < (arr (vs.take n)).1.length → (arr (vs.take n)).1.getD i 0 < vs.getD n 0 := by
      intro i hi
      rw [ih] at hi ⊢
      rw [List.length_take] at hi
      rw [List.getD_eq_getElem?_getD, List.getElem?_take, if_pos (by omega), ← List.getD_eq_getElem?_getD]
      exact h i n (by omega) (by omega)
    unfold insS
    rw [rk_all hlt, if_neg (fun q => by omega)]
    show insL _ _ _ = _
    rw [insL_end, ih]
theorem same_of {vs : List Int64} {t : Nat} (ht : 3 ≤ t ∧ t ≤ 6) (hc : can vs t = true) (hw : ¬ wt vs t = true) : trn vs t = vs := by
  unfold can at hc
  rcases (show t = 3 ∨ t = 4 ∨ t = 5 ∨ t = 6 by omega) with rfl | rfl | rfl | rfl
  · exact absurd hc hw
  · rw [wt_4] at hw
    have h1 := (lns_len vs).1
    have h2 : (lns vs).length = vs.length := by
      rcases Nat.lt_or_ge (lns vs).length vs.length with q | q
      · exact absurd (decide_eq_true q) hw
      · omega
    have := (hds_same vs.length (Nat.le_refl _) h2).1
    rw [List.take_length] at this
    exact this
  · rw [wt_5] at hw
    rw [if_neg (by decide)] at hc
    rw [hc, Bool.true_and] at hw
    have hr : ris vs = true := by
      cases h : ris vs with
      | true => rfl
      | false => rw [h] at hw; exact absurd rfl hw
    have := arr_rising vs.length vs (Nat.le_refl _) (ris_SS hr)
    rw [List.take_length] at this
    exact this
  · exact absurd hc hw
theorem WayQ_deeper {ok : List Int64 → Nat → Bool} : ∀ (k : Nat) (vs : List Int64) (ds : List Nat), WayQ ok k vs ds → WayQ ok (k + 1) vs ds
  | 0, _, [], h => h.elim
  | k + 1, _, [], h => h.elim
  | 0, _, [t], h => h
  | k + 1, _, [t], h => h
  | 0, _, _ :: _ :: _, h => h.elim
  | k + 1, vs, t :: a :: r, h => ⟨h.1, h.2.1, WayQ_deeper k (trn vs t) (a :: r) h.2.2⟩
theorem cst_pos (vs : List Int64) (t : Nat) : 0 < cst vs t := by
  unfold cst
  split <;> omega
/-- whatever can be done, the class has something that takes no more of either -/
theorem way_dom : ∀ (k : Nat) (vs : List Int64) (ds : List Nat), WayQ can k vs ds → ∃ ds', WayQ wt k vs ds' ∧ wcost ds' vs ≤ wcost ds vs ∧ wwork ds' vs ≤ wwork ds vs ∧ (WayQ wt k vs ds ∨ wcost ds' vs < wcost ds vs)
  | 0, _, [], h => h.elim
  | k + 1, _, [], h => h.elim
  | 0, _, [t], h => ⟨[t], h, Nat.le_refl _, Nat.le_refl _, Or.inl h⟩
  | k + 1, _, [t], h => ⟨[t], h, Nat.le_refl _, Nat.le_refl _, Or.inl h⟩
  | 0, _, _ :: _ :: _, h => h.elim
  | k + 1, vs, t :: a :: r, h => by
    obtain ⟨h1, h2, h3⟩ := h
    obtain ⟨ds', i1, i2, i3, i4⟩ := way_dom k (trn vs t) (a :: r) h3
    have ec : wcost (t :: a :: r) vs = cst vs t + wcost (a :: r) (trn vs t) := rfl
    have ew : wwork (t :: a :: r) vs = vs.length + rns vs t + wwork (a :: r) (trn vs t) := rfl
    have hcp := cst_pos vs t
    by_cases hw : wt vs t = true
    · match ds', i1 with
      | [], i1 => cases k <;> exact i1.elim
      | a' :: r', i1 =>
        have ec' : wcost (t :: a' :: r') vs = cst vs t + wcost (a' :: r') (trn vs t) := rfl
        have ew' : wwork (t :: a' :: r') vs = vs.length + rns vs t + wwork (a' :: r') (trn vs t) := rfl
        refine ⟨t :: a' :: r', ⟨h1, hw, i1⟩, by omega, by omega, ?_⟩
        rcases i4 with q | q
        · exact Or.inl ⟨h1, hw, q⟩
        · exact Or.inr (by omega)
    · rw [same_of h1 h2 hw] at i1 i2 i3 ec ew
      exact ⟨ds', WayQ_deeper k vs ds' i1, by omega, by omega, Or.inr (by omega)⟩
/-! the ways in their order, with a mark at those of the class -/
def lfF (f : Bool) (l : List N3) : List (N3 × Bool) := l.map (fun x => (x, f))
def wyTF (g : Nat → List (N3 × Bool)) : Nat → List (N3 × Bool)
  | 0 => []
  | n + 1 => g (6 - n) ++ wyTF g n
def wyF : Nat → List Int64 → Nat → Nat → Nat → Bool → List (N3 × Bool)
  | 0, vs, p, b, w, f => lfF f (lvs vs p b w)
  | k + 1, vs, p, b, w, f => lfF f (lvs vs p b w) ++ wyTF (fun t => if can vs t = true then wyF k (trn vs t) (p * 8 + t) (b + cst vs t) (w + vs.length + rns vs t) (f && wt vs t) else []) 4
theorem wyTF_map {g : Nat → List (N3 × Bool)} {g' : Nat → List N3} (h : ∀ t, 3 ≤ t ∧ t ≤ 6 → (g t).map (fun a => a.1) = g' t) : (wyTF g 4).map (fun a => a.1) = wyT g' 4 := by
  simp only [wyTF, wyT, List.map_append, Nat.reduceSub, h 3 (by omega), h 4 (by omega), h 5 (by omega), h 6 (by omega), List.map_nil]
theorem wyF_map : ∀ k vs p b w f, (wyF k vs p b w f).map (fun a => a.1) = wyQ can k vs p b w
  | 0, vs, p, b, w, f => by
    show (lfF f (lvs vs p b w)).map _ = lvs vs p b w
    unfold lfF
    rw [List.map_map]
    exact List.map_id' _
  | k + 1, vs, p, b, w, f => by
    show (lfF f (lvs vs p b w) ++ wyTF _ 4).map _ = lvs vs p b w ++ wyT _ 4
    rw [List.map_append]
    congr 1
    · unfold lfF
      rw [List.map_map]
      exact List.map_id' _
    · refine wyTF_map fun t ht => ?_
      by_cases h : can vs t = true
      · rw [if_pos h, if_pos h]; exact wyF_map k _ _ _ _ _
      · rw [if_neg h, if_neg h]; rfl
def keepF (l : List (N3 × Bool)) : List N3 := (l.filter (fun a => a.2)).map (fun a => a.1)
theorem keepF_true (l : List N3) : keepF (lfF true l) = l := by
  induction l with
  | nil => rfl
  | cons a r ih =>
    show a :: keepF (lfF true r) = a :: r
    rw [ih]
theorem keepF_app {a b : List (N3 × Bool)} : keepF (a ++ b) = keepF a ++ keepF b := by simp [keepF]
theorem wyF_false : ∀ k vs p b w, keepF (wyF k vs p b w false) = []
  | 0, vs, p, b, w => by simp [wyF, keepF, lfF]
  | k + 1, vs, p, b, w => by
    show keepF (lfF false (lvs vs p b w) ++ wyTF _ 4) = []
    simp only [wyTF, keepF_app, Bool.false_and, Nat.reduceSub]
    have h0 : keepF (lfF false (lvs vs p b w)) = [] := by simp [keepF, lfF]
    have ht : ∀ t, keepF (if can vs t = true then wyF k (trn vs t) (p * 8 + t) (b + cst vs t) (w + vs.length + rns vs t) false else []) = [] := by
      intro t
      split
      · exact wyF_false k _ _ _ _
      · rfl
    rw [h0, ht, ht, ht, ht]
    rfl
theorem wyF_keep : ∀ k vs p b w, keepF (wyF k vs p b w true) = wys k vs p b w
  | 0, vs, p, b, w => by
    exact keepF_true _
  | k + 1, vs, p, b, w => by
    show keepF (lfF true (lvs vs p b w) ++ wyTF _ 4) = lvs vs p b w ++ wyT _ 4
    have h0 : keepF (lfF true (lvs vs p b w)) = lvs vs p b w := keepF_true _
    have ht : ∀ t, 3 ≤ t ∧ t ≤ 6 → keepF (if can vs t = true then wyF k (trn vs t) (p * 8 + t) (b + cst vs t) (w + vs.length + rns vs t) (true && wt vs t) else []) = (if wt vs t = true then wys k (trn vs t) (p * 8 + t) (b + cst vs t) (w + vs.length + rns vs t) else []) := by
      intro t ht
      rw [Bool.true_and]
      by_cases hw : wt vs t = true
      · rw [if_pos (wt_can ht hw), if_pos hw, hw]
        exact wyF_keep k _ _ _ _
      · rw [if_neg hw]
        split
        · rw [show wt vs t = false by simpa using hw]
          exact wyF_false k _ _ _ _
        · rfl
    simp only [wyTF, wyT, keepF_app, Nat.reduceSub]
    rw [h0, ht 3 (by omega), ht 4 (by omega), ht 5 (by omega), ht 6 (by omega)]
    rfl
