/-! the front holds the ways that none betters, each with its first code; the best within a limit -/
def same2 (x y : N3) : Bool := decide (y.1 = x.1) && decide (y.2.1 = x.2.1)
/-- a front of the ways offered so far -/
def FrI (L C : List N3) : Prop := FI L ∧ (∀ e ∈ L, C.find? (same2 e) = some e) ∧ ∀ y ∈ C, ∃ e ∈ L, e.1 ≤ y.1 ∧ e.2.1 ≤ y.2.1
theorem dom_iff {x y : N3} : dom x y = true ↔ y.1 ≤ x.1 ∧ y.2.1 ≤ x.2.1 := by simp [dom]
theorem bel_iff {x y : N3} : bel x y = true ↔ y.1 < x.1 := by simp [bel]
theorem kp2_iff {x y : N3} : kp2 x y = true ↔ (y.1 < x.1 ∨ y.2.1 < x.2.1) ∧ ¬ y.1 < x.1 := by simp [kp2, kpt, bel]
theorem same2_iff {x y : N3} : same2 x y = true ↔ y.1 = x.1 ∧ y.2.1 = x.2.1 := by simp [same2]
theorem off_in {L : List N3} {x y : N3} (h : FI L) : y ∈ off L x ↔ (L.any (dom x) = true ∧ y ∈ L) ∨ (¬ L.any (dom x) = true ∧ (y = x ∨ (y ∈ L ∧ (y.1 < x.1 ∨ y.2.1 < x.2.1)))) := by
  rw [off_eq h]
  by_cases hd : L.any (dom x) = true
  · rw [if_pos hd]
    exact ⟨fun q => Or.inl ⟨hd, q⟩, fun q => q.elim (fun q => q.2) (fun q => absurd hd q.1)⟩
  · rw [if_neg hd, List.mem_append, List.mem_cons, List.mem_filter, List.mem_filter, bel_iff, kp2_iff]
    constructor
    · rintro (⟨q1, q2⟩ | rfl | ⟨q1, q2⟩)
      · exact Or.inr ⟨hd, Or.inr ⟨q1, Or.inl q2⟩⟩
      · exact Or.inr ⟨hd, Or.inl rfl⟩
      · exact Or.inr ⟨hd, Or.inr ⟨q1, q2.1⟩⟩
    · rintro (⟨q1, q2⟩ | ⟨q1, q2 | ⟨q2, q3⟩⟩)
      · exact absurd q1 hd
      · exact Or.inr (Or.inl q2)
      · by_cases q : y.1 < x.1
        · exact Or.inl ⟨q2, q⟩
        · exact Or.inr (Or.inr ⟨q2, q3, q⟩)
theorem FrI.st {L C : List N3} {x : N3} (h : FrI L C) : FrI (off L x) (C ++ [x]) := by
  obtain ⟨h1, h2, h3⟩ := h
  refine ⟨off_FI h1, fun e he => ?_, fun y hy => ?_⟩
  · rw [List.find?_append]
    rcases (off_in h1).mp he with ⟨q1, q2⟩ | ⟨q1, q2 | ⟨q2, q3⟩⟩
    · rw [h2 e q2]; rfl
    · subst q2
      have hn : C.find? (same2 e) = none := by
        rw [List.find?_eq_none]
        intro y hy hs
        obtain ⟨z, hz, z1, z2⟩ := h3 y hy
        have := same2_iff.mp hs
        exact q1 (List.any_eq_true.mpr ⟨z, hz, dom_iff.mpr ⟨by omega, by omega⟩⟩)
      rw [hn]
      show List.find? (same2 e) [e] = some e
      rw [List.find?_cons_of_pos]
      exact same2_iff.mpr ⟨rfl, rfl⟩
    · rw [h2 e q2]; rfl
  · by_cases hd : L.any (dom x) = true
    · rcases List.mem_append.mp hy with q | q
      · obtain ⟨e, he, e1, e2⟩ := h3 y q
        exact ⟨e, (off_in h1).mpr (Or.inl ⟨hd, he⟩), e1, e2⟩
      · rcases List.mem_singleton.mp q with rfl
        obtain ⟨e, he, hde⟩ := List.any_eq_true.mp hd
        have := dom_iff.mp hde
        exact ⟨e, (off_in h1).mpr (Or.inl ⟨hd, he⟩), this.1, this.2⟩
    · rcases List.mem_append.mp hy with q | q
      · obtain ⟨e, he, e1, e2⟩ := h3 y q
        by_cases hk : e.1 < x.1 ∨ e.2.1 < x.2.1
        · exact ⟨e, (off_in h1).mpr (Or.inr ⟨hd, Or.inr ⟨he, hk⟩⟩), e1, e2⟩
        · exact ⟨x, (off_in h1).mpr (Or.inr ⟨hd, Or.inl rfl⟩), by omega, by omega⟩
      · rcases List.mem_singleton.mp q with rfl
        exact ⟨y, (off_in h1).mpr (Or.inr ⟨hd, Or.inl rfl⟩), Nat.le_refl _, Nat.le_refl _⟩
theorem FrI.z : FrI [] [] := ⟨fun i j _ hj => absurd hj (Nat.not_lt_zero j), fun e he => (by cases he), fun y hy => (by cases hy)⟩
theorem FrI.go : ∀ (xs : List N3) {L C : List N3}, FrI L C → FrI (offs L xs) (C ++ xs)
  | [], L, C, h => by rw [List.append_nil]; exact h
  | x :: xs, L, C, h => by
    rw [offs_cons, show C ++ x :: xs = (C ++ [x]) ++ xs by rw [List.append_assoc]; rfl]
    exact FrI.go xs h.st
theorem offs_FrI (xs : List N3) : FrI (offs [] xs) xs := by
  have := FrI.go xs FrI.z
  rw [List.nil_append] at this
  exact this
/-- the best within a limit: fewest bytes, then least work, then the first -/
def IsBest (A : List N3) (lim : Nat) (x : N3) : Prop := x ∈ A ∧ x.2.1 ≤ lim ∧ (∀ y ∈ A, y.2.1 ≤ lim → x.1 < y.1 ∨ (x.1 = y.1 ∧ x.2.1 ≤ y.2.1)) ∧ A.find? (same2 x) = some x
theorem IsBest.uq {A : List N3} {lim : Nat} {x y : N3} (h : IsBest A lim x) (h' : IsBest A lim y) : x = y := by
  obtain ⟨a1, a2, a3, a4⟩ := h
  obtain ⟨b1, b2, b3, b4⟩ := h'
  have l1 := a3 y b1 b2
  have l2 := b3 x a1 a2
  have e1 : x.1 = y.1 := by omega
  have e2 : x.2.1 = y.2.1 := by omega
  have e3 : same2 x = same2 y := by funext z; unfold same2; rw [e1, e2]
  rw [e3, b4] at a4
  exact (Option.some.inj a4).symm
/-- what firstWithin finds in a front -/
theorem fwA_some {F : Nat → N3} {lim : Nat} : ∀ (k i : Nat), (∃ j, i ≤ j ∧ j < i + k ∧ (F j).2.1 ≤ lim) → ∃ j, fwA F lim k i = some j ∧ i ≤ j ∧ j < i + k ∧ (F j).2.1 ≤ lim ∧ ∀ l, i ≤ l → l < j → lim < (F l).2.1
  | 0, i, ⟨j, h1, h2, h3⟩ => by omega
  | k + 1, i, ⟨j, h1, h2, h3⟩ => by
    unfold fwA
    by_cases hc : (F i).2.1 ≤ lim
    · rw [if_pos hc]
      exact ⟨i, rfl, Nat.le_refl _, by omega, hc, fun l l1 l2 => by omega⟩
    · rw [if_neg hc]
      have hji : ¬ j = i := fun q => hc (by rw [← q]; exact h3)
      obtain ⟨j', a1, a2, a3, a4, a5⟩ := fwA_some (F := F) (lim := lim) k (i + 1) ⟨j, by omega, by omega, h3⟩
      refine ⟨j', a1, by omega, by omega, a4, fun l l1 l2 => ?_⟩
      by_cases q : l = i
      · rw [q]; omega
      · exact a5 l (by omega) l2
theorem getD_memN {L : List N3} {j : Nat} (h : j < L.length) : L.getD j z3 ∈ L := by
  rw [List.getD_eq_getElem?_getD, List.getElem?_eq_getElem h]
  exact List.getElem_mem h
theorem mem_getD {L : List N3} {x : N3} (h : x ∈ L) : ∃ j, j < L.length ∧ L.getD j z3 = x := by
  obtain ⟨j, hj⟩ := List.getElem?_of_mem h
  exact ⟨j, (List.getElem?_eq_some_iff.mp hj).1, by rw [List.getD_eq_getElem?_getD, hj]; rfl⟩
theorem front_best {C L : List N3} {lim : Nat} (h : FrI L C) (hex : ∃ y ∈ C, y.2.1 ≤ lim) {F : Nat → N3} (hF : ∀ j, j < L.length → F j = L.getD j z3) : ∃ j, fwA F lim L.length 0 = some j ∧ j < L.length ∧ IsBest C lim (F j) := by
  obtain ⟨h1, h2, h3⟩ := h
  obtain ⟨y, hy, hyl⟩ := hex
  obtain ⟨e, he, e1, e2⟩ := h3 y hy
  obtain ⟨i, hi, hie⟩ := mem_getD he
  obtain ⟨j, a1, a2, a3, a4, a5⟩ := fwA_some (F := F) (lim := lim) L.length 0 ⟨i, by omega, by omega, by rw [hF i hi, hie]; omega⟩
  have hj : j < L.length := by omega
  refine ⟨j, a1, hj, ?_⟩
  rw [hF j hj] at a4 ⊢
  have hm := getD_memN hj
  have hfj := h2 _ hm
  refine ⟨List.mem_of_find?_eq_some hfj, a4, fun y hy hyl => ?_, hfj⟩
  obtain ⟨e, he, e1, e2⟩ := h3 y hy
  obtain ⟨i, hi, hie⟩ := mem_getD he
  have hij : ¬ i < j := fun q => by
    have := a5 i (by omega) q
    rw [hF i hi, hie] at this
    omega
  rcases Nat.lt_or_ge j i with q | q
  · have := (h1 j i q hi).1
    rw [hie] at this
    exact Or.inl (by omega)
  · have : i = j := by omega
    subst this
    rw [hie]
    omega
/-! from the class's ways to all ways -/
theorem find_congr {α : Type} {p q : α → Bool} : ∀ {l : List α}, (∀ a ∈ l, p a = q a) → l.find? p = l.find? q
  | [], _ => rfl
  | a :: l, h => by
    rw [List.find?_cons, List.find?_cons, h a (List.mem_cons_self ..), find_congr (fun b hb => h b (List.mem_cons_of_mem _ hb))]
theorem wyF_mark : ∀ (k : Nat) (vs : List Int64) (p b w : Nat) (f : Bool) (a : N3 × Bool), a ∈ wyF k vs p b w f → ∃ ds, WayQ can k vs ds ∧ a.1 = (b + wcost ds vs, w + wwork ds vs, wpath p ds) ∧ (f = true → a.2 = false → ¬ WayQ wt k vs ds)
  | 0, vs, p, b, w, f, a, h => by
    have h' : a ∈ lfF f (lvs vs p b w) := h
    unfold lfF at h'
    obtain ⟨x, hx, rfl⟩ := List.mem_map.mp h'
    obtain ⟨t, t1, t2, rfl⟩ := lvs_mem.mp hx
    exact ⟨[t], ⟨t1, t2⟩, rfl, fun q1 q2 => by rw [q1] at q2; cases q2⟩
  | k + 1, vs, p, b, w, f, a, h => by
    have h' : a ∈ lfF f (lvs vs p b w) ++ wyTF (fun t => if can vs t = true then wyF k (trn vs t) (p * 8 + t) (b + cst vs t) (w + vs.length + rns vs t) (f && wt vs t) else []) 4 := h
    rcases List.mem_append.mp h' with h' | h'
    · unfold lfF at h'
      obtain ⟨x, hx, rfl⟩ := List.mem_map.mp h'
      obtain ⟨t, t1, t2, rfl⟩ := lvs_mem.mp hx
      exact ⟨[t], ⟨t1, t2⟩, rfl, fun q1 q2 => by rw [q1] at q2; cases q2⟩
    · have h2 : ∃ t, (3 ≤ t ∧ t ≤ 6) ∧ can vs t = true ∧ a ∈ wyF k (trn vs t) (p * 8 + t) (b + cst vs t) (w + vs.length + rns vs t) (f && wt vs t) := by
        simp only [wyTF, Nat.reduceSub, List.mem_append, List.not_mem_nil, or_false] at h'
        have one : ∀ t, (3 ≤ t ∧ t ≤ 6) → a ∈ (if can vs t = true then wyF k (trn vs t) (p * 8 + t) (b + cst vs t) (w + vs.length + rns vs t) (f && wt vs t) else []) → ∃ t, (3 ≤ t ∧ t ≤ 6) ∧ can vs t = true ∧ a ∈ wyF k (trn vs t) (p * 8 + t) (b + cst vs t) (w + vs.length + rns vs t) (f && wt vs t) := by
          intro t ht q
          by_cases hc : can vs t = true
          · rw [if_pos hc] at q; exact ⟨t, ht, hc, q⟩
          · rw [if_neg hc] at q; cases q
        rcases h' with q | q | q | q
        · exact one 3 (by omega) q
        · exact one 4 (by omega) q
        · exact one 5 (by omega) q
        · exact one 6 (by omega) q
      obtain ⟨t, ht, hc, hm⟩ := h2
      obtain ⟨ds, d1, d2, d3⟩ := wyF_mark k (trn vs t) _ _ _ _ a hm
      match ds, d1 with
      | [], d1 => cases k <;> exact d1.elim
      | x :: r, d1 =>
        refine ⟨t :: x :: r, ⟨ht, hc, d1⟩, ?_, fun q1 q2 q3 => ?_⟩
        · rw [d2]
          show (b + cst vs t + _, w + vs.length + rns vs t + _, _) = (b + (cst vs t + _), w + (vs.length + rns vs t + _), _)
          rw [Nat.add_assoc b, Nat.add_assoc w, Nat.add_assoc w]
          rfl
        · obtain ⟨q4, q5, q6⟩ := q3
          rw [q1, q5] at d3
          exact d3 rfl q2 q6
/-- the best of the class's ways is the best of all -/
theorem best_all {k : Nat} {vs : List Int64} {p b w lim : Nat} {x : N3} (h : IsBest (wys k vs p b w) lim x) : IsBest (wyQ can k vs p b w) lim x := by
  obtain ⟨h1, h2, h3, h4⟩ := h
  have hsub : ∀ y ∈ wys k vs p b w, y ∈ wyQ can k vs p b w := by
    intro y hy
    rw [← wyF_keep] at hy
    unfold keepF at hy
    obtain ⟨a, ha, rfl⟩ := List.mem_map.mp hy
    rw [← wyF_map k vs p b w true]
    exact List.mem_map.mpr ⟨a, (List.mem_filter.mp ha).1, rfl⟩
  have hdom : ∀ ds, WayQ can k vs ds → w + wwork ds vs ≤ lim → x.1 < b + wcost ds vs ∨ (x.1 = b + wcost ds vs ∧ x.2.1 ≤ w + wwork ds vs ∧ WayQ wt k vs ds) := by
    intro ds hds hl
    obtain ⟨ds', d1, d2, d3, d4⟩ := way_dom k vs ds hds
    have hy := (wyQ_mem k vs p b w (b + wcost ds' vs, w + wwork ds' vs, wpath p ds')).mpr ⟨ds', d1, rfl⟩
    rw [wyQ_wys] at hy
    have h5 := h3 _ hy (show w + wwork ds' vs ≤ lim by omega)
    have h6 : x.1 < b + wcost ds' vs ∨ (x.1 = b + wcost ds' vs ∧ x.2.1 ≤ w + wwork ds' vs) := h5
    rcases d4 with q | q
    · have hy2 := (wyQ_mem k vs p b w (b + wcost ds vs, w + wwork ds vs, wpath p ds)).mpr ⟨ds, q, rfl⟩
      rw [wyQ_wys] at hy2
      have h7 := h3 _ hy2 hl
      have h8 : x.1 < b + wcost ds vs ∨ (x.1 = b + wcost ds vs ∧ x.2.1 ≤ w + wwork ds vs) := h7
      rcases h8 with z | z
      · exact Or.inl z
      · exact Or.inr ⟨z.1, z.2, q⟩
    · exact Or.inl (by omega)
  refine ⟨hsub x h1, h2, fun y hy hyl => ?_, ?_⟩
  · obtain ⟨ds, d1, rfl⟩ := (wyQ_mem k vs p b w y).mp hy
    rcases hdom ds d1 hyl with q | q
    · exact Or.inl q
    · exact Or.inr ⟨q.1, q.2.1⟩
  · have e1 : (wys k vs p b w).find? (same2 x) = ((wyF k vs p b w true).find? (fun a => a.2 && same2 x a.1)).map (fun a => a.1) := by
      rw [← wyF_keep]
      unfold keepF
      rw [List.find?_map, List.find?_filter]
      congr 1
      apply find_congr
      intro a _
      show decide (a.2 = true ∧ ((same2 x) ∘ fun a => a.1) a = true) = _
      cases a.2 <;> simp
    have e2 : (wyQ can k vs p b w).find? (same2 x) = ((wyF k vs p b w true).find? (fun a => same2 x a.1)).map (fun a => a.1) := by
      rw [← wyF_map k vs p b w true, List.find?_map]
      rfl
    have e3 : (wyF k vs p b w true).find? (fun a => a.2 && same2 x a.1) = (wyF k vs p b w true).find? (fun a => same2 x a.1) := by
      apply find_congr
      intro a ha
      cases hs : same2 x a.1 with
      | false => simp
      | true =>
        obtain ⟨ds, d1, d2, d3⟩ := wyF_mark k vs p b w true a ha
        have hq := same2_iff.mp hs
        rw [d2] at hq
        have hq1 : b + wcost ds vs = x.1 := hq.1
        have hq2 : w + wwork ds vs = x.2.1 := hq.2
        rcases hdom ds d1 (by omega) with z | z
        · omega
        · cases ha2 : a.2 with
          | true => rfl
          | false => exact absurd z.2.2 (d3 rfl ha2)
    rw [e2, ← e3, ← e1]
    exact h4
