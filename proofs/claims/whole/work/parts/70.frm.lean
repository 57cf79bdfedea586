/-! the front as a list: what is kept, what is put in -/
def kp2 (x y : N3) : Bool := kpt x y && !bel x y
theorem FI_iff {L : List N3} : FI L ↔ L.Pairwise (fun a b => a.1 < b.1 ∧ b.2.1 < a.2.1) := by
  rw [List.pairwise_iff_getElem]
  constructor
  · intro h i j hi hj hij
    have := h i j hij hj
    rw [List.getD_eq_getElem?_getD, List.getD_eq_getElem?_getD, List.getElem?_eq_getElem hi, List.getElem?_eq_getElem hj] at this
    exact this
  · intro h i j hij hj
    have := h i j (by omega) hj hij
    rw [List.getD_eq_getElem?_getD, List.getD_eq_getElem?_getD, List.getElem?_eq_getElem (show i < L.length by omega), List.getElem?_eq_getElem hj]
    exact this
def inB (y : N3) : Prop := y.1 < 2 ^ 30 ∧ y.2.1 < 2 ^ 30 ∧ y.2.2 < 2 ^ 30
theorem FB_iff {L : List N3} : FB L ↔ ∀ y ∈ L, inB y := by
  constructor
  · intro h y hy
    obtain ⟨j, hj, rfl⟩ := List.mem_iff_getElem.mp hy
    have := h j hj
    rw [List.getD_eq_getElem?_getD, List.getElem?_eq_getElem hj] at this
    exact this
  · intro h j hj
    have := h _ (List.getElem_mem hj)
    rw [List.getD_eq_getElem?_getD, List.getElem?_eq_getElem hj]
    exact this
theorem bel_kpt {x y : N3} (h : bel x y = true) : kpt x y = true := by
  unfold bel at h; unfold kpt; rw [h]; rfl
theorem kpt_split {x : N3} : ∀ {L : List N3}, L.Pairwise (fun a b => a.1 < b.1 ∧ b.2.1 < a.2.1) → L.filter (kpt x) = L.filter (bel x) ++ L.filter (kp2 x)
  | [], _ => rfl
  | a :: r, h => by
    rw [List.pairwise_cons] at h
    have ih := kpt_split (x := x) h.2
    by_cases hb : bel x a = true
    · rw [List.filter_cons_of_pos (bel_kpt hb), List.filter_cons_of_pos hb, List.filter_cons_of_neg (by unfold kp2; rw [hb]; simp), ih]
      rfl
    · have hr : r.filter (bel x) = [] := by
        rw [List.filter_eq_nil_iff]
        intro y hy q
        have h1 := (h.1 y hy).1
        unfold bel at hb q
        rw [decide_eq_true_eq] at hb q
        omega
      rw [hr] at ih
      rw [List.filter_cons_of_neg hb, hr]
      by_cases hk : kpt x a = true
      · rw [List.filter_cons_of_pos hk, List.filter_cons_of_pos (by unfold kp2; rw [hk]; simp [hb]), ih]
        rfl
      · rw [List.filter_cons_of_neg hk, List.filter_cons_of_neg (by unfold kp2; simp [hk]), ih]
theorem off_eq {L : List N3} {x : N3} (h : FI L) : off L x = if L.any (dom x) = true then L else L.filter (bel x) ++ x :: L.filter (kp2 x) := by
  unfold off insL
  rw [kpt_split (FI_iff.mp h), List.take_left, List.drop_left]
theorem off_FI {L : List N3} {x : N3} (h : FI L) : FI (off L x) := by
  rw [off_eq h]
  split
  · exact h
  · rename_i hn
    have hnd : ∀ y ∈ L, ¬ (y.1 ≤ x.1 ∧ y.2.1 ≤ x.2.1) := by
      intro y hy q
      refine hn (List.any_eq_true.mpr ⟨y, hy, ?_⟩)
      unfold dom
      rw [decide_eq_true q.1, decide_eq_true q.2]
      rfl
    have hA : ∀ y ∈ L.filter (bel x), y.1 < x.1 ∧ x.2.1 < y.2.1 := by
      intro y hy
      rw [List.mem_filter] at hy
      have h1 := hy.2
      unfold bel at h1
      rw [decide_eq_true_eq] at h1
      have := hnd y hy.1
      omega
    have hC : ∀ y ∈ L.filter (kp2 x), x.1 < y.1 ∧ y.2.1 < x.2.1 := by
      intro y hy
      rw [List.mem_filter] at hy
      have h1 := hy.2
      unfold kp2 kpt bel at h1
      simp at h1
      have := hnd y hy.1
      omega
    rw [FI_iff] at h ⊢
    rw [List.pairwise_append, List.pairwise_cons]
    refine ⟨h.filter _, ⟨fun y hy => hC y hy, h.filter _⟩, fun a ha c hc => ?_⟩
    rw [List.mem_cons] at hc
    have h1 := hA a ha
    rcases hc with rfl | hc
    · exact h1
    · have h2 := hC c hc
      omega
theorem off_mem {L : List N3} {x y : N3} (h : FI L) (hy : y ∈ off L x) : y ∈ L ∨ y = x := by
  rw [off_eq h] at hy
  split at hy
  · exact Or.inl hy
  · rw [List.mem_append, List.mem_cons, List.mem_filter, List.mem_filter] at hy
    rcases hy with q | q | q
    · exact Or.inl q.1
    · exact Or.inr q
    · exact Or.inl q.1
theorem off_len (L : List N3) (x : N3) : (off L x).length ≤ L.length + 1 := by
  unfold off
  split
  · omega
  · rw [insL_len (kb_len x L)]
    have := List.length_filter_le (kpt x) L
    omega
def offs (L : List N3) (xs : List N3) : List N3 := xs.foldl off L
theorem offs_ok : ∀ {xs L : List N3}, FI L → FB L → (∀ y ∈ xs, inB y) → FI (offs L xs) ∧ FB (offs L xs) ∧ (offs L xs).length ≤ L.length + xs.length
  | [], L, h1, h2, _ => ⟨h1, h2, Nat.le_refl _⟩
  | x :: r, L, h1, h2, h3 => by
    have hb : FB (off L x) := by
      rw [FB_iff] at h2 ⊢
      intro y hy
      rcases off_mem h1 hy with q | q
      · exact h2 y q
      · rw [q]; exact h3 x (List.mem_cons_self)
    have ih := offs_ok (xs := r) (off_FI h1) hb (fun y hy => h3 y (List.mem_cons_of_mem _ hy))
    refine ⟨ih.1, ih.2.1, ?_⟩
    have h4 := ih.2.2
    have h5 := off_len L x
    show (offs (off L x) r).length ≤ _
    rw [List.length_cons]
    omega
theorem offs_app {L xs ys : List N3} : offs L (xs ++ ys) = offs (offs L xs) ys := List.foldl_append
/-! cells that stay -/
def Same (lo hi : Nat) (hp hp' : Nat → MC) : Prop := ∀ i, lo ≤ i → i < hi → hp' i = hp i
theorem Fr.sm {lo hi a b : Nat} {hp hp' : Nat → MC} (h : Fr lo hi hp hp') (hd : b ≤ lo ∨ hi ≤ a) : Same a b hp hp' := fun i h1 h2 => h i (by omega)
theorem RowAt.sm {hp hp' : Nat → MC} {t : Nat} {vs us : List Int64} {ts : List Nat} (h : RowAt hp t vs us ts) (hS : Same t (t + 4) hp hp') : RowAt hp' t vs us ts := by
  obtain ⟨fv, fr, ft, h1, h2, h3, h4, h5⟩ := h
  exact ⟨fv, fr, ft, by rw [hS t (by omega) (by omega)]; exact h1, by rw [hS (t + 1) (by omega) (by omega)]; exact h2, by rw [hS (t + 2) (by omega) (by omega)]; exact h3, by rw [hS (t + 3) (by omega) (by omega)]; exact h4, h5⟩
theorem PatchAt.sm {hp hp' : Nat → MC} {t : Nat} {s : PS} {f : Nat → Int32} (h : PatchAt hp t s f) (hS : Same t (t + 2) hp hp') : PatchAt hp' t s f := ⟨by rw [hS t (by omega) (by omega)]; exact h.1, by rw [hS (t + 1) (by omega) (by omega)]; exact h.2⟩
theorem FrontAt.sm {hp hp' : Nat → MC} {t : Nat} {L : List N3} (h : FrontAt hp t L) (hS : Same t (t + 4) hp hp') : FrontAt hp' t L := by
  obtain ⟨F, ⟨h1, h2, h3, h4⟩, h5⟩ := h
  exact ⟨F, ⟨by rw [hS t (by omega) (by omega)]; exact h1, by rw [hS (t + 1) (by omega) (by omega)]; exact h2, by rw [hS (t + 2) (by omega) (by omega)]; exact h3, by rw [hS (t + 3) (by omega) (by omega)]; exact h4⟩, h5⟩
theorem BlockAt.sm {hp hp' : Nat → MC} {t : Nat} {P : List (Option Int64)} (h : BlockAt hp t P) (hS : Same t (t + 3) hp hp') : BlockAt hp' t P := by
  obtain ⟨vs, gs, h1, h2, h3, h4⟩ := h
  exact ⟨vs, gs, by rw [hS t (by omega) (by omega)]; exact h1, by rw [hS (t + 1) (by omega) (by omega)]; exact h2, by rw [hS (t + 2) (by omega) (by omega)]; exact h3, h4⟩
theorem BytesAt.sm {hp hp' : Nat → MC} {t : Nat} {bs : List Nat} (h : BytesAt hp t bs) (hS : Same t (t + 2) hp hp') : BytesAt hp' t bs := by
  obtain ⟨f, h1, h2, h3⟩ := h
  exact ⟨f, by rw [hS t (by omega) (by omega)]; exact h1, by rw [hS (t + 1) (by omega) (by omega)]; exact h2, h3⟩
def RowG (hp : Nat → MC) (t : Nat) : Prop := ∃ vs us ts, RowAt hp t vs us ts
def PatchG (hp : Nat → MC) (t : Nat) : Prop := ∃ s f, s.2.1 ≤ 64 ∧ PatchAt hp t s f
theorem RowG.sm {hp hp' : Nat → MC} {t : Nat} (h : RowG hp t) (hS : Same t (t + 4) hp hp') : RowG hp' t := by
  obtain ⟨a, b, c, h⟩ := h
  exact ⟨a, b, c, h.sm hS⟩
theorem PatchG.sm {hp hp' : Nat → MC} {t : Nat} (h : PatchG hp t) (hS : Same t (t + 2) hp hp') : PatchG hp' t := by
  obtain ⟨a, b, c, h⟩ := h
  exact ⟨a, b, c, h.sm hS⟩
theorem RowAt.g {hp : Nat → MC} {t : Nat} {vs us : List Int64} {ts : List Nat} (h : RowAt hp t vs us ts) : RowG hp t := ⟨vs, us, ts, h⟩
