/-! what is written is read: the turns -/
theorem stp_get {vs : List Int64} {i : Nat} (h : i < vs.length) : (steps vs).getD i 0 = stp vs i := by
  unfold steps
  rw [List.getD_eq_getElem?_getD, List.getElem?_map, List.getElem?_range h]
  rfl
theorem steps_len {vs : List Int64} : (steps vs).length = vs.length := by simp [steps]
theorem pf_steps {vs : List Int64} : ∀ i, i < vs.length → pf (steps vs) i = vs.getD i 0
  | 0, h => by
    show (steps vs).getD 0 0 = _
    rw [stp_get h]
    rfl
  | i + 1, h => by
    show pf (steps vs) i + (steps vs).getD (i + 1) 0 = _
    rw [pf_steps i (by omega), stp_get h]
    show vs.getD i 0 + (vs.getD (i + 1) 0 - vs.getD i 0) = _
    exact sub_add64 _ _
theorem un3 {vs : List Int64} : (List.range (steps vs).length).map (pf (steps vs)) = vs := by
  rw [steps_len]
  refine ext_getD (by simp) fun j hj => ?_
  have hj' : j < vs.length := by simpa using hj
  rw [List.getD_eq_getElem?_getD, List.getElem?_map, List.getElem?_range hj']
  exact pf_steps j hj'
/-- runs laid out again -/
def exI (hs ls : List Int64) : Nat → List Int64
  | 0 => []
  | i + 1 => exI hs ls i ++ List.replicate (uN (ls.getD i 0)) (hs.getD i 0)
theorem exI_s {hs ls : List Int64} {i : Nat} : exI hs ls (i + 1) = exI hs ls i ++ List.replicate (uN (ls.getD i 0)) (hs.getD i 0) := rfl
theorem exI_congr {hs ls hs' ls' : List Int64} : ∀ k, (∀ i, i < k → hs.getD i 0 = hs'.getD i 0 ∧ ls.getD i 0 = ls'.getD i 0) → exI hs ls k = exI hs' ls' k
  | 0, _ => rfl
  | k + 1, h => by
    rw [exI_s, exI_s, exI_congr k (fun i hi => h i (by omega)), (h k (by omega)).1, (h k (by omega)).2]
theorem exI_mono {hs ls : List Int64} {i : Nat} : ∀ k, (exI hs ls i).length ≤ (exI hs ls (i + k)).length
  | 0 => Nat.le_refl _
  | k + 1 => by
    have := exI_mono (hs := hs) (ls := ls) (i := i) k
    rw [← Nat.add_assoc, exI_s, List.length_append]
    omega
theorem snoc_lt {l : List Int64} {v : Int64} {i : Nat} (h : i < l.length) : (l ++ [v]).getD i 0 = l.getD i 0 := getD_appL h
theorem snoc_eq {l : List Int64} {v : Int64} : (l ++ [v]).getD l.length 0 = v := getD_appR
/-- heads and lengths of runs fit together -/
theorem runs_ok {vs : List Int64} (hm : vs.length ≤ 32) : ∀ n, n ≤ vs.length → (hdsA vs n).length = (lnsA vs n).length ∧ exI (hdsA vs n) (lnsA vs n) (lnsA vs n).length = vs.take n ∧ (0 < n → (hdsA vs n).getD ((hdsA vs n).length - 1) 0 = vs.getD (n - 1) 0) ∧ ∀ i, i < (lnsA vs n).length → 1 ≤ uN ((lnsA vs n).getD i 0)
  | 0, _ => by
    refine ⟨by simp [hdsA, lnsA], by simp [lnsA, exI], fun h => absurd h (by omega), fun i hi => absurd hi (by simp [lnsA])⟩
  | n + 1, hn => by
    obtain ⟨i1, i2, i3, i4⟩ := runs_ok hm n (by omega)
    have hl := lnsA_len vs n
    rw [hdsA_snoc, takeL_snoc (by omega)]
    by_cases hb : bg vs n = true
    · have e : lnsA vs (n + 1) = lnsA vs n ++ [1] := by
        show (if bg vs n = true then _ else _) = _
        rw [if_pos hb]
      rw [if_pos hb, e]
      refine ⟨by simp [i1], ?_, fun _ => ?_, fun i hi => ?_⟩
      · rw [List.length_append, List.length_singleton, exI_s, ← i1, snoc_eq, i1, snoc_eq, exI_congr (hs' := hdsA vs n) (ls' := lnsA vs n) _ (fun i hi => ⟨snoc_lt (by omega), snoc_lt hi⟩), i2]
        rfl
      · rw [List.length_append, List.length_singleton, Nat.add_sub_cancel, snoc_eq, Nat.add_sub_cancel]
      · by_cases q : i < (lnsA vs n).length
        · rw [snoc_lt q]; exact i4 i q
        · have : i = (lnsA vs n).length := by simp at hi; omega
          rw [this, snoc_eq]
          decide
    · have e : lnsA vs (n + 1) = inc (lnsA vs n) := by
        show (if bg vs n = true then _ else _) = _
        rw [if_neg hb]
      have hn0 : 0 < n := by
        rcases Nat.eq_zero_or_pos n with q | q
        · subst q
          exact absurd (by unfold bg; simp) hb
        · exact q
      have hp := hl.2 hn0
      have hv : vs.getD n 0 = vs.getD (n - 1) 0 := by
        unfold bg at hb
        have : ¬ n = 0 := by omega
        have h2 : ¬ vs.length ≤ n := by omega
        simp [this, h2] at hb
        exact hb
      generalize hK : (lnsA vs n).length = K at *
      obtain ⟨k, rfl⟩ : ∃ k, K = k + 1 := ⟨K - 1, by omega⟩
      have hlen32 : (exI (hdsA vs n) (lnsA vs n) (k + 1)).length = n := by rw [i2, List.length_take]; omega
      rw [exI_s, List.length_append, List.length_replicate] at hlen32
      have hlast : uN ((lnsA vs n).getD k 0 + 1) = uN ((lnsA vs n).getD k 0) + 1 := by
        rw [uN_add, show uN 1 = 1 from uN_1]
        exact Nat.mod_eq_of_lt (by omega)
      have hinc : ∀ i, i < k + 1 → (inc (lnsA vs n)).getD i 0 = if i = k then (lnsA vs n).getD k 0 + 1 else (lnsA vs n).getD i 0 := by
        intro i hi
        unfold inc
        rw [hK, Nat.add_sub_cancel, List.getD_eq_getElem?_getD, List.getElem?_set]
        by_cases q : k = i
        · rw [if_pos q, if_pos (by omega), if_pos q.symm]; rfl
        · rw [if_neg q, if_neg (fun z => q z.symm), ← List.getD_eq_getElem?_getD]
      have hil : (inc (lnsA vs n)).length = k + 1 := by unfold inc; rw [List.length_set, hK]
      rw [if_neg hb, e, hil]
      refine ⟨i1, ?_, fun _ => ?_, fun i hi => ?_⟩
      · rw [exI_s, hinc k (by omega), if_pos rfl, hlast, exI_congr (hs' := hdsA vs n) (ls' := lnsA vs n) k (fun i hi => ⟨rfl, by rw [hinc i (by omega), if_neg (by omega)]⟩), List.replicate_succ', ← List.append_assoc, ← exI_s, i2]
        congr 1
        have := i3 hn0
        rw [i1, Nat.add_sub_cancel] at this
        rw [this, hv]
      · rw [i3 hn0, Nat.add_sub_cancel, hv]
      · rw [hinc i hi]
        by_cases q : i = k
        · rw [if_pos q, hlast]; omega
        · rw [if_neg q]; exact i4 i hi
theorem sprA_ok {hs ls : List Int64} {m K : Nat} (hm : m ≤ 32) (hK : (exI hs ls K).length = m) (h1 : ∀ i, i < K → 1 ≤ uN (ls.getD i 0)) : ∀ (f i : Nat), i + f = K → sprA hs ls f i (m - (exI hs ls i).length) (exI hs ls i) = some (exI hs ls K)
  | 0, i, h => by
    have : i = K := by omega
    subst this
    unfold sprA
    rw [hK, Nat.sub_self, if_pos rfl]
  | f + 1, i, h => by
    have hmo := exI_mono (hs := hs) (ls := ls) (i := i + 1) f
    rw [show i + 1 + f = K by omega, hK, exI_s, List.length_append, List.length_replicate] at hmo
    have hc := h1 i (by omega)
    have hce : ls.getD i 0 = lN (uN (ls.getD i 0)) := (lN_uN _).symm
    have ih := sprA_ok hm hK h1 f (i + 1) (by omega)
    rw [exI_s, List.length_append, List.length_replicate] at ih
    show (if ls.getD i 0 < 1 ∨ lN (m - (exI hs ls i).length) < ls.getD i 0 then none else _) = _
    rw [if_neg, ← ih]
    · congr 1
      omega
    · rintro (q | q)
      · rw [hce] at q
        have := (pk_lLT (b := 1) (by omega) (by decide)).mp q
        omega
      · rw [hce] at q
        have := (pk_lLT (by omega) (by omega)).mp q
        omega
theorem un4 {vs : List Int64} (hm : vs.length ≤ 32) : (hds vs).length = (lns vs).length ∧ sprA (hds vs) (lns vs) (hds vs).length 0 vs.length [] = some vs := by
  obtain ⟨i1, i2, i3, i4⟩ := runs_ok hm vs.length (Nat.le_refl _)
  rw [List.take_length] at i2
  refine ⟨i1, ?_⟩
  have := sprA_ok (hs := hds vs) (ls := lns vs) (m := vs.length) (K := (lns vs).length) hm (by rw [show exI (hds vs) (lns vs) (lns vs).length = vs from i2]) i4 (hds vs).length 0 (by rw [show (hds vs).length = (lns vs).length from i1]; omega)
  rw [show exI (hds vs) (lns vs) (lns vs).length = vs from i2] at this
  exact this
theorem rk_at {us : List Int64} (h : SS us) {j : Nat} (hj : j < us.length) : rk us (us.getD j 0) = j := rk_of (by omega) (fun i hi => h i j hi hj) (fun i h1 h2 => Int64.not_lt.mpr (SS_le h h1 h2))
theorem un5 {vs : List Int64} {v : Int64} (hv : v ∈ vs) : rk (arr vs).1 v < (arr vs).1.length ∧ (arr vs).1.getD (rk (arr vs).1 v) 0 = v := by
  obtain ⟨j, hj, e⟩ := (arr_mem vs).2 v hv
  have := rk_at (arr_ok vs).1 hj
  rw [e] at this
  rw [this]
  exact ⟨hj, e⟩
theorem dvN_dvd : ∀ (l : List Int64) (v : Int64), v ∈ l → dvN l ∣ av v := by
  intro l
  rw [← List.reverse_reverse l]
  induction l.reverse with
  | nil => intro v hv; simp at hv
  | cons a r ih =>
    intro v hv
    rw [List.reverse_cons] at hv ⊢
    rw [dvN_snoc]
    rcases List.mem_append.mp hv with h | h
    · exact Nat.dvd_trans (Nat.gcd_dvd_left _ _) (ih v h)
    · have : v = a := by simpa using h
      rw [this]
      exact Nat.gcd_dvd_right _ _
theorem un6 {vs : List Int64} {v : Int64} (h2 : 1 < dv vs) (hv : v ∈ vs) : v / lN (dv vs) * lN (dv vs) = v := by
  have hlt := dv_lt vs
  have hd : dv vs ∣ av v := by
    unfold dv at h2 ⊢
    split
    · rename_i q
      rw [if_pos q] at h2
      omega
    · exact dvN_dvd vs v hv
  have hg : (lN (dv vs)).toInt = (dv vs : Int) := pk_lT hlt
  have hgv : ((dv vs : Int)) ∣ v.toInt := by
    have h3 : (dv vs : Int) ∣ (av v : Int) := Int.natCast_dvd_natCast.mpr hd
    unfold av at h3
    rwa [Int.dvd_natAbs] at h3
  apply Int64.toInt_inj.mp
  rw [Int64.toInt_mul, Int64.toInt_div_of_ne_right v (lN (dv vs)) (by
    intro q
    have := congrArg Int64.toInt q
    rw [hg] at this
    have h4 : (-1 : Int64).toInt = -1 := by decide
    omega), hg, Int.tdiv_mul_cancel hgv]
  exact Int64.toInt_bmod v
theorem mapid {vs : List Int64} {f : Int64 → Int64} (h : ∀ v ∈ vs, f v = v) : vs.map f = vs := (List.map_congr_left h).trans (List.map_id' vs)
/-- a turn's head is read, and the turn is undone -/
theorem trn_size {vs : List Int64} {t : Nat} (ht : 3 ≤ t ∧ t ≤ 6) (hc : can vs t = true) (hm : vs.length ≤ 32) : (t = 4 ∨ t = 5 → 0 < (trn vs t).length ∧ (trn vs t).length ≤ vs.length) ∧ (¬ (t = 4 ∨ t = 5) → (trn vs t).length = vs.length) := by
  refine ⟨fun q => ⟨?_, trn_len ht⟩, fun q => ?_⟩
  · have h0 := can_pos hc (by omega)
    rcases q with rfl | rfl
    · show 0 < (hds vs).length
      rw [(un4 hm).1]
      exact (lns_len vs).2 h0
    · exact arr_pos h0
  · rcases (show t = 3 ∨ t = 6 by omega) with rfl | rfl
    · exact steps_len
    · have h1 : 1 < dv vs := of_decide_eq_true hc
      show (shr vs).length = _
      unfold shr
      rw [if_neg (by omega)]
      simp
theorem rHd_at {bs : List Nat} {n t : Nat} {vs : List Int64} (ht : 3 ≤ t ∧ t ≤ 6) (hc : can vs t = true) (hm : vs.length ≤ 32) (h : AtB bs n (eHead vs t)) : rHd bs t vs.length n = .inr ((trn vs t).length, (if t = 6 then dv vs else 0), n + (eHead vs t).length) := by
  obtain ⟨s1, s2⟩ := trn_size ht hc hm
  have hlt := dv_lt vs
  rcases (show t = 3 ∨ t = 4 ∨ t = 5 ∨ t = 6 by omega) with rfl | rfl | rfl | rfl
  · show Sum.inr (vs.length, 0, n) = Sum.inr ((steps vs).length, 0, n + 0)
    rw [steps_len, Nat.add_zero]
  · have hA : AtB bs n [(trn vs 4).length] := h
    have := s1 (Or.inl rfl)
    show rBd (rB bs n 1 (vs.length + 1) 2) _ = _
    rw [rBd_r (rB_at hA (by omega) (by omega))]
    rfl
  · have hA : AtB bs n [(trn vs 5).length] := h
    have := s1 (Or.inr rfl)
    show rBd (rB bs n 1 (vs.length + 1) 2) _ = _
    rw [rBd_r (rB_at hA (by omega) (by omega))]
    rfl
  · have hA : AtB bs n (vb (dv vs)) := h
    have h1 : 1 < dv vs := of_decide_eq_true hc
    show rBd (rV bs n) _ = _
    rw [rBd_r (rV_at (by omega) hA)]
    show (if dv vs = 0 ∨ dv vs = 1 then _ else _) = _
    rw [if_neg (by omega)]
    show Sum.inr (vs.length, dv vs, n + vl (dv vs)) = Sum.inr ((trn vs 6).length, dv vs, n + (vb (dv vs)).length)
    rw [s2 (by omega), vb_len (by omega)]
theorem rUn_at {bs : List Nat} {n t : Nat} {vs : List Int64} (ht : 3 ≤ t ∧ t ≤ 6) (hc : can vs t = true) (hm : vs.length ≤ 32) (h : AtB bs n (eTail vs t)) : rUn bs (t, vs.length, if t = 6 then dv vs else 0) (trn vs t) n = .inr (vs, n + (eTail vs t).length) := by
  rcases (show t = 3 ∨ t = 4 ∨ t = 5 ∨ t = 6 by omega) with rfl | rfl | rfl | rfl
  · show Sum.inr ((List.range (steps vs).length).map (pf (steps vs)), n) = Sum.inr (vs, n + 0)
    rw [un3, Nat.add_zero]
  · obtain ⟨u1, u2⟩ := un4 hm
    have hA : AtB bs n (1 :: (vb (uN (zz (lmin (lns vs)))) ++ (wid (lns vs) :: ly (wid (lns vs)) ((lns vs).map fun v => uN (v - lmin (lns vs)))))) := h
    obtain ⟨a1, a2, a3⟩ := hA.cons
    show rRn bs (hds vs) vs.length n = _
    unfold rRn
    rw [rBd_r (rB_at hA (by omega) (by omega))]
    show rBd (rNar bs (n + 1) (hds vs).length) _ = _
    have hN := rNar_at a3
    rw [← u1] at hN
    rw [rBd_r hN]
    show (match sprA (hds vs) (lns vs) (hds vs).length 0 vs.length [] with | some vs' => Sum.inr (vs', n + 1 + nlen (lns vs) - 1) | none => Sum.inl (2, n)) = _
    rw [u2]
    show Sum.inr (vs, n + 1 + nlen (lns vs) - 1) = Sum.inr (vs, n + (eNar (lns vs)).length)
    rw [eNar_len, show n + 1 + nlen (lns vs) - 1 = n + nlen (lns vs) by omega]
  · have hA : AtB bs n (ly (bl ((arr vs).1.length - 1)) (vs.map fun v => rk (arr vs).1 v)) := h
    have hx : ∀ x ∈ (vs.map fun v => rk (arr vs).1 v), x < 2 ^ bl ((arr vs).1.length - 1) := by
      intro x hx
      obtain ⟨v, hv, rfl⟩ := List.mem_map.mp hx
      have h1 := (un5 hv).1
      have h2 : (arr vs).1.length - 1 < 2 ^ bl ((arr vs).1.length - 1) := bl_le.mp (Nat.le_refl _)
      omega
    have e1 := rL_at hA (show (vs.map fun v => rk (arr vs).1 v).length = vs.length by simp)
    have e2 := rX_at hA (show (vs.map fun v => rk (arr vs).1 v).length = vs.length by simp) hx
    show rLk bs (arr vs).1 vs.length n = _
    unfold rLk
    rw [rBd_r e1, e2, if_pos, List.map_map, mapid]
    · show Sum.inr (vs, n + lay vs.length (bl ((arr vs).1.length - 1))) = Sum.inr (vs, n + (eRnk vs).length)
      rw [eRnk_len]
    · intro v hv
      exact (un5 hv).2
    · rw [List.all_map, List.all_eq_true]
      intro v hv
      exact decide_eq_true (un5 hv).1
  · have h1 : 1 < dv vs := of_decide_eq_true hc
    have e : trn vs 6 = vs.map (fun v => v / lN (dv vs)) := by
      show shr vs = _
      unfold shr
      rw [if_neg (by omega)]
    rw [e]
    show Sum.inr ((vs.map (fun v => v / lN (dv vs))).map (fun v => v * lN (dv vs)), n) = Sum.inr (vs, n + 0)
    rw [List.map_map, mapid, Nat.add_zero]
    intro v hv
    exact un6 h1 hv
