/-! what is written is read: the patched row -/
def pl (s : PS) (vs : List Int64) (i : Nat) : Nat → List (Nat × Int64)
  | 0 => []
  | k + 1 => (if cov s (vs.getD i 0) = true then [] else [(i, vs.getD i 0)]) ++ pl s vs (i + 1) k
def pS (s : PS) (vs : List Int64) (i : Nat) : Nat → List Nat
  | 0 => []
  | k + 1 => (if cov s (vs.getD i 0) = true then [] else i :: vb (uN (zz (vs.getD i 0)))) ++ pS s vs (i + 1) k
theorem pl_s {s : PS} {vs : List Int64} {i k : Nat} : pl s vs i (k + 1) = (if cov s (vs.getD i 0) = true then [] else [(i, vs.getD i 0)]) ++ pl s vs (i + 1) k := rfl
theorem pS_s {s : PS} {vs : List Int64} {i k : Nat} : pS s vs i (k + 1) = (if cov s (vs.getD i 0) = true then [] else i :: vb (uN (zz (vs.getD i 0)))) ++ pS s vs (i + 1) k := rfl
theorem pchs_pS {s : PS} {vs : List Int64} : ∀ k i, pchs s vs (i + k) = pchs s vs i ++ pS s vs i k
  | 0, i => by rw [Nat.add_zero]; exact (List.append_nil _).symm
  | k + 1, i => by rw [pS_s, show i + (k + 1) = i + 1 + k by omega, pchs_pS k (i + 1), pchs_snoc, List.append_assoc]
theorem pl_len {s : PS} {vs : List Int64} : ∀ k i, i + k = vs.length → (pl s vs i k).length = ((vs.drop i).map (gL s.1 s.2.1 one)).sum
  | 0, i, h => by rw [List.drop_eq_nil_of_le (by omega)]; rfl
  | k + 1, i, h => by
    have hi : i < vs.length := by omega
    rw [pl_s, List.length_append, pl_len k (i + 1) (by omega), List.drop_eq_getElem_cons hi, List.map_cons, List.sum_cons]
    congr 1
    have e : vs.getD i 0 = vs[i] := by rw [List.getD_eq_getElem?_getD, List.getElem?_eq_getElem hi]; rfl
    rw [e]
    have e2 : cov s vs[i] = cv s.1 s.2.1 vs[i] := rfl
    unfold gL one
    rw [e2]
    split <;> rfl
theorem rPs_at {bs : List Nat} {s : PS} {vs : List Int64} {m : Nat} : ∀ (k i lo n : Nat), i + k = m → lo ≤ i → AtB bs n (pS s vs i k) → rPs bs m (pl s vs i k).length lo n = .inr (pl s vs i k, n + (pS s vs i k).length)
  | 0, i, lo, n, h, hlo, hA => rfl
  | k + 1, i, lo, n, h, hlo, hA => by
    rw [pS_s] at hA ⊢
    rw [pl_s]
    by_cases hc : cov s (vs.getD i 0) = true
    · rw [if_pos hc] at hA ⊢
      rw [if_pos hc]
      exact rPs_at k (i + 1) lo n (by omega) (by omega) hA
    · rw [if_neg hc] at hA ⊢
      rw [if_neg hc]
      obtain ⟨h1, h2⟩ := hA.app
      obtain ⟨-, -, h3⟩ := h1.cons
      have e1 := rB_at (lo := lo) (hi := m) (kd := 2) h1 hlo (by omega)
      have e2 := rV_at (uN_lt _) h3
      rw [List.length_cons, vb_len (uN_lt _)] at h2
      have e3 := rPs_at (s := s) (vs := vs) (m := m) k (i + 1) (i + 1) _ (by omega) (Nat.le_refl _) h2
      show rPs bs m ((pl s vs (i + 1) k).length + 1) lo n = _
      show rBd (rB bs n lo m 2) _ = _
      rw [rBd_r e1]
      show rBd (rV bs (n + 1)) _ = _
      rw [rBd_r e2]
      show rBd (rPs bs m (pl s vs (i + 1) k).length (i + 1) (n + 1 + vl _)) _ = _
      rw [show n + (vl (uN (zz (vs.getD i 0))) + 1) = n + 1 + vl (uN (zz (vs.getD i 0))) by omega] at e3
      rw [rBd_r e3, lN_uN, zs_zz]
      show Sum.inr (_, _) = Sum.inr (_, _)
      rw [List.length_append, List.length_cons, vb_len (uN_lt _)]
      congr 2
      omega
theorem sets_get {s : PS} {vs : List Int64} : ∀ (k i : Nat) (l : List Int64) (j : Nat), i + k ≤ l.length → j < l.length → (sets l (pl s vs i k)).getD j 0 = if i ≤ j ∧ j < i + k ∧ ¬ cov s (vs.getD j 0) = true then vs.getD j 0 else l.getD j 0
  | 0, i, l, j, h, hj => by
    rw [if_neg (by omega)]
    rfl
  | k + 1, i, l, j, h, hj => by
    rw [pl_s]
    by_cases hc : cov s (vs.getD i 0) = true
    · rw [if_pos hc]
      show (sets l (pl s vs (i + 1) k)).getD j 0 = _
      rw [sets_get k (i + 1) l j (by omega) hj]
      by_cases e : j = i
      · rw [if_neg (by omega), if_neg (fun q => q.2.2 (by rw [e]; exact hc))]
      · by_cases q : i + 1 ≤ j ∧ j < i + 1 + k ∧ ¬ cov s (vs.getD j 0) = true
        · rw [if_pos q, if_pos ⟨by omega, by omega, q.2.2⟩]
        · rw [if_neg q, if_neg (fun z => q ⟨by omega, by omega, z.2.2⟩)]
    · rw [if_neg hc]
      show (sets (l.set i (vs.getD i 0)) (pl s vs (i + 1) k)).getD j 0 = _
      rw [sets_get k (i + 1) _ j (by rw [List.length_set]; omega) (by rw [List.length_set]; omega)]
      have hset : (l.set i (vs.getD i 0)).getD j 0 = if i = j then vs.getD i 0 else l.getD j 0 := by
        rw [List.getD_eq_getElem?_getD, List.getElem?_set]
        by_cases e : i = j
        · rw [if_pos e, if_pos e, if_pos (by omega)]; rfl
        · rw [if_neg e, if_neg e, List.getD_eq_getElem?_getD]
      rw [hset]
      by_cases e : j = i
      · subst e
        rw [if_neg (by omega), if_pos rfl, if_pos ⟨by omega, by omega, hc⟩]
      · by_cases q : i + 1 ≤ j ∧ j < i + 1 + k ∧ ¬ cov s (vs.getD j 0) = true
        · rw [if_pos q, if_pos ⟨by omega, by omega, q.2.2⟩]
        · rw [if_neg q, if_neg (fun z => e z.symm), if_neg (fun z => q ⟨by omega, by omega, z.2.2⟩)]
theorem pout_le {vs : List Int64} {b : Int64} {w : Nat} : pout vs b w ≤ vs.length := by
  have h3 := sum_le_mul (l := vs.map (gL b w one)) (k := 1) (fun x hx => by
    obtain ⟨v, -, rfl⟩ := List.mem_map.mp hx
    unfold gL one
    split <;> omega)
  rw [List.length_map, Nat.mul_one] at h3
  exact h3
theorem rPat_at {bs : List Nat} {n : Nat} {vs : List Int64} (h0 : 0 < vs.length) (hm : vs.length ≤ 32) (h : AtB bs (n + 1) (vb (uN (zz (fit0 vs).1)) ++ ((fit0 vs).2.1 :: (fit0 vs).2.2.1 % 256 :: (pchs (fit0 vs) vs vs.length ++ ly (fit0 vs).2.1 (pxs (fit0 vs) vs))))) : rPat bs (n + 1) vs.length = .inr (vs, (fit0 vs).2.2.1, n + (ePat vs).length) := by
  obtain ⟨f1, f2, f3, f4, f5⟩ := fit0_is h0 hm
  have hpo := pout_le (vs := vs) (b := (fit0 vs).1) (w := (fit0 vs).2.1)
  generalize hs : fit0 vs = s at *
  have hk : s.2.2.1 % 256 = s.2.2.1 := Nat.mod_eq_of_lt (by omega)
  rw [hk] at h
  have hple : (pl s vs 0 vs.length).length = s.2.2.1 := by
    rw [pl_len vs.length 0 (by omega), f3]
    rfl
  obtain ⟨h1, h2⟩ := h.app
  rw [vb_len (uN_lt _)] at h2
  obtain ⟨-, -, h3⟩ := h2.cons
  obtain ⟨-, -, h4⟩ := h3.cons
  obtain ⟨h5, h6⟩ := h4.app
  have hpp : pchs s vs vs.length = pS s vs 0 vs.length := by
    have := pchs_pS (s := s) (vs := vs) vs.length 0
    rw [Nat.zero_add] at this
    rw [this]
    rfl
  rw [hpp] at h5 h6
  have e1 := rV_at (uN_lt _) h1
  have e2 := rB_at (lo := 0) (hi := 65) (kd := 2) h2 (Nat.zero_le _) (by omega)
  have e3 := rB_at (lo := 0) (hi := vs.length + 1) (kd := 2) h3 (Nat.zero_le _) (by omega)
  have e4 := rPs_at (m := vs.length) vs.length 0 0 _ (by omega) (Nat.le_refl _) h5
  rw [hple] at e4
  have hx : ∀ x ∈ pxs s vs, x < 2 ^ s.2.1 := by
    intro x hx
    obtain ⟨v, hv, rfl⟩ := List.mem_map.mp hx
    show (if cov s v = true then uN (v - s.1) else 0) < _
    split
    · rename_i hc
      have := Bool.and_eq_true_iff.mp hc
      exact bl_le.mp (of_decide_eq_true this.2)
    · exact Nat.two_pow_pos _
  have e5 := rL_at h6 (pxs_len (s := s) (vs := vs))
  have e6 := rX_at h6 (pxs_len (s := s) (vs := vs)) hx
  unfold rPat
  rw [rBd_r e1]
  show rBd (rB bs (n + 1 + vl (uN (zz s.1))) 0 65 2) _ = _
  rw [rBd_r e2]
  show rBd (rB bs (n + 1 + vl (uN (zz s.1)) + 1) 0 (vs.length + 1) 2) _ = _
  rw [rBd_r e3]
  show rBd (rPs bs vs.length s.2.2.1 0 (n + 1 + vl (uN (zz s.1)) + 1 + 1)) _ = _
  rw [rBd_r e4]
  show rBd (rL bs (n + 1 + vl (uN (zz s.1)) + 1 + 1 + (pS s vs 0 vs.length).length) vs.length s.2.1) _ = _
  rw [rBd_r e5]
  show Sum.inr (sets ((rX bs (n + 1 + vl (uN (zz s.1)) + 1 + 1 + (pS s vs 0 vs.length).length) vs.length s.2.1).map _) (pl s vs 0 vs.length), s.2.2.1, _) = _
  rw [e6, lN_uN, zs_zz]
  have hL : (ePat vs).length = 3 + vl (uN (zz s.1)) + (pS s vs 0 vs.length).length + lay vs.length s.2.1 := by
    unfold ePat ePatS
    rw [hs]
    simp only [List.length_append, List.length_cons, vb_len (uN_lt _), ly_len, pxs_len, hpp]
    omega
  congr 1
  refine Prod.ext ?_ (Prod.ext rfl ?_)
  · refine ext_getD (by rw [sets_len]; simp [pxs]) fun j hj => ?_
    have hj' : j < vs.length := by rw [sets_len] at hj; simpa [pxs] using hj
    show (sets ((pxs s vs).map fun x => s.1 + lN x) (pl s vs 0 vs.length)).getD j 0 = vs.getD j 0
    rw [sets_get vs.length 0 _ j (by simp [pxs]) (by simp [pxs]; exact hj')]
    by_cases hc : cov s (vs.getD j 0) = true
    · rw [if_neg (fun q => q.2.2 hc)]
      have e : ((pxs s vs).map fun x => s.1 + lN x).getD j 0 = s.1 + lN ((pxs s vs).getD j 0) := by
        rw [List.getD_eq_getElem?_getD, List.getElem?_map, List.getD_eq_getElem?_getD, List.getElem?_eq_getElem (by rw [pxs_len]; exact hj')]
        rfl
      rw [e, pxs_get hj', if_pos hc, lN_uN, sub_add64]
    · rw [if_pos ⟨Nat.zero_le _, by omega, hc⟩]
  · show n + 1 + vl (uN (zz s.1)) + 1 + 1 + (pS s vs 0 vs.length).length + lay vs.length s.2.1 = n + (ePat vs).length
    omega
/-- an innermost row is read as it was written -/
theorem rLf_at {bs : List Nat} {n t : Nat} {vs : List Int64} (ht : t < 3) (h0 : t = 2 → 0 < vs.length) (hm : vs.length ≤ 32) (h : AtB bs n (eLeaf vs t)) : bs.getD n 0 = t ∧ n < bs.length ∧ rLf bs t vs.length (n + 1) = .inr (vs, lfW vs t - vs.length, n + (eLeaf vs t).length) := by
  rcases (show t = 0 ∨ t = 1 ∨ t = 2 by omega) with rfl | rfl | rfl
  · have hA : AtB bs n (0 :: vs.flatMap lb) := h
    obtain ⟨a1, a2, a3⟩ := hA.cons
    refine ⟨a2, a1, ?_⟩
    show rBd (rPla bs (n + 1) vs.length) _ = _
    rw [rBd_r (rPla_at a3)]
    show Sum.inr (vs, 0, n + 1 + 8 * vs.length) = Sum.inr (vs, vs.length - vs.length, n + (ePla vs).length)
    rw [ePla_len, Nat.sub_self, Nat.add_assoc]
  · have hA : AtB bs n (1 :: (vb (uN (zz (lmin vs))) ++ (wid vs :: ly (wid vs) (vs.map fun v => uN (v - lmin vs))))) := h
    obtain ⟨a1, a2, a3⟩ := hA.cons
    refine ⟨a2, a1, ?_⟩
    show rBd (rNar bs (n + 1) vs.length) _ = _
    rw [rBd_r (rNar_at a3)]
    show Sum.inr (vs, 0, n + 1 + nlen vs - 1) = Sum.inr (vs, vs.length - vs.length, n + (eNar vs).length)
    rw [eNar_len, Nat.sub_self, show n + 1 + nlen vs - 1 = n + nlen vs by omega]
  · have hA : AtB bs n (2 :: (vb (uN (zz (fit0 vs).1)) ++ ((fit0 vs).2.1 :: (fit0 vs).2.2.1 % 256 :: (pchs (fit0 vs) vs vs.length ++ ly (fit0 vs).2.1 (pxs (fit0 vs) vs))))) := h
    obtain ⟨a1, a2, a3⟩ := hA.cons
    refine ⟨a2, a1, ?_⟩
    show rPat bs (n + 1) vs.length = _
    rw [rPat_at (h0 rfl) hm a3]
    show Sum.inr (vs, (fit0 vs).2.2.1, n + (ePat vs).length) = Sum.inr (vs, vs.length + (fit0 vs).2.2.1 - vs.length, n + (ePat vs).length)
    rw [Nat.add_sub_cancel_left]
