/-! what is written is read: all of it -/
theorem rUs_cons {bs : List Nat} {h : N3} {hs : List N3} : ∀ (j : Nat) (vs : List Int64) (n : Nat), rUs bs (h :: hs) (j + 1) vs n = rBd (rUs bs hs j vs n) fun r => rUn bs h r.1 r.2
  | 0, vs, n => by
    show rBd (rUn bs h vs n) (fun r => .inr (r.1, r.2)) = rUn bs h vs n
    cases rUn bs h vs n with
    | inl e => rfl
    | inr a => rfl
  | j + 1, vs, n => by
    show rBd (rUn bs (hs.getD j z3) vs n) (fun r => rUs bs (h :: hs) (j + 1) r.1 r.2) = rBd (rBd (rUn bs (hs.getD j z3) vs n) fun r => rUs bs hs j r.1 r.2) fun r => rUn bs h r.1 r.2
    cases rUn bs (hs.getD j z3) vs n with
    | inl e => rfl
    | inr a => exact rUs_cons j a.1 a.2
/-- a row's bytes are read as they were written -/
theorem row_at {bs : List Nat} : ∀ (k : Nat) (vs : List Int64) (ds : List Nat) (f n : Nat), WayQ can k vs ds → k < f → vs.length ≤ 32 → AtB bs n (eRow ds vs) → ∃ hs w n1 vL kx n2, rHs bs f vs.length n = .inr (hs, w, n1) ∧ hs.map (fun h => h.1) = ds ∧ rLf bs (hs.getD (hs.length - 1) z3).1 (hs.getD (hs.length - 1) z3).2.1 n1 = .inr (vL, kx, n2) ∧ rUs bs hs (hs.length - 1) vL n2 = .inr (vs, n + (eRow ds vs).length) ∧ w + kx = wwork ds vs
  | 0, _, [], f, n, h, _, _, _ => h.elim
  | k + 1, _, [], f, n, h, _, _, _ => h.elim
  | 0, vs, [t], f, n, h, hf, hm, hA => row_leaf h.1 h.2 hf hm hA
  | k + 1, vs, [t], f, n, h, hf, hm, hA => row_leaf h.1 h.2 (by omega) hm hA
  | 0, _, _ :: _ :: _, f, n, h, _, _, _ => h.elim
  | k + 1, vs, t :: a :: r, f, n, h, hf, hm, hA => by
    obtain ⟨f, rfl⟩ : ∃ g, f = g + 1 := ⟨f - 1, by omega⟩
    obtain ⟨ht, hc, hw⟩ := h
    have hA' : AtB bs n (t :: (eHead vs t ++ (eRow (a :: r) (trn vs t) ++ eTail vs t))) := hA
    obtain ⟨b1, b2, b3⟩ := hA'.cons
    obtain ⟨c1, c2⟩ := b3.app
    obtain ⟨d1, d2⟩ := c2.app
    obtain ⟨hs, w, n1, vL, kx, n2, i1, i2, i3, i4, i5⟩ := row_at k (trn vs t) (a :: r) f _ hw (by omega) (Nat.le_trans (trn_len ht) hm) d1
    have hl1 : 1 ≤ hs.length := by
      have := congrArg List.length i2
      simp at this
      omega
    have e1 := rHd_at ht hc hm c1
    have e2 := rUn_at ht hc hm d2
    refine ⟨(t, vs.length, if t = 6 then dv vs else 0) :: hs, vs.length + (if t = 4 then (trn vs t).length else 0) + w, n1, vL, kx, n2, ?_, by rw [List.map_cons, i2], ?_, ?_, ?_⟩
    · show rBd (rB bs n 0 7 3) _ = _
      rw [rBd_r (rB_at hA' (by omega) (by omega))]
      show (if t < 3 then _ else _) = _
      rw [if_neg (by omega)]
      show rBd (rHd bs t vs.length (n + 1)) _ = _
      rw [rBd_r e1]
      show rBd (rHs bs f (trn vs t).length (n + 1 + (eHead vs t).length)) _ = _
      rw [rBd_r i1]
    · have e3 : ((t, vs.length, if t = 6 then dv vs else 0) :: hs).getD (((t, vs.length, if t = 6 then dv vs else 0) :: hs).length - 1) z3 = hs.getD (hs.length - 1) z3 := by
        rw [List.length_cons, Nat.add_sub_cancel, show hs.length = hs.length - 1 + 1 by omega]
        rfl
      rw [e3]
      exact i3
    · rw [List.length_cons, Nat.add_sub_cancel, show hs.length = hs.length - 1 + 1 by omega, rUs_cons, rBd_r i4]
      show rUn bs _ (trn vs t) _ = _
      rw [e2]
      show _ = Sum.inr (vs, n + (t :: (eHead vs t ++ (eRow (a :: r) (trn vs t) ++ eTail vs t))).length)
      simp only [List.length_cons, List.length_append]
      congr 2
      omega
    · show _ = vs.length + rns vs t + wwork (a :: r) (trn vs t)
      rw [← i5]
      unfold rns
      split
      · rename_i q
        subst q
        omega
      · omega
where
  row_leaf {bs : List Nat} {vs : List Int64} {t f n k : Nat} (h1 : t < 3) (h2 : t = 2 → 0 < vs.length) (hf : k < f) (hm : vs.length ≤ 32) (hA : AtB bs n (eRow [t] vs)) : ∃ hs w n1 vL kx n2, rHs bs f vs.length n = .inr (hs, w, n1) ∧ hs.map (fun h => h.1) = [t] ∧ rLf bs (hs.getD (hs.length - 1) z3).1 (hs.getD (hs.length - 1) z3).2.1 n1 = .inr (vL, kx, n2) ∧ rUs bs hs (hs.length - 1) vL n2 = .inr (vs, n + (eRow [t] vs).length) ∧ w + kx = wwork [t] vs := by
    obtain ⟨f, rfl⟩ : ∃ g, f = g + 1 := ⟨f - 1, by omega⟩
    have hA' : AtB bs n (eLeaf vs t) := hA
    obtain ⟨a1, a2, a3⟩ := rLf_at h1 h2 hm hA'
    refine ⟨[(t, vs.length, 0)], vs.length, n + 1, vs, lfW vs t - vs.length, n + (eLeaf vs t).length, ?_, rfl, a3, rfl, ?_⟩
    · show rBd (rB bs n 0 7 3) _ = _
      have e : rB bs n 0 7 3 = .inr (t, n + 1) := by
        unfold rB
        rw [if_pos a2, a1, if_neg (by omega)]
      rw [rBd_r e]
      show (if t < 3 then _ else _) = _
      rw [if_pos h1]
    · show vs.length + (lfW vs t - vs.length) = lfW vs t
      unfold lfW
      split <;> omega
/-! the frame -/
def msk (P : List (Option Int64)) : List (Option Int64) := P.map (fun o => if o = none then none else some 0)
theorem msk_len {P : List (Option Int64)} : (msk P).length = P.length := by simp [msk]
theorem msk_get {P : List (Option Int64)} {i : Nat} (h : i < P.length) : (msk P).getD i none = if P.getD i none = none then none else some 0 := by
  unfold msk
  rw [List.getD_eq_getElem?_getD, List.getElem?_map, List.getD_eq_getElem?_getD, List.getElem?_eq_getElem h]
  rfl
theorem msk_pv {P : List (Option Int64)} : (pv (msk P)).length = (pv P).length := by
  induction P with
  | nil => rfl
  | cons a r ih =>
    cases a with
    | none => exact ih
    | some v =>
      show (0 :: pv (msk r)).length = (v :: pv r).length
      rw [List.length_cons, List.length_cons, ih]
theorem msk_take {P : List (Option Int64)} {j : Nat} : (msk P).take j = msk (P.take j) := by
  unfold msk
  rw [List.map_take]
theorem pv_all {P : List (Option Int64)} (h : ¬ (pv P).length < P.length) : ∀ i, i < P.length → ¬ P.getD i none = none := by
  induction P with
  | nil => intro i hi; exact absurd hi (Nat.not_lt_zero i)
  | cons a r ih =>
    cases a with
    | none =>
      exfalso
      have h1 : (pv (none :: r)).length = (pv r).length := rfl
      have h2 := pv_len r
      rw [List.length_cons] at h
      omega
    | some v =>
      intro i hi
      cases i with
      | zero => exact fun q => by cases q
      | succ i =>
        refine ih ?_ i (by simpa using hi)
        have h1 : (pv (some v :: r)).length = (pv r).length + 1 := rfl
        rw [List.length_cons] at h
        omega
theorem rFr_at {bs : List Nat} {P : List (Option Int64)} (h0 : 0 < P.length) (hP : P.length ≤ 32) (h : AtB bs 0 (eFrm P)) : rFr bs = .inr (msk P, (eFrm P).length) := by
  unfold eFrm at h ⊢
  obtain ⟨-, -, a1⟩ := h.cons
  obtain ⟨-, -, a2⟩ := a1.cons
  unfold rFr
  rw [rBd_r (rB_at h (by omega) (by omega))]
  show rBd (rB bs (0 + 1) 1 33 2) _ = _
  rw [rBd_r (rB_at a1 (by omega) (by omega))]
  show rBd (rB bs (0 + 1 + 1) 0 2 2) _ = _
  by_cases hg : (pv P).length < P.length
  · rw [if_pos hg] at a2 ⊢
    obtain ⟨-, -, a3⟩ := a2.cons
    rw [rBd_r (rB_at a2 (by omega) (by omega))]
    show rBd (rL bs 3 (if 1 = 1 then P.length else 0) 1) _ = _
    rw [if_pos rfl, rBd_r (rL_at a3 gpx_len)]
    show Sum.inr (rGp bs 3 P.length 1, 3 + lay P.length 1) = _
    congr 1
    refine Prod.ext ?_ ?_
    · refine ext_getP (by rw [rGp_len, msk_len]) fun j hj => ?_
      rw [rGp_len] at hj
      obtain ⟨pre, post, p1, p2⟩ := a3
      have hr := ly_read (a := pre) (c := post) (xs := gpx P) (w := 1) (i := j) (by rw [gpx_len]; exact hj)
      rw [← p1, p2] at hr
      rw [rGp_get hj, hr, msk_get hj, gpx_get hj]
      by_cases q : P.getD j none = none
      · rw [if_pos q, if_pos q, if_pos ⟨rfl, rfl⟩]
      · rw [if_neg q, if_neg q, if_neg (fun z => absurd z.2 (by decide))]
    · simp only [List.length_cons, ly_len, gpx_len]
      omega
  · rw [if_neg hg] at a2 ⊢
    rw [rBd_r (rB_at a2 (by omega) (by omega))]
    have hl := a2.len
    have e : rL bs (0 + 1 + 1 + 1) (if (0 : Nat) = 1 then P.length else 0) 1 = .inr (0 + 1 + 1 + 1) := by
      unfold rL
      rw [if_neg (show ¬ (0 : Nat) = 1 by decide), show lay 0 1 = 0 from by decide, if_pos (by simp at hl; omega)]
    show rBd (rL bs (0 + 1 + 1 + 1) (if (0 : Nat) = 1 then P.length else 0) 1) _ = _
    rw [rBd_r e]
    show Sum.inr (rGp bs 3 P.length 0, 3) = _
    congr 1
    refine Prod.ext ?_ rfl
    refine ext_getP (by rw [rGp_len, msk_len]) fun j hj => ?_
    rw [rGp_len] at hj
    rw [rGp_get hj, msk_get hj, if_neg (fun z => absurd z.1 (by decide)), if_neg (pv_all hg j hj)]
theorem pv_app {a b : List (Option Int64)} : pv (a ++ b) = pv a ++ pv b := by
  unfold pv
  rw [List.filterMap_append]
theorem fl_msk {P : List (Option Int64)} {j : Nat} (hj : j < P.length) : fl (msk P) (pv P) j = P.getD j none := by
  unfold fl
  rw [msk_get hj, msk_take, msk_pv]
  cases ho : P.getD j none with
  | none => rw [if_pos rfl, if_pos rfl]
  | some v =>
    rw [if_neg (by simp)]
    congr 1
    have e : P = P.take j ++ (P.getD j none :: P.drop (j + 1)) := by
      rw [show P.getD j none = P[j] by rw [List.getD_eq_getElem?_getD, List.getElem?_eq_getElem hj]; rfl, ← List.drop_eq_getElem_cons hj, List.take_append_drop]
    have e2 : pv P = pv (P.take j) ++ (v :: pv (P.drop (j + 1))) := by
      rw [ho] at e
      have e3 := congrArg pv e
      rw [pv_app] at e3
      exact e3
    rw [e2, List.getD_eq_getElem?_getD, List.getElem?_append_right (Nat.le_refl _), Nat.sub_self]
    rfl
theorem pth_path {hs : List N3} : pth hs = wpath 0 (hs.map fun h => h.1) := by
  unfold pth wpath
  rw [List.foldl_map]
/-- what the best way writes is read as it was -/
theorem round_trip {P : List (Option Int64)} {dep : Nat} {ds : List Nat} (hd : dep ≤ 2) (h0 : 0 < P.length) (hP : P.length ≤ 32) (h : WayQ can dep (pv P) ds) : rd (enc P (wpath 0 ds)) = .inr (P, wpath 0 ds, wwork ds (pv P)) := by
  have hpv := pv_len P
  have he : enc P (wpath 0 ds) = eFrm P ++ (eRow ds (pv P) ++ [chk (encX P (wpath 0 ds))]) := by
    unfold enc
    rw [enc_row hd h, List.append_assoc]
  have hX : encX P (wpath 0 ds) = eFrm P ++ eRow ds (pv P) := enc_row hd h
  generalize hc : chk (encX P (wpath 0 ds)) = c at he
  rw [he]
  generalize hbs : eFrm P ++ (eRow ds (pv P) ++ [c]) = bs
  have hA1 : AtB bs 0 (eFrm P) := ⟨[], eRow ds (pv P) ++ [c], by rw [← hbs]; rfl, rfl⟩
  have hA2 : AtB bs (eFrm P).length (eRow ds (pv P)) := ⟨eFrm P, [c], hbs.symm, rfl⟩
  have hA3 : AtB bs ((eFrm P).length + (eRow ds (pv P)).length) [c] := ⟨eFrm P ++ eRow ds (pv P), [], by rw [← hbs, List.append_nil, List.append_assoc], by rw [List.length_append]⟩
  have hlen : bs.length = (eFrm P).length + (eRow ds (pv P)).length + 1 := by
    rw [← hbs]
    simp only [List.length_append, List.length_cons, List.length_nil]
    omega
  obtain ⟨hs, w, n1, vL, kx, n2, i1, i2, i3, i4, i5⟩ := row_at dep (pv P) ds 3 _ h (by omega) (by omega) hA2
  have htk : bs.take ((eFrm P).length + (eRow ds (pv P)).length) = encX P (wpath 0 ds) := by
    rw [hX, ← hbs, ← List.append_assoc, ← List.length_append]
    exact List.take_left
  unfold rd
  rw [rBd_r (rFr_at h0 hP hA1)]
  show rBd (rHs bs 3 (pv (msk P)).length (eFrm P).length) _ = _
  rw [msk_pv, rBd_r i1]
  show rBd (rLf bs (hs.getD (hs.length - 1) z3).1 (hs.getD (hs.length - 1) z3).2.1 n1) _ = _
  rw [rBd_r i3]
  show rBd (rUs bs hs (hs.length - 1) vL n2) _ = _
  rw [rBd_r i4]
  have e5 : rCk bs ((eFrm P).length + (eRow ds (pv P)).length) = .inr ((eFrm P).length + (eRow ds (pv P)).length + 1) := by
    unfold rCk
    rw [htk, hc, rBd_r (rB_at hA3 (Nat.le_refl _) (by omega)), if_neg (by rw [hlen]; show ¬ (eFrm P).length + (eRow ds (pv P)).length + 1 < _; omega)]
  show rBd (rCk bs ((eFrm P).length + (eRow ds (pv P)).length)) _ = _
  rw [rBd_r e5]
  show Sum.inr ((List.range (msk P).length).map (fl (msk P) (pv P)), pth hs, w + kx) = _
  rw [pth_path, i2, i5]
  congr 1
  refine Prod.ext ?_ rfl
  refine ext_getP (by simp [msk_len]) fun j hj => ?_
  have hj' : j < P.length := by simpa [msk_len] using hj
  show ((List.range (msk P).length).map (fl (msk P) (pv P))).getD j none = _
  rw [List.getD_eq_getElem?_getD, List.getElem?_map, List.getElem?_range (by rw [msk_len]; exact hj')]
  exact fl_msk hj'
theorem best_rd {P : List (Option Int64)} {dep lim : Nat} {x : N3} (hd : dep ≤ 2) (hl : 32 ≤ lim) (h0 : 0 < P.length) (hP : P.length ≤ 32) (h : IsBest (wyQ can dep (pv P) 0 (arnd P) 0) lim x) : rd (enc P x.2.2) = .inr (P, x.2.2, x.2.1) := by
  obtain ⟨-, -, -, -, ds, d1, d2, d3⟩ := best_ok hd hl hP h
  rw [d2, d3]
  exact round_trip hd h0 hP d1
