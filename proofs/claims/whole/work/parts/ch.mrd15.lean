/-! the model reads: a contract for every turn -/
theorem wp_X12_readBefore {d t N sl : Nat} {hp : Nat → MC} {Q : Option Value → MH → Prop} {c : Nat → Int32} {b : Int64} {bs : List Nat} {n m wk dd tn : Nat} {mn : Nat → Int32} {sh : Nat → Int64} (h3 : 3 ≤ tn) (h6 : tn ≤ 6) (hM : MR hp t c b bs n none) (hm : m ≤ 32) (hd : dd ≤ 2) (hwk : c 38 = nI wk) (hn : hp (t + 25) = .inl (.int, 4, .inl mn)) (hmd : mn dd = nI m) (hsh : hp (t + 26) = .inl (.long, 4, .inr (.inl sh))) (hno : ∀ hp' c' n' x, rHd bs tn m n = .inl x → MR hp' t c' b bs n' (some x) → AgL c c' → On t [0, 25, 26] hp hp' → Q none (N, sl, hp')) (hyes : ∀ hp' c' k s n' (mn' : Nat → Int32) (sh' : Nat → Int64), rHd bs tn m n = .inr (k, s, n') → k ≤ 32 → MR hp' t c' b bs n' none → c' 38 = nI (wk + m + (if tn = 4 then k else 0)) → AgL c c' → On t [0, 25, 26] hp hp' → hp' (t + 25) = .inl (.int, 4, .inl mn') → mn' (dd + 1) = nI k → (∀ j, j ≤ dd → mn' j = mn j) → hp' (t + 26) = .inl (.long, 4, .inr (.inl sh')) → (tn = 6 → sh' dd = lN s) → (∀ j, ¬ j = dd → sh' j = sh j) → Q none (N, sl, hp')) : mj_wp (d + 4) id_X12_readBefore [.ref t, .int (nI tn), .int (nI dd)] (N, sl, hp) Q := by
  have h : tn = 3 ∨ tn = 4 ∨ tn = 5 ∨ tn = 6 := by omega
  rcases h with rfl | rfl | rfl | rfl
  · exact wp_X12_readBefore3 (d := d + 3) hM hm hd hwk hn hmd fun hp' c' h1 h2 h3 h4 h5 => hyes hp' c' m 0 n _ sh rfl hm h1 h2 h3 (h4.mono (by decide)) h5 pk_us (fun j hj => pk_un (by omega)) ((h4.at (k := 26) (by decide)).trans hsh) (fun h => absurd h (by decide)) (fun j _ => rfl)
  · exact wp_X12_readBefore4 (d := d + 1) hM hm hd hwk hn hmd (fun hp' c' n' x h1 h2 h3 h4 => hno hp' c' n' x h1 h2 h3 (h4.mono (by decide))) fun hp' c' k n' h0 hk1 hk2 h1 h2 h3 h4 h5 => hyes hp' c' k 0 n' _ sh h0 (by omega) h1 h2 h3 (h4.mono (by decide)) h5 pk_us (fun j hj => (pk_un (by omega)).trans (pk_un (by omega))) ((h4.at (k := 26) (by decide)).trans hsh) (fun h => absurd h (by decide)) (fun j _ => rfl)
  · exact wp_X12_readBefore5 (d := d + 1) hM hm hd hwk hn hmd (fun hp' c' n' x h1 h2 h3 h4 => hno hp' c' n' x h1 h2 h3 (h4.mono (by decide))) fun hp' c' k n' h0 hk1 hk2 h1 h2 h3 h4 h5 => hyes hp' c' k 0 n' _ sh h0 (by omega) h1 h2 h3 (h4.mono (by decide)) h5 pk_us (fun j hj => (pk_un (by omega)).trans (pk_un (by omega))) ((h4.at (k := 26) (by decide)).trans hsh) (fun h => absurd h (by decide)) (fun j _ => rfl)
  · exact wp_X12_readBefore6 (d := d) hM hm hd hwk hn hmd hsh hno fun hp' c' v n' h0 h1 h2 h3 h4 h5 h6 => hyes hp' c' m v n' _ _ h0 hm h1 h2 h3 h4 h5 pk_us (fun j hj => pk_un (by omega)) h6 (fun _ => pk_uLs) (fun j hj => pk_uLn hj)
theorem wp_X12_readLeaf {d t N sl : Nat} {hp : Nat → MC} {Q : Option Value → MH → Prop} {c : Nat → Int32} {b : Int64} {bs : List Nat} {n m wk tn : Nat} {f ly sp : Nat → Int64} {g : Nat → Int32} (hN : t + 32 ≤ N) (h3 : tn < 3) (hM : MR hp t c b bs n none) (hm : m ≤ 32) (hwk : c 38 = nI wk) (hF : hp (t + 28) = .inl (.long, 32, .inr (.inl f))) (hY : hp (t + 27) = .inl (.long, 32, .inr (.inl ly))) (hP : hp (t + 29) = .inl (.long, 32, .inr (.inl sp))) (hG : hp (t + 30) = .inl (.boolean, 32, .inl g)) (hno : ∀ hp' c' n' x, rLf bs tn m n = .inl x → MR hp' t c' b bs n' (some x) → AgL c c' → On t [0, 27, 28, 29, 30] hp hp' → Q none (N, sl, hp')) (hyes : ∀ hp' c' l kk n' (f' ly' sp' : Nat → Int64), rLf bs tn m n = .inr (l, kk, n') → MR hp' t c' b bs n' none → c' 38 = nI (wk + m + kk) → AgL c c' → On t [0, 27, 28, 29, 30] hp hp' → hp' (t + 28) = .inl (.long, 32, .inr (.inl f')) → l.length = m → (∀ j, j < m → f' j = l.getD j 0) → hp' (t + 27) = .inl (.long, 32, .inr (.inl ly')) → hp' (t + 29) = .inl (.long, 32, .inr (.inl sp')) → Q none (N, sl, hp')) : mj_wp (d + 5) id_X12_readLeaf [.ref t, .int (nI tn), .int (nI m)] (N, sl, hp) Q := by
  have h : tn = 0 ∨ tn = 1 ∨ tn = 2 := by omega
  rcases h with rfl | rfl | rfl
  · refine mj_wp.kq (wp_X12_readLeaf0 (d := d + 2) hM hm hwk hF (fun hp' c' n' x q h1 h2 h3 _ => hno hp' c' n' x ?_ h1 h2 (h3.mono (by decide))) (fun hp' c' l n' f' q h1 h2 h3 h4 h5 h6 h7 hK => ?_))
    · show rBd (rPla bs n m) _ = _
      rw [q]; rfl
    · obtain ⟨ly', hY'⟩ := hK.l (show t + 27 ≤ N by omega) hY
      obtain ⟨sp', hP'⟩ := hK.l (show t + 29 ≤ N by omega) hP
      refine hyes hp' c' l 0 n' f' ly' sp' ?_ h1 h2 h3 (h4.mono (by decide)) h5 h6 h7 hY' hP'
      show rBd (rPla bs n m) _ = _
      rw [q]; rfl
  · refine mj_wp.kq (wp_X12_readLeaf1 (d := d) hM hm hwk hF hY hP hG (fun hp' c' n' x q h1 h2 h3 _ => hno hp' c' n' x ?_ h1 h2 h3) (fun hp' c' l n' f' q h1 h2 h3 h4 h5 h6 h7 hK => ?_))
    · show rBd (rNar bs n m) _ = _
      rw [q]; rfl
    · obtain ⟨ly', hY'⟩ := hK.l (show t + 27 ≤ N by omega) hY
      obtain ⟨sp', hP'⟩ := hK.l (show t + 29 ≤ N by omega) hP
      refine hyes hp' c' l 0 n' f' ly' sp' ?_ h1 h2 h3 h4 h5 h6 h7 hY' hP'
      show rBd (rNar bs n m) _ = _
      rw [q]; rfl
  · refine mj_wp.kq (wp_X12_readLeaf2 (d := d) hM hm hwk hF hY hP hG (fun hp' c' n' x q h1 h2 h3 _ => hno hp' c' n' x q h1 h2 h3) (fun hp' c' l kk n' f' q h1 h2 h3 h4 h5 h6 h7 hK => ?_))
    obtain ⟨ly', hY'⟩ := hK.l (show t + 27 ≤ N by omega) hY
    obtain ⟨sp', hP'⟩ := hK.l (show t + 29 ≤ N by omega) hP
    exact hyes hp' c' l kk n' f' ly' sp' q h1 h2 h3 h4 h5 h6 h7 hY' hP'
theorem wp_X12_readBehind {d t N sl : Nat} {hp : Nat → MC} {Q : Option Value → MH → Prop} {c : Nat → Int32} {b : Int64} {bs : List Nat} {n dd : Nat} {h : N3} {vs : List Int64} {mn : Nat → Int32} {f ly sp sh : Nat → Int64} (hN : t + 32 ≤ N) (h3 : 3 ≤ h.1) (h6 : h.1 ≤ 6) (hM : MR hp t c b bs n none) (hm : h.2.1 ≤ 32) (hvl : vs.length ≤ 32) (h45 : h.1 = 4 ∨ h.1 = 5 → 0 < vs.length) (h36 : h.1 = 3 ∨ h.1 = 6 → vs.length = h.2.1) (hd : dd ≤ 2) (hn : hp (t + 25) = .inl (.int, 4, .inl mn)) (hmd : mn dd = nI h.2.1) (hmk : mn (dd + 1) = nI vs.length) (hH : hp (t + 26) = .inl (.long, 4, .inr (.inl sh))) (hg : h.1 = 6 → sh dd = lN h.2.2) (hF : hp (t + 28) = .inl (.long, 32, .inr (.inl f))) (hf : ∀ j, j < vs.length → f j = vs.getD j 0) (hY : hp (t + 27) = .inl (.long, 32, .inr (.inl ly))) (hP : hp (t + 29) = .inl (.long, 32, .inr (.inl sp))) (hno : ∀ hp' c' n' x, rUn bs h vs n = .inl x → MR hp' t c' b bs n' (some x) → Ag c c' → On t [0, 27, 28, 29] hp hp' → Q none (N, sl, hp')) (hyes : ∀ hp' c' l n' (f' ly' sp' : Nat → Int64), rUn bs h vs n = .inr (l, n') → MR hp' t c' b bs n' none → Ag c c' → On t [0, 27, 28, 29] hp hp' → hp' (t + 28) = .inl (.long, 32, .inr (.inl f')) → l.length = h.2.1 → (∀ j, j < l.length → f' j = l.getD j 0) → hp' (t + 27) = .inl (.long, 32, .inr (.inl ly')) → hp' (t + 29) = .inl (.long, 32, .inr (.inl sp')) → Q none (N, sl, hp')) : mj_wp (d + 5) id_X12_readBehind [.ref t, .int (nI h.1), .int (nI dd)] (N, sl, hp) Q := by
  obtain ⟨tn, m, s⟩ := h
  have hh : tn = 3 ∨ tn = 4 ∨ tn = 5 ∨ tn = 6 := by
    have h3 : 3 ≤ tn := h3
    have h6 : tn ≤ 6 := h6
    omega
  rcases hh with rfl | rfl | rfl | rfl
  · have ev : vs.length = m := h36 (Or.inl rfl)
    refine mj_wp.kq (wp_X12_readBehind3 (d := d + 4) (s := s) hM hm hd ev hn hmd hF (fun j hj => hf j (by omega)) (fun hp' l f' q h1 h2 h3 h4 h5 hK => ?_))
    obtain ⟨ly', hY'⟩ := hK.l (show t + 27 ≤ N by omega) hY
    obtain ⟨sp', hP'⟩ := hK.l (show t + 29 ≤ N by omega) hP
    exact hyes hp' c l n f' ly' sp' q h1 Ag.rf h2 h3 h4 (fun j hj => h5 j (by omega)) hY' hP'
  · refine mj_wp.kq (wp_X12_readBehind4 (d := d) (s := s) hM hm hd rfl (h45 (Or.inl rfl)) hvl hn hmd hmk hF hf hY hP (fun hp' c' n' x q h1 h2 h3 _ => hno hp' c' n' x q h1 h2 h3) (fun hp' c' l n' f' q h1 h2 h3 h4 h5 h6 hK => ?_))
    obtain ⟨ly', hY'⟩ := hK.l (show t + 27 ≤ N by omega) hY
    obtain ⟨sp', hP'⟩ := hK.l (show t + 29 ≤ N by omega) hP
    exact hyes hp' c' l n' f' ly' sp' q h1 h2 h3 h4 h5 (fun j hj => h6 j (by omega)) hY' hP'
  · refine mj_wp.kq (wp_X12_readBehind5 (d := d + 2) (s := s) hM hm hd rfl (h45 (Or.inr rfl)) hvl hn hmd hmk hF hf hY hP (fun hp' c' n' x q h1 h2 h3 _ => hno hp' c' n' x q h1 h2 h3) (fun hp' c' l n' f' q h1 h2 h3 h4 h5 h6 hK => ?_))
    obtain ⟨ly', hY'⟩ := hK.l (show t + 27 ≤ N by omega) hY
    obtain ⟨sp', hP'⟩ := hK.l (show t + 29 ≤ N by omega) hP
    exact hyes hp' c' l n' f' ly' sp' q h1 h2 h3 h4 h5 (fun j hj => h6 j (by omega)) hY' hP'
  · have ev : vs.length = m := h36 (Or.inr rfl)
    refine mj_wp.kq (wp_X12_readBehind6 (d := d + 4) (s := s) hM hm hd ev hn hmd hH (hg rfl) hF (fun j hj => hf j (by omega)) (fun hp' l f' q h1 h2 h3 h4 h5 hK => ?_))
    obtain ⟨ly', hY'⟩ := hK.l (show t + 27 ≤ N by omega) hY
    obtain ⟨sp', hP'⟩ := hK.l (show t + 29 ≤ N by omega) hP
    exact hyes hp' c l n f' ly' sp' q h1 Ag.rf h2 h3 h4 (fun j hj => h5 j (by omega)) hY' hP'
