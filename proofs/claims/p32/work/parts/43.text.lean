/-! the text, places -/
theorem gD_mem {x : List Int32} {n : Nat} {d : Int32} (h : n < x.length) : x.getD n d ∈ x := by
  have : x.getD n d = x[n] := by simp [List.getD, h]
  rw [this]
  exact List.getElem_mem h
theorem gD_left {x y : List Int32} {n : Nat} {d : Int32} (h : n < x.length) : (x ++ y).getD n d = x.getD n d := by
  simp [List.getD, List.getElem?_append_left h]
theorem tab_drop {n k : Nat} (g : Nat → Int32) (h : k < n) : (tab n g).drop k = g k :: (tab n g).drop (k + 1) := by
  rw [List.drop_eq_getElem_cons (by rw [tab_len]; exact h)]
  congr 1
  simp [tab]
theorem tab_mem {n : Nat} {g : Nat → Int32} {x : Int32} : x ∈ tab n g ↔ ∃ i, i < n ∧ g i = x := by simp [tab]
theorem tab_split {n p : Nat} (g : Nat → Int32) (h : p < n) : tab n g = tab p g ++ g p :: (tab n g).drop (p + 1) := by
  rw [← tab_drop g h]
  have e : tab p g = (tab n g).take p := by
    apply List.ext_getElem (by simp [tab_len]; omega)
    intro i h1 h2
    simp [tab]
  rw [e, List.take_append_drop]
theorem mCnt_len (T : sM) : ∀ k, ((tab k (T.2 7)).filter (isT T)).length = mCnt T k := by
  intro k
  induction k with
  | zero => rfl
  | succ k ih =>
    rw [tab_s, List.filter_append, List.length_append, ih, mCnt_s]
    by_cases h : T.2 5 (tn (T.2 7 k)) = 0
    · rw [if_pos h, List.filter_cons_of_neg (by simp [isT, h])]; rfl
    · rw [if_neg h, List.filter_cons_of_pos (by simp [isT, h])]; rfl
theorem txT_len (T : sM) : (txT T).length = mCnt T (T.1 8) := mCnt_len T _
theorem mCnt_le (T : sM) : ∀ k, mCnt T k ≤ k := by
  intro k
  induction k with
  | zero => exact Nat.le_refl 0
  | succ k ih => rw [mCnt_s]; split <;> omega
theorem txF_drop (T : sM) : ∀ fu k lf, T.1 8 < k + fu → k ≤ T.1 8 → txF T fu k lf = (((tab (T.1 8) (T.2 7)).drop k).filter (isT T)).getD lf (-1) := by
  intro fu
  induction fu with
  | zero => intro k lf h1 h2; omega
  | succ fu ih =>
    intro k lf h1 h2
    rw [txF_s]
    by_cases hk : k < T.1 8
    · rw [if_pos hk, tab_drop _ hk]
      by_cases h : T.2 5 (tn (T.2 7 k)) = 0
      · rw [if_pos h, List.filter_cons_of_neg (by simp [isT, h])]
        exact ih (k + 1) lf (by omega) (by omega)
      · rw [if_neg h, List.filter_cons_of_pos (by simp [isT, h])]
        cases lf with
        | zero => rfl
        | succ lf => rw [if_neg (Nat.succ_ne_zero lf), Nat.add_sub_cancel]; exact ih (k + 1) lf (by omega) (by omega)
    · rw [if_neg hk, List.drop_eq_nil_of_le (by rw [tab_len]; omega)]
      rfl
theorem mTxt_rAt (T : sM) (x : Int32) : mTxt T x = rAt (txT T) x := by
  rw [mTxt]
  by_cases h : x < 0
  · rw [if_pos h, rAt_out (Or.inl h)]
  · rw [if_neg h]
    obtain ⟨n, hn, rfl⟩ := nI_of h
    rw [tn_n hn, rAt_n hn, txF_drop T _ 0 n (by omega) (Nat.zero_le _), List.drop_zero]
    rfl
theorem txT_mem {k : Nat} {T : sM} (h : JM k T) {x : Int32} (hx : x ∈ txT T) : ∃ i, i < T.1 8 ∧ T.2 7 i = x ∧ T.2 5 (tn x) = 1 ∧ x = nI (tn x) ∧ tn x < T.1 1 := by
  obtain ⟨h1, h2⟩ := List.mem_filter.mp hx
  obtain ⟨i, hi, e⟩ := tab_mem.mp h1
  obtain ⟨hI, j1, -⟩ := h
  have h3 := hI.2.2.2.2.2.2.2.1 i hi
  rw [e] at h3
  refine ⟨i, hi, e, ?_, h3⟩
  rcases j1.1 (tn x) with h4 | h4
  · simp [isT, h4] at h2
  · exact h4
theorem tx_in {k : Nat} {T : sM} (h : JM k T) {n : Nat} (hn : n < (txT T).length) : ∃ m, m < T.1 1 ∧ rAt (txT T) (nI n) = nI m ∧ T.2 5 m = 1 := by
  have hL := h.1.2.1
  have h1 := txT_len T
  have h2 := mCnt_le T (T.1 8)
  rw [rAt_lt (by omega) hn]
  have hm : (txT T).getD n 0 ∈ txT T := gD_mem hn
  obtain ⟨i, hi, e, h3, h4, h5⟩ := txT_mem h hm
  exact ⟨_, h5, h4, h3⟩
theorem tx_cd {k : Nat} {T : sM} (h : JM k T) (n : Int32) : tIx n (nI (txT T).length) = if mTxt T n = -1 then 1 else 0 := by
  have hL := h.1.2.1
  have hW := h.1.1
  have h1 := txT_len T
  have h2 := mCnt_le T (T.1 8)
  rw [ix_in (by omega), mTxt_rAt]
  by_cases hb : inB n 0 (nI (txT T).length - 1) = true
  · rw [if_pos hb]
    obtain ⟨e, hl⟩ := ix_n (by omega) hb
    obtain ⟨m, hm, e2, -⟩ := tx_in h hl
    rw [e, e2, if_neg (nI_m1ne (by omega))]
  · rw [if_neg hb, if_pos]
    by_cases h0 : n < 0
    · exact rAt_out (Or.inl h0)
    · refine rAt_out (Or.inr (Nat.not_lt.mp fun h3 => hb ?_))
      obtain ⟨j, hj, rfl⟩ := nI_of h0
      rw [tn_n hj] at h3
      rw [inB, decide_eq_true (Int32.not_lt.mp (nI_pos hj)), Bool.true_and, decide_eq_true_eq]
      obtain ⟨q, hq⟩ : ∃ q, (txT T).length = q + 1 := ⟨(txT T).length - 1, by omega⟩
      rw [hq, nI_pred, nI_leI hj (by omega)]
      omega
theorem wordAt_cd {k : Nat} {S : sC} {T : sM} (h : Rl k S T) (n : Int32) : mtTx T n = cd [1] (tText S n) := by
  rw [tText, h.2.1.2.2.2.2.2.2.2, tx_cd h.1, cd, mtTx]
  split
  · rfl
  · rfl
theorem opK_wordAt_ok : opK_wordAt Rl := fun k S T n _ h => by
  refine ⟨h.1.1, opq h (wordAt_cd h n) fun _ => ?_⟩
  rw [h.2.1.2.2.2.2.2.2.2, mTxt_rAt]
theorem opK_length_ok : opK_length Rl := fun k S T _ h => ⟨h.1.1, by rw [h.2.1.2.2.2.2.2.2.2, txT_len], Rl_0 h 0⟩
theorem rIdxF_none {x : List Int32} {v : Int32} (h : v ∉ x) : ∀ fu n, rIdxF x v fu n = -1 := by
  intro fu
  induction fu with
  | zero => intro n; rfl
  | succ fu ih =>
    intro n
    rw [rIdxF]
    by_cases h1 : n < x.length
    · rw [if_pos h1, if_neg, ih]
      intro h2
      exact h (h2 ▸ gD_mem h1)
    · rw [if_neg h1]
theorem rIdx_none {x : List Int32} {v : Int32} (h : v ∉ x) : rIdx x v = -1 := rIdxF_none h _ _
theorem rIdxF_app {a b : List Int32} {v : Int32} (h : v ∉ a) : ∀ fu n, a.length < n + fu → n ≤ a.length → rIdxF (a ++ v :: b) v fu n = nI a.length := by
  intro fu
  induction fu with
  | zero => intro n h1 h2; omega
  | succ fu ih =>
    intro n h1 h2
    rw [rIdxF, if_pos (by simp; omega)]
    by_cases h3 : n = a.length
    · subst h3
      rw [if_pos]
      simp [List.getD]
    · have h4 : n < a.length := by omega
      rw [if_neg, ih (n + 1) (by omega) (by omega)]
      intro h5
      rw [gD_left h4] at h5
      exact h (h5 ▸ gD_mem h4)
theorem rIdx_app {a b : List Int32} {v : Int32} (h : v ∉ a) : rIdx (a ++ v :: b) v = nI a.length := rIdxF_app h _ 0 (by simp; omega) (Nat.zero_le _)
theorem ixF_none {g : Nat → Int32} {v : Int32} : ∀ k, (∀ i, i < k → g i ≠ v) → ixF g v k = -1 := by
  intro k
  induction k with
  | zero => intro _; rfl
  | succ k ih => intro h; rw [ixF, if_neg (h k (by omega))]; exact ih fun i hi => h i (by omega)
theorem ixF_at {g : Nat → Int32} {v : Int32} {p : Nat} (hp : g p = v) : ∀ k, p < k → (∀ i, i < k → g i = v → i = p) → ixF g v k = nI p := by
  intro k
  induction k with
  | zero => intro h; omega
  | succ k ih =>
    intro h hu
    rw [ixF]
    by_cases e : k = p
    · subst e; rw [if_pos hp]
    · rw [if_neg (fun h2 => e (hu k (by omega) h2))]
      exact ih (by omega) fun i hi => hu i (by omega)
/-- a word's place in the row, for both -/
theorem mPos_at {T : sM} (h : J2 T) (hL : T.1 8 < 2 ^ 30) {p : Nat} (hp : p < T.1 8) : mPos T (T.2 7 p) = p + 1 := by
  rw [mPos, mIdx, ixF_at rfl _ hp (fun i hi e => h.1 i p hi hp e), nI_1, tn_n (by omega)]
theorem mPos_none {T : sM} {v : Int32} (h : ∀ i, i < T.1 8 → T.2 7 i ≠ v) : mPos T v = 0 := by
  rw [mPos, mIdx, ixF_none _ h]; rfl
theorem row_nin {T : sM} (h : J2 T) {p : Nat} (hp : p < T.1 8) : T.2 7 p ∉ tab p (T.2 7) := fun hm => by
  obtain ⟨i, hi, e⟩ := tab_mem.mp hm
  have := h.1 i p (by omega) hp e
  omega
theorem rp_at {T : sM} (h : J2 T) (hL : T.1 8 < 2 ^ 30) {p : Nat} (hp : p < T.1 8) : rp (tab (T.1 8) (T.2 7)) (T.2 7 p) = p + 1 := by
  rw [rp, tab_split _ hp, rIdx_app (row_nin h hp), tab_len, nI_1, nI_clamp (by omega)]
theorem rp_none {T : sM} {v : Int32} (h : ∀ i, i < T.1 8 → T.2 7 i ≠ v) : rp (tab (T.1 8) (T.2 7)) v = 0 := by
  rw [rp, rIdx_none fun hm => by obtain ⟨i, hi, e⟩ := tab_mem.mp hm; exact h i hi e]; rfl
theorem rp_mPos {T : sM} (h : J2 T) (hL : T.1 8 < 2 ^ 30) (v : Int32) : rp (tab (T.1 8) (T.2 7)) v = mPos T v := by
  by_cases hv : ∃ i, i < T.1 8 ∧ T.2 7 i = v
  · obtain ⟨i, hi, rfl⟩ := hv
    rw [rp_at h hL hi, mPos_at h hL hi]
  · rw [rp_none fun i hi e => hv ⟨i, hi, e⟩, mPos_none fun i hi e => hv ⟨i, hi, e⟩]
/-- a place in the text -/
theorem tx_idx {T : sM} (h : J2 T) {p : Nat} (hp : p < T.1 8) (ht : ¬ T.2 5 (tn (T.2 7 p)) = 0) : rIdx (txT T) (T.2 7 p) = nI (mCnt T p) := by
  have e : txT T = (tab p (T.2 7)).filter (isT T) ++ T.2 7 p :: ((tab (T.1 8) (T.2 7)).drop (p + 1)).filter (isT T) := by
    rw [txT, tab_split _ hp, List.filter_append, List.filter_cons_of_pos (by simp [isT, ht]), ← tab_split _ hp]
  rw [e, rIdx_app (fun hm => row_nin h hp (List.mem_filter.mp hm).1), mCnt_len]
theorem opK_placeOf_ok : opK_placeOf Rl := fun k S T n _ h => by
  have hI := h.1.1
  have hW := hI.1
  have hL := hI.2.1
  refine ⟨hI, opq h (wd_cd h.2.1 hI n) fun h0 => ?_⟩
  obtain ⟨hn, hl⟩ := wd_0 h.2.1 hI h0
  rw [h.2.1.2.2.2.2.2.2.2]
  by_cases ht : T.2 5 (tn n) = 0
  · rw [if_pos ht, rIdx_none]
    intro hm
    obtain ⟨_, _, _, h3, _⟩ := txT_mem h.1 hm
    rw [ht] at h3
    exact absurd h3 (by decide)
  · rw [if_neg ht]
    have h5 : T.2 5 (tn n) = 1 := (h.1.2.1.1 (tn n)).resolve_left ht
    obtain ⟨p, hp, e⟩ := h.1.2.2.1.2.2.1 (tn n) hl (h.1.2.1.2.2.1 _ h5)
    rw [← hn] at e ⊢
    rw [← e, mPos_at h.1.2.2.1 (by omega) hp, Nat.add_sub_cancel, tx_idx h.1.2.2.1 hp (by rw [e]; exact ht)]
