/-! rows as the first numbers of a function -/
def tab (n : Nat) (g : Nat → Int32) : List Int32 := (List.range n).map g
theorem tab_len (n : Nat) (g : Nat → Int32) : (tab n g).length = n := by simp [tab]
theorem tab_get {n i : Nat} (g : Nat → Int32) (d : Int32) : (tab n g).getD i d = if i < n then g i else d := by
  by_cases h : i < n
  · rw [if_pos h]; simp [tab, h]
  · rw [if_neg h]; simp [tab, h]
theorem tab_co {n : Nat} {g h : Nat → Int32} (e : ∀ i, i < n → g i = h i) : tab n g = tab n h := List.map_congr_left fun i hi => e i (List.mem_range.mp hi)
theorem tab_in {n : Nat} {g h : Nat → Int32} (e : tab n g = tab n h) {i : Nat} (hi : i < n) : g i = h i := by
  have h1 := congrArg (fun x => x.getD i 0) e
  simp only [tab_get, if_pos hi] at h1
  exact h1
theorem tab_ext {x : List Int32} {n : Nat} {g : Nat → Int32} (h1 : x.length = n) (h2 : ∀ i, i < n → x.getD i 0 = g i) : x = tab n g := by
  apply List.ext_getElem (by rw [h1, tab_len])
  intro i h3 h4
  have h5 := h2 i (by omega)
  have h6 : (tab n g).getD i 0 = g i := by rw [tab_get, if_pos (by omega)]
  rw [← h6] at h5
  simpa [List.getD, h3, h4] using h5
theorem tab_0 (g : Nat → Int32) : tab 0 g = [] := rfl
theorem tab_s (n : Nat) (g : Nat → Int32) : tab (n + 1) g = tab n g ++ [g n] := by simp [tab, List.range_succ]
theorem rHas_tab {n : Nat} (g : Nat → Int32) (x : Int32) : rHas (tab n g) x = (decide (¬ x < 0) && decide (tn x < n)) := by rw [rHas, tab_len]; rfl
theorem rAt_tab {n i : Nat} (g : Nat → Int32) (hn : n < 2 ^ 31) (h : i < n) : rAt (tab n g) (nI i) = g i := by
  rw [rAt_lt (by omega) (by rw [tab_len]; exact h), tab_get, if_pos h]
theorem rAt_out {x : List Int32} {i : Int32} (h : i < 0 ∨ x.length ≤ tn i) : rAt x i = -1 := by
  have h1 : rHas x i = false := by
    rw [rHas]
    rcases h with h | h
    · simp [h]
    · rw [show decide (i.toNatClampNeg < x.length) = false from decide_eq_false (by unfold tn at h; omega), Bool.and_false]
  rw [rAt, h1, if_neg Bool.false_ne_true]
theorem rAt_m1 (x : List Int32) : rAt x (-1) = -1 := rAt_out (Or.inl (by decide))
theorem rAdd_tab {n c : Nat} (g : Nat → Int32) (v : Int32) (h : n < c) : rAdd (tab n g) c v = tab (n + 1) (upd g n v) := by
  rw [rAdd, tab_len, if_pos h, tab_s]
  congr 1
  · exact tab_co fun i hi => by rw [upd, if_neg (by omega)]
  · rw [upd, if_pos rfl]
theorem rSet_tab {n i : Nat} (g : Nat → Int32) (v : Int32) (hn : n < 2 ^ 31) (h : i < n) : rSet (tab n g) (nI i) v = tab n (upd g i v) := by
  rw [rSet, rHas_n (by omega), tab_len, decide_eq_true h, if_pos rfl, nI_clamp (by omega)]
  refine tab_ext (by rw [List.length_set, tab_len]) fun j hj => ?_
  have e : ((tab n g).set i v).getD j 0 = if i = j then v else (tab n g).getD j 0 := by
    by_cases e1 : i = j
    · subst e1; simp [List.getD, tab_len, hj]
    · simp [List.getD, e1]
  rw [e, tab_get, if_pos hj, upd]
  by_cases e1 : i = j
  · rw [if_pos e1, if_pos e1.symm]
  · rw [if_neg e1, if_neg (Ne.symm e1)]
theorem rIns_tab {n i c : Nat} (g : Nat → Int32) (v : Int32) (hn : n < 2 ^ 30) (hi : i ≤ n) (h : n < c) : rIns (tab n g) c (nI i) v = tab (n + 1) (upd (shf g i n) i v) := by
  rw [rIns, nI_clamp (by omega), tab_len, if_pos ⟨nI_pos (by omega), hi, h⟩]
  refine tab_ext (by simp [tab_len]; omega) fun j hj => ?_
  rw [ins_getD v (by rw [tab_len]; exact hi), upd, shf]
  by_cases e1 : j = i
  · subst e1; rw [if_neg (by omega), if_pos rfl, if_pos rfl]
  · rw [if_neg e1, if_neg e1]
    by_cases e2 : j < i
    · rw [if_pos e2, if_neg (by omega), tab_get, if_pos (by omega)]
    · rw [if_neg e2, if_pos (by omega), tab_get, if_pos (by omega)]
theorem rRem_tab {n i : Nat} (g : Nat → Int32) (hn : n < 2 ^ 31) (h : i < n) : rRem (tab n g) (nI i) = tab (n - 1) (shb g i (n - 1)) := by
  rw [rRem, rHas_n (by omega), tab_len, decide_eq_true h, if_pos rfl, nI_clamp (by omega)]
  refine tab_ext (by rw [List.length_eraseIdx, tab_len, if_pos h]) fun j hj => ?_
  have e : ((tab n g).eraseIdx i).getD j 0 = if j < i then (tab n g).getD j 0 else (tab n g).getD (j + 1) 0 := by
    simp only [List.getD, List.getElem?_eraseIdx]
    split <;> rfl
  rw [e, tab_get, tab_get, shb]
  by_cases e2 : j < i
  · rw [if_pos e2, if_pos (by omega), if_neg (by omega)]
  · rw [if_neg e2, if_pos (by omega), if_pos (by omega)]
/-- the class's and the reference's test of a place -/
theorem ix_in {x : Int32} {n : Nat} (hn : n < 2 ^ 30) : tIx x (nI n) = if inB x 0 (nI n - 1) = true then 0 else 1 := by
  unfold tIx
  by_cases h0 : x < 0
  · rw [if_pos (Or.inl h0), if_neg]
    rw [inB, decide_eq_false (Int32.not_le.mpr h0)]
    simp
  · obtain ⟨k, hk, rfl⟩ := nI_of h0
    have e : (nI k ≤ nI n - 1) ↔ k < n := by
      cases n with
      | zero =>
        constructor
        · intro h
          exact absurd (Int32.lt_of_le_of_lt h (show nI 0 - 1 < 0 by decide)) (nI_pos hk)
        · intro h; omega
      | succ n => rw [nI_pred, nI_leI hk (by omega)]; omega
    have e2 : nI n ≤ nI k ↔ n ≤ k := nI_leI (by omega) hk
    have e3 : inB (nI k) 0 (nI n - 1) = decide (nI k ≤ nI n - 1) := by rw [inB, decide_eq_true (Int32.not_lt.mp (nI_pos hk)), Bool.true_and]
    rw [e3]
    by_cases h1 : n ≤ k
    · rw [if_pos (Or.inr (e2.mpr h1)), if_neg]
      rw [decide_eq_true_eq, e]; omega
    · rw [if_neg (by rintro (h | h); exact nI_pos hk h; exact h1 (e2.mp h)), if_pos]
      rw [decide_eq_true_eq, e]; omega
theorem ix_n {x : Int32} {n : Nat} (hn : n < 2 ^ 30) (h : inB x 0 (nI n - 1) = true) : x = nI (tn x) ∧ tn x < n := inB_m1 hn h
theorem rg_in {v a b : Int32} : tRg v a b = if inB v a b = true then 0 else 2 := by
  unfold tRg inB
  by_cases h1 : v < a
  · rw [if_pos (Or.inl h1), decide_eq_false (Int32.not_le.mpr h1)]; rfl
  · by_cases h2 : b < v
    · rw [if_pos (Or.inr h2), decide_eq_false (Int32.not_le.mpr h2), Bool.and_false]; rfl
    · rw [if_neg (by rintro (h | h); exact h1 h; exact h2 h), decide_eq_true (Int32.not_lt.mp h1), decide_eq_true (Int32.not_lt.mp h2)]; rfl
