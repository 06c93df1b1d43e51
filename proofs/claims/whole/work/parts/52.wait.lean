/-! the row of those that wait -/
theorem ahd_irr (ug fa : Nat → Int32) (i : Nat) : ahdG ug fa i i = false := by
  rw [ahdG, if_pos rfl]
  exact decide_eq_false (fun h => Int32.lt_irrefl h)
theorem ahd_asym {ug fa : Nat → Int32} {i j : Nat} (h : ahdG ug fa i j = true) : ahdG ug fa j i = false := by
  rw [ahdG] at h ⊢
  by_cases e : ug i = ug j
  · rw [if_pos e] at h
    rw [if_pos e.symm]
    exact decide_eq_false (Int32.not_lt.mpr (Int32.le_of_lt (of_decide_eq_true h)))
  · rw [if_neg e] at h
    rw [if_neg (Ne.symm e)]
    exact decide_eq_false (Int32.not_lt.mpr (Int32.le_of_lt (of_decide_eq_true h)))
theorem cntA (ug fa : Nat → Int32) : ∀ (q : List Int32), q.Pairwise (fun a b => ahdG ug fa (tn a) (tn b) = true) → ∀ i (hi : i < q.length), q.countP (fun y => ahdG ug fa (tn y) (tn q[i])) = i := by
  intro q
  induction q with
  | nil => intro _ i hi; exact absurd hi (Nat.not_lt_zero i)
  | cons a l ih =>
    intro hp i hi
    obtain ⟨h1, h2⟩ := List.pairwise_cons.mp hp
    rw [List.countP_cons]
    cases i with
    | zero =>
      show l.countP (fun y => ahdG ug fa (tn y) (tn a)) + _ = 0
      have e : l.countP (fun y => ahdG ug fa (tn y) (tn a)) = 0 := by
        rw [List.countP_eq_zero]
        intro y hy hh
        rw [ahd_asym (h1 y hy)] at hh
        cases hh
      rw [e]
      show 0 + (if ahdG ug fa (tn a) (tn a) = true then 1 else 0) = 0
      rw [ahd_irr, if_neg Bool.false_ne_true]
    | succ i =>
      have hi2 : i < l.length := by simp at hi; exact hi
      show l.countP (fun y => ahdG ug fa (tn y) (tn l[i])) + (if ahdG ug fa (tn a) (tn l[i]) = true then 1 else 0) = i + 1
      rw [ih h2 i hi2, if_pos (h1 _ (List.getElem_mem hi2))]
def dnL (sts : Nat → Int32) (V : Nat) : List Int32 := ((List.range V).filter (fun r => decide (sts r = nI 1))).map nI
theorem dnL_s (sts : Nat → Int32) (V : Nat) : dnL sts (V + 1) = dnL sts V ++ if sts V = nI 1 then [nI V] else [] := by
  rw [dnL, dnL, List.range_succ, List.filter_append, List.map_append]
  congr 1
  by_cases h : sts V = nI 1
  · rw [if_pos h, List.filter_cons_of_pos (by simp [h])]; rfl
  · rw [if_neg h, List.filter_cons_of_neg (by simp [h])]; rfl
theorem ahc_cnt (sts ug fa : Nat → Int32) (i : Nat) : ∀ V, V ≤ 30 → ahcG sts ug fa i V = (dnL sts V).countP (fun y => ahdG ug fa (tn y) i) := by
  intro V
  induction V with
  | zero => intro _; rfl
  | succ V ih =>
    intro hV
    rw [ahcG, dnL_s, List.countP_append, ih (by omega)]
    by_cases h : sts V = nI 1
    · rw [if_pos h, if_pos h, List.countP_cons, List.countP_nil, tn_n (by omega)]
      by_cases h2 : ahdG ug fa V i = true
      · rw [if_pos h2, if_pos h2]
      · rw [if_neg h2, if_neg h2]; rfl
    · rw [if_neg h, if_neg h]; rfl
theorem dnL_mem {sts : Nat → Int32} {V : Nat} {x : Int32} : x ∈ dnL sts V ↔ ∃ r, r < V ∧ x = nI r ∧ sts r = 1 := by
  rw [dnL, List.mem_map]
  constructor
  · rintro ⟨r, h, e⟩
    obtain ⟨h1, h2⟩ := List.mem_filter.mp h
    exact ⟨r, List.mem_range.mp h1, e.symm, of_decide_eq_true h2⟩
  · rintro ⟨r, h1, e, h2⟩
    exact ⟨r, List.mem_filter.mpr ⟨List.mem_range.mpr h1, decide_eq_true h2⟩, e.symm⟩
theorem dnL_nd (sts : Nat → Int32) : ∀ V, V ≤ 30 → (dnL sts V).Nodup := by
  intro V
  induction V with
  | zero => intro _; exact List.nodup_nil
  | succ V ih =>
    intro hV
    rw [dnL_s]
    by_cases h : sts V = nI 1
    · rw [if_pos h, List.nodup_append]
      refine ⟨ih (by omega), by simp, fun a ha b hb => ?_⟩
      rw [List.mem_singleton] at hb
      obtain ⟨r, h1, e, -⟩ := dnL_mem.mp ha
      rw [hb, e]
      intro h2
      have := (nI_eq (by omega) (by omega)).mp h2
      omega
    · rw [if_neg h, List.append_nil]; exact ih (by omega)
