/-! the row of those that wait -/
theorem ahd_irr (ug fa : Nat → Int32) (i : Nat) : ahdG ug fa i i = false := by
  rw [ahdG, if_pos rfl]
  exact decide_eq_false (fun h => Int32.lt_irrefl h)
theorem ahd_asym {ug fa : Nat → Int32} {i j : Nat} (h : ahdG ug fa i j = true) : ahdG ug fa j i = false := by
  rw [ahdG] at h ⊢
  by_cases e : ug i = ug j
  · rw [if_pos e] at h
    rw [if_pos e.symm]
    exact decide_eq_false (Int32.not_lt.mpr (Int32.le_of_lt (of_decide_eq_true h)))
  · rw [if_neg e] at h
    rw [if_neg (Ne.symm e)]
    exact decide_eq_false (Int32.not_lt.mpr (Int32.le_of_lt (of_decide_eq_true h)))
theorem cntA (ug fa : Nat → Int32) : ∀ (q : List Int32), q.Pairwise (fun a b => ahdG ug fa (tn a) (tn b) = true) → ∀ i (hi : i < q.length), q.countP (fun y => ahdG ug fa (tn y) (tn q[i])) = i := by
  intro q
  induction q with
  | nil => intro _ i hi; exact absurd hi (Nat.not_lt_zero i)
  | cons a l ih =>
    intro hp i hi
    obtain ⟨h1, h2⟩ := List.pairwise_cons.mp hp
    rw [List.countP_cons]
    cases i with
    | zero =>
      show l.countP (fun y => ahdG ug fa (tn y) (tn a)) + _ = 0
      have e : l.countP (fun y => ahdG ug fa (tn y) (tn a)) = 0 := by
        rw [List.countP_eq_zero]
        intro y hy hh
        rw [ahd_asym (h1 y hy)] at hh
        cases hh
      rw [e]
      show 0 + (if ahdG ug fa (tn a) (tn a) = true then 1 else 0) = 0
      rw [ahd_irr, if_neg Bool.false_ne_true]
    | succ i =>
      have hi2 : i < l.length := by simp at hi; exact hi
      show l.countP (fun y => ahdG ug fa (tn y) (tn l[i])) + (if ahdG ug fa (tn a) (tn l[i]) = true then 1 else 0) = i + 1
      rw [ih h2 i hi2, if_pos (h1 _ (List.getElem_mem hi2))]
def dnL (sts : Nat → Int32) (V : Nat) : List Int32 := ((List.range V).filter (fun r => decide (sts r = nI 1))).map nI
theorem dnL_s (sts : Nat → Int32) (V : Nat) : dnL sts (V + 1) = dnL sts V ++ if sts V = nI 1 then [nI V] else [] := by
  rw [dnL, dnL, List.range_succ, List.filter_append, List.map_append]
  congr 1
  by_cases h : sts V = nI 1
  · rw [if_pos h, List.filter_cons_of_pos (by simp [h])]; rfl
  · rw [if_neg h, List.filter_cons_of_neg (by simp [h])]; rfl
theorem ahc_cnt (sts ug fa : Nat → Int32) (i : Nat) : ∀ V, V ≤ 30 → ahcG sts ug fa i V = (dnL sts V).countP (fun y => ahdG ug fa (tn y) i) := by
  intro V
  induction V with
  | zero => intro _; rfl
  | succ V ih =>
    intro hV
    rw [ahcG, dnL_s, List.countP_append, ih (by omega)]
    by_cases h : sts V = nI 1
    · rw [if_pos h, if_pos h, List.countP_cons, List.countP_nil, tn_n (by omega)]
      by_cases h2 : ahdG ug fa V i = true
      · rw [if_pos h2, if_pos h2]
      · rw [if_neg h2, if_neg h2]; rfl
    · rw [if_neg h, if_neg h]; rfl
theorem dnL_mem {sts : Nat → Int32} {V : Nat} {x : Int32} : x ∈ dnL sts V ↔ ∃ r, r < V ∧ x = nI r ∧ sts r = 1 := by
  rw [dnL, List.mem_map]
  constructor
  · rintro ⟨r, h, e⟩
    obtain ⟨h1, h2⟩ := List.mem_filter.mp h
    exact ⟨r, List.mem_range.mp h1, e.symm, of_decide_eq_true h2⟩
  · rintro ⟨r, h1, e, h2⟩
    exact ⟨r, List.mem_filter.mpr ⟨List.mem_range.mpr h1, decide_eq_true h2⟩, e.symm⟩
theorem dnL_nd (sts : Nat → Int32) : ∀ V, V ≤ 30 → (dnL sts V).Nodup := by
  intro V
  induction V with
  | zero => intro _; exact List.nodup_nil
  | succ V ih =>
    intro hV
    rw [dnL_s]
    by_cases h : sts V = nI 1
    · rw [if_pos h, List.nodup_append]
      refine ⟨ih (by omega), by simp, fun a ha b hb => ?_⟩
      rw [List.mem_singleton] at hb
      obtain ⟨r, h1, e, -⟩ := dnL_mem.mp ha
      rw [hb, e]
      intro h2
      have := (nI_eq (by omega) (by omega)).mp h2
      omega
    · rw [if_neg h, List.append_nil]; exact ih (by omega)
theorem wtG_none {V : Nat} {sts ug fa : Nat → Int32} {x : Int32} : ∀ k, (∀ r, r < k → sts r = nI 1 → ¬ nI (ahcG sts ug fa r V) = x) → wtG V sts ug fa x k = -1 := by
  intro k
  induction k with
  | zero => intro _; rfl
  | succ k ih =>
    intro h
    rw [wtG]
    by_cases h1 : sts k = nI 1
    · rw [if_pos h1, if_neg (h k (by omega) h1)]; exact ih fun r hr => h r (by omega)
    · rw [if_neg h1]; exact ih fun r hr => h r (by omega)
theorem wtG_at {V : Nat} {sts ug fa : Nat → Int32} {x : Int32} {r0 : Nat} (h0 : sts r0 = nI 1) (hm : nI (ahcG sts ug fa r0 V) = x) : ∀ k, r0 < k → (∀ r, r < k → sts r = nI 1 → nI (ahcG sts ug fa r V) = x → r = r0) → wtG V sts ug fa x k = nI r0 := by
  intro k
  induction k with
  | zero => intro h; omega
  | succ k ih =>
    intro hk hu
    rw [wtG]
    by_cases e : k = r0
    · subst e; rw [if_pos h0, if_pos hm]
    · have h2 := ih (by omega) fun r hr => hu r (by omega)
      by_cases h1 : sts k = nI 1
      · rw [if_pos h1, if_neg (fun h3 => e (hu k (by omega) h1 h3)), h2]
      · rw [if_neg h1, h2]
theorem q_perm {S : sC} {T : sM} (h : RA5 S T) (hV : T.1 17 ≤ 30) : (S.1 72).Perm (dnL (T.2 16) (T.1 17)) := (List.perm_ext_iff_of_nodup h.2.2.1 (dnL_nd _ _ hV)).mpr fun x => (h.2.2.2.1 x).trans dnL_mem.symm
theorem q_ahc {S : sC} {T : sM} (h : RA5 S T) (hV : T.1 17 ≤ 30) {i : Nat} (hi : i < (S.1 72).length) : ahcG (T.2 16) (T.2 19) (T.2 20) (tn (S.1 72)[i]) (T.1 17) = i := by
  rw [ahc_cnt _ _ _ _ _ hV, ← (q_perm h hV).countP_eq]
  exact cntA _ _ _ h.2.2.2.2 i hi
theorem mWt_q {S : sC} {T : sM} (h : RA5 S T) (hV : T.1 17 ≤ 30) (x : Int32) : mWt T x = rAt (S.1 72) x := by
  have hlen : (S.1 72).length ≤ 30 := by
    rw [(q_perm h hV).length_eq, dnL, List.length_map]
    exact Nat.le_trans (List.length_filter_le _ _) (by simp; exact hV)
  have hix : ∀ r, r < T.1 17 → T.2 16 r = nI 1 → ∃ j, ∃ hj : j < (S.1 72).length, (S.1 72)[j] = nI r ∧ ahcG (T.2 16) (T.2 19) (T.2 20) r (T.1 17) = j := by
    intro r hr hs
    obtain ⟨j, hj, e⟩ := List.getElem_of_mem ((h.2.2.2.1 (nI r)).mpr ⟨r, hr, rfl, hs⟩)
    refine ⟨j, hj, e, ?_⟩
    have h2 := q_ahc h hV hj
    rw [e, tn_n (by omega)] at h2
    exact h2
  rw [mWt]
  by_cases hx : ∃ i, ∃ hi : i < (S.1 72).length, x = nI i
  · obtain ⟨i, hi, rfl⟩ := hx
    obtain ⟨r, hr, e, hs⟩ := (h.2.2.2.1 _).mp (List.getElem_mem hi)
    have h2 := q_ahc h hV hi
    rw [e, tn_n (by omega)] at h2
    rw [wtG_at hs (by rw [h2]) _ hr, rAt_lt (by omega) hi]
    · rw [← e]; simp [List.getD, hi]
    · intro r2 hr2 hs2 hm
      obtain ⟨j, hj, e2, h3⟩ := hix r2 hr2 hs2
      rw [h3] at hm
      have h4 : j = i := (nI_eq (by omega) (by omega)).mp hm
      subst h4
      exact (nI_eq (by omega) (by omega)).mp (e2.symm.trans e)
  · rw [wtG_none]
    · by_cases h0 : x < 0
      · rw [rAt_out (Or.inl h0)]
      · obtain ⟨n, hn, rfl⟩ := nI_of h0
        rw [rAt_out (Or.inr ?_)]
        rw [tn_n hn]
        exact Nat.not_lt.mp fun h1 => hx ⟨n, h1, rfl⟩
    · intro r hr hs hm
      obtain ⟨j, hj, -, h3⟩ := hix r hr hs
      exact hx ⟨j, hj, by rw [← hm, h3]⟩
theorem opK_waiting_ok : opK_waiting Rl := fun k S T x _ h => by
  refine ⟨h.1.1, opq h ?_ fun _ => mWt_q h.2.2.2.2.2.1 h.1.1.2.2.1 x⟩
  rw [mtPo]
  by_cases h0 : x < 0
  · rw [if_pos h0, decide_eq_true h0]; rfl
  · rw [if_neg h0, decide_eq_false h0]; rfl
