/-! the relation kept: issues, comments -/
theorem rIdx_m1 {x : List Int32} {v : Int32} (hl : x.length < 2 ^ 31) : rIdx x v = -1 ↔ v ∉ x := by
  constructor
  · intro h hm
    obtain ⟨a, b, rfl, ha⟩ := List.eq_append_cons_of_mem hm
    rw [rIdx_app ha] at h
    simp at hl
    exact nI_m1ne (by omega) h
  · exact rIdx_none
theorem mTk_iff (T : sM) (d : Int32) : ∀ k, mTk T d k = true ↔ ∃ i, i < k ∧ T.2 21 i = d := by
  intro k
  induction k with
  | zero => constructor; intro h; cases h; rintro ⟨i, hi, -⟩; omega
  | succ k ih =>
    rw [mTk, Bool.or_eq_true, ih, decide_eq_true_eq]
    constructor
    · rintro (⟨i, hi, e⟩ | e)
      · exact ⟨i, by omega, e⟩
      · exact ⟨k, by omega, e⟩
    · rintro ⟨i, hi, e⟩
      by_cases h : i = k
      · subst h; exact Or.inr e
      · exact Or.inl ⟨i, by omega, e⟩
theorem tor_0' {a b : Nat} (h : tor a b = 0) : a = 0 ∧ b = 0 := by
  cases a with
  | zero => exact ⟨rfl, h⟩
  | succ a => cases h
theorem opK_addIssue_ok : opK_addIssue Rl := fun k S T d z _ h => by
  have hI := h.1.1
  have hN := hI.2.2.2.1
  have hD := hI.2.2.2.2.2.2.1
  have a6 := h.2.2.2.2.2.2
  have e1 : S.2.2 + 1 = nI (T.1 29 + 1) := by rw [a6.2.2.2.2.2.2, nI_1]
  have hlen : (S.1 79).length = T.1 25 := by rw [a6.1, tab_len]
  have e2 : ((12 : Int32) ≤ nI (S.1 79).length) ↔ T.1 25 = 12 := by
    rw [hlen, show (12 : Int32) = nI 12 from rfl, nI_leI (by decide) (by omega)]; omega
  have e3 : rIdx (S.1 79) d = -1 ↔ ¬ mTk T d (T.1 25) = true := by
    rw [rIdx_m1 (by omega), a6.1, tab_mem, mTk_iff]
  have e : mtIss T d z = cd [2, 3] (tIssue S d z) := by
    rw [tIssue, e1, rg_in, rg_in, mtIss]
    by_cases h1 : inB d (nI (T.1 29 + 1)) 1000 = true
    · rw [if_pos h1, tor_0]
      by_cases h2 : inB z 1 200 = true
      · rw [if_pos h2, tor_0, if_pos ⟨h1, h2⟩]
        by_cases h3 : T.1 25 = 12
        · rw [if_pos (Or.inl h3), decide_eq_true (e2.mpr h3)]; rfl
        · rw [decide_eq_false (fun h => h3 (e2.mp h))]
          by_cases h4 : mTk T d (T.1 25) = true
          · rw [if_pos (Or.inr h4), decide_eq_false (fun h => e3.mp h h4)]; rfl
          · rw [if_neg (by rintro (h | h); exact h3 h; exact h4 h), decide_eq_true (e3.mpr h4)]; rfl
      · rw [if_neg h2, if_neg (fun h => h2 h.2)]; rfl
    · rw [if_neg h1, if_neg (fun h => h1 h.1)]; rfl
  by_cases h0 : tIssue S d z = 0
  · have hm : mtIss T d z = 0 := by rw [e, h0]; rfl
    rw [if_pos hm, if_pos h0]
    rw [tIssue, e1, rg_in, rg_in] at h0
    obtain ⟨c1, h0⟩ := tor_0' h0
    obtain ⟨c2, h0⟩ := tor_0' h0
    obtain ⟨c3, c4⟩ := tor_0' h0
    have b1 : inB d (nI (T.1 29 + 1)) 1000 = true := by
      by_cases h9 : inB d (nI (T.1 29 + 1)) 1000 = true
      · exact h9
      · rw [if_neg h9] at c1; cases c1
    have b2 : inB z 1 200 = true := by
      by_cases h9 : inB z 1 200 = true
      · exact h9
      · rw [if_neg h9] at c2; cases c2
    have b3 : ¬ T.1 25 = 12 := fun h9 => by rw [decide_eq_true (e2.mpr h9)] at c3; cases c3
    have b4 : ∀ i, i < T.1 25 → T.2 21 i ≠ d := fun i hi e9 => by
      rw [decide_eq_false (fun h9 => e3.mp h9 ((mTk_iff T d _).mpr ⟨i, hi, e9⟩))] at c4
      cases c4
    have hd : d = nI (tn d) ∧ tn d ≤ 1000 := by
      obtain ⟨h8, h9⟩ := inB_t b1
      exact inB_n (b := 1000) (by decide) (by rw [inB, decide_eq_true (Int32.le_trans (nI_pos' (by omega)) h8), decide_eq_true (show d ≤ nI 1000 from h9)]; rfl)
    have hz : z = nI (tn z) ∧ tn z ≤ 200 := by
      obtain ⟨h8, h9⟩ := inB_t b2
      exact inB_n (b := 200) (by decide) (by rw [inB, decide_eq_true (Int32.le_trans (by decide) h8), decide_eq_true (show z ≤ nI 200 from h9)]; rfl)
    have f1 : (isAdd S d z).1 79 = tab (T.1 25 + 1) (upd (T.2 21) (T.1 25) d) := by
      show rAdd (S.1 79) (cap 79) d = _
      rw [a6.1, rAdd_tab _ _ (show T.1 25 < cap 79 by have : cap 79 = 12 := rfl; omega)]
    have f2 : (isAdd S d z).1 81 = tab (T.1 25 + 1) (upd (T.2 22) (T.1 25) z) := by
      show rAdd (S.1 81) (cap 81) z = _
      rw [a6.2.1, rAdd_tab _ _ (show T.1 25 < cap 81 by have : cap 81 = 12 := rfl; omega)]
    have f3 : (isAdd S d z).1 83 = tab (T.1 25 + 1) (upd (T.2 23) (T.1 25) (-1)) := by
      show rAdd (S.1 83) (cap 83) (-1) = _
      rw [a6.2.2.1, rAdd_tab _ _ (show T.1 25 < cap 83 by have : cap 83 = 12 := rfl; omega)]
    obtain ⟨⟨i0, j1, j2, j3, j4, j5, j6, j7, j8, j9⟩, r1, r2, r3, r4, r5, r6⟩ := h.le (Nat.le_succ k)
    have u0 : ∀ (g : Nat → Int32) (v : Int32), upd g (T.1 25) v (T.1 25) = v := fun g v => if_pos rfl
    have u1 : ∀ (g : Nat → Int32) (v : Int32) (i : Nat), i < T.1 25 → upd g (T.1 25) v i = g i := fun g v i hi => if_neg (by omega)
    have j5' : J5 (msIss T d z) := by
      refine ⟨fun i hi => ?_, fun i j hi hj he => ?_, fun i hi => ?_⟩
      · have hi' : i < T.1 25 + 1 := hi
        show ∃ d', d' ≤ 1000 ∧ upd (T.2 21) (T.1 25) d i = nI d'
        by_cases h9 : i = T.1 25
        · subst h9; rw [u0]; exact ⟨_, hd.2, hd.1⟩
        · rw [u1 _ _ _ (by omega)]; exact j5.1 i (by omega)
      · have hi' : i < T.1 25 + 1 := hi
        have hj' : j < T.1 25 + 1 := hj
        have he' : upd (T.2 21) (T.1 25) d i = upd (T.2 21) (T.1 25) d j := he
        by_cases h8 : i = T.1 25
        · by_cases h9 : j = T.1 25
          · omega
          · rw [h8, u0, u1 _ _ _ (by omega)] at he'; exact absurd he'.symm (b4 j (by omega))
        · by_cases h9 : j = T.1 25
          · rw [h9, u0, u1 _ _ _ (by omega)] at he'; exact absurd he' (b4 i (by omega))
          · rw [u1 _ _ _ (by omega), u1 _ _ _ (by omega)] at he'; exact j5.2.1 i j (by omega) (by omega) he'
      · have hi' : i < T.1 25 + 1 := hi
        show ∃ d', d' ≤ 200 ∧ upd (T.2 22) (T.1 25) z i = nI d'
        by_cases h9 : i = T.1 25
        · subst h9; rw [u0]; exact ⟨_, hz.2, hz.1⟩
        · rw [u1 _ _ _ (by omega)]; exact j5.2.2 i (by omega)
    refine ⟨hI, e, hm.symm, fun _ => ?_, ⟨⟨i0.1, i0.2.1, i0.2.2.1, (show T.1 25 + 1 ≤ 12 by omega), i0.2.2.2.2⟩, j1, j2, j3, j4, j5', j6, j7, j8, j9⟩, r1, r2, RA3_set (by decide) (RA3_set (by decide) (RA3_set (by decide) r3)), r4, r5, f1, f2, f3, r6.2.2.2⟩
    rw [f1, tab_len, nI_pred]
  · have hm : ¬ mtIss T d z = 0 := by rw [e, cd, if_neg h0]; omega
    rw [if_neg hm, if_neg h0]
    exact ⟨hI, e, rfl, fun h9 => absurd h9 h0, Rl_0 h _⟩
