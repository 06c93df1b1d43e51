/-! the relation kept: rates, shares, issues, comments -/
theorem RA3_set {S : sC} {T : sM} {j : Nat} {x : List Int32} (hj : j < 24 ∨ 57 < j) (h : RA3 S T) : RA3 (sSet S j x) T := fun w hw => by
  have h1 := h w hw
  refine ⟨?_, ?_⟩
  · rw [← h1.1]; show (if 24 + 6 * w = j then x else S.1 (24 + 6 * w)) = _; rw [if_neg (by omega)]
  · rw [← h1.2]; show (if 27 + 6 * w = j then x else S.1 (27 + 6 * w)) = _; rw [if_neg (by omega)]
theorem opK_setRate_ok : opK_setRate Rl := fun k S T r v _ h => by
  have hI := h.1.1
  have a4 := h.2.2.2.2.1
  have e : mtRt r v = cd [1, 2] (tRate r v) := by
    rw [tRate, ixR, rg_in, mtRt]
    by_cases h1 : inB r 0 3 = true
    · rw [if_pos h1, if_pos h1, tor_0]
      by_cases h2 : inB v 0 100 = true
      · rw [if_pos h2]; rfl
      · rw [if_neg h2]; rfl
    · rw [if_neg h1, if_neg h1]; rfl
  refine ⟨trivial, e, ?_, fun h0 => ?_, ?_⟩
  · split
    · rename_i h1; rw [h1]; rfl
    · rfl
  all_goals
    by_cases h0 : tRate r v = 0
    · have h1 : mtRt r v = 0 := by rw [e, h0]; rfl
      have hr : tIx r 4 = 0 := by
        by_cases h2 : tIx r 4 = 0
        · exact h2
        · rw [tRate, tor_ne _ h2] at h0; exact absurd h0 h2
      obtain ⟨hn, hl⟩ := ixR_0 hr
      have e2 : rSet (S.1 74) r v = tab 4 (upd (T.2 13) (tn r) v) := by
        rw [a4.2.2.2.2.2.1, hn, rSet_tab _ _ (by decide) hl, ← hn]
      first
      | (rw [a4.2.2.2.2.2.1, hn, rAt_tab _ (by decide) hl, ← hn]; done)
      | (rw [if_pos h0, if_pos h1, e2]
         obtain ⟨b0, b1, b2, b3, b4, b5, b6⟩ := h.le (Nat.le_succ k)
         exact ⟨b0, b1, b2, RA3_set (T := sA (sS T 0 0) 13 (upd (T.2 13) (tn r) v)) (by decide) b3, ⟨b4.1, b4.2.1, b4.2.2.1, b4.2.2.2.1, b4.2.2.2.2.1, rfl, b4.2.2.2.2.2.2⟩, b5, b6⟩)
    · first
      | exact absurd ‹tRate r v = 0› h0
      | (have h1 : ¬ mtRt r v = 0 := by
          rw [e, cd, if_neg h0]; omega
         rw [if_neg h0, if_neg h1]
         exact Rl_0 h _)
theorem hsm_0 (wr : Nat → Int32) (w : Int32) (x : List Int32) (k : Int32) : hsm wr w x + k = k + hsm wr w x := Int32.add_comm _ _
theorem anewF_h {S : sC} {T : sM} (hW : T.1 1 ≤ 300) (h5 : S.1 5 = tab (T.1 1) (T.2 2)) (hc : ∀ c ∈ S.1 20, ∃ n, n < T.1 1 ∧ (c = nI n ∨ c = nI (300 + n))) (hl : (S.1 20).length ≤ 600) (w : Int32) : ∀ fu n k, (S.1 20).length < n + fu → n ≤ (S.1 20).length → anewF S w fu n k = hsm (T.2 2) w ((S.1 20).drop n) + k := by
  intro fu
  induction fu with
  | zero => intro n k h1 h2; omega
  | succ fu ih =>
    intro n k h1 h2
    rw [anewF]
    by_cases hn : n < (S.1 20).length
    · rw [if_pos hn, List.drop_eq_getElem_cons hn]
      have e : rAt (S.1 20) (nI n) = (S.1 20)[n] := by rw [rAt_lt (by omega) hn]; simp [List.getD, hn]
      obtain ⟨m, hm, hcm⟩ := hc _ (List.getElem_mem hn)
      rw [cNum, cTyped, e, hsm]
      rcases hcm with hcm | hcm
      · have h3 : (S.1 20)[n] < 300 := by rw [hcm]; exact (nI_ltI (b := 300) (by omega) (by decide)).mpr (by omega)
        rw [if_pos h3, if_pos h3, decide_eq_true h3, if_pos rfl, h5, hcm, rAt_tab _ (by omega) hm, tn_n (by omega)]
        by_cases h4 : T.2 2 m = w
        · rw [if_pos h4, if_pos h4, ih _ _ (by omega) (by omega), Int32.add_assoc, Int32.add_comm 1 k]
        · rw [if_neg h4, if_neg h4, ih _ _ (by omega) (by omega), Int32.add_assoc, Int32.zero_add]
      · have h3 : ¬ (S.1 20)[n] < 300 := by rw [hcm]; exact fun h => absurd ((nI_ltI (b := 300) (by omega) (by decide)).mp h) (by omega)
        have h6 : (S.1 20)[n] - 300 = nI m := by
          rw [hcm, show (300 : Int32) = nI 300 from rfl, pk_sub (by omega), show 300 + m - 300 = m by omega]
        rw [if_neg h3, if_neg h3, decide_eq_false h3, if_neg Bool.false_ne_true, h6, h5, rAt_tab _ (by omega) hm, tn_n (by omega)]
        by_cases h4 : T.2 2 m = w
        · rw [if_pos h4, if_pos h4, ih _ _ (by omega) (by omega), Int32.add_assoc, Int32.add_comm (-1) k]
        · rw [if_neg h4, if_neg h4, ih _ _ (by omega) (by omega), Int32.add_assoc, Int32.zero_add]
    · rw [if_neg hn, List.drop_eq_nil_of_le (by omega)]
      exact (Int32.zero_add k).symm
theorem cIn_le (g : Nat → Int32) : ∀ n, cIn g n ≤ n := by
  intro n
  induction n with
  | zero => exact Nat.le_refl 0
  | succ n ih => rw [cIn]; split <;> omega
theorem cDl_le (g h : Nat → Int32) : ∀ n, cDl g h n ≤ cIn g n := by
  intro n
  induction n with
  | zero => exact Nat.le_refl 0
  | succ n ih =>
    rw [cDl, cIn]
    by_cases h1 : g n = 1
    · rw [if_pos h1]; split <;> omega
    · rw [if_neg h1, if_neg (fun h => h1 h.1)]; omega
theorem opK_shareAnew_ok : opK_shareAnew Rl := fun k S T w _ h => by
  have hI := h.1.1
  have hW := hI.1
  refine ⟨hI, opq h (ixW_cd w) fun _ => ?_⟩
  obtain ⟨-, a1, a2, -⟩ := h
  have h1 := cIn_le (T.2 4) (T.1 1)
  have h2 := cDl_le (T.2 4) (T.2 5) (T.1 1)
  have hl : (S.1 20).length ≤ 600 := by rw [a2.1]; omega
  rw [anewBy, anewF_h hW a1.2.1 a2.2.1 hl w _ 0 0 (by omega) (Nat.zero_le _), List.drop_zero, a2.2.2, mShr_G, Int32.add_zero]
theorem cntF_h {k0 : Nat} {S : sC} {T : sM} (hJ : JM k0 T) (h5 : S.1 5 = tab (T.1 1) (T.2 2)) (h17 : S.1 17 = txT T) (w : Int32) : ∀ fu n k, (txT T).length < n + fu → n ≤ (txT T).length → cntF S w fu n k = k + ((txT T).drop n).countP (fun x => decide (T.2 2 (tn x) = w)) := by
  have hW := hJ.1.1
  have hL := hJ.1.2.1
  have hl := txT_len T
  have hl2 := mCnt_le T (T.1 8)
  intro fu
  induction fu with
  | zero => intro n k h1 h2; omega
  | succ fu ih =>
    intro n k h1 h2
    rw [cntF, h17]
    by_cases hn : n < (txT T).length
    · rw [if_pos hn, List.drop_eq_getElem_cons hn, List.countP_cons]
      have e : rAt (txT T) (nI n) = (txT T)[n] := by rw [rAt_lt (by omega) hn]; simp [List.getD, hn]
      obtain ⟨_, _, _, _, e2, hm⟩ := txT_mem hJ (List.getElem_mem hn)
      rw [e, h5]
      have e3 : rAt (tab (T.1 1) (T.2 2)) (txT T)[n] = T.2 2 (tn (txT T)[n]) := by
        conv => lhs; rw [e2]
        exact rAt_tab _ (by omega) hm
      rw [e3]
      by_cases h4 : T.2 2 (tn (txT T)[n]) = w
      · rw [if_pos h4, ih _ _ (by omega) (by omega)]
        simp only [h4, decide_true, if_true]
        omega
      · rw [if_neg h4, ih _ _ (by omega) (by omega)]
        simp [h4]
    · rw [if_neg hn, List.drop_eq_nil_of_le (by omega)]
      rfl
theorem rwB_cnt (T : sM) (w : Int32) : ∀ k, ((tab k (T.2 7)).filter (isT T)).countP (fun x => decide (T.2 2 (tn x) = w)) = rwB (T.2 2) (T.2 5) (T.2 7) w k := by
  intro k
  induction k with
  | zero => rfl
  | succ k ih =>
    rw [tab_s, List.filter_append, List.countP_append, ih, rwB]
    congr 1
    by_cases h : T.2 5 (tn (T.2 7 k)) = 0
    · rw [List.filter_cons_of_neg (by simp [isT, h]), if_neg (fun h2 => h2.1 h)]; rfl
    · rw [List.filter_cons_of_pos (by simp [isT, h])]
      by_cases h2 : T.2 2 (tn (T.2 7 k)) = w
      · rw [if_pos ⟨h, h2⟩]; simp [h2]
      · rw [if_neg (fun h3 => h2 h3.2)]; simp [h2]
theorem opK_share_ok : opK_share Rl := fun k S T w _ h => by
  refine ⟨h.1.1, opq h (ixW_cd w) fun _ => ?_⟩
  have e := cntF_h h.1 h.2.1.2.1 h.2.1.2.2.2.2.2.2.2 w ((txT T).length + 1) 0 0 (by omega) (Nat.zero_le _)
  have e2 : cntBy S w = cntF S w ((txT T).length + 1) 0 0 := by rw [cntBy, h.2.1.2.2.2.2.2.2.2]
  rw [e2, e, List.drop_zero, Nat.zero_add, mShr_G, ← h.1.2.2.1.2.2.2.2 w, ← rwB_cnt]
  rfl
