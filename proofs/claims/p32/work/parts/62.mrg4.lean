/-! merging: all changes, then the text -/
theorem neg1_n {n : Nat} : -(-(nI n) - nI 1) - nI 1 = nI n := neg_neg1 (nI n)
theorem cT_typed {S : sC} {T : sM} {w i n : Nat} (h3 : S.1 (27 + 6 * w) = tab (tn (T.2 10 w)) (fun i => cdT (T.2 11 (700 * w + i)))) (hc : tn (T.2 10 w) < 700) (hi : i < tn (T.2 10 w)) (hn : n < 300) (e : T.2 11 (700 * w + i) = nI (n + 1)) : cTyped (S.1 (27 + 6 * w)) (nI i) = true ∧ cNum (S.1 (27 + 6 * w)) (nI i) = nI n := by
  have e1 : rAt (S.1 (27 + 6 * w)) (nI i) = nI n := by
    rw [h3, rAt_tab _ (by omega) hi, e, cdT, if_neg (nI_nle (by omega) (by omega))]
    exact nI_pred n
  have e2 : nI n < 300 := (nI_ltI (b := 300) (by omega) (by decide)).mpr (by omega)
  exact ⟨by rw [cTyped, e1, decide_eq_true e2], by rw [cNum, e1, if_pos e2]⟩
theorem cT_del {S : sC} {T : sM} {w i n : Nat} (h3 : S.1 (27 + 6 * w) = tab (tn (T.2 10 w)) (fun i => cdT (T.2 11 (700 * w + i)))) (hc : tn (T.2 10 w) < 700) (hi : i < tn (T.2 10 w)) (hn : n < 300) (e : T.2 11 (700 * w + i) = -(nI n) - nI 1) : cTyped (S.1 (27 + 6 * w)) (nI i) = false ∧ cNum (S.1 (27 + 6 * w)) (nI i) = nI n := by
  have e1 : rAt (S.1 (27 + 6 * w)) (nI i) = nI (300 + n) := by
    rw [h3, rAt_tab _ (by omega) hi, e, cdT_neg (by omega)]
    exact nI_add 300 n
  have e2 : ¬ nI (300 + n) < 300 := fun h9 => absurd ((nI_ltI (b := 300) (by omega) (by decide)).mp h9) (by omega)
  refine ⟨by rw [cTyped, e1, decide_eq_false e2], ?_⟩
  rw [cNum, e1, if_neg e2, show (300 : Int32) = nI 300 from rfl, pk_sub (by omega), show 300 + n - 300 = n by omega]
/-- one change of writer w, for both -/
theorem Rm_step {w i k : Nat} {S : sC} {T : sM} (hw : w < 6) (h : Rm w i k S T) (hi : i < tn (T.2 10 w)) :
    ((T.2 11 (700 * w + i) ≤ 0 → -(T.2 11 (700 * w + i)) - nI 1 = nI (tn (-(T.2 11 (700 * w + i)) - nI 1)) ∧ tn (-(T.2 11 (700 * w + i)) - nI 1) < T.1 1) ∧ (¬ T.2 11 (700 * w + i) ≤ 0 → T.2 11 (700 * w + i) - nI 1 = nI (tn (T.2 11 (700 * w + i) - nI 1)) ∧ tn (T.2 11 (700 * w + i) - nI 1) < T.1 1 ∧ T.1 8 < 300)) ∧
    ((cTyped (S.1 (27 + 6 * w)) (nI i) = true ∧ (putIn S (cNum (S.1 (27 + 6 * w)) (nI i))).1 = mStB T (T.2 11 (700 * w + i)) ∧ Rm w (i + 1) k (putIn S (cNum (S.1 (27 + 6 * w)) (nI i))).2 (mStS T (T.2 11 (700 * w + i)))) ∨
     (cTyped (S.1 (27 + 6 * w)) (nI i) = false ∧ (takeOut S (cNum (S.1 (27 + 6 * w)) (nI i))).1 = mStB T (T.2 11 (700 * w + i)) ∧ Rm w (i + 1) k (takeOut S (cNum (S.1 (27 + 6 * w)) (nI i))).2 (mStS T (T.2 11 (700 * w + i))))) := by
  obtain ⟨⟨i0, j1, j2, j3, j4, j5, j6, j7, j9⟩, p8, rb, r2, r3, r4, r5, r6⟩ := id h
  have hW := i0.1
  have hL := i0.2.1
  have hc := (i0.2.2.2.2.2.2.2.2.2.2.2.1 w hw).2
  rcases (p8 w hw).2.1 i (fun _ => Nat.le_refl _) hi with ⟨n, hn, e, h4, h2⟩ | ⟨n, hn, e⟩
  · obtain ⟨t1, t2⟩ := cT_typed (r3 w hw).2 hc hi (by omega) e
    have hpos : ¬ T.2 11 (700 * w + i) ≤ 0 := by rw [e]; exact nI_nle (by omega) (by omega)
    have hm : T.2 11 (700 * w + i) - nI 1 = nI n := by rw [e]; exact nI_pred n
    have hm2 : tn (T.2 11 (700 * w + i) - nI 1) = n := by rw [hm, tn_n (by omega)]
    have h41 : ¬ T.2 4 n = 1 := by rw [h4]; decide
    have hlt : T.1 8 < 300 := by
      have := cIn_lt h41 hn
      have := j2.2.2.2.1
      omega
    refine ⟨⟨fun h9 => absurd h9 hpos, fun _ => ⟨by rw [hm2]; exact hm, by rw [hm2]; exact hn, hlt⟩⟩, Or.inl ⟨t1, ?_⟩⟩
    rw [t2, mStB, mStS, if_neg hpos, if_neg hpos, hm2, putIn, pIdx_eq i0 j1 j2 rb hn, parts_eq i0 j1 rb (mAt_le n (by omega))]
    by_cases hr : mRef T (mAt T n) = true
    · rw [if_pos hr, if_pos hr, hr]
      exact ⟨rfl, h.up⟩
    · rw [if_neg hr, if_neg hr, Bool.eq_false_iff.mpr hr]
      exact ⟨rfl, Rm_come hw h hn h4 h2 e⟩
  · obtain ⟨t1, t2⟩ := cT_del (r3 w hw).2 hc hi (by omega) e
    have hneg : T.2 11 (700 * w + i) ≤ 0 := by rw [e]; exact neg_le0 (by omega)
    have hm : -(T.2 11 (700 * w + i)) - nI 1 = nI n := by rw [e]; exact neg1_n
    have hm2 : tn (-(T.2 11 (700 * w + i)) - nI 1) = n := by rw [hm, tn_n (by omega)]
    refine ⟨⟨fun _ => ⟨by rw [hm2]; exact hm, by rw [hm2]; exact hn⟩, fun h9 => absurd hneg h9⟩, Or.inr ⟨t1, ?_⟩⟩
    rw [t2, mStB, mStS, if_pos hneg, if_pos hneg, hm2, takeOut, wTh j1 rb hW hn]
    rcases j1.1 n with h5 | h5
    · rw [decide_eq_true h5, if_pos h5, Bool.not_true, if_neg Bool.false_ne_true]
      exact ⟨rfl, h.up⟩
    · have h50 : ¬ T.2 5 n = 0 := by rw [h5]; decide
      have hf : wFroz S (nI n) = !decide (T.2 6 n = -1) := by rw [wFroz, rb.2.2.2.2.1, rAt_tab _ (by omega) hn]
      rw [decide_eq_false h50, if_neg h50, Bool.not_false, if_pos rfl, hf, mTakeS, Bool.false_or]
      by_cases h6 : T.2 6 n = -1
      · rw [decide_eq_true h6, if_pos h6, Bool.not_true, if_neg Bool.false_ne_true]
        refine ⟨rfl, ?_⟩
        rw [show vp_nar .boolean (nI 0) = (0 : Int32) by decide]
        exact Rm_take h hn h5
      · rw [decide_eq_false h6, if_neg h6, Bool.not_false, if_pos rfl]
        refine ⟨rfl, ?_⟩
        have e5 : upd (T.2 5) n (vp_nar .boolean (nI 1)) = T.2 5 := by
          rw [show vp_nar .boolean (nI 1) = (1 : Int32) by decide]
          funext m
          by_cases e9 : m = n
          · subst e9; rw [upd_at, h5]
          · rw [upd_o e9]
        rw [e5, sA_id]
        exact h.up
theorem mrg_t {w k : Nat} {T0 : sM} (hw : w < 6) : ∀ fu i kk (S : sC), tn (T0.2 10 w) < i + fu → i ≤ tn (T0.2 10 w) → kk = (mMrg T0 w i).2 → Rm w i k S (mMrg T0 w i).1 →
    (mrgF (27 + 6 * w) fu i kk S).1 = (mMrg T0 w (tn (T0.2 10 w))).2 ∧ Rm w (tn (T0.2 10 w)) k (mrgF (27 + 6 * w) fu i kk S).2 (mMrg T0 w (tn (T0.2 10 w))).1 ∧ (∀ m, i ≤ m → m ≤ tn (T0.2 10 w) → IM (mMrg T0 w m).1) ∧ ∀ m, i ≤ m → m < tn (T0.2 10 w) → ((T0.2 11 (700 * w + m) ≤ 0 → -(T0.2 11 (700 * w + m)) - nI 1 = nI (tn (-(T0.2 11 (700 * w + m)) - nI 1)) ∧ tn (-(T0.2 11 (700 * w + m)) - nI 1) < (mMrg T0 w m).1.1 1) ∧ (¬ T0.2 11 (700 * w + m) ≤ 0 → T0.2 11 (700 * w + m) - nI 1 = nI (tn (T0.2 11 (700 * w + m) - nI 1)) ∧ tn (T0.2 11 (700 * w + m) - nI 1) < (mMrg T0 w m).1.1 1 ∧ (mMrg T0 w m).1.1 8 < 300)) := by
  intro fu
  induction fu with
  | zero => intro i kk S h1 h2; omega
  | succ fu ih =>
    intro i kk S h1 h2 hk h
    have e10 : (mMrg T0 w i).1.2 10 = T0.2 10 := (mMrg_11 T0 w i).2
    have e11 : (mMrg T0 w i).1.2 11 = T0.2 11 := (mMrg_11 T0 w i).1
    have hlen : (S.1 (27 + 6 * w)).length = tn (T0.2 10 w) := by rw [(h.2.2.2.2.1 w hw).2, tab_len, e10]
    rw [mrgF, hlen]
    by_cases hi : i < tn (T0.2 10 w)
    · rw [if_pos hi]
      obtain ⟨b1, b2⟩ := Rm_step hw h (by rw [e10]; exact hi)
      rw [e11] at b1 b2
      have fin : ∀ S' kk', kk' = (mMrg T0 w (i + 1)).2 → Rm w (i + 1) k S' (mMrg T0 w (i + 1)).1 → (mrgF (27 + 6 * w) fu (i + 1) kk' S').1 = (mMrg T0 w (tn (T0.2 10 w))).2 ∧ Rm w (tn (T0.2 10 w)) k (mrgF (27 + 6 * w) fu (i + 1) kk' S').2 (mMrg T0 w (tn (T0.2 10 w))).1 ∧ (∀ m, i ≤ m → m ≤ tn (T0.2 10 w) → IM (mMrg T0 w m).1) ∧ ∀ m, i ≤ m → m < tn (T0.2 10 w) → ((T0.2 11 (700 * w + m) ≤ 0 → -(T0.2 11 (700 * w + m)) - nI 1 = nI (tn (-(T0.2 11 (700 * w + m)) - nI 1)) ∧ tn (-(T0.2 11 (700 * w + m)) - nI 1) < (mMrg T0 w m).1.1 1) ∧ (¬ T0.2 11 (700 * w + m) ≤ 0 → T0.2 11 (700 * w + m) - nI 1 = nI (tn (T0.2 11 (700 * w + m) - nI 1)) ∧ tn (T0.2 11 (700 * w + m) - nI 1) < (mMrg T0 w m).1.1 1 ∧ (mMrg T0 w m).1.1 8 < 300)) := fun S' kk' hk' h' => by
        obtain ⟨a1, a2, a3, a4⟩ := ih (i + 1) kk' S' (by omega) (by omega) hk' h'
        refine ⟨a1, a2, fun m m1 m2 => ?_, fun m m1 m2 => ?_⟩
        · by_cases e : m = i
          · subst e; exact h.1.1
          · exact a3 m (by omega) m2
        · by_cases e : m = i
          · subst e; exact b1
          · exact a4 m (by omega) m2
      rcases b2 with ⟨t1, t2, t3⟩ | ⟨t1, t2, t3⟩
      · rw [t1, if_pos rfl, t2]
        refine fin _ _ ?_ t3
        rw [mMrg, hk]
      · rw [t1, if_neg Bool.false_ne_true, t2]
        refine fin _ _ ?_ t3
        rw [mMrg, hk]
    · rw [if_neg hi]
      obtain rfl : i = tn (T0.2 10 w) := by omega
      refine ⟨hk, h, fun m m1 m2 => ?_, fun m m1 m2 => by omega⟩
      obtain rfl : m = tn (T0.2 10 w) := by omega
      exact h.1.1
theorem renF_t {S : sC} {T : sM} (hI : IM T) (h : J1 T) (hb : RB S T) : ∀ fu n x, T.1 8 < n + fu → n ≤ T.1 8 → x.length ≤ n → renF S fu n x = x ++ ((tab (T.1 8) (T.2 7)).drop n).filter (isT T) := by
  have hL := hI.2.1
  have hlen : (S.1 15).length = T.1 8 := by rw [hb.2.2.2.2.2.2, tab_len]
  obtain ⟨-, -, -, c17⟩ := cap3
  intro fu
  induction fu with
  | zero => intro n x h1 h2; omega
  | succ fu ih =>
    intro n x h1 h2 h3
    rw [renF, hlen]
    by_cases hn : n < T.1 8
    · rw [if_pos hn, wTr hI h hb hn, tab_drop _ hn]
      by_cases h5 : T.2 5 (tn (T.2 7 n)) = 0
      · rw [decide_eq_true h5, Bool.not_true, if_neg Bool.false_ne_true, List.filter_cons_of_neg (by simp [isT, h5])]
        exact ih (n + 1) x (by omega) (by omega) (by omega)
      · rw [decide_eq_false h5, Bool.not_false, if_pos rfl, List.filter_cons_of_pos (by simp [isT, h5]), rAdd, if_pos (by omega), ih (n + 1) _ (by omega) (by omega) (by rw [List.length_append]; show _ + 1 ≤ _; omega), hb.2.2.2.2.2.2, rAt_tab _ (by omega) hn, List.append_assoc]
        rfl
    · rw [if_neg hn, List.drop_eq_nil_of_le (by rw [tab_len]; omega)]
      simp
theorem mCpF_t (T : sM) (w : Nat) : ∀ k, tab (mCpF T w k).2 (fun i => (mCpF T w k).1 (300 * w + i)) = (tab k (T.2 7)).filter (isT T) ∧ ∀ j, j < 300 * w ∨ 300 * w + k ≤ j → (mCpF T w k).1 j = T.2 9 j := by
  intro k
  induction k with
  | zero => exact ⟨rfl, fun _ _ => rfl⟩
  | succ k ih =>
    rw [mCpF, tab_s, List.filter_append, ← ih.1]
    by_cases h5 : T.2 5 (tn (T.2 7 k)) = 0
    · rw [if_pos h5, List.filter_cons_of_neg (by simp [isT, h5])]
      exact ⟨(List.append_nil _).symm, fun j hj => ih.2 j (by omega)⟩
    · rw [if_neg h5, List.filter_cons_of_pos (by simp [isT, h5])]
      have hle := mCpF_le T w k
      refine ⟨?_, fun j hj => ?_⟩
      · show tab ((mCpF T w k).2 + 1) (fun i => upd (mCpF T w k).1 (300 * w + (mCpF T w k).2) (T.2 7 k) (300 * w + i)) = _
        rw [tab_s]
        congr 1
        · exact tab_co fun i hi => upd_o (by omega)
        · show [upd (mCpF T w k).1 (300 * w + (mCpF T w k).2) (T.2 7 k) (300 * w + (mCpF T w k).2)] = _
          rw [upd_at]; rfl
      · show upd (mCpF T w k).1 (300 * w + (mCpF T w k).2) (T.2 7 k) j = _
        rw [upd_o (by omega)]
        exact ih.2 j (by omega)
theorem mStS_10 (T : sM) (c : Int32) : (mStS T c).1 0 = T.1 0 := by
  unfold mStS
  split
  · split
    · rfl
    · rfl
  · split
    · rfl
    · rfl
theorem mMrg_10 (T : sM) (w : Nat) : ∀ k, (mMrg T w k).1.1 0 = 0 := by
  intro k
  induction k with
  | zero => rfl
  | succ k ih => rw [mMrg]; exact (mStS_10 _ _).trans ih
/-- the end of a merge -/
theorem Rl_fill {w i k : Nat} {S : sC} {T : sM} (hw : w < 6) (h : Rm w i k S T) : Rl k (mrgEnd S (23 + 6 * w)) (mFill T w (T.1 8)) := by
  obtain ⟨⟨i0, j1, j2, j3, j4, j5, j6, j7, j9⟩, p8, rb, r2, r3, r4, r5, r6⟩ := h
  have hW := i0.1
  have hL := i0.2.1
  have irow := i0.2.2.2.2.2.2.2.1
  obtain ⟨t1, t2⟩ := mCpF_t T w (T.1 8)
  have hle := mCpF_le T w (T.1 8)
  have hLW : T.1 8 ≤ T.1 1 := by
    have := cIn_le (T.2 4) (T.1 1)
    have := j2.2.2.2.1
    omega
  have fS : mrgEnd S (23 + 6 * w) = sSet (sSet (sSet S (27 + 6 * w) []) 17 (txT T)) (24 + 6 * w) (txT T) := by
    have e1 : renF (sSet S (27 + 6 * w) []) (((sSet S (27 + 6 * w) []).1 15).length + 1) 0 [] = txT T := by
      have hb' : RB (sSet S (27 + 6 * w) []) T := by
        unfold RB
        rw [sSet_o (by omega), sSet_o (by omega), sSet_o (by omega), sSet_o (by omega), sSet_o (by omega), sSet_o (by omega), sSet_o (by omega)]
        exact rb
      rw [renF_t i0 j1 hb' _ 0 [] (by rw [hb'.2.2.2.2.2.2, tab_len]; omega) (Nat.zero_le _) (Nat.le_refl _)]
      rfl
    rw [mrgEnd, show 23 + 6 * w + 4 = 27 + 6 * w by omega, show 23 + 6 * w + 1 = 24 + 6 * w by omega, renew, e1, sSet_1]
  have ftx : ∀ i, i < (mCpF T w (T.1 8)).2 → ∃ n, n < T.1 1 ∧ (mCpF T w (T.1 8)).1 (300 * w + i) = nI n := fun i hi => by
    have hm : (mCpF T w (T.1 8)).1 (300 * w + i) ∈ tab (mCpF T w (T.1 8)).2 (fun i => (mCpF T w (T.1 8)).1 (300 * w + i)) := tab_mem.mpr ⟨i, hi, rfl⟩
    rw [t1] at hm
    obtain ⟨q, hq, eq⟩ := tab_mem.mp (List.mem_filter.mp hm).1
    rw [← eq]
    exact ⟨_, (irow q hq).2, (irow q hq).1⟩
  rw [fS, mFill]
  generalize (mCpF T w (T.1 8)).2 = cnt at *
  generalize (mCpF T w (T.1 8)).1 = g9 at *
  have o : ∀ j, j ≠ 17 → j ≠ 27 + 6 * w → j ≠ 24 + 6 * w → (sSet (sSet (sSet S (27 + 6 * w) []) 17 (txT T)) (24 + 6 * w) (txT T)).1 j = S.1 j := fun j h1 h2 h3 => by
    rw [sSet_o h3, sSet_o h1, sSet_o h2]
  have o17 : (sSet (sSet (sSet S (27 + 6 * w) []) 17 (txT T)) (24 + 6 * w) (txT T)).1 17 = txT T := by
    rw [sSet_o (by omega), sSet_1]
  refine ⟨⟨⟨i0.1, i0.2.1, i0.2.2.1, i0.2.2.2.1, i0.2.2.2.2.1, i0.2.2.2.2.2.1, i0.2.2.2.2.2.2.1, irow, i0.2.2.2.2.2.2.2.2.1, i0.2.2.2.2.2.2.2.2.2.1, fun v hv => ?_, fun v hv => ?_, i0.2.2.2.2.2.2.2.2.2.2.2.2⟩, j1, j2, j3, j4, j5, j6, fun v hv => ?_, fun v hv => ?_, j9⟩, ?_, ?_, fun v hv => ?_, ?_, ?_, ?_⟩
  · show upd (T.2 8) w (nI cnt) v = nI (tn (upd (T.2 8) w (nI cnt) v)) ∧ tn (upd (T.2 8) w (nI cnt) v) ≤ T.1 1
    by_cases e : v = w
    · subst e; rw [upd_at, tn_n (by omega)]; exact ⟨rfl, by omega⟩
    · rw [upd_o e]; exact i0.2.2.2.2.2.2.2.2.2.2.1 v hv
  · show upd (T.2 10) w (nI 0) v = nI (tn (upd (T.2 10) w (nI 0) v)) ∧ tn (upd (T.2 10) w (nI 0) v) < 700
    by_cases e : v = w
    · subst e; rw [upd_at, tn_n (by omega)]; exact ⟨rfl, by omega⟩
    · rw [upd_o e]; exact i0.2.2.2.2.2.2.2.2.2.2.2.1 v hv
  · show tn (upd (T.2 8) w (nI cnt) v) ≤ T.1 1 ∧ ∀ i, i < tn (upd (T.2 8) w (nI cnt) v) → ∃ n, n < T.1 1 ∧ g9 (300 * v + i) = nI n
    by_cases e : v = w
    · subst e; rw [upd_at, tn_n (by omega)]; exact ⟨by omega, ftx⟩
    · rw [upd_o e]
      have h8 := (j7 v hv).1
      refine ⟨h8, fun i hi => ?_⟩
      rw [t2 _ (by omega)]
      exact (j7 v hv).2 i hi
  · show tn (upd (T.2 10) w (nI 0) v) ≤ k ∧ (∀ m, m < tn (upd (T.2 10) w (nI 0) v) → (∃ n, n < T.1 1 ∧ T.2 11 (700 * v + m) = nI (n + 1) ∧ T.2 4 n = 0 ∧ T.2 2 n = nI v) ∨ ∃ n, n < T.1 1 ∧ T.2 11 (700 * v + m) = -(nI n) - nI 1) ∧ ∀ m j, m < j → j < tn (upd (T.2 10) w (nI 0) v) → T.2 11 (700 * v + m) = T.2 11 (700 * v + j) → T.2 11 (700 * v + j) ≤ 0
    by_cases e : v = w
    · subst e; rw [upd_at, tn_n (by omega)]
      exact ⟨Nat.zero_le _, fun m hm => absurd hm (Nat.not_lt_zero _), fun m j _ hj => absurd hj (Nat.not_lt_zero _)⟩
    · rw [upd_o e]
      exact ⟨(p8 v hv).1, fun m hm => (p8 v hv).2.1 m (fun h9 => absurd h9 e) hm, (p8 v hv).2.2⟩
  · unfold RA1
    rw [o17, o 3 (by omega) (by omega) (by omega), o 5 (by omega) (by omega) (by omega), o 7 (by omega) (by omega) (by omega), o 9 (by omega) (by omega) (by omega), o 11 (by omega) (by omega) (by omega), o 13 (by omega) (by omega) (by omega), o 15 (by omega) (by omega) (by omega)]
    exact ⟨rb.1, rb.2.1, rb.2.2.1, rb.2.2.2.1, rb.2.2.2.2.1, rb.2.2.2.2.2.1, rb.2.2.2.2.2.2, rfl⟩
  · unfold RA2; rw [o 20 (by omega) (by omega) (by omega)]; exact r2
  · show _ = tab (tn (upd (T.2 8) w (nI cnt) v)) (fun i => g9 (300 * v + i)) ∧ _ = tab (tn (upd (T.2 10) w (nI 0) v)) (fun i => cdT (T.2 11 (700 * v + i)))
    by_cases e : v = w
    · subst e
      rw [sSet_1, sSet_o (by omega), sSet_o (by omega), sSet_1, upd_at, upd_at, tn_n (by omega), tn_n (by omega)]
      exact ⟨t1.symm, rfl⟩
    · rw [o _ (by omega) (by omega) (by omega), o _ (by omega) (by omega) (by omega), upd_o e, upd_o e]
      have h8 := (j7 v hv).1
      exact ⟨(r3 v hv).1.trans (tab_co fun i hi => (t2 _ (by omega)).symm), (r3 v hv).2⟩
  · unfold RA4
    rw [o 59 (by omega) (by omega) (by omega), o 62 (by omega) (by omega) (by omega), o 64 (by omega) (by omega) (by omega), o 66 (by omega) (by omega) (by omega), o 68 (by omega) (by omega) (by omega), o 74 (by omega) (by omega) (by omega), o 76 (by omega) (by omega) (by omega)]
    exact r4
  · unfold RA5; rw [o 70 (by omega) (by omega) (by omega), o 72 (by omega) (by omega) (by omega)]; exact r5
  · unfold RA6
    rw [o 79 (by omega) (by omega) (by omega), o 81 (by omega) (by omega) (by omega), o 83 (by omega) (by omega) (by omega), o 86 (by omega) (by omega) (by omega), o 88 (by omega) (by omega) (by omega)]
    exact r6
theorem opK_merge_ok : opK_merge Rl := fun k S T w hk h => by
  have hI := h.1.1
  have e := ixW_cd w
  have hbeg : ∀ v, Rm v 0 (k + 1) S (mMrg T v 0).1 := fun v => Rm_of (Rl_0 h 0)
  refine ⟨⟨hI, fun hb => ?_⟩, e, ?_⟩
  · have hl : tn w < 6 := by have := inB_n (b := 5) (by decide) hb; omega
    obtain ⟨-, -, a3, a4⟩ := mrg_t hl (tn (T.2 10 (tn w)) + 1) 0 0 S (by omega) (Nat.zero_le _) rfl (hbeg (tn w))
    exact ⟨fun m hm => a3 m (Nat.zero_le _) hm, fun m hm => a4 m (Nat.zero_le _) hm⟩
  · by_cases h0 : tIx w 6 = 0
    · have hm : mtW w = 0 := by rw [e, h0]; rfl
      rw [if_pos hm, if_pos h0]
      obtain ⟨hw, hl⟩ := ixW_0 h0
      have hlen : (S.1 (27 + 6 * tn w)).length = tn (T.2 10 (tn w)) := by rw [(h.2.2.2.1 _ hl).2, tab_len]
      obtain ⟨a1, a2, -, -⟩ := mrg_t hl ((S.1 (27 + 6 * tn w)).length + 1) 0 0 S (by omega) (Nat.zero_le _) rfl (hbeg (tn w))
      have hp : pW w = 23 + 6 * tn w := rfl
      have hmr : mrg S (pW w) = mrgF (27 + 6 * tn w) ((S.1 (27 + 6 * tn w)).length + 1) 0 0 S := by rw [mrg, pW4]
      refine ⟨?_, fun _ => ?_, ?_⟩
      · rw [hm]; exact mMrg_10 T (tn w) _
      · rw [hmr, a1]
      · rw [sMerge, hmr, hp]
        exact Rl_fill hl a2
    · have hm : ¬ mtW w = 0 := by rw [e, cd, if_neg h0]; omega
      rw [if_neg hm, if_neg h0]
      exact ⟨rfl, fun h9 => absurd h9 h0, Rl_0 h _⟩
