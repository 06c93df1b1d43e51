/-! the relation kept: pass -/
/-- the relation while an issue is printed: the class's row of sums lags -/
def Qp (k : Nat) (S : sC) (T : sM) : Prop := Rl k (sSet S 83 (tab (T.1 25) (T.2 23))) T
theorem prF_t {T : sM} {r : Int32} (hW : T.1 1 ≤ 300) (hwr : ∀ n, n < T.1 1 → T.2 2 n = nI (tn (T.2 2 n)) ∧ tn (T.2 2 n) < 6) : ∀ fu n (S : sC), T.1 1 < n + fu → n ≤ T.1 1 → (S.1 3).length = T.1 1 → S.1 11 = tab (T.1 1) (T.2 6) → S.1 5 = tab (T.1 1) (T.2 2) → S.1 59 = tab 6 (mRoy T r n) → prF r fu n S = sSet S 59 (tab 6 (mRoy T r (T.1 1))) := by
  intro fu
  induction fu with
  | zero => intro n S h1 h2; omega
  | succ fu ih =>
    intro n S h1 h2 h3 h11 h5 h59
    rw [prF, h3]
    by_cases hn : n < T.1 1
    · obtain ⟨w1, w2⟩ := hwr n hn
      rw [if_pos hn, h11, rAt_tab _ (by omega) hn]
      by_cases h6 : T.2 6 n = r
      · have e59 : rSet (S.1 59) (rAt (S.1 5) (nI n)) (rAt (S.1 59) (rAt (S.1 5) (nI n)) + 5) = tab 6 (mRoy T r (n + 1)) := by
          rw [h5, rAt_tab _ (by omega) hn, h59, mRoy, if_pos h6]
          conv => lhs; rw [w1]
          rw [rAt_tab _ (by decide) w2, rSet_tab _ _ (by decide) w2]
          rfl
        rw [if_pos h6, e59, ih (n + 1) (sSet S 59 (tab 6 (mRoy T r (n + 1)))) (by omega) (by omega) h3 h11 h5 sSet_1, sSet_twice]
      · rw [if_neg h6]
        refine ih (n + 1) S (by omega) (by omega) h3 h11 h5 (h59.trans ?_)
        rw [mRoy, if_neg h6]
        refine tab_co fun j hj => ?_
        by_cases e : j = tn (T.2 2 n)
        · subst e; rw [upd_at]; exact (Int32.add_zero _).symm
        · rw [upd_o e]
    · rw [if_neg hn]
      obtain rfl : n = T.1 1 := by omega
      rw [← h59, sSet_self]
theorem q_head {S : sC} {T : sM} (h : RA5 S T) (hV : T.1 17 ≤ 30) : (S.1 72 = [] ∧ mWt T 0 = -1) ∨ ∃ r tl, S.1 72 = nI r :: tl ∧ mWt T 0 = nI r ∧ r < T.1 17 ∧ T.2 16 r = 1 := by
  have e := mWt_q h hV 0
  cases hq : S.1 72 with
  | nil =>
    rw [hq] at e
    exact Or.inl ⟨rfl, e⟩
  | cons x tl =>
    rw [hq] at e
    obtain ⟨r, h1, h2, h3⟩ := (h.2.2.2.1 x).mp (by rw [hq]; exact List.mem_cons_self)
    refine Or.inr ⟨r, tl, by rw [h2], ?_, h1, h3⟩
    rw [e, ← h2]
    rfl
/-- one review is printed -/
theorem Qp_step {k i r : Nat} {S : sC} {T : sM} {tl : List Int32} (h : Qp k S T) (hq : S.1 72 = nI r :: tl) (hr : r < T.1 17) (hs : T.2 16 r = 1) : T.2 17 r = nI (prR S (nI r)).1 ∧ (prR S (nI r)).1 ≤ 300 ∧ Qp k (prR S (nI r)).2 (mPrN T i r) ∧ (prR S (nI r)).2.1 72 = tl ∧ (prR S (nI r)).2.1 83 = S.1 83 ∧ (prR S (nI r)).2.1 64 = S.1 64 := by
  obtain ⟨⟨i0, j1, j2, j3, j4, j5, j6, j7, j8, j9⟩, r1, r2, r3, r4, r5, r6⟩ := h
  have hW := i0.1
  have hV := i0.2.2.1
  have hwr := i0.2.2.2.2.2.2.2.2.2.1
  have e3 : S.1 3 = tab (T.1 1) (T.2 1) := r1.1
  have e5 : S.1 5 = tab (T.1 1) (T.2 2) := r1.2.1
  have e11 : S.1 11 = tab (T.1 1) (T.2 6) := r1.2.2.2.2.1
  have e59 : S.1 59 = tab 6 (T.2 12) := r4.1
  have e68 : S.1 68 = tab (T.1 17) (T.2 16) := r4.2.2.2.2.1
  have nr : nI r ≠ -1 := nI_m1ne (by omega)
  have h0 : rAt (nI r :: tl) 0 = nI r := rfl
  have hrem : rRem (nI r :: tl) 0 = tl := rfl
  have fP : rvPrint S = sSet (sSet S 72 tl) 68 (tab (T.1 17) (upd (T.2 16) r (nI 3))) := by
    rw [rvPrint, hq, hrem, h0, e68, rSet_tab _ _ (by omega) hr]; rfl
  have l3 : (S.1 3).length = T.1 1 := by rw [e3, tab_len]
  have fF : prF (nI r) ((S.1 3).length + 1) 0 (rvPrint S) = sSet (sSet (sSet S 72 tl) 68 (tab (T.1 17) (upd (T.2 16) r (nI 3)))) 59 (tab 6 (mRoy T (nI r) (T.1 1))) := by
    rw [fP]
    exact prF_t hW hwr _ 0 _ (by omega) (Nat.zero_le _) l3 e11 e5 e59
  obtain ⟨u1, u2⟩ := unfreeze_t (S := sSet (sSet (sSet S 72 tl) 68 (tab (T.1 17) (upd (T.2 16) r (nI 3)))) 59 (tab 6 (mRoy T (nI r) (T.1 1)))) nr hW l3 e11
  have fR1 : (prR S (nI r)).1 = cFz (T.2 6) (nI r) (T.1 1) := by rw [prR, fF]; exact u1
  have fR2 : (prR S (nI r)).2 = sSet (sSet (sSet (sSet S 72 tl) 68 (tab (T.1 17) (upd (T.2 16) r (nI 3)))) 59 (tab 6 (mRoy T (nI r) (T.1 1)))) 11 (tab (T.1 1) (mThw (T.2 6) (nI r) (T.1 1))) := by rw [prR, fF]; exact u2
  have cle : ∀ n, cFz (T.2 6) (nI r) n ≤ n := by
    intro n
    induction n with
    | zero => exact Nat.le_refl 0
    | succ n ih => rw [cFz]; split <;> omega
  rw [fR1, fR2]
  have u0 : upd (T.2 16) r (nI 3) r = nI 3 := upd_at _ _ _
  have us : ∀ q, q ≠ r → upd (T.2 16) r (nI 3) q = T.2 16 q := fun q hq9 => upd_o hq9
  have st1 : ∀ q, upd (T.2 16) r (nI 3) q = 1 → q ≠ r ∧ T.2 16 q = 1 := fun q hq9 => by
    by_cases h9 : q = r
    · rw [h9, u0] at hq9; exact absurd hq9 (by decide)
    · rw [us q h9] at hq9; exact ⟨h9, hq9⟩
  have j3' : J3 (mPrN T i r) := by
    refine ⟨fun n hn2 => ?_, fun q hq9 ho => ?_⟩
    · show mThw (T.2 6) (nI r) (T.1 1) n = -1 ∨ ∃ q, q < T.1 17 ∧ mThw (T.2 6) (nI r) (T.1 1) n = nI q ∧ (upd (T.2 16) r (nI 3) q = 0 ∨ upd (T.2 16) r (nI 3) q = 1)
      rw [mThw]
      by_cases h9 : n < T.1 1 ∧ T.2 6 n = nI r
      · rw [if_pos h9]; exact Or.inl rfl
      · rw [if_neg h9]
        rcases j3.1 n hn2 with h10 | ⟨q, h10, h11, h12⟩
        · exact Or.inl h10
        · have hne : q ≠ r := fun h13 => h9 ⟨hn2, by rw [h11, h13]⟩
          exact Or.inr ⟨q, h10, h11, by rw [us q hne]; exact h12⟩
    · have hq' : q < T.1 17 := hq9
      have ho' : upd (T.2 16) r (nI 3) q = 0 ∨ upd (T.2 16) r (nI 3) q = 1 := ho
      have hne : q ≠ r := fun h13 => by rw [h13, u0] at ho'; rcases ho' with h14 | h14 <;> exact absurd h14 (by decide)
      rw [us q hne] at ho'
      show T.2 17 q = nI (cFz (mThw (T.2 6) (nI r) (T.1 1)) (nI q) (T.1 1))
      rw [cFz_thw (fun h13 => hne ((nI_eq (by omega) (by omega)).mp h13)) (nI_m1ne (by omega))]
      exact j3.2 q hq' ho'
  have j4' : J4 k (mPrN T i r) := ⟨j4.1, fun q hq9 h9 => j4.2.1 q hq9 (st1 q h9).2, fun q1 q2 h1 h2 h3 h4 h5 => j4.2.2 q1 q2 h1 h2 (st1 q1 h3).2 (st1 q2 h4).2 h5⟩
  have i0' : IM (mPrN T i r) := i0
  have q72 : (sSet S 83 (tab (T.1 25) (T.2 23))).1 72 = nI r :: tl := hq
  have r52 := r5.2.2.1
  have r54 := r5.2.2.2.2
  rw [q72] at r52 r54
  refine ⟨j3.2 r hr (Or.inr hs), by have := cle (T.1 1); omega, ⟨⟨i0', j1, j2, j3', j4', j5, j6, j7, j8, j9⟩, ⟨r1.1, r1.2.1, r1.2.2.1, r1.2.2.2.1, rfl, r1.2.2.2.2.2⟩, r2, RA3_set (by decide) (RA3_set (by decide) (RA3_set (by decide) (RA3_set (by decide) (RA3_set (by decide) (fun v hv => ?_))))), ⟨rfl, r4.2.1, r4.2.2.1, r4.2.2.2.1, rfl, r4.2.2.2.2.2⟩, ⟨r5.1, fun q hq9 h9 => r5.2.1 q hq9 (st1 q h9).2, (List.nodup_cons.mp r52).2, fun x => ?_, (List.pairwise_cons.mp r54).2⟩, ⟨r6.1, r6.2.1, rfl, r6.2.2.2⟩⟩, rfl, rfl, rfl⟩
  · have h9 := r3 v hv
    rw [sSet_o (by omega), sSet_o (by omega)] at h9
    exact h9
  · show x ∈ tl ↔ ∃ q, q < T.1 17 ∧ x = nI q ∧ upd (T.2 16) r (nI 3) q = 1
    have hm : x ∈ nI r :: tl ↔ ∃ q, q < T.1 17 ∧ x = nI q ∧ T.2 16 q = 1 := by rw [← hq]; exact r5.2.2.2.1 x
    constructor
    · intro h9
      obtain ⟨q, h10, h11, h12⟩ := hm.mp (List.mem_cons_of_mem _ h9)
      refine ⟨q, h10, h11, ?_⟩
      rw [us q (fun h13 => (List.nodup_cons.mp r52).1 (by rw [← h13, ← h11]; exact h9))]
      exact h12
    · rintro ⟨q, h10, h11, h12⟩
      obtain ⟨h13, h14⟩ := st1 q h12
      rcases List.mem_cons.mp (hm.mpr ⟨q, h10, h11, h14⟩) with h15 | h15
      · rw [h11] at h15
        exact absurd ((nI_eq (by omega) (by omega)).mp h15) h13
      · exact h15
theorem mPrN_23 (T : sM) (i r : Nat) : (mPrN T i r).2 23 = upd (T.2 23) i (T.2 23 i + T.2 17 r) := rfl
theorem mPrN_22 (T : sM) (i r : Nat) : (mPrN T i r).2 22 = T.2 22 := rfl
theorem mPrN_1 (T : sM) (i r : Nat) : (mPrN T i r).1 = T.1 := rfl
theorem upd_upd {g : Nat → Int32} {i : Nat} {a b : Int32} : upd (upd g i a) i b = upd g i b := by
  funext j
  by_cases e : j = i
  · subst e; rw [upd_at, upd_at]
  · rw [upd_o e, upd_o e, upd_o e]
theorem upd_id {g : Nat → Int32} {i : Nat} {a : Int32} (h : g i = a) : upd g i a = g := by
  funext j
  by_cases e : j = i
  · subst e; rw [upd_at, h]
  · rw [upd_o e]
theorem piF_t {k i z : Nat} (hz : z ≤ 200) : ∀ fu fu2 s (S : sC) (T : sM), Qp k S T → (S.1 72).length ≤ fu → (S.1 72).length ≤ fu2 → T.2 23 i = nI s → T.2 22 i = nI z → s ≤ z → ∃ s', (piF fu (nI (z - s)) (nI s) S).1 = nI s' ∧ (mPrF i fu2 T).2 23 = upd (T.2 23) i (nI s') ∧ Qp k (piF fu (nI (z - s)) (nI s) S).2 (mPrF i fu2 T) ∧ (piF fu (nI (z - s)) (nI s) S).2.1 83 = S.1 83 := by
  intro fu
  induction fu with
  | zero =>
    intro fu2 s S T h h1 h2 h3 h4 h5
    have hq0 : S.1 72 = [] := List.eq_nil_of_length_eq_zero (by omega)
    have hV := h.1.1.2.2.1
    have hw : mWt T 0 = -1 := by
      rcases q_head h.2.2.2.2.2.1 hV with ⟨-, e⟩ | ⟨r, tl, e, -⟩
      · exact e
      · have e' : S.1 72 = nI r :: tl := e
        rw [hq0] at e'; cases e'
    have e2 : mPrF i fu2 T = T := by
      cases fu2 with
      | zero => rfl
      | succ f => rw [mPrF, if_pos hw]
    rw [e2]
    exact ⟨s, rfl, (upd_id h3).symm, h, rfl⟩
  | succ fu ih =>
    intro fu2 s S T h h1 h2 h3 h4 h5
    have hV := h.1.1.2.2.1
    rcases q_head h.2.2.2.2.2.1 hV with ⟨e, hw⟩ | ⟨r, tl, e, hw, hr, hs⟩
    · have e' : S.1 72 = [] := e
      have e2 : mPrF i fu2 T = T := by
        cases fu2 with
        | zero => rfl
        | succ f => rw [mPrF, if_pos hw]
      rw [e2, piF, e', show rAt ([] : List Int32) 0 = -1 from rfl, if_pos rfl]
      exact ⟨s, rfl, (upd_id h3).symm, h, rfl⟩
    · have e' : S.1 72 = nI r :: tl := e
      have nr : ¬ nI r = -1 := nI_m1ne (by omega)
      have hw0 : ¬ mWt T 0 = -1 := by rw [hw]; exact nr
      have htn : tn (mWt T 0) = r := by rw [hw, tn_n (by omega)]
      obtain ⟨a1, a2, a3, a4, a5, a6⟩ := Qp_step (i := i) h e' hr hs
      have e64 : rAt (S.1 64) (nI r) = T.2 17 r := by
        have : S.1 64 = tab (T.1 17) (T.2 17) := h.2.2.2.2.1.2.2.1
        rw [this, rAt_tab _ (by omega) hr]
      have h0 : rAt (nI r :: tl) 0 = nI r := rfl
      cases fu2 with
      | zero => rw [e'] at h2; exact absurd h2 (Nat.not_succ_le_zero _)
      | succ f =>
        rw [piF, e', h0, if_neg nr, e64, mPrF, if_neg hw0, htn, h3, h4, a1, nI_add]
        by_cases hlt : z < s + (prR S (nI r)).1
        · rw [if_pos ((nI_ltI (by omega) (by omega)).mpr (by omega)), if_neg (fun h9 => absurd ((nI_leI (by omega) (by omega)).mp h9) (by omega))]
          exact ⟨s, rfl, (upd_id h3).symm, h, rfl⟩
        · rw [if_neg (fun h9 => absurd ((nI_ltI (by omega) (by omega)).mp h9) (by omega)), if_pos ((nI_leI (by omega) (by omega)).mpr (by omega)), pk_sub (by omega)]
          have hl : (tl).length + 1 = (S.1 72).length := by rw [e']; rfl
          have h23 : (mPrN T i r).2 23 i = nI (s + (prR S (nI r)).1) := by
            rw [mPrN_23, upd_at, h3, a1, nI_add]
          obtain ⟨s', b1, b2, b3, b4⟩ := ih f (s + (prR S (nI r)).1) (prR S (nI r)).2 (mPrN T i r) a3 (by rw [a4]; omega) (by rw [a4]; omega) h23 h4 (by omega)
          rw [show z - s - (prR S (nI r)).1 = z - (s + (prR S (nI r)).1) by omega]
          refine ⟨s', b1, ?_, b3, b4.trans a5⟩
          rw [b2, mPrN_23, upd_upd]
/-- an issue is printed -/
theorem Rl_issue {k i : Nat} {S : sC} {T : sM} (h : Rl k S T) (hi : i < T.1 25) : (prI S (nI i)).1 = (mPr T i).2 23 i ∧ Rl k (sPrI S (nI i)) (mPr T i) := by
  have hV := h.1.1.2.2.1
  have hC := h.1.1.2.2.2.1
  obtain ⟨z, hz, ez⟩ := h.1.2.2.2.2.2.1.2.2 i hi
  have h83 := h.2.2.2.2.2.2.2.2.1
  have e81 : rAt (S.1 81) (nI i) = nI z := by rw [h.2.2.2.2.2.2.2.1, rAt_tab _ (by omega) hi, ez]
  have hlen : (S.1 72).length ≤ 30 := by
    rw [(q_perm h.2.2.2.2.2.1 hV).length_eq]
    exact Nat.le_trans (dnL_le _ _) hV
  have hQ : Qp k S (sA T 23 (upd (T.2 23) i (nI 0))) := by
    obtain ⟨⟨i0, j1, j2, j3, j4, j5, j6, j7, j8, j9⟩, r1, r2, r3, r4, r5, r6⟩ := h
    exact ⟨⟨i0, j1, j2, j3, j4, j5, j6, j7, j8, j9⟩, r1, r2, RA3_set (by decide) r3, r4, r5, ⟨r6.1, r6.2.1, rfl, r6.2.2.2⟩⟩
  obtain ⟨s', b1, b2, b3, b4⟩ := piF_t (i := i) hz 30 31 0 S _ hQ hlen (by omega) (show upd (T.2 23) i (nI 0) i = nI 0 from upd_at _ _ _) ez (Nat.zero_le _)
  rw [Nat.sub_zero] at b1 b3 b4
  have hp : prI S (nI i) = piF 30 (nI z) (nI 0) S := by rw [prI, e81]; rfl
  have b2' : (mPr T i).2 23 = upd (T.2 23) i (nI s') := by
    rw [mPr, b2]
    exact upd_upd
  have b5 : (mPr T i).1 25 = T.1 25 := by rw [(mPr_fr T i).1]
  refine ⟨by rw [hp, b1, b2', upd_at], ?_⟩
  have e83 : rSet ((prI S (nI i)).2.1 83) (nI i) (prI S (nI i)).1 = tab ((mPr T i).1 25) ((mPr T i).2 23) := by
    rw [hp, b4, b1, h83, rSet_tab _ _ (by omega) hi, b2', b5]
  rw [sPrI, e83, hp]
  exact b3
theorem mIs_no {T : sM} {sm : Int32} : ∀ n, (∀ i, i < n → T.2 21 i ≠ nI (T.1 29)) → mIs T sm n = (T, sm) := by
  intro n
  induction n with
  | zero => intro _; rfl
  | succ n ih =>
    intro h
    have e := ih fun i hi => h i (by omega)
    rw [mIs, e, if_neg (h n (by omega))]
theorem mIs_one {T : sM} {sm : Int32} {i0 : Nat} (h0 : T.2 21 i0 = nI (T.1 29)) : ∀ n, i0 < n → (∀ i, i < n → T.2 21 i = nI (T.1 29) → i = i0) → mIs T sm n = (mPr T i0, sm + (mPr T i0).2 23 i0) := by
  intro n
  induction n with
  | zero => intro h; omega
  | succ n ih =>
    intro h hu
    by_cases e : n = i0
    · subst e
      rw [mIs, mIs_no n (fun i hi h9 => by have := hu i (by omega) h9; omega), if_pos h0]
    · have e2 := ih (by omega) fun i hi => hu i (by omega)
      rw [mIs, e2, if_neg]
      show ¬ (mPr T i0).2 21 n = nI ((mPr T i0).1 29)
      rw [(mPr_fr T i0).1, (mPr_fr T i0).2 21 (by decide) (by decide) (by decide) (by decide)]
      exact fun h9 => e (hu n (by omega) h9)
theorem Rl_day {k : Nat} {S : sC} {T : sM} (h : Rl k S T) (hd : T.1 29 + 1 ≤ 1000) : Rl k (sDay S (S.2.2 + 1)) (sS T 29 (T.1 29 + 1)) := by
  obtain ⟨⟨i0, j1, j2, j3, j4, j5, j6, j7, j8, j9⟩, r1, r2, r3, r4, r5, r6⟩ := h
  refine ⟨⟨⟨i0.1, i0.2.1, i0.2.2.1, i0.2.2.2.1, i0.2.2.2.2.1, i0.2.2.2.2.2.1, hd, i0.2.2.2.2.2.2.2⟩, j1, j2, j3, j4, j5, j6, j7, j8, j9⟩, r1, r2, r3, r4, r5, ⟨r6.1, r6.2.1, r6.2.2.1, r6.2.2.2.1, r6.2.2.2.2.1, r6.2.2.2.2.2.1, ?_⟩⟩
  show S.2.2 + 1 = nI (T.1 29 + 1)
  rw [r6.2.2.2.2.2.2, ← nI_add]; rfl
theorem paF_t {k : Nat} {T0 : sM} : ∀ fu d sm (S : sC), Rl k S (mPas T0 d).1 → sm = (mPas T0 d).2 → (mPas T0 d).1.1 29 + fu ≤ 1000 → (paF fu sm S).1 = (mPas T0 (d + fu)).2 ∧ Rl k (paF fu sm S).2 (mPas T0 (d + fu)).1 := by
  intro fu
  induction fu with
  | zero => intro d sm S h hs _; exact ⟨hs, h⟩
  | succ fu ih =>
    intro d sm S h hs hd
    have hC := h.1.1.2.2.2.1
    have hday := Rl_day h (by omega)
    have h29 : S.2.2 + 1 = nI ((mPas T0 d).1.1 29 + 1) := hday.2.2.2.2.2.2.2.2.2.2.2.2
    have h79 : S.1 79 = tab ((mPas T0 d).1.1 25) ((mPas T0 d).1.2 21) := h.2.2.2.2.2.2.1
    have huq := h.1.2.2.2.2.2.1.2.1
    have eM : mPas T0 (d + 1) = mIs (sS (mPas T0 d).1 29 ((mPas T0 d).1.1 29 + 1)) (mPas T0 d).2 ((mPas T0 d).1.1 25) := rfl
    rw [show d + (fu + 1) = d + 1 + fu by omega, paF]
    by_cases hx : ∃ i, i < (mPas T0 d).1.1 25 ∧ (mPas T0 d).1.2 21 i = S.2.2 + 1
    · obtain ⟨i, hi, ei⟩ := hx
      have hix : rIdx (S.1 79) (S.2.2 + 1) = nI i := by
        rw [h79, tab_split _ hi, ← ei, rIdx_app, tab_len]
        intro hm
        obtain ⟨j, hj, ej⟩ := tab_mem.mp hm
        have := huq j i (by omega) hi ej
        omega
      have e2 : mPas T0 (d + 1) = (mPr (sS (mPas T0 d).1 29 ((mPas T0 d).1.1 29 + 1)) i, (mPas T0 d).2 + (mPr (sS (mPas T0 d).1 29 ((mPas T0 d).1.1 29 + 1)) i).2 23 i) := by
        rw [eM]
        exact mIs_one (T := sS (mPas T0 d).1 29 ((mPas T0 d).1.1 29 + 1)) (ei.trans h29) _ hi fun j hj ej => huq j i hj hi (ej.trans (ei.trans h29).symm)
      obtain ⟨c1, c2⟩ := Rl_issue (i := i) hday hi
      rw [hix, if_neg (nI_m1ne (by omega))]
      refine ih (d + 1) _ _ (by rw [e2]; exact c2) (by rw [e2, c1, hs]) ?_
      rw [e2]
      show (mPr (sS (mPas T0 d).1 29 ((mPas T0 d).1.1 29 + 1)) i).1 29 + fu ≤ 1000
      rw [(mPr_fr _ i).1]
      show (mPas T0 d).1.1 29 + 1 + fu ≤ 1000
      omega
    · have hix : rIdx (S.1 79) (S.2.2 + 1) = -1 := by
        rw [h79]
        refine rIdx_none fun hm => ?_
        obtain ⟨j, hj, ej⟩ := tab_mem.mp hm
        exact hx ⟨j, hj, ej⟩
      have e2 : mPas T0 (d + 1) = (sS (mPas T0 d).1 29 ((mPas T0 d).1.1 29 + 1), (mPas T0 d).2) := by
        rw [eM]
        exact mIs_no (T := sS (mPas T0 d).1 29 ((mPas T0 d).1.1 29 + 1)) _ fun j hj ej => hx ⟨j, hj, ej.trans h29.symm⟩
      rw [hix, if_pos rfl]
      refine ih (d + 1) _ _ (by rw [e2]; exact hday) (by rw [e2]; exact hs) ?_
      rw [e2]
      show (mPas T0 d).1.1 29 + 1 + fu ≤ 1000
      omega
theorem mPas_0 (T0 : sM) : ∀ d, (mPas T0 d).1.1 0 = 0 := by
  have key : ∀ (T : sM) (sm : Int32) n, (mIs T sm n).1.1 = T.1 := by
    intro T sm n
    induction n with
    | zero => rfl
    | succ n ih =>
      rw [mIs]
      split
      · exact (mPr_fr _ n).1.trans ih
      · exact ih
  intro d
  induction d with
  | zero => rfl
  | succ d ih =>
    rw [mPas, key]
    exact ih
theorem opK_pass_ok : opK_pass Rl := fun k S T d hk h => by
  have hI := h.1.1
  have hD := hI.2.2.2.2.2.2.1
  have hs : S.2.2 = nI (T.1 29) := h.2.2.2.2.2.2.2.2.2.2.2.2
  have e : mtPs T d = cd [2, 3] (tPass S d) := by
    rw [tPass, rg_in, mtPs]
    by_cases h1 : inB d 1 100 = true
    · obtain ⟨hd, hd2⟩ := inB_1 h1
      have e2 : ((1000 : Int32) < S.2.2 + d) ↔ ¬ T.1 29 + tn d ≤ 1000 := by
        rw [hs]
        conv => lhs; rw [hd]
        rw [nI_add, show (1000 : Int32) = nI 1000 from rfl, nI_ltI (by decide) (by omega)]
        omega
      rw [if_pos h1, if_pos h1, tor_0]
      by_cases h2 : T.1 29 + tn d ≤ 1000
      · rw [if_pos h2, decide_eq_false (fun h3 => e2.mp h3 h2)]; rfl
      · rw [if_neg h2, decide_eq_true (e2.mpr h2)]; rfl
    · rw [if_neg h1, if_neg h1]; rfl
  by_cases h0 : mtPs T d = 0
  · have h0c : tPass S d = 0 := by
      rw [h0] at e
      by_cases h9 : tPass S d = 0
      · exact h9
      · rw [cd, if_neg h9] at e; omega
    rw [if_pos h0, if_pos h0c]
    have hle : T.1 29 + tn d ≤ 1000 := by
      rw [mtPs] at h0
      split at h0
      · split at h0
        · rename_i h2; exact h2
        · cases h0
      · cases h0
    obtain ⟨a1, a2⟩ := paF_t (T0 := T) (tn d) 0 0 S (Rl_0 h 0) rfl hle
    rw [Nat.zero_add] at a1 a2
    exact ⟨hI, e, by rw [h0]; exact mPas_0 T _, fun _ => a1.symm, a2⟩
  · have h0c : ¬ tPass S d = 0 := fun h9 => h0 (by rw [e, h9]; rfl)
    rw [if_neg h0, if_neg h0c]
    exact ⟨hI, e, rfl, fun h9 => absurd h9 h0c, Rl_0 h _⟩
/-! all of it -/
theorem Rel_ok : RelOK Rl := ⟨opK_none_ok, opK_type_ok, opK_delete_ok, opK_merge_ok, opK_copy_ok, opK_copyAt_ok, opK_changes_ok, opK_length_ok, opK_wordAt_ok, opK_word_ok, opK_placeOf_ok, opK_share_ok, opK_shareAnew_ok, opK_setRate_ok, opK_order_ok, opK_finish_ok, opK_cancel_ok, opK_stateOf_ok, opK_frozenBy_ok, opK_earned_ok, opK_addIssue_ok, opK_waiting_ok, opK_pass_ok, opK_today_ok, opK_printed_ok, opK_royalties_ok, opK_comment_ok, opK_span_ok, opK_keep_ok, opK_compare_ok⟩
