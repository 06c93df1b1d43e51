/-! merging: the relation between two changes -/
def P8 (w i k : Nat) (T : sM) : Prop := ∀ v, v < 6 → tn (T.2 10 v) ≤ k ∧ (∀ m, (v = w → i ≤ m) → m < tn (T.2 10 v) → (∃ n, n < T.1 1 ∧ T.2 11 (700 * v + m) = nI (n + 1) ∧ T.2 4 n = 0 ∧ T.2 2 n = nI v) ∨ ∃ n, n < T.1 1 ∧ T.2 11 (700 * v + m) = -(nI n) - nI 1) ∧ ∀ m j, m < j → j < tn (T.2 10 v) → T.2 11 (700 * v + m) = T.2 11 (700 * v + j) → T.2 11 (700 * v + j) ≤ 0
def JN (k : Nat) (T : sM) : Prop := IM T ∧ J1 T ∧ J2 T ∧ J3 T ∧ J4 k T ∧ J5 T ∧ J6 T ∧ J7 T ∧ J9 T
def RB (S : sC) (T : sM) : Prop := S.1 3 = tab (T.1 1) (T.2 1) ∧ S.1 5 = tab (T.1 1) (T.2 2) ∧ S.1 7 = tab (T.1 1) (T.2 3) ∧ S.1 9 = tab (T.1 1) (stT T) ∧ S.1 11 = tab (T.1 1) (T.2 6) ∧ S.1 13 = tab (T.1 1) (fun n => bits (T.2 26) n (T.1 33)) ∧ S.1 15 = tab (T.1 8) (T.2 7)
def Rm (w i k : Nat) (S : sC) (T : sM) : Prop := JN k T ∧ P8 w i k T ∧ RB S T ∧ RA2 S T ∧ RA3 S T ∧ RA4 S T ∧ RA5 S T ∧ RA6 S T
theorem P8.le {w i k : Nat} {T : sM} (h : P8 w i k T) : P8 w (i + 1) k T := fun v hv => ⟨(h v hv).1, fun m hm hl => (h v hv).2.1 m (fun e => by have := hm e; omega) hl, (h v hv).2.2⟩
theorem Rm.up {w i k : Nat} {S : sC} {T : sM} (h : Rm w i k S T) : Rm w (i + 1) k S T := ⟨h.1, h.2.1.le, h.2.2⟩
theorem Rm_of {k w : Nat} {S : sC} {T : sM} (h : Rl k S T) : Rm w 0 k S T := by
  obtain ⟨⟨i0, j1, j2, j3, j4, j5, j6, j7, j8, j9⟩, r1, r2, r3, r4, r5, r6⟩ := h
  exact ⟨⟨i0, j1, j2, j3, j4, j5, j6, j7, j9⟩, fun v hv => ⟨(j8 v hv).1, fun m _ hm => (j8 v hv).2.1 m hm, (j8 v hv).2.2⟩, ⟨r1.1, r1.2.1, r1.2.2.1, r1.2.2.2.1, r1.2.2.2.2.1, r1.2.2.2.2.2.1, r1.2.2.2.2.2.2.1⟩, r2, r3, r4, r5, r6⟩
theorem stT1 {T : sM} (h : J1 T) (n : Nat) : stT T n = 1 ↔ T.2 5 n = 1 := by
  rw [stT]
  by_cases h5 : T.2 5 n = 1
  · rw [if_pos h5]; exact ⟨fun _ => h5, fun _ => rfl⟩
  · rw [if_neg h5]
    refine ⟨fun h1 => ?_, fun h1 => absurd h1 h5⟩
    split at h1 <;> exact absurd h1 (by decide)
theorem wTh {S : sC} {T : sM} (h : J1 T) (hb : RB S T) (hW : T.1 1 ≤ 300) {n : Nat} (hn : n < T.1 1) : wThere S (nI n) = !decide (T.2 5 n = 0) := by
  rw [wThere, hb.2.2.2.1, rAt_tab _ (by omega) hn]
  rcases h.1 n with h5 | h5
  · rw [decide_eq_true h5, decide_eq_false (fun h1 => by have := (stT1 h n).mp h1; rw [h5] at this; exact absurd this (by decide))]; rfl
  · rw [decide_eq_false (show ¬ T.2 5 n = 0 by rw [h5]; decide), decide_eq_true ((stT1 h n).mpr h5)]; rfl
theorem wCm {S : sC} {T : sM} (h : J1 T) (hb : RB S T) (hW : T.1 1 ≤ 300) {n : Nat} (hn : n < T.1 1) : wCame S (nI n) = !decide (T.2 4 n = 0) := by
  rw [wCame, hb.2.2.2.1, rAt_tab _ (by omega) hn]
  rcases h.2.1 n with h4 | h4
  · have h5 : T.2 5 n ≠ 1 := fun h5 => by have := h.2.2.1 n h5; rw [h4] at this; exact absurd this (by decide)
    have e : stT T n = 0 := by rw [stT, if_neg h5, if_neg (by rw [h4]; decide)]
    rw [e, decide_eq_true h4]; rfl
  · rw [decide_eq_false (show ¬ T.2 4 n = 0 by rw [h4]; decide), stT]
    by_cases h5 : T.2 5 n = 1
    · rw [if_pos h5]; rfl
    · rw [if_neg h5, if_pos h4]; rfl
theorem wTr {S : sC} {T : sM} (hI : IM T) (h : J1 T) (hb : RB S T) {i : Nat} (hi : i < T.1 8) : wThere S (rAt (S.1 15) (nI i)) = !decide (T.2 5 (tn (T.2 7 i)) = 0) := by
  have hL := hI.2.1
  have hr := hI.2.2.2.2.2.2.2.1 i hi
  rw [hb.2.2.2.2.2.2, rAt_tab _ (by omega) hi, hr.1, wTh h hb hI.1 hr.2, ← hr.1]
/-- the chain of anchors -/
theorem ancF_eq {S : sC} {T : sM} (hI : IM T) (h : J1 T) (hb : RB S T) : ∀ fu fu2 a, (a = -1 ∨ (a = nI (tn a) ∧ tn a < T.1 1)) → (a ≠ -1 → tn a < fu ∧ tn a < fu2) → ancF S fu a = mAncF T fu2 a := by
  have hW := hI.1
  have ianc := hI.2.2.2.2.2.2.2.2.1
  intro fu
  induction fu with
  | zero =>
    intro fu2 a h1 h2
    by_cases e : a = -1
    · subst e
      cases fu2 with
      | zero => rfl
      | succ f => rw [mAncF, if_pos rfl]; rfl
    · have := (h2 e).1; omega
  | succ fu ih =>
    intro fu2 a h1 h2
    rw [ancF]
    by_cases e : a = -1
    · rw [if_pos e]
      subst e
      cases fu2 with
      | zero => rfl
      | succ f => rw [mAncF, if_pos rfl]
    · rw [if_neg e]
      obtain ⟨h3, h4⟩ := h2 e
      obtain ⟨ea, la⟩ := h1.resolve_left e
      cases fu2 with
      | zero => omega
      | succ f =>
        rw [mAncF, if_neg e]
        have hc := wCm h hb hW la
        rw [← ea] at hc
        rw [hc]
        by_cases h5 : T.2 4 (tn a) = 0
        · have e7 : rAt (S.1 7) a = T.2 3 (tn a) := by
            rw [hb.2.2.1]
            conv => lhs; rw [ea]
            exact rAt_tab _ (by omega) la
          rw [decide_eq_true h5, Bool.not_true, if_neg Bool.false_ne_true, if_pos h5, e7]
          rcases ianc _ la with h6 | ⟨h6, h7⟩
          · exact ih f _ (Or.inl h6) (fun h8 => absurd h6 h8)
          · exact ih f _ (Or.inr ⟨h6, by omega⟩) (fun _ => ⟨by omega, by omega⟩)
        · rw [decide_eq_false h5, Bool.not_false, if_pos rfl, if_neg h5]
theorem anc_eq {S : sC} {T : sM} (hI : IM T) (h : J1 T) (hb : RB S T) {n : Nat} (hn : n < T.1 1) : anc S (nI n) = mAnc T n := by
  have hW := hI.1
  have e7 : rAt (S.1 7) (nI n) = T.2 3 n := by rw [hb.2.2.1, rAt_tab _ (by omega) hn]
  rw [anc, mAnc, e7]
  rcases hI.2.2.2.2.2.2.2.2.1 n hn with h6 | ⟨h6, h7⟩
  · exact ancF_eq hI h hb _ _ _ (Or.inl h6) (fun h8 => absurd h6 h8)
  · exact ancF_eq hI h hb _ _ _ (Or.inr ⟨h6, by omega⟩) (fun _ => ⟨by omega, by omega⟩)
theorem pIdx_eq {S : sC} {T : sM} (hI : IM T) (h : J1 T) (h2 : J2 T) (hb : RB S T) {n : Nat} (hn : n < T.1 1) : pIdx (S.1 15) (anc S (nI n)) = mAt T n := by
  have hL := hI.2.1
  rw [anc_eq hI h hb hn, pIdx, mAt, hb.2.2.2.2.2.2, rp_mPos h2 (by omega)]
theorem ahead_eq {S : sC} {T : sM} (hI : IM T) (h : J1 T) (hb : RB S T) : ∀ n, n ≤ T.1 8 → rAt (S.1 15) (nI (aheadF S n) - 1) = mNearL T n := by
  have hL := hI.2.1
  intro n
  induction n with
  | zero => intro _; exact rAt_m1 _
  | succ n ih =>
    intro hn
    rw [aheadF, mNearL, wTr hI h hb (by omega)]
    by_cases h5 : T.2 5 (tn (T.2 7 n)) = 0
    · rw [decide_eq_true h5, Bool.not_true, if_neg Bool.false_ne_true, if_pos h5]
      exact ih (by omega)
    · rw [decide_eq_false h5, Bool.not_false, if_pos rfl, if_neg h5, nI_pred, hb.2.2.2.2.2.2, rAt_tab _ (by omega) (by omega)]
theorem beh_eq {S : sC} {T : sM} (hI : IM T) (h : J1 T) (hb : RB S T) : ∀ fu fu2 n, T.1 8 < n + fu → T.1 8 < n + fu2 → n ≤ T.1 8 → rAt (S.1 15) (nI (behF S fu n)) = mNearR T fu2 n := by
  have hL := hI.2.1
  have hlen : (S.1 15).length = T.1 8 := by rw [hb.2.2.2.2.2.2, tab_len]
  intro fu
  induction fu with
  | zero => intro fu2 n h1 h2 h3; omega
  | succ fu ih =>
    intro fu2 n h1 h2 h3
    cases fu2 with
    | zero => omega
    | succ f =>
      rw [behF, mNearR, hlen]
      by_cases hn : n < T.1 8
      · rw [if_pos hn, if_pos hn, wTr hI h hb hn]
        by_cases h5 : T.2 5 (tn (T.2 7 n)) = 0
        · rw [decide_eq_true h5, Bool.not_true, if_neg Bool.false_ne_true, if_pos h5]
          exact ih f (n + 1) (by omega) (by omega) (by omega)
        · rw [decide_eq_false h5, Bool.not_false, if_pos rfl, if_neg h5, hb.2.2.2.2.2.2, rAt_tab _ (by omega) hn]
      · rw [if_neg hn, if_neg hn]
        exact rAt_out (Or.inr (by rw [hlen, tn_n (by omega)]; omega))
theorem parts_eq {S : sC} {T : sM} (hI : IM T) (h : J1 T) (hb : RB S T) {p : Nat} (hp : p ≤ T.1 8) : parts S p = mRef T p := by
  have hL := hI.2.1
  have hW := hI.1
  have irow := hI.2.2.2.2.2.2.2.1
  have hlen : (S.1 15).length = T.1 8 := by rw [hb.2.2.2.2.2.2, tab_len]
  rw [parts, mRef, ahead_eq hI h hb p hp, beh_eq hI h hb _ 301 p (by omega) (by omega) hp]
  have r11 : ∀ i, i < T.1 8 → rAt (S.1 11) (T.2 7 i) = T.2 6 (tn (T.2 7 i)) := fun i hi => by
    obtain ⟨h1, h2⟩ := irow i hi
    rw [hb.2.2.2.2.1]
    conv => lhs; rw [h1]
    exact rAt_tab _ (by omega) h2
  rcases mNearL_in (S := T) p with h1 | ⟨i, hi, h1⟩
  · rw [h1, rAt_m1]; rfl
  · have n1 : ¬ T.2 7 i = -1 := by rw [(irow i (by omega)).1]; exact nI_m1ne (by have := (irow i (by omega)).2; omega)
    rw [h1, r11 i (by omega), decide_eq_false n1, Bool.not_false, Bool.true_and]
    rcases mNearR_in (S := T) 301 p with h2 | ⟨j, hj, h2⟩
    · rw [h2, rAt_m1]
      by_cases h3 : T.2 6 (tn (T.2 7 i)) = -1
      · rw [decide_eq_true h3]; rfl
      · rw [decide_eq_false h3]; rfl
    · have n2 : ¬ T.2 7 j = -1 := by rw [(irow j hj).1]; exact nI_m1ne (by have := (irow j hj).2; omega)
      rw [h2, r11 j hj, decide_eq_false n2, Bool.not_false, Bool.true_and]
