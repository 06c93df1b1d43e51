/-! the relation kept: comments -/
theorem mCnt_mono (T : sM) {a b : Nat} (h : a ≤ b) : mCnt T a ≤ mCnt T b := by
  induction b with
  | zero => have : a = 0 := by omega
            subst this; exact Nat.le_refl _
  | succ b ih =>
    by_cases e : a = b + 1
    · subst e; exact Nat.le_refl _
    · have h1 := ih (by omega)
      rw [mCnt_s]
      split <;> omega
theorem txF_pos (T : sM) : ∀ fu k lf, ¬ txF T fu k lf = -1 → ∃ p, k ≤ p ∧ p < T.1 8 ∧ T.2 7 p = txF T fu k lf ∧ mCnt T p = mCnt T k + lf ∧ ¬ T.2 5 (tn (T.2 7 p)) = 0 := by
  intro fu
  induction fu with
  | zero => intro k lf h; exact absurd rfl h
  | succ fu ih =>
    intro k lf
    rw [txF_s]
    by_cases hk : k < T.1 8
    · rw [if_pos hk]
      by_cases h : T.2 5 (tn (T.2 7 k)) = 0
      · rw [if_pos h]
        intro h2
        obtain ⟨p, h3, h4, h5, h6, h7⟩ := ih (k + 1) lf h2
        rw [mCnt_s, if_pos h] at h6
        exact ⟨p, by omega, h4, h5, h6, h7⟩
      · rw [if_neg h]
        by_cases hl : lf = 0
        · rw [if_pos hl]
          intro _
          exact ⟨k, Nat.le_refl k, hk, rfl, by omega, h⟩
        · rw [if_neg hl]
          intro h2
          obtain ⟨p, h3, h4, h5, h6, h7⟩ := ih (k + 1) (lf - 1) h2
          rw [mCnt_s, if_neg h] at h6
          exact ⟨p, by omega, h4, h5, by omega, h7⟩
    · rw [if_neg hk]
      intro h; exact absurd rfl h
theorem mTxt_pos {T : sM} {x : Int32} (h : ¬ mTxt T x = -1) : ∃ p, p < T.1 8 ∧ T.2 7 p = mTxt T x ∧ mCnt T p = tn x ∧ ¬ T.2 5 (tn (T.2 7 p)) = 0 := by
  have h0 : ¬ x < 0 := fun h1 => h (by rw [mTxt, if_pos h1])
  rw [mTxt, if_neg h0] at h ⊢
  obtain ⟨p, -, h2, h3, h4, h5⟩ := txF_pos T _ _ _ h
  exact ⟨p, h2, h3, by rw [h4]; show 0 + _ = _; omega, h5⟩
theorem opK_comment_ok : opK_comment Rl := fun k S T a b _ h => by
  have hI := h.1.1
  have hL := hI.2.1
  have hC := hI.2.2.2.2.1
  have a6 := h.2.2.2.2.2.2
  have h17 := h.2.1.2.2.2.2.2.2.2
  have hlen : (S.1 86).length = T.1 30 := by rw [a6.2.2.2.1, tab_len]
  have e2 : ((40 : Int32) ≤ nI (S.1 86).length) ↔ T.1 30 = 40 := by
    rw [hlen, show (40 : Int32) = nI 40 from rfl, nI_leI (by decide) (by omega)]; omega
  have ta : tText S a = if mTxt T a = -1 then 1 else 0 := by rw [tText, h17, tx_cd h.1]
  have tb : tText S b = if mTxt T b = -1 then 1 else 0 := by rw [tText, h17, tx_cd h.1]
  have e : mtCom T a b = cd [1, 2, 3] (tComment S a b) := by
    rw [tComment, tSpan, ta, tb, mtCom]
    by_cases h1 : mTxt T a = -1
    · rw [if_pos h1, if_neg (fun h => h.1 h1)]; rfl
    · rw [if_neg h1, tor_0]
      by_cases h2 : mTxt T b = -1
      · rw [if_pos h2, if_neg (fun h => h.2 h2)]; rfl
      · rw [if_neg h2, tor_0, if_pos ⟨h1, h2⟩]
        by_cases h3 : b < a
        · rw [decide_eq_true h3, if_neg (Int32.not_le.mpr h3)]; rfl
        · rw [decide_eq_false h3, if_pos (Int32.not_lt.mp h3)]
          by_cases h4 : T.1 30 = 40
          · rw [if_pos h4, decide_eq_true (e2.mpr h4)]; rfl
          · rw [if_neg h4, decide_eq_false (fun h => h4 (e2.mp h))]; rfl
  by_cases h0 : tComment S a b = 0
  · have hm : mtCom T a b = 0 := by rw [e, h0]; rfl
    rw [if_pos hm, if_pos h0]
    rw [tComment, tSpan, ta, tb] at h0
    obtain ⟨c0, c4⟩ := tor_0' h0
    obtain ⟨c1, c0⟩ := tor_0' c0
    obtain ⟨c2, c3⟩ := tor_0' c0
    have b1 : ¬ mTxt T a = -1 := fun h9 => by rw [if_pos h9] at c1; cases c1
    have b2 : ¬ mTxt T b = -1 := fun h9 => by rw [if_pos h9] at c2; cases c2
    have b3 : ¬ b < a := fun h9 => by rw [decide_eq_true h9] at c3; cases c3
    have b4 : ¬ T.1 30 = 40 := fun h9 => by rw [decide_eq_true (e2.mpr h9)] at c4; cases c4
    obtain ⟨p, hp, ep, np, -⟩ := mTxt_pos b1
    obtain ⟨q, hq, eq, nq, -⟩ := mTxt_pos b2
    obtain ⟨ea, la⟩ := mTxt_lt b1
    obtain ⟨eb, lb⟩ := mTxt_lt b2
    have hab : tn a ≤ tn b := by
      have h9 := Int32.not_lt.mp b3
      rw [ea, eb, nI_leI (by omega) (by omega)] at h9
      exact h9
    have hpq : p ≤ q := by
      by_cases h9 : q < p
      · have h10 := mCnt_mono T (show q ≤ p by omega)
        have h11 : tn a = tn b := by omega
        have h12 : T.2 7 p = T.2 7 q := by rw [ep, eq, ea, eb, h11]
        have := h.1.2.2.1.1 p q hp hq h12
        omega
      · omega
    have f1 : (sComment S a b).1 86 = tab (T.1 30 + 1) (upd (T.2 24) (T.1 30) (mTxt T a)) := by
      show rAdd (S.1 86) (cap 86) (rAt (S.1 17) a) = _
      rw [a6.2.2.2.1, rAdd_tab _ _ (show T.1 30 < cap 86 by have : cap 86 = 40 := rfl; omega), h17, mTxt_rAt]
    have f2 : (sComment S a b).1 88 = tab (T.1 30 + 1) (upd (T.2 25) (T.1 30) (mTxt T b)) := by
      show rAdd (S.1 88) (cap 88) (rAt (S.1 17) b) = _
      rw [a6.2.2.2.2.1, rAdd_tab _ _ (show T.1 30 < cap 88 by have : cap 88 = 40 := rfl; omega), h17, mTxt_rAt]
    obtain ⟨⟨i0, j1, j2, j3, j4, j5, j6, j7, j8, j9⟩, r1, r2, r3, r4, r5, r6⟩ := h.le (Nat.le_succ k)
    have j6' : J6 (msCom T a b) := fun c hc => by
      have hc' : c < T.1 30 + 1 := hc
      show ∃ p q, p ≤ q ∧ q < T.1 8 ∧ T.2 7 p = upd (T.2 24) (T.1 30) (mTxt T a) c ∧ T.2 7 q = upd (T.2 25) (T.1 30) (mTxt T b) c
      by_cases h9 : c = T.1 30
      · subst h9
        exact ⟨p, q, hpq, hq, ep.trans (if_pos rfl).symm, eq.trans (if_pos rfl).symm⟩
      · obtain ⟨p1, q1, h10, h11, h12, h13⟩ := j6 c (by omega)
        exact ⟨p1, q1, h10, h11, h12.trans (if_neg h9).symm, h13.trans (if_neg h9).symm⟩
    refine ⟨hI, e, hm.symm, fun _ => ?_, ⟨⟨i0.1, i0.2.1, i0.2.2.1, i0.2.2.2.1, (show T.1 30 + 1 ≤ 40 by omega), i0.2.2.2.2.2⟩, j1, j2, j3, j4, j5, j6', j7, j8, j9⟩, r1, r2, RA3_set (by decide) (RA3_set (by decide) r3), r4, r5, r6.1, r6.2.1, r6.2.2.1, f1, f2, r6.2.2.2.2.2⟩
    rw [f1, tab_len, nI_pred]
  · have hm : ¬ mtCom T a b = 0 := by rw [e, cd, if_neg h0]; omega
    rw [if_neg hm, if_neg h0]
    exact ⟨hI, e, rfl, fun h9 => absurd h9 h0, Rl_0 h _⟩
