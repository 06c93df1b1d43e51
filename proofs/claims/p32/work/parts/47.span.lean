/-! the relation kept: spans -/
theorem stT_1 {k : Nat} {T : sM} (h : JM k T) (n : Nat) : stT T n = 1 ↔ ¬ T.2 5 n = 0 := by
  rw [stT]
  rcases h.2.1.1 n with h5 | h5
  · rw [if_neg (by rw [h5]; decide)]
    constructor
    · intro h1; split at h1 <;> exact absurd h1 (by decide)
    · intro h1; exact absurd h5 h1
  · rw [if_pos h5]
    constructor
    · intro _; rw [h5]; decide
    · intro _; rfl
theorem wThere_n {k : Nat} {S : sC} {T : sM} (h : Rl k S T) {n : Nat} (hn : n < T.1 1) : wThere S (nI n) = !decide (T.2 5 n = 0) := by
  have hW := h.1.1.1
  rw [wThere, h.2.1.2.2.2.1, rAt_tab _ (by omega) hn]
  by_cases h5 : T.2 5 n = 0
  · rw [decide_eq_true h5, decide_eq_false (fun h1 => (stT_1 h.1 n).mp h1 h5)]; rfl
  · rw [decide_eq_false h5, decide_eq_true ((stT_1 h.1 n).mpr h5)]; rfl
theorem wThere_row {k : Nat} {S : sC} {T : sM} (h : Rl k S T) {i : Nat} (hi : i < T.1 8) : wThere S (rAt (S.1 15) (nI i)) = !decide (T.2 5 (tn (T.2 7 i)) = 0) := by
  have hL := h.1.1.2.1
  have hr := h.1.1.2.2.2.2.2.2.2.1 i hi
  rw [h.2.1.2.2.2.2.2.2.1, rAt_tab _ (by omega) hi, hr.1, wThere_n h hr.2, ← hr.1]
theorem cbF_cnt {k0 : Nat} {S : sC} {T : sM} (h : Rl k0 S T) {q : Nat} (hq : q < T.1 8) : ∀ fu n k, q + 1 < n + 1 + fu → n ≤ q + 1 → cbF S (q + 1) fu (n + 1) k + mCnt T n = k + mCnt T (q + 1) := by
  intro fu
  induction fu with
  | zero =>
    intro n k h1 h2
    obtain rfl : n = q + 1 := by omega
    rfl
  | succ fu ih =>
    intro n k h1 h2
    rw [cbF]
    by_cases h3 : q + 1 < n + 1
    · rw [if_pos h3]
      obtain rfl : n = q + 1 := by omega
      rfl
    · rw [if_neg h3, nI_pred, wThere_row h (by omega)]
      have h4 := mCnt_s T n
      by_cases h5 : T.2 5 (tn (T.2 7 n)) = 0
      · rw [if_pos h5] at h4
        rw [decide_eq_true h5, Bool.not_true, if_neg Bool.false_ne_true]
        have := ih (n + 1) k (by omega) (by omega)
        omega
      · rw [if_neg h5] at h4
        rw [decide_eq_false h5, Bool.not_false, if_pos rfl]
        have := ih (n + 1) (k + 1) (by omega) (by omega)
        omega
theorem fbF_cnt {k0 : Nat} {S : sC} {T : sM} (h : Rl k0 S T) {q : Nat} (hq : q < T.1 8) : ∀ fu n, q + 1 < n + 1 + fu → n ≤ q + 1 → (mCnt T (q + 1) = mCnt T n ∧ fbF S (q + 1) fu (n + 1) = -1) ∨ ∃ i, n ≤ i ∧ i ≤ q ∧ ¬ T.2 5 (tn (T.2 7 i)) = 0 ∧ mCnt T i = mCnt T n ∧ fbF S (q + 1) fu (n + 1) = T.2 7 i := by
  have hL := h.1.1.2.1
  intro fu
  induction fu with
  | zero =>
    intro n h1 h2
    obtain rfl : n = q + 1 := by omega
    exact Or.inl ⟨rfl, rfl⟩
  | succ fu ih =>
    intro n h1 h2
    rw [fbF]
    by_cases h3 : q + 1 < n + 1
    · rw [if_pos h3]
      obtain rfl : n = q + 1 := by omega
      exact Or.inl ⟨rfl, rfl⟩
    · rw [if_neg h3, nI_pred, wThere_row h (by omega)]
      have h4 := mCnt_s T n
      by_cases h5 : T.2 5 (tn (T.2 7 n)) = 0
      · rw [if_pos h5] at h4
        rw [decide_eq_true h5, Bool.not_true, if_neg Bool.false_ne_true]
        rcases ih (n + 1) (by omega) (by omega) with ⟨h6, h7⟩ | ⟨i, h6, h7, h8, h9, h10⟩
        · exact Or.inl ⟨by omega, h7⟩
        · exact Or.inr ⟨i, by omega, h7, h8, by omega, h10⟩
      · rw [decide_eq_false h5, Bool.not_false, if_pos rfl]
        refine Or.inr ⟨n, Nat.le_refl n, by omega, h5, rfl, ?_⟩
        rw [h.2.1.2.2.2.2.2.2.1, rAt_tab _ (by omega) (by omega)]
theorem opK_span_ok : opK_span Rl := fun k S T c _ h => by
  have hI := h.1.1
  have hW := hI.1
  have hL := hI.2.1
  have hC := hI.2.2.2.2.1
  have a6 := h.2.2.2.2.2.2
  have e0 : tIx c (nI (S.1 86).length) = if inB c 0 (nI (T.1 30) - 1) = true then 0 else 1 := by rw [a6.2.2.2.1, tab_len, ix_in (by omega)]
  refine ⟨hI, opq h (by rw [e0, cd1]; rfl) fun h0 => ?_⟩
  rw [e0] at h0
  split at h0
  · rename_i h1
    obtain ⟨hn, hl⟩ := ix_n (by omega) h1
    obtain ⟨p, q, hpq, hq, ep, eq⟩ := h.1.2.2.2.2.2.2.1 (tn c) hl
    have J := h.1.2.2.1
    have e1 : rAt (S.1 86) c = T.2 7 p := by rw [a6.2.2.2.1, hn, rAt_tab _ (by omega) hl, ← ep]
    have e2 : rAt (S.1 88) c = T.2 7 q := by rw [a6.2.2.2.2.1, hn, rAt_tab _ (by omega) hl, ← eq]
    have r1 : rp (S.1 15) (T.2 7 p) = p + 1 := by rw [h.2.1.2.2.2.2.2.2.1, rp_at J (by omega) (by omega)]
    have r2 : rp (S.1 15) (T.2 7 q) = q + 1 := by rw [h.2.1.2.2.2.2.2.2.1, rp_at J (by omega) hq]
    have m1 : mPos T (T.2 24 (tn c)) = p + 1 := by rw [← ep, mPos_at J (by omega) (by omega)]
    have m2 : mPos T (T.2 25 (tn c)) = q + 1 := by rw [← eq, mPos_at J (by omega) hq]
    have hmm := mCnt_mono T (show p ≤ q + 1 by omega)
    have hle := mCnt_le T (q + 1)
    have hM : mSpM T (tn c) = nI (mCnt T (q + 1) - mCnt T p) := by rw [mSpM, m1, m2, Nat.add_sub_cancel, pk_sub hmm]
    have hcb := cbF_cnt h hq (q + 2) p 0 (by omega) (by omega)
    rw [rSpan, e1, e2, firstB, countB, r1, r2, mSpn, hM, m1, Nat.add_sub_cancel]
    rcases fbF_cnt h hq (q + 2) p (by omega) (by omega) with ⟨h6, h7⟩ | ⟨i, h6, h7, h8, h9, h10⟩
    · rw [h7, if_pos rfl, h6, Nat.sub_self, if_pos (show nI 0 = 0 from rfl)]
    · have hr := hI.2.2.2.2.2.2.2.1 i (by omega)
      have h11 := mCnt_mono T (show i + 1 ≤ q + 1 by omega)
      have h12 := mCnt_s T i
      rw [if_neg h8] at h12
      have n0 : ¬ nI (mCnt T (q + 1) - mCnt T p) = 0 := fun h13 => by
        have := (nI_eq (show mCnt T (q + 1) - mCnt T p < 2 ^ 31 by omega) (show 0 < 2 ^ 31 by decide)).mp h13
        omega
      have n1 : ¬ T.2 7 i = -1 := by rw [hr.1]; exact nI_m1ne (by omega)
      have n2 : cbF S (q + 1) (q + 1 + 1) (p + 1) 0 = mCnt T (q + 1) - mCnt T p := by
        have : cbF S (q + 1) (q + 1 + 1) (p + 1) 0 + mCnt T p = 0 + mCnt T (q + 1) := hcb
        omega
      rw [h10, if_neg n0, if_neg n1, h.2.1.2.2.2.2.2.2.2, tx_idx J (by omega) h8, h9, n2, show (1000 : Int32) = nI 1000 from rfl, pk_mul]
  · exact absurd h0 (by decide)
