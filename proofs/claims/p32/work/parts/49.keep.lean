/-! the relation kept: keep -/
theorem keepF_t {T : sM} (v : Int32) (W : Nat) (hW : W ≤ 300) : ∀ fu n (S : sC) (b : Nat → Int32), (S.1 3).length = W → S.1 13 = tab W b → (∀ m, m < W → wThere S (nI m) = !decide (T.2 5 m = 0)) → W < n + fu → n ≤ W → keepF v fu n S = sSet S 13 (tab W (fun m => if n ≤ m ∧ ¬ T.2 5 m = 0 then b m ||| (1 : Int32) <<< (v &&& 31) else b m)) := by
  intro fu
  induction fu with
  | zero => intro n S b _ _ _ h1 h2; omega
  | succ fu ih =>
    intro n S b h3 h13 hw h1 h2
    rw [keepF, h3]
    by_cases hn : n < W
    · rw [if_pos hn, hw n hn]
      by_cases h5 : T.2 5 n = 0
      · rw [decide_eq_true h5, Bool.not_true, if_neg Bool.false_ne_true, ih (n + 1) S b h3 h13 hw (by omega) (by omega)]
        congr 1
        refine tab_co fun m hm => ?_
        by_cases e : m = n
        · subst e; rw [if_neg (by omega), if_neg (fun hh => hh.2 h5)]
        · by_cases e2 : n ≤ m ∧ ¬ T.2 5 m = 0
          · rw [if_pos e2, if_pos ⟨by omega, e2.2⟩]
          · rw [if_neg e2, if_neg (fun hh => e2 ⟨by omega, hh.2⟩)]
      · rw [decide_eq_false h5, Bool.not_false, if_pos rfl]
        have e13 : rSet (S.1 13) (nI n) (rAt (S.1 13) (nI n) ||| (1 : Int32) <<< (v &&& 31)) = tab W (upd b n (b n ||| (1 : Int32) <<< (v &&& 31))) := by
          rw [h13, rAt_tab _ (by omega) hn, rSet_tab _ _ (by omega) hn]
        rw [e13, ih (n + 1) (sSet S 13 _) (upd b n (b n ||| (1 : Int32) <<< (v &&& 31))) h3 sSet_1 hw (by omega) (by omega), sSet_twice]
        congr 1
        refine tab_co fun m hm => ?_
        by_cases e : m = n
        · subst e; rw [if_neg (by omega), if_pos ⟨Nat.le_refl m, h5⟩, upd, if_pos rfl]
        · rw [upd, if_neg e]
          by_cases e2 : n ≤ m ∧ ¬ T.2 5 m = 0
          · rw [if_pos e2, if_pos ⟨by omega, e2.2⟩]
          · rw [if_neg e2, if_neg (fun hh => e2 ⟨by omega, hh.2⟩)]
    · rw [if_neg hn]
      have e : tab W (fun m => if n ≤ m ∧ ¬ T.2 5 m = 0 then b m ||| (1 : Int32) <<< (v &&& 31) else b m) = S.1 13 := by
        rw [h13]
        exact tab_co fun m hm => by rw [if_neg (by omega)]
      rw [e, sSet_self]
theorem mKpF_at (T : sM) (hb : ∀ n, T.2 5 n = 0 ∨ T.2 5 n = 1) : ∀ k j, mKpF T k j = if 300 * T.1 33 ≤ j ∧ j < 300 * T.1 33 + k then T.2 5 (j - 300 * T.1 33) else T.2 26 j := by
  intro k
  induction k with
  | zero => intro j; rw [if_neg (by omega)]; rfl
  | succ k ih =>
    intro j
    rw [mKpF, upd]
    by_cases e : j = 300 * T.1 33 + k
    · rw [if_pos e, if_pos (by omega), show j - 300 * T.1 33 = k by omega]
      rcases hb k with h | h <;> rw [h] <;> decide
    · rw [if_neg e, ih]
      by_cases e2 : 300 * T.1 33 ≤ j ∧ j < 300 * T.1 33 + k
      · rw [if_pos e2, if_pos (by omega)]
      · rw [if_neg e2, if_neg (by omega)]
theorem bits_k (T : sM) (hb : ∀ n, T.2 5 n = 0 ∨ T.2 5 n = 1) (n : Nat) (hn : n < 300) : ∀ v, v ≤ T.1 33 → bits (mKpF T 300) n v = bits (T.2 26) n v := by
  intro v
  induction v with
  | zero => intro _; rfl
  | succ v ih =>
    intro hv
    have e : mKpF T 300 (300 * v + n) = T.2 26 (300 * v + n) := by rw [mKpF_at T hb, if_neg (by omega)]
    rw [bits, bits, ih (by omega), e]
theorem opK_keep_ok : opK_keep Rl := fun k S T _ h => by
  have hI := h.1.1
  have hW := hI.1
  have hK := hI.2.2.2.2.2.1
  have a6 := h.2.2.2.2.2.2
  have hb := h.1.2.1.1
  have hv : S.2.1 = nI (T.1 33) := a6.2.2.2.2.2.1
  have e2 : ((20 : Int32) ≤ S.2.1) ↔ T.1 33 = 20 := by
    rw [hv, show (20 : Int32) = nI 20 from rfl, nI_leI (by decide) (by omega)]; omega
  have e : mtKp T = cd [3] (tKeep S) := by
    rw [tKeep, mtKp]
    by_cases h1 : T.1 33 = 20
    · rw [if_pos h1, decide_eq_true (e2.mpr h1)]; rfl
    · rw [if_neg h1, decide_eq_false (fun hh => h1 (e2.mp hh))]; rfl
  by_cases h0 : tKeep S = 0
  · have hm : mtKp T = 0 := by rw [e, h0]; rfl
    have hn20 : ¬ T.1 33 = 20 := fun hh => by rw [mtKp, if_pos hh] at hm; cases hm
    rw [if_pos hm, if_pos h0]
    have h3 : (S.1 3).length = T.1 1 := by rw [h.2.1.1, tab_len]
    have hk : keepIn S S.2.1 = sSet S 13 (tab (T.1 1) (fun m => if 0 ≤ m ∧ ¬ T.2 5 m = 0 then bits (T.2 26) m (T.1 33) ||| (1 : Int32) <<< (S.2.1 &&& 31) else bits (T.2 26) m (T.1 33))) := by
      rw [keepIn]
      exact keepF_t (T := T) S.2.1 (T.1 1) hW _ 0 S _ h3 h.2.1.2.2.2.2.2.1 (fun m hm2 => wThere_n h hm2) (by omega) (Nat.zero_le _)
    have f13 : (sKeep S).1 13 = tab (T.1 1) (fun n => bits (mKpF T 300) n (T.1 33 + 1)) := by
      show (keepIn S S.2.1).1 13 = _
      rw [hk, sSet_1]
      refine tab_co fun n hn => ?_
      have e9 : mKpF T 300 (300 * T.1 33 + n) = T.2 5 n := by rw [mKpF_at T hb, if_pos (by omega), show 300 * T.1 33 + n - 300 * T.1 33 = n by omega]
      rw [bits, bits_k T hb n (by omega) _ (Nat.le_refl _), e9, hv]
      by_cases h5 : T.2 5 n = 0
      · rw [if_pos h5, if_neg (fun hh => hh.2 h5)]
      · rw [if_neg h5, if_pos ⟨Nat.zero_le _, h5⟩]
    have hS : ∀ j, j ≠ 13 → (sKeep S).1 j = S.1 j := fun j hj => by
      show (keepIn S S.2.1).1 j = _
      rw [hk, sSet_o hj]
    have hS2 : (sKeep S).2 = (S.2.1 + 1, S.2.2) := by
      show ((keepIn S S.2.1).2.1 + 1, (keepIn S S.2.1).2.2) = _
      rw [hk]; rfl
    obtain ⟨⟨i0, j1, j2, j3, j4, j5, j6, j7, j8, j9⟩, r1, r2, r3, r4, r5, r6⟩ := h.le (Nat.le_succ k)
    have j9' : J9 (msKp T) := fun v hv2 n hn hn2 => by
      have hv3 : v < T.1 33 + 1 := hv2
      have hn3 : T.1 1 ≤ n := hn2
      show mKpF T 300 (300 * v + n) = 0
      rw [mKpF_at T hb]
      by_cases h9 : v = T.1 33
      · subst h9
        rw [if_pos (by omega), show 300 * T.1 33 + n - 300 * T.1 33 = n by omega]
        rcases hb n with h10 | h10
        · exact h10
        · have h11 := j1.2.2.1 n h10
          rw [j1.2.2.2 n hn3] at h11
          exact absurd h11 (by decide)
      · rw [if_neg (by omega)]
        exact j9 v (by omega) n hn hn3
    refine ⟨hI, e, hm.symm, fun _ => hv.symm, ⟨⟨i0.1, i0.2.1, i0.2.2.1, i0.2.2.2.1, i0.2.2.2.2.1, (show T.1 33 + 1 ≤ 20 by omega), i0.2.2.2.2.2.2⟩, j1, j2, j3, j4, j5, j6, j7, j8, j9'⟩, ⟨(hS 3 (by decide)).trans r1.1, (hS 5 (by decide)).trans r1.2.1, (hS 7 (by decide)).trans r1.2.2.1, (hS 9 (by decide)).trans r1.2.2.2.1, (hS 11 (by decide)).trans r1.2.2.2.2.1, f13, (hS 15 (by decide)).trans r1.2.2.2.2.2.2.1, (hS 17 (by decide)).trans r1.2.2.2.2.2.2.2⟩, ?_, ?_, ?_, ?_, ?_⟩
    · unfold RA2; rw [hS 20 (by decide)]; exact r2
    · intro w hw; rw [hS _ (by omega), hS _ (by omega)]; exact r3 w hw
    · unfold RA4; rw [hS 59 (by decide), hS 62 (by decide), hS 64 (by decide), hS 66 (by decide), hS 68 (by decide), hS 74 (by decide), hS 76 (by decide)]; exact r4
    · unfold RA5; rw [hS 70 (by decide), hS 72 (by decide)]; exact r5
    · unfold RA6
      rw [hS 79 (by decide), hS 81 (by decide), hS 83 (by decide), hS 86 (by decide), hS 88 (by decide), hS2]
      exact ⟨r6.1, r6.2.1, r6.2.2.1, r6.2.2.2.1, r6.2.2.2.2.1, by rw [hv]; exact nI_1 _, r6.2.2.2.2.2.2⟩
  · have hm : ¬ mtKp T = 0 := by rw [e, cd, if_neg h0]; omega
    rw [if_neg hm, if_neg h0]
    exact ⟨hI, e, rfl, fun h9 => absurd h9 h0, Rl_0 h _⟩
