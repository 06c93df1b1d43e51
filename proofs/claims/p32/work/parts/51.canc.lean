/-! the relation kept: cancel; what a thawing does -/
theorem unfF_t {r : Int32} (hr : r ≠ -1) (W : Nat) (hW : W ≤ 300) : ∀ fu n k (S : sC) (g : Nat → Int32), (S.1 3).length = W → S.1 11 = tab W g → W < n + fu → n ≤ W → (unfF r fu n k S).1 + cFz g r n = k + cFz g r W ∧ (unfF r fu n k S).2 = sSet S 11 (tab W (fun m => if n ≤ m ∧ g m = r then -1 else g m)) := by
  intro fu
  induction fu with
  | zero => intro n k S g _ _ h1 h2; omega
  | succ fu ih =>
    intro n k S g h3 h11 h1 h2
    rw [unfF, h3]
    by_cases hn : n < W
    · rw [if_pos hn, h11, rAt_tab _ (by omega) hn]
      have ec : cFz g r (n + 1) = cFz g r n + if g n = r then 1 else 0 := rfl
      by_cases hg : g n = r
      · rw [if_pos hg] at ec
        rw [if_pos hg, rSet_tab _ _ (by omega) hn]
        obtain ⟨e1, e2⟩ := ih (n + 1) (k + 1) (sSet S 11 (tab W (upd g n (-1)))) (upd g n (-1)) h3 sSet_1 (by omega) (by omega)
        have c1 : ∀ q, cFz (upd g n (-1)) r q + (if n < q then 1 else 0) = cFz g r q := by
          intro q
          induction q with
          | zero => rfl
          | succ q ihq =>
            have e3 : cFz (upd g n (-1)) r (q + 1) = cFz (upd g n (-1)) r q + if upd g n (-1) q = r then 1 else 0 := rfl
            have e4 : cFz g r (q + 1) = cFz g r q + if g q = r then 1 else 0 := rfl
            rw [e3, e4]
            by_cases e : q = n
            · subst e
              have hu : upd g q (-1) q = -1 := if_pos rfl
              rw [hu, if_neg (Ne.symm hr), if_pos hg]
              rw [if_neg (Nat.lt_irrefl q)] at ihq
              rw [if_pos (Nat.lt_succ_self q)]
              omega
            · have hu : upd g n (-1) q = g q := if_neg e
              rw [hu]
              generalize (if g q = r then 1 else 0) = z
              by_cases e5 : n < q
              · rw [if_pos e5] at ihq; rw [if_pos (show n < q + 1 by omega)]; omega
              · rw [if_neg e5] at ihq; rw [if_neg (show ¬ n < q + 1 by omega)]; omega
        have c2 := c1 (n + 1)
        have c3 := c1 W
        rw [if_pos (Nat.lt_succ_self n)] at c2
        rw [if_pos hn] at c3
        refine ⟨by omega, ?_⟩
        rw [e2, sSet_twice]
        congr 1
        refine tab_co fun m hm => ?_
        by_cases e : m = n
        · subst e; rw [if_neg (by omega), upd, if_pos rfl, if_pos ⟨Nat.le_refl m, hg⟩]
        · rw [upd, if_neg e]
          by_cases e6 : n ≤ m ∧ g m = r
          · rw [if_pos e6, if_pos ⟨by omega, e6.2⟩]
          · rw [if_neg e6, if_neg (fun hh => e6 ⟨by omega, hh.2⟩)]
      · rw [if_neg hg] at ec
        rw [if_neg hg]
        obtain ⟨e1, e2⟩ := ih (n + 1) k S g h3 h11 (by omega) (by omega)
        refine ⟨by omega, ?_⟩
        rw [e2]
        congr 1
        refine tab_co fun m hm => ?_
        by_cases e : m = n
        · subst e; rw [if_neg (by omega), if_neg (fun hh => hg hh.2)]
        · by_cases e6 : n ≤ m ∧ g m = r
          · rw [if_pos e6, if_pos ⟨by omega, e6.2⟩]
          · rw [if_neg e6, if_neg (fun hh => e6 ⟨by omega, hh.2⟩)]
    · rw [if_neg hn]
      obtain rfl : n = W := by omega
      refine ⟨rfl, ?_⟩
      have e : tab n (fun m => if n ≤ m ∧ g m = r then -1 else g m) = S.1 11 := by
        rw [h11]
        exact tab_co fun m hm => by rw [if_neg (by omega)]
      rw [e, sSet_self]
theorem unfreeze_t {r : Int32} (hr : r ≠ -1) {W : Nat} (hW : W ≤ 300) {S : sC} {g : Nat → Int32} (h3 : (S.1 3).length = W) (h11 : S.1 11 = tab W g) : (unfreeze S r).1 = cFz g r W ∧ (unfreeze S r).2 = sSet S 11 (tab W (mThw g r W)) := by
  obtain ⟨h1, h2⟩ := unfF_t hr W hW ((S.1 3).length + 1) 0 0 S g h3 h11 (by omega) (Nat.zero_le _)
  refine ⟨?_, ?_⟩
  · have e : cFz g r 0 = 0 := rfl
    have e2 : (unfreeze S r).1 = (unfF r ((S.1 3).length + 1) 0 0 S).1 := rfl
    omega
  · refine (show (unfreeze S r).2 = _ from h2).trans ?_
    congr 1
    exact tab_co fun m hm => by
      rw [mThw]
      by_cases e : g m = r
      · rw [if_pos ⟨Nat.zero_le _, e⟩, if_pos ⟨hm, e⟩]
      · rw [if_neg (fun hh => e hh.2), if_neg (fun hh => e hh.2)]
theorem cFz_thw {g : Nat → Int32} {r q : Int32} (hq : q ≠ r) (hq1 : q ≠ -1) (W : Nat) : ∀ n, cFz (mThw g r W) q n = cFz g q n := by
  intro n
  induction n with
  | zero => rfl
  | succ n ih =>
    rw [cFz, cFz, ih, mThw]
    by_cases e : n < W ∧ g n = r
    · rw [if_pos e, if_neg (Ne.symm hq1), if_neg (by rw [e.2]; exact Ne.symm hq)]
    · rw [if_neg e]
theorem opK_cancel_ok : opK_cancel Rl := fun k S T r _ h => by
  have hI := h.1.1
  have hW := hI.1
  have hV := hI.2.2.1
  have a4 := h.2.2.2.2.1
  have e0 := rv_cd a4 hI r
  have e9 : ∀ n, n < T.1 17 → rAt (S.1 68) (nI n) = T.2 16 n := fun n hn => by rw [a4.2.2.2.2.1, rAt_tab _ (by omega) hn]
  have e : mtCan T r = cd [1, 3] (tCancel S r) := by
    rw [tCancel, a4.2.1, tab_len, ix_in (by omega), mtCan]
    by_cases h1 : inB r 0 (nI (T.1 17) - 1) = true
    · obtain ⟨hn, hl⟩ := ix_n (by omega) h1
      rw [if_pos h1, if_pos h1, tor_0, hn, e9 _ hl, ← hn]
      by_cases h2 : T.2 16 (tn r) = 0
      · rw [if_pos h2, decide_eq_true h2]; rfl
      · rw [if_neg h2, decide_eq_false h2]; rfl
    · rw [if_neg h1, if_neg h1]; rfl
  by_cases h0 : tCancel S r = 0
  · have hm : mtCan T r = 0 := by rw [e, h0]; rfl
    rw [if_pos hm, if_pos h0]
    rw [tCancel] at h0
    obtain ⟨c1, c2⟩ := tor_0' h0
    obtain ⟨hn, hl⟩ := rv_0 a4 hI c1
    have hs : T.2 16 (tn r) = 0 := by
      rw [hn, e9 _ hl] at c2
      by_cases h9 : T.2 16 (tn r) = 0
      · exact h9
      · rw [decide_eq_false h9] at c2; cases c2
    have hr1 : r ≠ -1 := by rw [hn]; exact nI_m1ne (by omega)
    have e68 : rSet (S.1 68) r 2 = tab (T.1 17) (upd (T.2 16) (tn r) (nI 2)) := by
      rw [a4.2.2.2.2.1, hn, rSet_tab _ _ (by omega) hl, ← hn]; rfl
    obtain ⟨u1, u2⟩ := unfreeze_t (S := sSet S 68 (rSet (S.1 68) r 2)) hr1 hW (by show (S.1 3).length = _; rw [h.2.1.1, tab_len]) (show (sSet S 68 (rSet (S.1 68) r 2)).1 11 = tab (T.1 1) (T.2 6) from h.2.1.2.2.2.2.1)
    have hsz := h.1.2.2.2.1.2 (tn r) hl (Or.inl hs)
    rw [← hn] at hsz
    obtain ⟨⟨i0, j1, j2, j3, j4, j5, j6, j7, j8, j9⟩, r1, r2, r3, r4, r5, r6⟩ := h.le (Nat.le_succ k)
    have us : ∀ q, q ≠ tn r → upd (T.2 16) (tn r) (nI 2) q = T.2 16 q := fun q hq => if_neg hq
    have u0 : upd (T.2 16) (tn r) (nI 2) (tn r) = nI 2 := if_pos rfl
    have st1 : ∀ q, upd (T.2 16) (tn r) (nI 2) q = 1 → q ≠ tn r ∧ T.2 16 q = 1 := fun q hq => by
      by_cases h9 : q = tn r
      · rw [h9, u0] at hq; exact absurd hq (by decide)
      · rw [us q h9] at hq; exact ⟨h9, hq⟩
    have j3' : J3 (msCan T (tn r)) := by
      refine ⟨fun n hn2 => ?_, fun q hq ho => ?_⟩
      · show mThw (T.2 6) (nI (tn r)) (T.1 1) n = -1 ∨ ∃ q, q < T.1 17 ∧ mThw (T.2 6) (nI (tn r)) (T.1 1) n = nI q ∧ (upd (T.2 16) (tn r) (nI 2) q = 0 ∨ upd (T.2 16) (tn r) (nI 2) q = 1)
        rw [mThw]
        by_cases h9 : n < T.1 1 ∧ T.2 6 n = nI (tn r)
        · rw [if_pos h9]; exact Or.inl rfl
        · rw [if_neg h9]
          rcases j3.1 n hn2 with h10 | ⟨q, h10, h11, h12⟩
          · exact Or.inl h10
          · have hne : q ≠ tn r := fun h13 => h9 ⟨hn2, by rw [h11, h13]⟩
            exact Or.inr ⟨q, h10, h11, by rw [us q hne]; exact h12⟩
      · have hq' : q < T.1 17 := hq
        have ho' : upd (T.2 16) (tn r) (nI 2) q = 0 ∨ upd (T.2 16) (tn r) (nI 2) q = 1 := ho
        have hne : q ≠ tn r := fun h13 => by rw [h13, u0] at ho'; rcases ho' with h14 | h14 <;> exact absurd h14 (by decide)
        rw [us q hne] at ho'
        show T.2 17 q = nI (cFz (mThw (T.2 6) (nI (tn r)) (T.1 1)) (nI q) (T.1 1))
        rw [cFz_thw (fun h13 => hne ((nI_eq (by omega) (by omega)).mp h13)) (nI_m1ne (by omega))]
        exact j3.2 q hq' ho'
    have j4' : J4 (k + 1) (msCan T (tn r)) := ⟨j4.1, fun q hq h9 => j4.2.1 q hq (st1 q h9).2, fun q1 q2 h1 h2 h3 h4 h5 => j4.2.2 q1 q2 h1 h2 (st1 q1 h3).2 (st1 q2 h4).2 h5⟩
    have hfin : (unfreeze (sSet S 68 (rSet (S.1 68) r 2)) r).2 = sSet (sSet S 68 (tab (T.1 17) (upd (T.2 16) (tn r) (nI 2)))) 11 (tab (T.1 1) (mThw (T.2 6) (nI (tn r)) (T.1 1))) := by rw [u2, e68, ← hn]
    rw [hfin, u1]
    refine ⟨hI, e, hm.symm, fun _ => hsz, ⟨i0, j1, j2, j3', j4', j5, j6, j7, j8, j9⟩, ⟨r1.1, r1.2.1, r1.2.2.1, r1.2.2.2.1, rfl, r1.2.2.2.2.2⟩, r2, RA3_set (by decide) (RA3_set (by decide) r3), ⟨r4.1, r4.2.1, r4.2.2.1, r4.2.2.2.1, rfl, r4.2.2.2.2.2⟩, ⟨r5.1, fun q hq h9 => r5.2.1 q hq (st1 q h9).2, r5.2.2.1, fun x => ?_, r5.2.2.2.2⟩, r6⟩
    refine (r5.2.2.2.1 x).trans ⟨?_, ?_⟩
    · rintro ⟨q, h9, h10, h11⟩
      refine ⟨q, h9, h10, ?_⟩
      show upd (T.2 16) (tn r) (nI 2) q = 1
      rw [us q (fun h12 => by rw [h12, hs] at h11; exact absurd h11 (by decide))]; exact h11
    · rintro ⟨q, h9, h10, h11⟩
      exact ⟨q, h9, h10, (st1 q h11).2⟩
  · have hm : ¬ mtCan T r = 0 := by rw [e, cd, if_neg h0]; omega
    rw [if_neg hm, if_neg h0]
    exact ⟨hI, e, rfl, fun h9 => absurd h9 h0, Rl_0 h _⟩
