/-! the relation kept: type, its rows -/
theorem RA_type {k : Nat} {S : sC} {T : sM} (h : Rl k S T) (hW : T.1 1 < 300) {w p : Nat} (x a : Int32) (ha : a = if p = 0 then -1 else T.2 9 (300 * w + p - 1)) : RA1 (wAdd S (nI w) x a) (msType T w p x) ∧ RA2 (wAdd S (nI w) x a) (msType T w p x) ∧ RA4 (wAdd S (nI w) x a) (msType T w p x) ∧ RA5 (wAdd S (nI w) x a) (msType T w p x) ∧ RA6 (wAdd S (nI w) x a) (msType T w p x) := by
  obtain ⟨⟨i0, j1, j2, j3, j4, j5, j6, j7, j8, j9⟩, r1, r2, r3, r4, r5, r6⟩ := id h
  have z4 : T.2 4 (T.1 1) = 0 := j1.2.2.2 _ (Nat.le_refl _)
  have z5 : T.2 5 (T.1 1) = 0 := by
    rcases j1.1 (T.1 1) with h5 | h5
    · exact h5
    · have := j1.2.2.1 _ h5; rw [z4] at this; exact absurd this (by decide)
  rw [wAdd_t h hW, msType_e, ha]
  refine ⟨⟨rfl, rfl, rfl, ?_, rfl, ?_, r1.2.2.2.2.2.2.1, r1.2.2.2.2.2.2.2⟩, ⟨?_, ?_, ?_⟩, r4, r5, r6⟩
  · show tab (T.1 1 + 1) (upd (stT T) (T.1 1) 0) = tab (T.1 1 + 1) (stT T)
    refine tab_co fun i hi => ?_
    by_cases e : i = T.1 1
    · subst e
      rw [upd_at, stT, z5, z4]; rfl
    · rw [upd_o e]
  · show tab (T.1 1 + 1) (upd (fun n => bits (T.2 26) n (T.1 33)) (T.1 1) 0) = tab (T.1 1 + 1) (fun n => bits (T.2 26) n (T.1 33))
    refine tab_co fun i hi => ?_
    by_cases e : i = T.1 1
    · subst e
      rw [upd_at]
      exact (bits_z _ fun v hv => j9 v hv _ hW (Nat.le_refl _)).symm
    · rw [upd_o e]
  · show (S.1 20).length = cIn (T.2 4) (T.1 1 + 1) + cDl (T.2 4) (T.2 5) (T.1 1 + 1)
    rw [cIn, cDl, z4, if_neg (by decide), if_neg (fun hh => absurd hh.1 (by decide))]
    exact r2.1
  · intro c hc
    show ∃ n, n < T.1 1 + 1 ∧ (c = nI n ∨ c = nI (300 + n))
    obtain ⟨n, h1, h2⟩ := r2.2.1 c hc
    exact ⟨n, by omega, h2⟩
  · intro v
    show hsm (upd (T.2 2) (T.1 1) (nI w)) v (S.1 20) = nI (shG (upd (T.2 2) (T.1 1) (nI w)) (T.2 5) v (T.1 1 + 1))
    rw [hsm_co (h := T.2 2) (W := T.1 1) (by omega) (fun i hi => upd_o (by omega)) _ r2.2.1, shG, if_neg (fun hh => hh.1 z5), shG_co (h := T.2 2) (h5 := T.2 5) _ (fun i hi => upd_o (by omega)) (fun _ _ => rfl)]
    exact r2.2.2 v
theorem opK_type_ok : opK_type Rl := fun k S T w p x hk h => by
  have hI := h.1.1
  have e := ty_cd h w p x
  by_cases h0 : mtType T w p x = 0
  · have h0c : tType S w p x = 0 := by
      rw [h0] at e
      by_cases h9 : tType S w p x = 0
      · exact h9
      · rw [cd, if_neg h9] at e; omega
    rw [if_pos h0, if_pos h0c]
    obtain ⟨hw, hl, hp, hpl, hW⟩ := ty_0 h h0
    have hk8 := (h.1.2.2.2.2.2.2.2.2.1 _ hl).1
    have hJ := JM_type (k := k) h.1 x hl hpl hW (by omega)
    obtain ⟨⟨i0, j1, j2, j3, j4, j5, j6, j7, j8, j9⟩, r1, r2, r3, r4, r5, r6⟩ := h.le (Nat.le_succ k)
    have hc := i0.2.2.2.2.2.2.2.2.2.2.1 _ hl
    have hlen := (j7 _ hl).1
    have ho := (r3 _ hl).1
    have hpe := (r3 _ hl).2
    have z4 : T.2 4 (T.1 1) = 0 := j1.2.2.2 _ (Nat.le_refl _)
    have z5 : T.2 5 (T.1 1) = 0 := by
      rcases j1.1 (T.1 1) with h5 | h5
      · exact h5
      · have := j1.2.2.1 _ h5; rw [z4] at this; exact absurd this (by decide)
    have ha : rAt (S.1 (24 + 6 * tn w)) (p - 1) = if tn p = 0 then -1 else T.2 9 (300 * tn w + tn p - 1) := by
      rw [ho]
      conv => lhs; rw [hp]
      by_cases h9 : tn p = 0
      · rw [if_pos h9, h9]; exact rAt_m1 _
      · rw [if_neg h9]
        obtain ⟨q, hq⟩ : ∃ q, tn p = q + 1 := ⟨tn p - 1, by omega⟩
        rw [hq, nI_pred, rAt_tab _ (by omega) (by omega), show 300 * tn w + (q + 1) - 1 = 300 * tn w + q by omega]
    have fr : rType S w p x = nI (T.1 1) := by
      rw [rType, sType0, wAdd_t h hW, sSet_o (by decide), sSet_o (by decide), sSet_o (by decide), sSet_o (by decide), sSet_o (by decide), sSet_1, tab_len, nI_pred]
    have f1 : rIns (S.1 (24 + 6 * tn w)) (cap (24 + 6 * tn w)) p (nI (T.1 1)) = tab (tn (T.2 8 (tn w)) + 1) (fun i => mIns (T.2 9) (300 * tn w) (tn p) (tn (T.2 8 (tn w))) (nI (T.1 1)) (300 * tn w + i)) := by
      rw [ho]
      conv => lhs; rw [hp]
      rw [rIns_tab _ _ (by omega) hpl (by rw [(cap_own _ hl).1]; omega)]
      exact tab_co fun i hi => (mIns_m (g := T.2 9)).symm
    have f2 : rAdd (S.1 (27 + 6 * tn w)) (cap (27 + 6 * tn w)) (nI (T.1 1)) = tab (tn (T.2 10 (tn w)) + 1) (fun i => cdT (upd (T.2 11) (700 * tn w + tn (T.2 10 (tn w))) (nI (T.1 1 + 1)) (700 * tn w + i))) := by
      rw [hpe, rAdd_tab _ _ (by rw [(cap_own _ hl).2]; omega)]
      refine tab_co fun i hi => ?_
      by_cases e9 : i = tn (T.2 10 (tn w))
      · subst e9
        rw [upd_at, upd_at, cdT, if_neg (nI_nle (by omega) (by omega)), show nI (T.1 1 + 1) - nI 1 = nI (T.1 1) from nI_pred _]
      · rw [upd_o e9, upd_o (by omega)]
    have fS : sType S w p x = sSet (sSet (wAdd S w x (rAt (S.1 (24 + 6 * tn w)) (p - 1))) (24 + 6 * tn w) (tab (tn (T.2 8 (tn w)) + 1) (fun i => mIns (T.2 9) (300 * tn w) (tn p) (tn (T.2 8 (tn w))) (nI (T.1 1)) (300 * tn w + i)))) (27 + 6 * tn w) (tab (tn (T.2 10 (tn w)) + 1) (fun i => cdT (upd (T.2 11) (700 * tn w + tn (T.2 10 (tn w))) (nI (T.1 1 + 1)) (700 * tn w + i)))) := by
      have g1 : (sType0 S w p x).1 (24 + 6 * tn w) = S.1 (24 + 6 * tn w) := by
        rw [sType0, wAdd, sSet_o (by omega), sSet_o (by omega), sSet_o (by omega), sSet_o (by omega), sSet_o (by omega), sSet_o (by omega)]
      have g2 : (sType0 S w p x).1 (27 + 6 * tn w) = S.1 (27 + 6 * tn w) := by
        rw [sType0, wAdd, sSet_o (by omega), sSet_o (by omega), sSet_o (by omega), sSet_o (by omega), sSet_o (by omega), sSet_o (by omega)]
      rw [sType, wPut, fr, pW1, pW4, g1, g2, f1, f2, sType0, pW1]
    refine ⟨hI, e, h0.symm ▸ rfl, fun _ => fr.symm, ?_⟩
    obtain ⟨q1, q2, q4, q5, q6⟩ := RA_type h hW (w := tn w) (p := tn p) x _ ha
    rw [← hw] at q1 q2 q4 q5 q6
    obtain ⟨q1, q2, q4, q5, q6⟩ := Rl_w (x := tab (tn (T.2 8 (tn w)) + 1) (fun i => mIns (T.2 9) (300 * tn w) (tn p) (tn (T.2 8 (tn w))) (nI (T.1 1)) (300 * tn w + i))) (y := tab (tn (T.2 10 (tn w)) + 1) (fun i => cdT (upd (T.2 11) (700 * tn w + tn (T.2 10 (tn w))) (nI (T.1 1 + 1)) (700 * tn w + i)))) hl q1 q2 q4 q5 q6
    rw [fS]
    refine ⟨hJ, q1, q2, fun v hv => ?_, q4, q5, q6⟩
    have o1 : (wAdd S w x (rAt (S.1 (24 + 6 * tn w)) (p - 1))).1 (24 + 6 * v) = S.1 (24 + 6 * v) := by
      rw [wAdd, sSet_o (by omega), sSet_o (by omega), sSet_o (by omega), sSet_o (by omega), sSet_o (by omega), sSet_o (by omega)]
    have o2 : (wAdd S w x (rAt (S.1 (24 + 6 * tn w)) (p - 1))).1 (27 + 6 * v) = S.1 (27 + 6 * v) := by
      rw [wAdd, sSet_o (by omega), sSet_o (by omega), sSet_o (by omega), sSet_o (by omega), sSet_o (by omega), sSet_o (by omega)]
    show (sSet (sSet (wAdd S w x (rAt (S.1 (24 + 6 * tn w)) (p - 1))) (24 + 6 * tn w) _) (27 + 6 * tn w) _).1 (24 + 6 * v) = tab (tn (upd (T.2 8) (tn w) (nI (tn (T.2 8 (tn w)) + 1)) v)) (fun i => mIns (T.2 9) (300 * tn w) (tn p) (tn (T.2 8 (tn w))) (nI (T.1 1)) (300 * v + i)) ∧ (sSet (sSet (wAdd S w x (rAt (S.1 (24 + 6 * tn w)) (p - 1))) (24 + 6 * tn w) _) (27 + 6 * tn w) _).1 (27 + 6 * v) = tab (tn (upd (T.2 10) (tn w) (nI (tn (T.2 10 (tn w)) + 1)) v)) (fun i => cdT (upd (T.2 11) (700 * tn w + tn (T.2 10 (tn w))) (nI (T.1 1 + 1)) (700 * v + i)))
    by_cases e9 : v = tn w
    · subst e9
      rw [sSet_o (by omega), sSet_1, sSet_1, upd_at, upd_at, tn_n (by omega), tn_n (by omega)]
      exact ⟨rfl, rfl⟩
    · rw [sSet_o (by omega), sSet_o (by omega), sSet_o (by omega), sSet_o (by omega), upd_o e9, upd_o e9, o1, o2]
      have h700 := (i0.2.2.2.2.2.2.2.2.2.2.2.1 v hv).2
      have h8 := (j7 v hv).1
      refine ⟨(r3 v hv).1.trans (tab_co fun i hi => ?_), (r3 v hv).2.trans (tab_co fun i hi => ?_)⟩
      · exact (mIns_far (by omega) hpl).symm
      · rw [upd_o (by omega)]
  · have h0c : ¬ tType S w p x = 0 := fun h9 => h0 (by rw [e, h9]; rfl)
    rw [if_neg h0, if_neg h0c]
    exact ⟨hI, e, rfl, fun h9 => absurd h9 h0c, Rl_0 h _⟩
