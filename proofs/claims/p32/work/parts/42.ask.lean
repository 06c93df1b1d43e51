/-! the relation kept: calls that only ask -/
theorem cd1 {P : Prop} [Decidable P] : cd [1] (if P then 0 else 1) = if P then 0 else 1 := by
  split
  · rfl
  · rfl
theorem opq {k : Nat} {S : sC} {T : sM} {thr THR : Nat} {L : List Nat} {R r : Int32} (h : Rl k S T) (e : THR = cd L thr) (ha : thr = 0 → R = r) : THR = cd L thr ∧ (if THR = 0 then sS T 0 0 else sS T 0 THR).1 0 = THR ∧ (thr = 0 → R = r) ∧ Rl (k + 1) (if thr = 0 then S else S) (if THR = 0 then sS T 0 0 else sS T 0 THR) := by
  refine ⟨e, ?_, ha, ?_⟩
  · split
    · rename_i h0; rw [h0]; rfl
    · rfl
  · rw [ite_self]
    split
    · exact Rl_0 h 0
    · exact Rl_0 h _
theorem ixW (w : Int32) : tIx w 6 = if inB w 0 5 = true then 0 else 1 := ix_in (x := w) (n := 6) (by decide)
theorem ixW_cd (w : Int32) : mtW w = cd [1] (tIx w 6) := by rw [ixW, cd1, mtW]
theorem ixW_0 {w : Int32} (h : tIx w 6 = 0) : w = nI (tn w) ∧ tn w < 6 := by
  rw [ixW] at h
  split at h
  · rename_i h1
    obtain ⟨h2, h3⟩ := inB_n (b := 5) (by decide) h1
    exact ⟨h2, by omega⟩
  · exact absurd h (by decide)
theorem pW1 (w : Int32) : pW w + 1 = 24 + 6 * tn w := by unfold pW tn; omega
theorem pW4 (w : Int32) : pW w + 4 = 27 + 6 * tn w := by unfold pW tn; omega
theorem opK_none_ok : opK_none Rl := fun k S T _ h => h.le (Nat.le_succ k)
theorem opK_copy_ok : opK_copy Rl := fun k S T w _ h => by
  refine ⟨trivial, opq h (ixW_cd w) fun h0 => ?_⟩
  obtain ⟨hw, hl⟩ := ixW_0 h0
  obtain ⟨⟨hI, -⟩, -, -, a3, -⟩ := h
  rw [pW1, (a3 _ hl).1, tab_len]
  exact (hI.2.2.2.2.2.2.2.2.2.2.1 _ hl).1
theorem opK_changes_ok : opK_changes Rl := fun k S T w _ h => by
  refine ⟨trivial, opq h (ixW_cd w) fun h0 => ?_⟩
  obtain ⟨hw, hl⟩ := ixW_0 h0
  obtain ⟨⟨hI, -⟩, -, -, a3, -⟩ := h
  rw [pW4, (a3 _ hl).2, tab_len]
  exact (hI.2.2.2.2.2.2.2.2.2.2.2.1 _ hl).1
theorem opK_royalties_ok : opK_royalties Rl := fun k S T w _ h => by
  refine ⟨trivial, opq h (ixW_cd w) fun h0 => ?_⟩
  obtain ⟨hw, hl⟩ := ixW_0 h0
  obtain ⟨-, -, -, -, a4, -⟩ := h
  rw [a4.1, hw, rAt_tab _ (by decide) hl, ← hw]
theorem wd_cd {S : sC} {T : sM} (h : RA1 S T) (hI : IM T) (n : Int32) : mtWd T n = cd [1] (tWord S n) := by
  have := hI.1
  rw [tWord, h.1, tab_len, ix_in (by omega), cd1, mtWd]
theorem wd_0 {S : sC} {T : sM} (h : RA1 S T) (hI : IM T) {n : Int32} (h0 : tWord S n = 0) : n = nI (tn n) ∧ tn n < T.1 1 := by
  have := hI.1
  rw [tWord, h.1, tab_len, ix_in (by omega)] at h0
  split at h0
  · rename_i h1; exact ix_n (by omega) h1
  · exact absurd h0 (by decide)
theorem opK_word_ok : opK_word Rl := fun k S T n _ h => by
  have hI := h.1.1
  have hW := hI.1
  refine ⟨hI, opq h (wd_cd h.2.1 hI n) fun h0 => ?_⟩
  obtain ⟨hn, hl⟩ := wd_0 h.2.1 hI h0
  obtain ⟨-, a1, -⟩ := h
  rw [a1.1, a1.2.1, hn, rAt_tab _ (by omega) hl, rAt_tab _ (by omega) hl, ← hn]
  rfl
theorem opK_frozenBy_ok : opK_frozenBy Rl := fun k S T n _ h => by
  have hI := h.1.1
  have hW := hI.1
  refine ⟨hI, opq h (wd_cd h.2.1 hI n) fun h0 => ?_⟩
  obtain ⟨hn, hl⟩ := wd_0 h.2.1 hI h0
  obtain ⟨-, a1, -⟩ := h
  rw [a1.2.2.2.2.1, hn, rAt_tab _ (by omega) hl, ← hn]
theorem rv_cd {S : sC} {T : sM} (h : RA4 S T) (hI : IM T) (n : Int32) : mtRv T n = cd [1] (tIx n (nI (S.1 62).length)) := by
  have := hI.2.2.1
  rw [h.2.1, tab_len, ix_in (by omega), cd1, mtRv]
theorem rv_0 {S : sC} {T : sM} (h : RA4 S T) (hI : IM T) {n : Int32} (h0 : tIx n (nI (S.1 62).length) = 0) : n = nI (tn n) ∧ tn n < T.1 17 := by
  have := hI.2.2.1
  rw [h.2.1, tab_len, ix_in (by omega)] at h0
  split at h0
  · rename_i h1; exact ix_n (by omega) h1
  · exact absurd h0 (by decide)
theorem opK_stateOf_ok : opK_stateOf Rl := fun k S T n _ h => by
  have hI := h.1.1
  have hV := hI.2.2.1
  refine ⟨hI, opq h (rv_cd h.2.2.2.2.1 hI n) fun h0 => ?_⟩
  obtain ⟨hn, hl⟩ := rv_0 h.2.2.2.2.1 hI h0
  obtain ⟨-, -, -, -, a4, -⟩ := h
  rw [a4.2.2.2.2.1, hn, rAt_tab _ (by omega) hl, ← hn]
theorem ixR (r : Int32) : tIx r 4 = if inB r 0 3 = true then 0 else 1 := ix_in (x := r) (n := 4) (by decide)
theorem ixR_0 {w : Int32} (h : tIx w 4 = 0) : w = nI (tn w) ∧ tn w < 4 := by
  rw [ixR] at h
  split at h
  · rename_i h1
    obtain ⟨h2, h3⟩ := inB_n (b := 3) (by decide) h1
    exact ⟨h2, by omega⟩
  · exact absurd h (by decide)
theorem opK_earned_ok : opK_earned Rl := fun k S T n _ h => by
  refine ⟨h.1.1, opq h (by rw [ixR, cd1, mtRw]) fun h0 => ?_⟩
  obtain ⟨hn, hl⟩ := ixR_0 h0
  obtain ⟨-, -, -, -, a4, -⟩ := h
  rw [a4.2.2.2.2.2.2, hn, rAt_tab _ (by decide) hl, ← hn]
theorem opK_printed_ok : opK_printed Rl := fun k S T n _ h => by
  have hI := h.1.1
  have hV := hI.2.2.2.1
  have a6 := h.2.2.2.2.2.2
  have e0 : tIx n (nI (S.1 79).length) = if inB n 0 (nI (T.1 25) - 1) = true then 0 else 1 := by rw [a6.1, tab_len, ix_in (by omega)]
  refine ⟨hI, opq h (by rw [e0, cd1]; rfl) fun h0 => ?_⟩
  rw [e0] at h0
  split at h0
  · rename_i h1
    obtain ⟨hn, hl⟩ := ix_n (by omega) h1
    rw [a6.2.2.1, hn, rAt_tab _ (by omega) hl, ← hn]
  · exact absurd h0 (by decide)
theorem opK_today_ok : opK_today Rl := fun k S T _ h => ⟨h.2.2.2.2.2.2.2.2.2.2.2.2.symm, Rl_0 h 0⟩
theorem cp_cd {k : Nat} {S : sC} {T : sM} (h : Rl k S T) (w p : Int32) : mtCp T w p = cd [1] (tCopyAt S w p) := by
  have hI := h.1.1
  rw [mtCp, tCopyAt, ixW]
  by_cases h1 : inB w 0 5 = true
  · rw [if_pos h1, tor_0]
    have hl : tn w < 6 := by have := inB_n (b := 5) (by decide) h1; omega
    have hc := hI.2.2.2.2.2.2.2.2.2.2.1 _ hl
    have hW := hI.1
    rw [pW1, (h.2.2.2.1 _ hl).1, tab_len, ix_in (by omega), cd1, ← hc.1]
    by_cases h2 : inB p 0 (T.2 8 (tn w) - 1) = true
    · rw [if_pos h2, if_pos ⟨h1, h2⟩]
    · rw [if_neg h2, if_neg (fun h3 => h2 h3.2)]
  · rw [if_neg h1, if_neg (fun h3 => h1 h3.1)]
    rfl
theorem cp_0 {k : Nat} {S : sC} {T : sM} (h : Rl k S T) {w p : Int32} (h0 : tCopyAt S w p = 0) : w = nI (tn w) ∧ tn w < 6 ∧ p = nI (tn p) ∧ tn p < tn (T.2 8 (tn w)) := by
  have hI := h.1.1
  rw [tCopyAt] at h0
  by_cases h1 : tIx w 6 = 0
  · rw [h1, tor_0] at h0
    obtain ⟨hw, hl⟩ := ixW_0 h1
    have hc := hI.2.2.2.2.2.2.2.2.2.2.1 _ hl
    have hW := hI.1
    rw [pW1, (h.2.2.2.1 _ hl).1, tab_len, ix_in (by omega)] at h0
    split at h0
    · rename_i h2
      obtain ⟨h3, h4⟩ := ix_n (by omega) h2
      exact ⟨hw, hl, h3, h4⟩
    · exact absurd h0 (by decide)
  · rw [tor_ne _ h1] at h0; exact absurd h0 h1
theorem mtCp_1 {T : sM} {w p : Int32} (h : ¬ mtCp T w p = 0) : mtCp T w p = 1 := by
  unfold mtCp at h ⊢
  split
  · rename_i h1; rw [if_pos h1] at h; exact absurd rfl h
  · rfl
theorem opK_copyAt_ok : opK_copyAt Rl := fun k S T w p _ h => by
  have hI := h.1.1
  have e : (if mtCp T w p = 0 then sS T 0 0 else sS T 0 1) = (if mtCp T w p = 0 then sS T 0 0 else sS T 0 (mtCp T w p)) := by
    by_cases h1 : mtCp T w p = 0
    · rw [if_pos h1, if_pos h1]
    · rw [if_neg h1, if_neg h1, mtCp_1 h1]
  rw [e]
  refine ⟨hI, opq h (cp_cd h w p) fun h0 => ?_⟩
  obtain ⟨hw, hl, hp, hpl⟩ := cp_0 h h0
  have hc := hI.2.2.2.2.2.2.2.2.2.2.1 _ hl
  have hW := hI.1
  rw [pW1, (h.2.2.2.1 _ hl).1, hp, rAt_tab _ (by omega) hpl, ← hp]
