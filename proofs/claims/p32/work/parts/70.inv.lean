/-! what is kept beside the relation, for the law's property -/
def inR (b : Nat) (x : Int32) : Prop := ∃ n, n ≤ b ∧ x = nI n
def X1 (T : sM) : Prop := ∀ n, n < T.1 1 → T.2 6 n = -1 ∨ T.2 5 n = 1
def inR5 (b : Nat) (x : Int32) : Prop := ∃ m, m ≤ b ∧ x = nI (5 * m)
def X2 (T : sM) : Prop := ∀ w, w < 6 → inR5 (300 * cFz (T.2 16) (nI 3) (T.1 17)) (T.2 12 w)
def X3 (T : sM) : Prop := ∀ n, n < T.1 1 → inR 999 (T.2 1 n)
def X4 (T : sM) : Prop := (∀ r, r < 4 → inR 100 (T.2 13 r)) ∧ (∀ r, r < T.1 17 → inR 30000 (T.2 18 r)) ∧ ∀ r, r < T.1 17 → inR 300 (T.2 17 r)
def X5 (k : Nat) (T : sM) : Prop := ∀ r, r < 4 → inR (30000 * k) (T.2 14 r)
def X6 (T : sM) : Prop := ∀ r, r < T.1 17 → inR 3 (T.2 16 r)
def EX (k : Nat) (T : sM) : Prop := X1 T ∧ X2 T ∧ X3 T ∧ X4 T ∧ X5 k T ∧ X6 T
def IV (k : Nat) (S : sC) : Prop := ∃ T, Rl k S T ∧ EX k T
def StepOK (k : Nat) (S : sC) (x : Int32 × sC) : Prop := IV (k + 1) x.2 ∧ (x.1 = -99999 → x.2 = S)
theorem EX.le {k m : Nat} {T : sM} (h : EX k T) (hm : k ≤ m) : EX m T := ⟨h.1, h.2.1, h.2.2.1, h.2.2.2.1, fun r hr => by
  obtain ⟨n, h1, h2⟩ := h.2.2.2.2.1 r hr
  exact ⟨n, Nat.le_trans h1 (Nat.mul_le_mul_left _ hm), h2⟩, h.2.2.2.2.2⟩
theorem EX_0 {k : Nat} {T : sM} (h : EX k T) (v : Nat) : EX (k + 1) (sS T 0 v) := by
  have h1 := h.le (Nat.le_succ k)
  exact h1
theorem nI_99 {n : Nat} (h : n < 2 ^ 31) : nI n ≠ -99999 := fun e => nI_pos h (e ▸ (by decide))
theorem inR_99 {b : Nat} {x : Int32} (hb : b < 2 ^ 31) (h : inR b x) : x ≠ -99999 := by
  obtain ⟨n, h1, rfl⟩ := h
  exact nI_99 (by omega)
theorem inR.le {a b : Nat} {x : Int32} (h : inR a x) (hb : a ≤ b) : inR b x := by
  obtain ⟨n, h1, h2⟩ := h
  exact ⟨n, by omega, h2⟩
theorem inR_add {a b : Nat} {x y : Int32} (h : inR a x) (h2 : inR b y) : inR (a + b) (x + y) := by
  obtain ⟨n, h1, rfl⟩ := h
  obtain ⟨m, h3, rfl⟩ := h2
  exact ⟨n + m, by omega, nI_add n m⟩
theorem inB_R {a : Int32} {b : Nat} {v : Int32} (h0 : 0 ≤ a) (hb : b < 2 ^ 31) (h : inB v a (nI b) = true) : inR b v := by
  obtain ⟨h1, h2⟩ := inB_t h
  obtain ⟨j, hj, rfl⟩ := nI_of (Int32.not_lt.mpr (Int32.le_trans h0 h1))
  exact ⟨j, (nI_leI hj hb).mp h2, rfl⟩
theorem cd_ne {L : List Nat} {t : Nat} (h : ¬ t = 0) : ¬ cd L t = 0 := by
  rw [cd, if_neg h]; omega
theorem IV_wr {k thr THR v : Nat} {S S1 : sC} {T T1 : sM} {r : Int32} {L : List Nat} (e : THR = cd L thr) (hR : Rl (k + 1) (if thr = 0 then S1 else S) (if THR = 0 then T1 else sS T 0 v)) (hT : EX k T) (h1 : thr = 0 → THR = 0 → EX (k + 1) T1) (hr : thr = 0 → r ≠ -99999) : StepOK k S (wr thr r S1 S) := by
  unfold StepOK wr
  by_cases h0 : thr = 0
  · have h2 : THR = 0 := by rw [e, h0]; rfl
    rw [if_pos h0, if_pos h2] at hR
    dsimp only
    rw [if_pos h0, if_pos h0]
    exact ⟨⟨T1, hR, h1 h0 h2⟩, fun h => absurd h (hr h0)⟩
  · have h2 : ¬ THR = 0 := by rw [e]; exact cd_ne h0
    rw [if_neg h0, if_neg h2] at hR
    dsimp only
    rw [if_neg h0, if_neg h0]
    exact ⟨⟨_, hR, EX_0 hT v⟩, fun _ => rfl⟩
theorem cFz_iff {g h : Nat → Int32} {q : Int32} : ∀ n, (∀ i, i < n → (g i = q ↔ h i = q)) → cFz g q n = cFz h q n := by
  intro n
  induction n with
  | zero => intro _; rfl
  | succ n ih =>
    intro hh
    rw [cFz, cFz, ih fun i hi => hh i (by omega)]
    congr 1
    by_cases e : g n = q
    · rw [if_pos e, if_pos ((hh n (by omega)).mp e)]
    · rw [if_neg e, if_neg (fun h2 => e ((hh n (by omega)).mpr h2))]
theorem cFz_le (g : Nat → Int32) (q : Int32) : ∀ n, cFz g q n ≤ n := by
  intro n
  induction n with
  | zero => exact Nat.le_refl 0
  | succ n ih => rw [cFz]; split <;> omega
theorem cFz_up {g : Nat → Int32} {x : Nat} {q : Int32} (hg : ¬ g x = q) : ∀ n, x < n → cFz (upd g x q) q n = cFz g q n + 1 := by
  intro n
  induction n with
  | zero => intro h; omega
  | succ n ih =>
    intro h
    rw [cFz, cFz]
    by_cases e : n = x
    · subst e
      rw [upd_at, if_pos rfl, if_neg hg, cFz_iff (h := g) n fun i hi => by rw [upd_o (by omega)]]
    · rw [upd_o e, ih (by omega)]
      omega
theorem X2_iff {T : sM} {g : Nat → Int32} (h : ∀ i, i < T.1 17 → (T.2 16 i = nI 3 ↔ g i = nI 3)) : cFz g (nI 3) (T.1 17) = cFz (T.2 16) (nI 3) (T.1 17) := (cFz_iff _ h).symm
theorem iv_type {k : Nat} {S : sC} (hk : k < 512) (h : IV k S) (w p x : Int32) : StepOK k S (wr (tType S w p x) (rType S w p x) (sType S w p x) S) := by
  obtain ⟨T, hR, hT⟩ := h
  obtain ⟨hI, e, -, hv, hR2⟩ := opK_type_ok k S T w p x hk hR
  have hW := hI.1
  refine IV_wr e hR2 hT (fun h0 h9 => ?_) (fun h0 => by rw [← hv h0]; exact nI_99 (by omega))
  obtain ⟨x1, x2, x3, x4, x5, x6⟩ := hT.le (Nat.le_succ k)
  have hx : inR 999 x := by
    unfold mtType at h9
    split at h9
    · split at h9
      · rename_i h8; exact inB_R (b := 999) (Int32.le_refl 0) (by omega) h8
      · cases h9
    · cases h9
  refine ⟨fun n hn => ?_, x2, fun n hn => ?_, x4, x5, x6⟩
  · show upd (T.2 6) (T.1 1) (-1) n = -1 ∨ T.2 5 n = 1
    by_cases e1 : n = T.1 1
    · rw [e1, upd_at]; exact Or.inl rfl
    · rw [upd_o e1]; exact x1 n (by have : n < T.1 1 + 1 := hn; omega)
  · show inR 999 (upd (T.2 1) (T.1 1) x n)
    by_cases e1 : n = T.1 1
    · rw [e1, upd_at]; exact hx
    · rw [upd_o e1]; exact x3 n (by have : n < T.1 1 + 1 := hn; omega)
theorem iv_delete {k : Nat} {S : sC} (hk : k < 512) (h : IV k S) (w p : Int32) : StepOK k S (wr (tCopyAt S w p) (rAt (S.1 (pW w + 1)) p) (wTake S (pW w) p) S) := by
  obtain ⟨T, hR, hT⟩ := h
  obtain ⟨hI, e, -, hv, hR2⟩ := opK_delete_ok k S T w p hk hR
  have hW := hI.1
  refine IV_wr e hR2 hT (fun h0 h9 => ?_) (fun h0 => ?_)
  · have h1 := hT.le (Nat.le_succ k)
    exact h1
  · rw [← hv h0]
    obtain ⟨hw, hl, hp, hpl⟩ := cp_0 hR h0
    obtain ⟨n, hn, e2⟩ := (hR.1.2.2.2.2.2.2.2.1 _ hl).2 _ hpl
    rw [e2]; exact nI_99 (by omega)
theorem EX_mStS {k : Nat} {T : sM} (h : EX k T) (c : Int32) : EX k (mStS T c) := by
  obtain ⟨x1, x2, x3, x4, x5, x6⟩ := id h
  unfold mStS
  split
  · split
    · exact h
    · refine ⟨fun n hn => ?_, x2, x3, x4, x5, x6⟩
      show T.2 6 n = -1 ∨ upd (T.2 5) (tn (-c - nI 1)) (vp_nar .boolean (if T.2 6 (tn (-c - nI 1)) = -1 then nI 0 else nI 1)) n = 1
      by_cases e1 : n = tn (-c - nI 1)
      · rw [← e1, upd_at]
        by_cases e2 : T.2 6 n = -1
        · exact Or.inl e2
        · rw [if_neg e2]; exact Or.inr (by decide)
      · rw [upd_o e1]; exact x1 n hn
  · split
    · exact h
    · refine ⟨fun n hn => ?_, x2, x3, x4, x5, x6⟩
      show T.2 6 n = -1 ∨ upd (T.2 5) (tn (c - nI 1)) b1 n = 1
      by_cases e1 : n = tn (c - nI 1)
      · rw [e1, upd_at]; exact Or.inr b1_1
      · rw [upd_o e1]; exact x1 n hn
theorem EX_mMrg {k : Nat} {T : sM} (h : EX k T) (w : Nat) : ∀ n, EX k (mMrg T w n).1 := by
  intro n
  induction n with
  | zero => exact h
  | succ n ih => exact EX_mStS ih _
theorem iv_merge {k : Nat} {S : sC} (hk : k < 512) (h : IV k S) (w : Int32) : StepOK k S (wr (tIx w 6) (nI (mrg S (pW w)).1) (sMerge S w) S) := by
  obtain ⟨T, hR, hT⟩ := h
  obtain ⟨⟨hI, -⟩, e, -, hv, hR2⟩ := opK_merge_ok k S T w hk hR
  refine IV_wr e hR2 hT (fun h0 h9 => ?_) (fun h0 => ?_)
  · have h1 := EX_mMrg (hT.le (Nat.le_succ k)) (tn w) (tn (T.2 10 (tn w)))
    exact h1
  · rw [← hv h0]
    have h1 := mMrg_le T (tn w) (tn (T.2 10 (tn w)))
    have h2 := (hI.2.2.2.2.2.2.2.2.2.2.2.1 _ (ixW_0 h0).2).2
    exact nI_99 (by omega)
theorem iv_setRate {k : Nat} {S : sC} (hk : k < 512) (h : IV k S) (r v : Int32) : StepOK k S (wr (tRate r v) (rAt (S.1 74) r) (sSet S 74 (rSet (S.1 74) r v)) S) := by
  obtain ⟨T, hR, hT⟩ := h
  obtain ⟨-, e, -, hv, hR2⟩ := opK_setRate_ok k S T r v hk hR
  obtain ⟨x1, x2, x3, x4, x5, x6⟩ := hT.le (Nat.le_succ k)
  refine IV_wr e hR2 hT (fun h0 h9 => ?_) (fun h0 => ?_)
  · have hx : inR 100 v := by
      unfold mtRt at h9
      split at h9
      · split at h9
        · rename_i h8; exact inB_R (b := 100) (Int32.le_refl 0) (by omega) h8
        · cases h9
      · cases h9
    refine ⟨x1, x2, x3, ⟨fun q hq => ?_, x4.2⟩, x5, x6⟩
    show inR 100 (upd (T.2 13) (tn r) v q)
    by_cases e1 : q = tn r
    · rw [e1, upd_at]; exact hx
    · rw [upd_o e1]; exact x4.1 q hq
  · rw [← hv h0]
    have hr : tIx r 4 = 0 := by
      by_cases h2 : tIx r 4 = 0
      · exact h2
      · rw [tRate, tor_ne _ h2] at h0; exact absurd h0 h2
    exact inR_99 (by omega) (x4.1 _ (ixR_0 hr).2)
theorem mFz_th {T : sM} {a x : Nat} : ∀ m, mFz T a m x = T.2 6 x ∨ ∃ i, i < m ∧ tn (mTxt T (nI (a + i))) = x := by
  intro m
  induction m with
  | zero => exact Or.inl rfl
  | succ m ih =>
    rw [mFz]
    by_cases e : x = tn (mTxt T (nI (a + m)))
    · exact Or.inr ⟨m, Nat.lt_succ_self m, e.symm⟩
    · rw [upd_o e]
      exact ih.imp id fun ⟨i, h1, h2⟩ => ⟨i, by omega, h2⟩
theorem iv_order {k : Nat} {S : sC} (hk : k < 512) (h : IV k S) (r a b : Int32) : StepOK k S (wr (tOrder S r a b) (rOrder S r a b) (sOrder S r a b) S) := by
  obtain ⟨T, hR, hT⟩ := h
  obtain ⟨hI, e, -, hv, hR2⟩ := opK_order_ok k S T r a b hk hR
  have hV := hI.2.2.1
  refine IV_wr e hR2 hT (fun h0 h9 => ?_) (fun h0 => by rw [← hv h0]; exact nI_99 (by omega))
  obtain ⟨x1, x2, x3, x4, x5, x6⟩ := hT.le (Nat.le_succ k)
  obtain ⟨hr, hrl, ha, hb, hab, hBl, hV2, hfr⟩ := od_0 hR h9
  have hL := tx_le hR.1
  refine ⟨fun n hn => ?_, fun w hw => ?_, x3, ⟨x4.1, fun q hq => ?_, fun q hq => ?_⟩, x5, fun q hq => ?_⟩
  · show mFz T (tn a) (tn b + 1 - tn a) n = -1 ∨ T.2 5 n = 1
    rcases mFz_th (T := T) (a := tn a) (x := n) (tn b + 1 - tn a) with h1 | ⟨i, h1, h2⟩
    · rw [h1]; exact x1 n hn
    · obtain ⟨m, h3, h4, h5⟩ := tx_in hR.1 (show tn a + i < (txT T).length by omega)
      rw [← mTxt_rAt] at h4
      rw [h4, tn_n (by have := hI.1; omega)] at h2
      exact Or.inr (h2 ▸ h5)
  · obtain ⟨m, h1, h2⟩ := x2 w hw
    refine ⟨m, Nat.le_trans h1 (Nat.mul_le_mul_left _ ?_), h2⟩
    show cFz (T.2 16) (nI 3) (T.1 17) ≤ cFz (upd (T.2 16) (T.1 17) (nI 0)) (nI 3) (T.1 17 + 1)
    rw [cFz, cFz_iff (g := upd (T.2 16) (T.1 17) (nI 0)) (h := T.2 16) _ fun i hi => by rw [upd_o (by omega)]]
    exact Nat.le_add_right _ _
  · show inR 30000 (upd (T.2 18) (T.1 17) (nI (tn b - tn a + 1) * T.2 13 (tn r)) q)
    by_cases e1 : q = T.1 17
    · rw [e1, upd_at]
      obtain ⟨m, h1, h2⟩ := x4.1 _ hrl
      rw [h2, pk_mul]
      refine ⟨_, ?_, rfl⟩
      exact Nat.le_trans (Nat.mul_le_mul (show tn b - tn a + 1 ≤ 300 by omega) h1) (Nat.le_refl _)
    · rw [upd_o e1]; exact x4.2.1 q (by have : q < T.1 17 + 1 := hq; omega)
  · show inR 300 (upd (T.2 17) (T.1 17) (nI (tn b - tn a + 1)) q)
    by_cases e1 : q = T.1 17
    · rw [e1, upd_at]; exact ⟨_, by omega, rfl⟩
    · rw [upd_o e1]; exact x4.2.2 q (by have : q < T.1 17 + 1 := hq; omega)
  · show inR 3 (upd (T.2 16) (T.1 17) (nI 0) q)
    by_cases e1 : q = T.1 17
    · rw [e1, upd_at]; exact ⟨0, by omega, rfl⟩
    · rw [upd_o e1]; exact x6 q (by have : q < T.1 17 + 1 := hq; omega)
theorem iv_finish {k : Nat} {S : sC} (hk : k < 512) (h : IV k S) (r u : Int32) : StepOK k S (wr (tFinish S r u) (rAt ((rvDone S r u).1 76) (rAt (S.1 62) r)) (rvDone S r u) S) := by
  obtain ⟨T, hR, hT⟩ := h
  obtain ⟨hI, e, -, hv, hR2⟩ := opK_finish_ok k S T r u hk hR
  have hV := hI.2.2.1
  have hf : mtFin T r u = 0 → tn r < T.1 17 ∧ T.2 16 (tn r) = 0 := fun h9 => by
    unfold mtFin at h9
    split at h9
    · rename_i h8
      obtain ⟨h7, h6⟩ := ix_n (by omega) h8
      split at h9
      · split at h9
        · rename_i h5; exact ⟨h6, h5⟩
        · cases h9
      · cases h9
    · cases h9
  have hs : mtFin T r u = 0 → inR (30000 * (k + 1)) (T.2 14 (tn (T.2 15 (tn r))) + T.2 18 (tn r)) := fun h9 => by
    obtain ⟨h1, h2⟩ := hf h9
    exact (inR_add (hT.2.2.2.2.1 _ (hI.2.2.2.2.2.2.2.2.2.2.2.2 _ h1).2) (hT.2.2.2.1.2.1 _ h1)).le (by omega)
  refine IV_wr e hR2 hT (fun h0 h9 => ?_) (fun h0 => by rw [← hv h0]; exact inR_99 (by omega) (hs (by rw [e, h0]; rfl)))
  obtain ⟨x1, x2, x3, x4, x5, x6⟩ := hT.le (Nat.le_succ k)
  obtain ⟨h1, h2⟩ := hf h9
  refine ⟨x1, fun w hw => ?_, x3, x4, fun q hq => ?_, fun q hq => ?_⟩
  · have e1 : cFz (upd (T.2 16) (tn r) (nI 1)) (nI 3) (T.1 17) = cFz (T.2 16) (nI 3) (T.1 17) := X2_iff fun i hi => by
      by_cases e1 : i = tn r
      · rw [e1, upd_at, h2]; decide
      · rw [upd_o e1]
    obtain ⟨m, h3, h4⟩ := x2 w hw
    exact ⟨m, by show m ≤ 300 * cFz (upd (T.2 16) (tn r) (nI 1)) (nI 3) (T.1 17); rw [e1]; exact h3, h4⟩
  · show inR (30000 * (k + 1)) (upd (T.2 14) (tn (T.2 15 (tn r))) (T.2 14 (tn (T.2 15 (tn r))) + T.2 18 (tn r)) q)
    by_cases e1 : q = tn (T.2 15 (tn r))
    · rw [e1, upd_at]; exact hs h9
    · rw [upd_o e1]; exact x5 q hq
  · show inR 3 (upd (T.2 16) (tn r) (nI 1) q)
    by_cases e1 : q = tn r
    · rw [e1, upd_at]; exact ⟨1, by omega, rfl⟩
    · rw [upd_o e1]; exact x6 q hq
theorem X1_thw {T : sM} (h : X1 T) (r : Int32) : ∀ n, n < T.1 1 → mThw (T.2 6) r (T.1 1) n = -1 ∨ T.2 5 n = 1 := fun n hn => by
  unfold mThw
  split
  · exact Or.inl rfl
  · exact h n hn
theorem iv_cancel {k : Nat} {S : sC} (hk : k < 512) (h : IV k S) (r : Int32) : StepOK k S (wr (tCancel S r) (nI (unfreeze (sSet S 68 (rSet (S.1 68) r 2)) r).1) (unfreeze (sSet S 68 (rSet (S.1 68) r 2)) r).2 S) := by
  obtain ⟨T, hR, hT⟩ := h
  obtain ⟨hI, e, -, hv, hR2⟩ := opK_cancel_ok k S T r hk hR
  have hV := hI.2.2.1
  have hf : mtCan T r = 0 → tn r < T.1 17 ∧ T.2 16 (tn r) = 0 := fun h9 => by
    unfold mtCan at h9
    split at h9
    · rename_i h8
      obtain ⟨h7, h6⟩ := ix_n (by omega) h8
      split at h9
      · rename_i h5; exact ⟨h6, h5⟩
      · cases h9
    · cases h9
  refine IV_wr e hR2 hT (fun h0 h9 => ?_) (fun h0 => by rw [← hv h0]; exact inR_99 (by omega) (hT.2.2.2.1.2.2 _ (hf (by rw [e, h0]; rfl)).1))
  obtain ⟨x1, x2, x3, x4, x5, x6⟩ := hT.le (Nat.le_succ k)
  obtain ⟨h1, h2⟩ := hf h9
  refine ⟨X1_thw x1 _, fun w hw => ?_, x3, x4, x5, fun q hq => ?_⟩
  · have e1 : cFz (upd (T.2 16) (tn r) (nI 2)) (nI 3) (T.1 17) = cFz (T.2 16) (nI 3) (T.1 17) := X2_iff fun i hi => by
      by_cases e1 : i = tn r
      · rw [e1, upd_at, h2]; decide
      · rw [upd_o e1]
    obtain ⟨m, h3, h4⟩ := x2 w hw
    exact ⟨m, by show m ≤ 300 * cFz (upd (T.2 16) (tn r) (nI 2)) (nI 3) (T.1 17); rw [e1]; exact h3, h4⟩
  · show inR 3 (upd (T.2 16) (tn r) (nI 2) q)
    by_cases e1 : q = tn r
    · rw [e1, upd_at]; exact ⟨2, by omega, rfl⟩
    · rw [upd_o e1]; exact x6 q hq
theorem iv_addIssue {k : Nat} {S : sC} (hk : k < 512) (h : IV k S) (d z : Int32) : StepOK k S (wr (tIssue S d z) (nI ((isAdd S d z).1 79).length - 1) (isAdd S d z) S) := by
  obtain ⟨T, hR, hT⟩ := h
  obtain ⟨hI, e, -, hv, hR2⟩ := opK_addIssue_ok k S T d z hk hR
  have hV := hI.2.2.2.1
  refine IV_wr e hR2 hT (fun h0 h9 => ?_) (fun h0 => by rw [← hv h0]; exact nI_99 (by omega))
  have h1 := hT.le (Nat.le_succ k)
  exact h1
theorem iv_comment {k : Nat} {S : sC} (hk : k < 512) (h : IV k S) (a b : Int32) : StepOK k S (wr (tComment S a b) (nI ((sComment S a b).1 86).length - 1) (sComment S a b) S) := by
  obtain ⟨T, hR, hT⟩ := h
  obtain ⟨hI, e, -, hv, hR2⟩ := opK_comment_ok k S T a b hk hR
  have hV := hI.2.2.2.2.1
  refine IV_wr e hR2 hT (fun h0 h9 => ?_) (fun h0 => by rw [← hv h0]; exact nI_99 (by omega))
  have h1 := hT.le (Nat.le_succ k)
  exact h1
theorem iv_keep {k : Nat} {S : sC} (hk : k < 512) (h : IV k S) : StepOK k S (wr (tKeep S) S.2.1 (sKeep S) S) := by
  obtain ⟨T, hR, hT⟩ := h
  obtain ⟨hI, e, -, hv, hR2⟩ := opK_keep_ok k S T hk hR
  have hV := hI.2.2.2.2.2.1
  refine IV_wr e hR2 hT (fun h0 h9 => ?_) (fun h0 => by rw [← hv h0]; exact nI_99 (by omega))
  have h1 := hT.le (Nat.le_succ k)
  exact h1
/-! pass -/
def QX (k : Nat) (T : sM) : Prop := T.1 1 ≤ 300 ∧ T.1 17 ≤ 30 ∧ T.1 25 ≤ 12 ∧ (∀ n, n < T.1 1 → tn (T.2 2 n) < 6) ∧ EX k T
theorem mRoy_R {T : sM} {r : Int32} (hw : ∀ n, n < T.1 1 → tn (T.2 2 n) < 6) {c : Nat} (h : ∀ w, w < 6 → inR5 c (T.2 12 w)) : ∀ n, n ≤ T.1 1 → ∀ w, w < 6 → inR5 (c + n) (mRoy T r n w) := by
  intro n
  induction n with
  | zero => intro _ w hw2; exact h w hw2
  | succ n ih =>
    intro hn w hw2
    have ih2 := ih (by omega)
    have up : ∀ w, w < 6 → inR5 (c + (n + 1)) (mRoy T r n w) := fun w h1 => by
      obtain ⟨m, h2, h3⟩ := ih2 w h1
      exact ⟨m, by omega, h3⟩
    rw [mRoy]
    by_cases e : w = tn (T.2 2 n)
    · rw [e, upd_at]
      obtain ⟨m, h2, h3⟩ := ih2 _ (hw n (by omega))
      rw [h3]
      split
      · exact ⟨m + 1, by omega, nI_add _ _⟩
      · rw [nI_add]; exact ⟨m, by omega, rfl⟩
    · rw [upd_o e]; exact up w hw2
theorem QX_PrN {k i r : Nat} {T : sM} (h : QX k T) (hr : r < T.1 17) (hs : T.2 16 r = 1) : QX k (mPrN T i r) := by
  obtain ⟨q1, q2, q3, q4, x1, x2, x3, x4, x5, x6⟩ := h
  refine ⟨q1, q2, q3, q4, X1_thw x1 _, fun w hw => ?_, x3, x4, x5, fun q hq => ?_⟩
  · obtain ⟨m, h1, h2⟩ := mRoy_R (r := nI r) q4 x2 (T.1 1) (Nat.le_refl _) w hw
    refine ⟨m, ?_, h2⟩
    show m ≤ 300 * cFz (upd (T.2 16) r (nI 3)) (nI 3) (T.1 17)
    rw [cFz_up (by rw [hs]; decide) _ hr, Nat.mul_add]
    omega
  · show inR 3 (upd (T.2 16) r (nI 3) q)
    by_cases e1 : q = r
    · rw [e1, upd_at]; exact ⟨3, by omega, rfl⟩
    · rw [upd_o e1]; exact x6 q hq
theorem QX_PrF {k i : Nat} : ∀ fu (T : sM) (c : Nat), QX k T → inR c (T.2 23 i) → QX k (mPrF i fu T) ∧ inR (c + 300 * fu) ((mPrF i fu T).2 23 i) := by
  intro fu
  induction fu with
  | zero => intro T c h h2; exact ⟨h, h2⟩
  | succ fu ih =>
    intro T c h h2
    have up : inR (c + 300 * (fu + 1)) (T.2 23 i) := h2.le (by omega)
    rw [mPrF]
    by_cases e1 : mWt T 0 = -1
    · rw [if_pos e1]; exact ⟨h, up⟩
    · rw [if_neg e1]
      have h3 : ∃ r, r < T.1 17 ∧ mWt T 0 = nI r ∧ T.2 16 r = nI 1 := (wtG_form _ _ _ _ _ _).resolve_left e1
      obtain ⟨r, hr, e2, hs⟩ := h3
      have hV := h.2.1
      rw [e2, tn_n (by omega)]
      split
      · obtain ⟨g1, g2⟩ := ih (mPrN T i r) (c + 300) (QX_PrN h hr hs) (by
          show inR (c + 300) (upd (T.2 23) i (T.2 23 i + T.2 17 r) i)
          rw [upd_at]
          exact inR_add h2 (h.2.2.2.2.2.2.2.1.2.2 r hr))
        exact ⟨g1, g2.le (by omega)⟩
      · exact ⟨h, up⟩
theorem QX_Pr {k i : Nat} {T : sM} (h : QX k T) : QX k (mPr T i) ∧ inR 9300 ((mPr T i).2 23 i) := by
  have h1 : QX k (sA T 23 (upd (T.2 23) i (nI 0))) := h
  have h2 := QX_PrF (i := i) 31 _ 0 h1 (by
    show inR 0 (upd (T.2 23) i (nI 0) i)
    rw [upd_at]; exact ⟨0, Nat.le_refl 0, rfl⟩)
  exact ⟨h2.1, h2.2.le (by omega)⟩
theorem QX_Is {k : Nat} {T : sM} {sm : Int32} {c : Nat} (h : QX k T) (hs : inR c sm) : ∀ n, QX k (mIs T sm n).1 ∧ inR (c + 9300 * n) (mIs T sm n).2 := by
  intro n
  induction n with
  | zero => exact ⟨h, hs⟩
  | succ n ih =>
    rw [mIs]
    split
    · exact ⟨(QX_Pr ih.1).1, (inR_add ih.2 (QX_Pr ih.1).2).le (by omega)⟩
    · exact ⟨ih.1, ih.2.le (by omega)⟩
theorem QX_Pas {k : Nat} {T : sM} (h : QX k T) : ∀ d, QX k (mPas T d).1 ∧ inR (111600 * d) (mPas T d).2 := by
  intro d
  induction d with
  | zero => exact ⟨h, 0, Nat.le_refl 0, rfl⟩
  | succ d ih =>
    rw [mPas]
    have h1 : QX k (sS (mPas T d).1 29 ((mPas T d).1.1 29 + 1)) := ih.1
    have h2 := QX_Is h1 ih.2 ((mPas T d).1.1 25)
    have h3 := ih.1.2.2.1
    exact ⟨h2.1, h2.2.le (by have := Nat.mul_le_mul_left 9300 h3; omega)⟩
theorem iv_pass {k : Nat} {S : sC} (hk : k < 512) (h : IV k S) (d : Int32) : StepOK k S (wr (tPass S d) (paD S d).1 (paD S d).2 S) := by
  obtain ⟨T, hR, hT⟩ := h
  obtain ⟨hI, e, -, hv, hR2⟩ := opK_pass_ok k S T d hk hR
  have hq : QX (k + 1) T := ⟨hI.1, hI.2.2.1, hI.2.2.2.1, fun n hn => (hI.2.2.2.2.2.2.2.2.2.1 n hn).2, hT.le (Nat.le_succ k)⟩
  refine IV_wr e hR2 hT (fun h0 h9 => (QX_Pas hq _).1.2.2.2.2) (fun h0 => ?_)
  rw [← hv h0]
  have h9 : mtPs T d = 0 := by rw [e, h0]; rfl
  have hd : tn d ≤ 100 := by
    unfold mtPs at h9
    split at h9
    · rename_i h8
      obtain ⟨j, hj, e2⟩ := inB_R (a := 1) (b := 100) (by decide) (by omega) h8
      rw [e2, tn_n (by omega)]; exact hj
    · cases h9
  exact inR_99 (b := 111600 * 100) (by omega) ((QX_Pas hq _).2.le (Nat.mul_le_mul_left _ hd))
