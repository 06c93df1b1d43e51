/-! the relation kept: type -/
theorem cIn_co {g h : Nat → Int32} : ∀ n, (∀ i, i < n → g i = h i) → cIn g n = cIn h n := by
  intro n
  induction n with
  | zero => intro _; rfl
  | succ n ih => intro e; rw [cIn, cIn, ih fun i hi => e i (by omega), e n (by omega)]
theorem cDl_co {g h g5 h5 : Nat → Int32} : ∀ n, (∀ i, i < n → g i = h i) → (∀ i, i < n → g5 i = h5 i) → cDl g g5 n = cDl h h5 n := by
  intro n
  induction n with
  | zero => intro _ _; rfl
  | succ n ih => intro e e5; rw [cDl, cDl, ih (fun i hi => e i (by omega)) (fun i hi => e5 i (by omega)), e n (by omega), e5 n (by omega)]
theorem cFz_co {g h : Nat → Int32} {r : Int32} : ∀ n, (∀ i, i < n → g i = h i) → cFz g r n = cFz h r n := by
  intro n
  induction n with
  | zero => intro _; rfl
  | succ n ih => intro e; rw [cFz, cFz, ih fun i hi => e i (by omega), e n (by omega)]
theorem shG_co {g h g5 h5 : Nat → Int32} {w : Int32} : ∀ n, (∀ i, i < n → g i = h i) → (∀ i, i < n → g5 i = h5 i) → shG g g5 w n = shG h h5 w n := by
  intro n
  induction n with
  | zero => intro _ _; rfl
  | succ n ih => intro e e5; rw [shG, shG, ih (fun i hi => e i (by omega)) (fun i hi => e5 i (by omega)), e n (by omega), e5 n (by omega)]
theorem hsm_co {g h : Nat → Int32} {w : Int32} {W : Nat} (hW : W ≤ 300) (e : ∀ i, i < W → g i = h i) : ∀ (x : List Int32), (∀ c ∈ x, ∃ n, n < W ∧ (c = nI n ∨ c = nI (300 + n))) → hsm g w x = hsm h w x := by
  intro x
  induction x with
  | nil => intro _; rfl
  | cons c x ih =>
    intro hc
    rw [hsm, hsm, ih fun c' h' => hc c' (List.mem_cons_of_mem _ h')]
    obtain ⟨n, hn, hcn⟩ := hc c List.mem_cons_self
    rcases hcn with hcn | hcn
    · have h3 : c < 300 := by rw [hcn]; exact (nI_ltI (b := 300) (by omega) (by decide)).mpr (by omega)
      rw [if_pos h3, if_pos h3, hcn, tn_n (by omega), e n hn]
    · have h3 : ¬ c < 300 := by rw [hcn]; exact fun h => absurd ((nI_ltI (b := 300) (by omega) (by decide)).mp h) (by omega)
      have h6 : c - 300 = nI n := by
        rw [hcn, show (300 : Int32) = nI 300 from rfl, pk_sub (by omega), show 300 + n - 300 = n by omega]
      rw [if_neg h3, if_neg h3, h6, tn_n (by omega), e n hn]
theorem rwB_co {g h g5 h5 g7 h7 : Nat → Int32} {w : Int32} : ∀ n, (∀ i, i < n → g7 i = h7 i) → (∀ i, i < n → g (tn (h7 i)) = h (tn (h7 i))) → (∀ i, i < n → g5 (tn (h7 i)) = h5 (tn (h7 i))) → rwB g g5 g7 w n = rwB h h5 h7 w n := by
  intro n
  induction n with
  | zero => intro _ _ _; rfl
  | succ n ih => intro e7 e e5; rw [rwB, rwB, ih (fun i hi => e7 i (by omega)) (fun i hi => e i (by omega)) (fun i hi => e5 i (by omega)), e7 n (by omega), e n (by omega), e5 n (by omega)]
theorem bits_z {g : Nat → Int32} {n : Nat} : ∀ V, (∀ v, v < V → g (300 * v + n) = 0) → bits g n V = 0 := by
  intro V
  induction V with
  | zero => intro _; rfl
  | succ V ih => intro h; rw [bits, if_pos (h V (by omega))]; exact ih fun v hv => h v (by omega)
theorem capW : cap 3 = 300 ∧ cap 5 = 300 ∧ cap 7 = 300 ∧ cap 9 = 300 ∧ cap 11 = 300 ∧ cap 13 = 300 := by decide +kernel
theorem ty_cd {k : Nat} {S : sC} {T : sM} (h : Rl k S T) (w p x : Int32) : mtType T w p x = cd [1, 2, 3] (tType S w p x) := by
  have hI := h.1.1
  have hW := hI.1
  have h3 : (S.1 3).length = T.1 1 := by rw [h.2.1.1, tab_len]
  have e2 : ((300 : Int32) ≤ nI (S.1 3).length) ↔ T.1 1 = 300 := by
    rw [h3, show (300 : Int32) = nI 300 from rfl, nI_leI (by decide) (by omega)]; omega
  rw [mtType, tType, ixW]
  by_cases h1 : inB w 0 5 = true
  · rw [if_pos h1, tor_0]
    have hl : tn w < 6 := by have := inB_n (b := 5) (by decide) h1; omega
    have hc := hI.2.2.2.2.2.2.2.2.2.2.1 _ hl
    rw [pW1, (h.2.2.2.1 _ hl).1, tab_len, nI_1, ix_in (by omega), nI_pred, ← hc.1, rg_in]
    by_cases h2 : inB p 0 (T.2 8 (tn w)) = true
    · rw [if_pos h2, tor_0, if_pos ⟨h1, h2⟩]
      by_cases h4 : inB x 0 999 = true
      · rw [if_pos h4, if_pos h4, tor_0]
        by_cases h5 : T.1 1 = 300
        · rw [if_pos h5, decide_eq_true (e2.mpr h5)]; rfl
        · rw [if_neg h5, decide_eq_false (fun hh => h5 (e2.mp hh))]; rfl
      · rw [if_neg h4, if_neg h4]; rfl
    · rw [if_neg h2, if_neg (fun hh => h2 hh.2)]; rfl
  · rw [if_neg h1, if_neg (fun hh => h1 hh.1)]; rfl
theorem ty_0 {k : Nat} {S : sC} {T : sM} (h : Rl k S T) {w p x : Int32} (h0 : mtType T w p x = 0) : w = nI (tn w) ∧ tn w < 6 ∧ p = nI (tn p) ∧ tn p ≤ tn (T.2 8 (tn w)) ∧ T.1 1 < 300 := by
  have hI := h.1.1
  have hW := hI.1
  rw [mtType] at h0
  split at h0
  · rename_i h1
    split at h0
    · split at h0
      · cases h0
      · rename_i h4
        obtain ⟨a1, a2⟩ := inB_n (b := 5) (by decide) h1.1
        have hc := hI.2.2.2.2.2.2.2.2.2.2.1 _ (show tn w < 6 by omega)
        have h2 := h1.2
        rw [hc.1] at h2
        obtain ⟨a3, a4⟩ := inB_n (b := tn (T.2 8 (tn w))) (by omega) h2
        exact ⟨a1, by omega, a3, a4, by omega⟩
    · cases h0
  · cases h0
