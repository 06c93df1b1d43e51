/-! the relation kept: type -/
theorem cIn_co {g h : Nat → Int32} : ∀ n, (∀ i, i < n → g i = h i) → cIn g n = cIn h n := by
  intro n
  induction n with
  | zero => intro _; rfl
  | succ n ih => intro e; rw [cIn, cIn, ih fun i hi => e i (by omega), e n (by omega)]
theorem cDl_co {g h g5 h5 : Nat → Int32} : ∀ n, (∀ i, i < n → g i = h i) → (∀ i, i < n → g5 i = h5 i) → cDl g g5 n = cDl h h5 n := by
  intro n
  induction n with
  | zero => intro _ _; rfl
  | succ n ih => intro e e5; rw [cDl, cDl, ih (fun i hi => e i (by omega)) (fun i hi => e5 i (by omega)), e n (by omega), e5 n (by omega)]
theorem cFz_co {g h : Nat → Int32} {r : Int32} : ∀ n, (∀ i, i < n → g i = h i) → cFz g r n = cFz h r n := by
  intro n
  induction n with
  | zero => intro _; rfl
  | succ n ih => intro e; rw [cFz, cFz, ih fun i hi => e i (by omega), e n (by omega)]
theorem shG_co {g h g5 h5 : Nat → Int32} {w : Int32} : ∀ n, (∀ i, i < n → g i = h i) → (∀ i, i < n → g5 i = h5 i) → shG g g5 w n = shG h h5 w n := by
  intro n
  induction n with
  | zero => intro _ _; rfl
  | succ n ih => intro e e5; rw [shG, shG, ih (fun i hi => e i (by omega)) (fun i hi => e5 i (by omega)), e n (by omega), e5 n (by omega)]
theorem hsm_co {g h : Nat → Int32} {w : Int32} {W : Nat} (hW : W ≤ 300) (e : ∀ i, i < W → g i = h i) : ∀ (x : List Int32), (∀ c ∈ x, ∃ n, n < W ∧ (c = nI n ∨ c = nI (300 + n))) → hsm g w x = hsm h w x := by
  intro x
  induction x with
  | nil => intro _; rfl
  | cons c x ih =>
    intro hc
    rw [hsm, hsm, ih fun c' h' => hc c' (List.mem_cons_of_mem _ h')]
    obtain ⟨n, hn, hcn⟩ := hc c List.mem_cons_self
    rcases hcn with hcn | hcn
    · have h3 : c < 300 := by rw [hcn]; exact (nI_ltI (b := 300) (by omega) (by decide)).mpr (by omega)
      rw [if_pos h3, if_pos h3, hcn, tn_n (by omega), e n hn]
    · have h3 : ¬ c < 300 := by rw [hcn]; exact fun h => absurd ((nI_ltI (b := 300) (by omega) (by decide)).mp h) (by omega)
      have h6 : c - 300 = nI n := by
        rw [hcn, show (300 : Int32) = nI 300 from rfl, pk_sub (by omega), show 300 + n - 300 = n by omega]
      rw [if_neg h3, if_neg h3, h6, tn_n (by omega), e n hn]
theorem rwB_co {g h g5 h5 g7 h7 : Nat → Int32} {w : Int32} : ∀ n, (∀ i, i < n → g7 i = h7 i) → (∀ i, i < n → g (tn (h7 i)) = h (tn (h7 i))) → (∀ i, i < n → g5 (tn (h7 i)) = h5 (tn (h7 i))) → rwB g g5 g7 w n = rwB h h5 h7 w n := by
  intro n
  induction n with
  | zero => intro _ _ _; rfl
  | succ n ih => intro e7 e e5; rw [rwB, rwB, ih (fun i hi => e7 i (by omega)) (fun i hi => e i (by omega)) (fun i hi => e5 i (by omega)), e7 n (by omega), e n (by omega), e5 n (by omega)]
