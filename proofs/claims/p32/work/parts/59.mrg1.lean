/-! merging: counts when one cell changes; rows with one word more -/
theorem cIn_upd {g : Nat → Int32} {x : Nat} (hg : ¬ g x = 1) : ∀ n, cIn (upd g x 1) n = cIn g n + if x < n then 1 else 0 := by
  intro n
  induction n with
  | zero => rw [if_neg (Nat.not_lt_zero _)]; rfl
  | succ n ih =>
    rw [cIn, cIn, ih]
    by_cases e : n = x
    · subst e
      rw [upd_at, if_pos rfl, if_neg (Nat.lt_irrefl _), if_neg hg, if_pos (Nat.lt_succ_self _)]
    · rw [upd_o e]
      by_cases e2 : x < n
      · rw [if_pos e2, if_pos (show x < n + 1 by omega)]; omega
      · rw [if_neg e2, if_neg (show ¬ x < n + 1 by omega)]; omega
theorem cIn_lt {g : Nat → Int32} {x : Nat} (hg : ¬ g x = 1) {n : Nat} (hx : x < n) : cIn g n < n := by
  have h1 := cIn_upd hg n
  rw [if_pos hx] at h1
  have h2 := cIn_le (upd g x 1) n
  omega
theorem cDl_come {g h : Nat → Int32} {x : Nat} (hg : ¬ g x = 1) : ∀ n, cDl (upd g x 1) (upd h x 1) n = cDl g h n := by
  intro n
  induction n with
  | zero => rfl
  | succ n ih =>
    rw [cDl, cDl, ih]
    by_cases e : n = x
    · subst e
      rw [upd_at, upd_at, if_neg (fun hh => absurd hh.2 (by decide)), if_neg (fun hh => hg hh.1)]
    · rw [upd_o e, upd_o e]
theorem cDl_take {g h : Nat → Int32} {x : Nat} (hg : g x = 1) (hh : ¬ h x = 0) : ∀ n, cDl g (upd h x 0) n = cDl g h n + if x < n then 1 else 0 := by
  intro n
  induction n with
  | zero => rw [if_neg (Nat.not_lt_zero _)]; rfl
  | succ n ih =>
    rw [cDl, cDl, ih]
    by_cases e : n = x
    · subst e
      rw [upd_at, if_pos (show g n = 1 ∧ (0 : Int32) = 0 from ⟨hg, rfl⟩), if_neg (Nat.lt_irrefl _), if_neg (show ¬ (g n = 1 ∧ h n = 0) from fun h9 => hh h9.2), if_pos (Nat.lt_succ_self _)]
    · rw [upd_o e]
      generalize (if g n = 1 ∧ h n = 0 then 1 else 0) = zz
      by_cases e2 : x < n
      · rw [if_pos e2, if_pos (show x < n + 1 by omega)]; omega
      · rw [if_neg e2, if_neg (show ¬ x < n + 1 by omega)]; omega
theorem shG_come {g2 g5 : Nat → Int32} {x : Nat} (hx : g5 x = 0) (v : Int32) : ∀ n, shG g2 (upd g5 x 1) v n = shG g2 g5 v n + if x < n ∧ g2 x = v then 1 else 0 := by
  intro n
  induction n with
  | zero => rw [if_neg (fun hh => Nat.not_lt_zero _ hh.1)]; rfl
  | succ n ih =>
    rw [shG, shG, ih]
    by_cases e : n = x
    · subst e
      rw [upd_at, if_neg (fun hh => Nat.lt_irrefl _ hh.1), if_neg (show ¬ (¬ g5 n = 0 ∧ g2 n = v) from fun hh => hh.1 hx)]
      by_cases e2 : g2 n = v
      · rw [if_pos (show ¬ (1 : Int32) = 0 ∧ g2 n = v from ⟨by decide, e2⟩), if_pos (show n < n + 1 ∧ g2 n = v from ⟨Nat.lt_succ_self _, e2⟩)]
      · rw [if_neg (show ¬ (¬ (1 : Int32) = 0 ∧ g2 n = v) from fun hh => e2 hh.2), if_neg (show ¬ (n < n + 1 ∧ g2 n = v) from fun hh => e2 hh.2)]
    · rw [upd_o e]
      generalize (if ¬ g5 n = 0 ∧ g2 n = v then 1 else 0) = zz
      by_cases e2 : x < n ∧ g2 x = v
      · rw [if_pos e2, if_pos (show x < n + 1 ∧ g2 x = v from ⟨by omega, e2.2⟩)]; omega
      · rw [if_neg e2, if_neg (show ¬ (x < n + 1 ∧ g2 x = v) from fun hh => e2 ⟨by omega, hh.2⟩)]; omega
theorem shG_take {g2 g5 : Nat → Int32} {x : Nat} (hx : ¬ g5 x = 0) (v : Int32) : ∀ n, shG g2 (upd g5 x 0) v n + (if x < n ∧ g2 x = v then 1 else 0) = shG g2 g5 v n := by
  intro n
  induction n with
  | zero => rw [if_neg (fun hh => Nat.not_lt_zero _ hh.1)]; rfl
  | succ n ih =>
    rw [shG, shG, ← ih]
    by_cases e : n = x
    · subst e
      rw [upd_at, if_neg (show ¬ (n < n ∧ g2 n = v) from fun hh => Nat.lt_irrefl _ hh.1), if_neg (show ¬ (¬ (0 : Int32) = 0 ∧ g2 n = v) from fun hh => hh.1 rfl)]
      by_cases e2 : g2 n = v
      · rw [if_pos (show n < n + 1 ∧ g2 n = v from ⟨Nat.lt_succ_self _, e2⟩), if_pos (show ¬ g5 n = 0 ∧ g2 n = v from ⟨hx, e2⟩)]
      · rw [if_neg (show ¬ (n < n + 1 ∧ g2 n = v) from fun hh => e2 hh.2), if_neg (show ¬ (¬ g5 n = 0 ∧ g2 n = v) from fun hh => e2 hh.2)]
    · rw [upd_o e]
      generalize (if ¬ g5 n = 0 ∧ g2 n = v then 1 else 0) = zz
      by_cases e2 : x < n ∧ g2 x = v
      · rw [if_pos e2, if_pos (show x < n + 1 ∧ g2 x = v from ⟨by omega, e2.2⟩)]; omega
      · rw [if_neg e2, if_neg (show ¬ (x < n + 1 ∧ g2 x = v) from fun hh => e2 ⟨by omega, hh.2⟩)]; omega
/-- a row with one word more -/
theorem insR_at {R : Nat → Int32} {p L : Nat} {x : Int32} (i : Nat) : upd (shf R p L) p x i = if i = p then x else if p < i ∧ i ≤ L then R (i - 1) else R i := by
  by_cases e : i = p
  · subst e; rw [upd_at, if_pos rfl]
  · rw [upd_o e, if_neg e, shf]
theorem insR_dn {R : Nat → Int32} {p L : Nat} {x : Int32} {i : Nat} (h : i < p) : upd (shf R p L) p x i = R i := by
  rw [insR_at, if_neg (by omega), if_neg (by omega)]
theorem insR_up {R : Nat → Int32} {p L : Nat} {x : Int32} {i : Nat} (h : p ≤ i) (h2 : i < L) : upd (shf R p L) p x (i + 1) = R i := by
  rw [insR_at, if_neg (by omega), if_pos (by omega), Nat.add_sub_cancel]
theorem insR_cases {R : Nat → Int32} {p L : Nat} {x : Int32} {i : Nat} (hp : p ≤ L) (h : i < L + 1) : (i = p ∧ upd (shf R p L) p x i = x) ∨ ∃ q, q < L ∧ ((q < p ∧ i = q) ∨ (p ≤ q ∧ i = q + 1)) ∧ upd (shf R p L) p x i = R q := by
  by_cases e : i = p
  · exact Or.inl ⟨e, by rw [insR_at, if_pos e]⟩
  · by_cases e2 : i < p
    · exact Or.inr ⟨i, by omega, Or.inl ⟨e2, rfl⟩, insR_dn e2⟩
    · refine Or.inr ⟨i - 1, by omega, Or.inr ⟨by omega, by omega⟩, ?_⟩
      obtain ⟨j, rfl⟩ : ∃ j, i = j + 1 := ⟨i - 1, by omega⟩
      rw [Nat.add_sub_cancel]
      exact insR_up (by omega) (by omega)
theorem rwB_ins {g2 g5 R : Nat → Int32} {x v : Int32} {p L : Nat} : ∀ k, p ≤ k → k ≤ L → rwB g2 g5 (upd (shf R p L) p x) v (k + 1) = rwB g2 g5 R v k + if ¬ g5 (tn x) = 0 ∧ g2 (tn x) = v then 1 else 0 := by
  have base : ∀ k, k ≤ p → rwB g2 g5 (upd (shf R p L) p x) v k = rwB g2 g5 R v k := by
    intro k
    induction k with
    | zero => intro _; rfl
    | succ k ih => intro h; rw [rwB, rwB, ih (by omega), insR_dn (by omega)]
  intro k
  induction k with
  | zero =>
    intro h1 h2
    obtain rfl : p = 0 := by omega
    show rwB g2 g5 (upd (shf R 0 L) 0 x) v 0 + (if ¬ g5 (tn (upd (shf R 0 L) 0 x 0)) = 0 ∧ g2 (tn (upd (shf R 0 L) 0 x 0)) = v then 1 else 0) = _
    rw [base 0 (Nat.le_refl _), upd_at]
  | succ k ih =>
    intro h1 h2
    by_cases e : p = k + 1
    · subst e
      rw [rwB, base _ (Nat.le_refl _), upd_at]
    · rw [rwB, ih (by omega) (by omega), insR_up (by omega) (by omega), rwB]
      omega
theorem rwB_take {g2 g5 R : Nat → Int32} {v : Int32} {x i0 L : Nat} (h0 : tn (R i0) = x) (hu : ∀ i, i < L → tn (R i) = x → i = i0) (hx : ¬ g5 x = 0) : ∀ k, k ≤ L → rwB g2 (upd g5 x 0) R v k + (if i0 < k ∧ g2 x = v then 1 else 0) = rwB g2 g5 R v k := by
  intro k
  induction k with
  | zero => intro _; rw [if_neg (fun hh => Nat.not_lt_zero _ hh.1)]; rfl
  | succ k ih =>
    intro hk
    rw [rwB, rwB, ← ih (by omega)]
    by_cases e : k = i0
    · subst e
      rw [h0, upd_at, if_neg (show ¬ (k < k ∧ g2 x = v) from fun hh => Nat.lt_irrefl _ hh.1), if_neg (show ¬ (¬ (0 : Int32) = 0 ∧ g2 x = v) from fun hh => hh.1 rfl)]
      by_cases e2 : g2 x = v
      · rw [if_pos (show k < k + 1 ∧ g2 x = v from ⟨Nat.lt_succ_self _, e2⟩), if_pos (show ¬ g5 x = 0 ∧ g2 x = v from ⟨hx, e2⟩)]
      · rw [if_neg (show ¬ (k < k + 1 ∧ g2 x = v) from fun hh => e2 hh.2), if_neg (show ¬ (¬ g5 x = 0 ∧ g2 x = v) from fun hh => e2 hh.2)]
    · have hne : tn (R k) ≠ x := fun h9 => e (hu k (by omega) h9)
      rw [upd_o hne]
      generalize (if ¬ g5 (tn (R k)) = 0 ∧ g2 (tn (R k)) = v then 1 else 0) = zz
      by_cases e2 : i0 < k ∧ g2 x = v
      · rw [if_pos e2, if_pos (show i0 < k + 1 ∧ g2 x = v from ⟨by omega, e2.2⟩)]; omega
      · rw [if_neg e2, if_neg (show ¬ (i0 < k + 1 ∧ g2 x = v) from fun hh => e2 ⟨by omega, hh.2⟩)]; omega
theorem hsm_app (wr : Nat → Int32) (w c : Int32) : ∀ x, hsm wr w (x ++ [c]) = hsm wr w x + if c < 300 then (if wr (tn c) = w then 1 else 0) else (if wr (tn (c - 300)) = w then -1 else 0) := by
  intro x
  induction x with
  | nil => rfl
  | cons d x ih =>
    show hsm wr w (x ++ [c]) + _ = hsm wr w x + _ + _
    rw [ih, Int32.add_assoc, Int32.add_assoc]
    congr 1
    exact Int32.add_comm _ _
