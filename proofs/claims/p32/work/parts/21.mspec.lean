/-! what the reference's methods do, as functions of its state -/
/-- the bounds that its indices rest on -/
def IM (S : sM) : Prop :=
  S.1 1 ≤ 300 ∧ S.1 8 ≤ 300 ∧ S.1 17 ≤ 30 ∧ S.1 25 ≤ 12 ∧ S.1 30 ≤ 40 ∧ S.1 33 ≤ 20 ∧ S.1 29 ≤ 1000 ∧
  (∀ k, k < S.1 8 → S.2 7 k = nI (tn (S.2 7 k)) ∧ tn (S.2 7 k) < S.1 1) ∧
  (∀ n, n < S.1 1 → S.2 3 n = -1 ∨ (S.2 3 n = nI (tn (S.2 3 n)) ∧ tn (S.2 3 n) < n)) ∧
  (∀ n, n < S.1 1 → S.2 2 n = nI (tn (S.2 2 n)) ∧ tn (S.2 2 n) < 6) ∧
  (∀ w, w < 6 → S.2 8 w = nI (tn (S.2 8 w)) ∧ tn (S.2 8 w) ≤ S.1 1) ∧
  (∀ w, w < 6 → S.2 10 w = nI (tn (S.2 10 w)) ∧ tn (S.2 10 w) < 700) ∧
  (∀ r, r < S.1 17 → S.2 15 r = nI (tn (S.2 15 r)) ∧ tn (S.2 15 r) < 4)
def mNearL (S : sM) : Nat → Int32
  | 0 => -1
  | k + 1 => if S.2 5 (tn (S.2 7 k)) = 0 then mNearL S k else S.2 7 k
def mNearR (S : sM) : Nat → Nat → Int32
  | 0, _ => -1
  | fu + 1, k => if k < S.1 8 then (if S.2 5 (tn (S.2 7 k)) = 0 then mNearR S fu (k + 1) else S.2 7 k) else -1
def ixF (rw : Nat → Int32) (n : Int32) : Nat → Int32
  | 0 => -1
  | k + 1 => if rw k = n then nI k else ixF rw n k
abbrev mIdxF (S : sM) (n : Int32) (k : Nat) : Int32 := ixF (S.2 7) n k
def mIdx (S : sM) (n : Int32) : Int32 := ixF (S.2 7) n (S.1 8)
/-- 1 more than where n is last in the row, 0 if it isn't there -/
def mPos (S : sM) (n : Int32) : Nat := tn (mIdx S n + 1)
def mAncF (S : sM) : Nat → Int32 → Int32
  | 0, a => a
  | fu + 1, a => if a = -1 then a else if S.2 4 (tn a) = 0 then mAncF S fu (S.2 3 (tn a)) else a
def mAnc (S : sM) (n : Nat) : Int32 := mAncF S 301 (S.2 3 n)
def mAt (S : sM) (n : Nat) : Nat := if mAnc S n = -1 then 0 else mPos S (mAnc S n)
def mRef (S : sM) (k : Nat) : Bool := !decide (mNearL S k = -1) && (!decide (mNearR S 301 k = -1) && (!decide (S.2 6 (tn (mNearL S k)) = -1) && decide (S.2 6 (tn (mNearL S k)) = S.2 6 (tn (mNearR S 301 k)))))
def shf (g : Nat → Int32) (a b : Nat) : Nat → Int32 := fun j => if a < j ∧ j ≤ b then g (j - 1) else g j
def b1 : Int32 := vp_nar .boolean (nI 1)
def mComeS (S : sM) (n : Nat) : sM := sA (sA (sS (sA S 7 (upd (shf (S.2 7) (mAt S n) (S.1 8)) (mAt S n) (nI n))) 8 (S.1 8 + 1)) 4 (upd (S.2 4) n b1)) 5 (upd (S.2 5) n b1)
def mTakeS (S : sM) (n : Nat) : sM := sA S 5 (upd (S.2 5) n (vp_nar .boolean (if S.2 6 n = -1 then nI 0 else nI 1)))
def txG (R : Nat) (th rw : Nat → Int32) : Nat → Nat → Nat → Int32
  | 0, _, _ => -1
  | fu + 1, k, lf => if k < R then (if th (tn (rw k)) = 0 then txG R th rw fu (k + 1) lf else if lf = 0 then rw k else txG R th rw fu (k + 1) (lf - 1)) else -1
abbrev txF (S : sM) (fu k lf : Nat) : Int32 := txG (S.1 8) (S.2 5) (S.2 7) fu k lf
def mTxt (S : sM) (x : Int32) : Int32 := if x < 0 then -1 else txF S (S.1 8 + 1) 0 (tn x)
def cntG (th rw : Nat → Int32) : Nat → Nat
  | 0 => 0
  | k + 1 => if th (tn (rw k)) = 0 then cntG th rw k else cntG th rw k + 1
abbrev mCnt (S : sM) (k : Nat) : Nat := cntG (S.2 5) (S.2 7) k
def mThw (g : Nat → Int32) (r : Int32) (b : Nat) : Nat → Int32 := fun n => if n < b ∧ g n = r then -1 else g n
def mThaw (S : sM) (r : Int32) : sM := sA S 6 (mThw (S.2 6) r (S.1 1))
def mShr (S : sM) (w : Int32) : Nat → Nat
  | 0 => 0
  | k + 1 => if S.2 5 k = 0 then mShr S w k else if S.2 2 k = w then mShr S w k + 1 else mShr S w k
def ahdG (ug fa : Nat → Int32) (i j : Nat) : Bool := if ug i = ug j then decide (fa i < fa j) else decide (ug j < ug i)
def ahcG (sts ug fa : Nat → Int32) (i : Nat) : Nat → Nat
  | 0 => 0
  | k + 1 => if sts k = nI 1 then (if ahdG ug fa k i = true then ahcG sts ug fa i k + 1 else ahcG sts ug fa i k) else ahcG sts ug fa i k
def wtG (V : Nat) (sts ug fa : Nat → Int32) (x : Int32) : Nat → Int32
  | 0 => -1
  | k + 1 => if sts k = nI 1 then (if nI (ahcG sts ug fa k V) = x then nI k else wtG V sts ug fa x k) else wtG V sts ug fa x k
def mWt (S : sM) (x : Int32) : Int32 := wtG (S.1 17) (S.2 16) (S.2 19) (S.2 20) x (S.1 17)
theorem wtG_form (V : Nat) (sts ug fa : Nat → Int32) (x : Int32) : ∀ k, wtG V sts ug fa x k = -1 ∨ ∃ i, i < k ∧ wtG V sts ug fa x k = nI i ∧ sts i = nI 1 := by
  intro k
  induction k with
  | zero => exact Or.inl rfl
  | succ k ih =>
    rw [wtG]
    have ih2 : wtG V sts ug fa x k = -1 ∨ ∃ i, i < k + 1 ∧ wtG V sts ug fa x k = nI i ∧ sts i = nI 1 := ih.imp id fun ⟨i, h1, h2⟩ => ⟨i, by omega, h2⟩
    split
    · rename_i h
      split
      · exact Or.inr ⟨k, by omega, rfl, h⟩
      · exact ih2
    · exact ih2
/-- a change into a writer's row of changes -/
def mChg (S : sM) (w : Nat) (x : Int32) : sM := sA (sA S 11 (upd (S.2 11) (700 * w + tn (S.2 10 w)) x)) 10 (upd (S.2 10) w (nI (tn (S.2 10 w) + 1)))
def mtType (S : sM) (w p x : Int32) : Nat := if inB w 0 5 = true ∧ inB p 0 (S.2 8 (tn w)) = true then (if inB x 0 999 = true then (if S.1 1 = 300 then 3 else 0) else 2) else 1
/-- a word into a copy: what lies behind place p goes one on -/
def mIns (g : Nat → Int32) (b p n : Nat) (v : Int32) : Nat → Int32 := upd (shf g (b + p) (b + n)) (b + p) v
def msType (S : sM) (w p : Nat) (x : Int32) : sM :=
  mChg (sS (sA (sA (sA (sA (sA (sA (sS S 0 0) 1 (upd (S.2 1) (S.1 1) x)) 2 (upd (S.2 2) (S.1 1) (nI w))) 6 (upd (S.2 6) (S.1 1) (-1))) 3 (upd (S.2 3) (S.1 1) (if p = 0 then -1 else S.2 9 (300 * w + p - 1)))) 9 (mIns (S.2 9) (300 * w) p (tn (S.2 8 w)) (nI (S.1 1)))) 8 (upd (S.2 8) w (nI (tn (S.2 8 w) + 1)))) 1 (S.1 1 + 1)) w (nI (S.1 1 + 1))
def mtCp (S : sM) (w p : Int32) : Nat := if inB w 0 5 = true ∧ inB p 0 (S.2 8 (tn w) - nI 1) = true then 0 else 1
def mtW (w : Int32) : Nat := if inB w 0 5 = true then 0 else 1
/-- out of a copy: what lies behind place p goes one back -/
def shb (g : Nat → Int32) (a b : Nat) : Nat → Int32 := fun j => if a ≤ j ∧ j < b then g (j + 1) else g j
def msDel (S : sM) (w p : Nat) : sM :=
  mChg (sA (sA (sS S 0 0) 8 (upd (S.2 8) w (nI (tn (S.2 8 w) - 1)))) 9 (shb (S.2 9) (300 * w + p) (300 * w + (tn (S.2 8 w) - 1)))) w (-(S.2 9 (300 * w + p)) - nI 1)
theorem shf_id (g : Nat → Int32) (a : Nat) : shf g a a = g := funext fun j => by rw [shf, if_neg (by omega)]
theorem shf_dn {g : Nat → Int32} {a c : Nat} (h : 1 ≤ a) (h2 : a ≤ c) : upd (shf g a c) a (shf g a c (a - 1)) = shf g (a - 1) c := funext fun j => by
  unfold upd shf
  by_cases e : j = a
  · subst e
    rw [if_pos rfl, if_neg (by omega), if_pos (by omega)]
  · rw [if_neg e]
    by_cases e2 : a < j ∧ j ≤ c
    · rw [if_pos e2, if_pos (by omega)]
    · rw [if_neg e2, if_neg (by omega)]
theorem shb_id (g : Nat → Int32) (a : Nat) : shb g a a = g := funext fun j => by rw [shb, if_neg (by omega)]
theorem shb_up {g : Nat → Int32} {a k : Nat} (h : a ≤ k) : upd (shb g a k) k (shb g a k (k + 1)) = shb g a (k + 1) := funext fun j => by
  unfold upd shb
  by_cases e : j = k
  · subst e
    rw [if_pos rfl, if_neg (by omega), if_pos (by omega)]
  · rw [if_neg e]
    by_cases e2 : a ≤ j ∧ j < k
    · rw [if_pos e2, if_pos (by omega)]
    · rw [if_neg e2, if_neg (by omega)]
theorem sA_id {S : sM} {i : Nat} : sA S i (S.2 i) = S := by
  obtain ⟨a, b⟩ := S
  simp only [sA]
  congr 1
  funext k
  by_cases e : k = i <;> simp [e]
theorem mIdxF_s (S : sM) (n : Int32) (k : Nat) : mIdxF S n (k + 1) = if S.2 7 k = n then nI k else mIdxF S n k := rfl
theorem mCnt_s (S : sM) (k : Nat) : mCnt S (k + 1) = if S.2 5 (tn (S.2 7 k)) = 0 then mCnt S k else mCnt S k + 1 := rfl
theorem txF_s (S : sM) (fu k lf : Nat) : txF S (fu + 1) k lf = if k < S.1 8 then (if S.2 5 (tn (S.2 7 k)) = 0 then txF S fu (k + 1) lf else if lf = 0 then S.2 7 k else txF S fu (k + 1) (lf - 1)) else -1 := rfl
theorem mIdxF_form (S : sM) (n : Int32) : ∀ k, mIdxF S n k = -1 ∨ ∃ i, i < k ∧ mIdxF S n k = nI i := by
  intro k
  induction k with
  | zero => exact Or.inl rfl
  | succ k ih =>
    rw [mIdxF, ixF]
    by_cases h : S.2 7 k = n
    · rw [if_pos h]; exact Or.inr ⟨k, Nat.lt_succ_self k, rfl⟩
    · rw [if_neg h]
      rcases ih with h1 | ⟨i, h1, h2⟩
      · exact Or.inl h1
      · exact Or.inr ⟨i, Nat.lt_succ_of_lt h1, h2⟩
theorem mPos_spec {S : sM} (n : Int32) (h : S.1 8 < 2 ^ 30) : mIdx S n = nI (mPos S n) - 1 ∧ mPos S n ≤ S.1 8 := by
  rcases mIdxF_form S n (S.1 8) with h1 | ⟨k, h1, h2⟩
  · replace h1 : mIdx S n = -1 := h1
    have : mPos S n = 0 := by rw [mPos, h1]; rfl
    rw [this]
    exact ⟨h1, Nat.zero_le _⟩
  · replace h2 : mIdx S n = nI k := h2
    have e : mPos S n = k + 1 := by rw [mPos, h2, nI_1, tn_n (by omega)]
    rw [e]
    exact ⟨by rw [h2, nI_pred], by omega⟩
theorem mPos_1 {S : sM} (n : Int32) (h : S.1 8 < 2 ^ 30) : mIdx S n + 1 = nI (mPos S n) := by
  rw [(mPos_spec n h).1]; simp
theorem mAt_le {S : sM} (n : Nat) (h : S.1 8 < 2 ^ 30) : mAt S n ≤ S.1 8 := by
  rw [mAt]
  split
  · exact Nat.zero_le _
  · exact (mPos_spec _ h).2
theorem mNearL_in {S : sM} : ∀ k, mNearL S k = -1 ∨ ∃ i, i < k ∧ mNearL S k = S.2 7 i := by
  intro k
  induction k with
  | zero => exact Or.inl rfl
  | succ k ih =>
    rw [mNearL]
    split
    · rcases ih with h | ⟨i, h1, h2⟩
      · exact Or.inl h
      · exact Or.inr ⟨i, by omega, h2⟩
    · exact Or.inr ⟨k, by omega, rfl⟩
theorem mNearR_in {S : sM} : ∀ fu k, mNearR S fu k = -1 ∨ ∃ i, i < S.1 8 ∧ mNearR S fu k = S.2 7 i := by
  intro fu
  induction fu with
  | zero => intro k; exact Or.inl rfl
  | succ fu ih =>
    intro k
    rw [mNearR]
    split
    · rename_i h
      split
      · exact ih (k + 1)
      · exact Or.inr ⟨k, h, rfl⟩
    · exact Or.inl rfl
theorem mAncF_in {S : sM} (ianc : ∀ n, n < S.1 1 → S.2 3 n = -1 ∨ (S.2 3 n = nI (tn (S.2 3 n)) ∧ tn (S.2 3 n) < n)) : ∀ fu a, (a = -1 ∨ (a = nI (tn a) ∧ tn a < S.1 1)) → mAncF S fu a = -1 ∨ (mAncF S fu a = nI (tn (mAncF S fu a)) ∧ tn (mAncF S fu a) < S.1 1) := by
  intro fu
  induction fu with
  | zero => intro a h; exact h
  | succ fu ih =>
    intro a h
    rw [mAncF]
    split
    · exact h
    · rename_i h1
      split
      · rcases h with h | ⟨h2, h3⟩
        · exact absurd h h1
        · refine ih _ ((ianc _ h3).imp id fun h4 => ⟨h4.1, Nat.lt_trans h4.2 h3⟩)
      · exact h
theorem txF_in {S : sM} : ∀ fu k lf, txF S fu k lf = -1 ∨ ∃ i, i < S.1 8 ∧ txF S fu k lf = S.2 7 i := by
  intro fu
  induction fu with
  | zero => intro k lf; exact Or.inl rfl
  | succ fu ih =>
    intro k lf
    rw [txF, txG]
    split
    · rename_i h
      split
      · exact ih (k + 1) lf
      · split
        · exact Or.inr ⟨k, h, rfl⟩
        · exact ih (k + 1) (lf - 1)
    · exact Or.inl rfl
theorem mTxt_in {S : sM} (irow : ∀ k, k < S.1 8 → S.2 7 k = nI (tn (S.2 7 k)) ∧ tn (S.2 7 k) < S.1 1) {x : Int32} (h : ¬ mTxt S x = -1) : mTxt S x = nI (tn (mTxt S x)) ∧ tn (mTxt S x) < S.1 1 := by
  have h2 : ∃ i, i < S.1 8 ∧ mTxt S x = S.2 7 i := by
    rw [mTxt] at h ⊢
    by_cases h1 : x < 0
    · rw [if_pos h1] at h; exact absurd rfl h
    · rw [if_neg h1] at h ⊢
      exact (txF_in _ _ _).resolve_left h
  obtain ⟨i, hi, e⟩ := h2
  rw [e]
  exact irow i hi
theorem txF_mono {S : sM} (iW : S.1 1 ≤ 300) (irow : ∀ k, k < S.1 8 → S.2 7 k = nI (tn (S.2 7 k)) ∧ tn (S.2 7 k) < S.1 1) : ∀ fu k lf, ¬ txF S fu k (lf + 1) = -1 → ¬ txF S fu k lf = -1 := by
  intro fu
  induction fu with
  | zero => intro k lf h; exact absurd rfl h
  | succ fu ih =>
    intro k lf
    rw [txF, txF, txG, txG]
    by_cases hk : k < S.1 8
    · rw [if_pos hk, if_pos hk]
      by_cases ht : S.2 5 (tn (S.2 7 k)) = 0
      · rw [if_pos ht, if_pos ht]; exact ih (k + 1) lf
      · rw [if_neg ht, if_neg ht, if_neg (Nat.succ_ne_zero lf), Nat.add_sub_cancel]
        by_cases hl : lf = 0
        · rw [if_pos hl]
          intro _
          rw [(irow k hk).1]
          exact nI_m1ne (by have := (irow k hk).2; omega)
        · rw [if_neg hl]
          intro h
          have e : lf = lf - 1 + 1 := by omega
          rw [e] at h
          exact ih (k + 1) (lf - 1) h
    · rw [if_neg hk]; intro h; exact absurd rfl h
theorem mTxt_mono {S : sM} (iW : S.1 1 ≤ 300) (irow : ∀ k, k < S.1 8 → S.2 7 k = nI (tn (S.2 7 k)) ∧ tn (S.2 7 k) < S.1 1) {a b : Nat} (hb : b < 2 ^ 31) (hab : a ≤ b) (h : ¬ mTxt S (nI b) = -1) : ¬ mTxt S (nI a) = -1 := by
  have key : ∀ n, ∀ a, a + n = b → ¬ txF S (S.1 8 + 1) 0 a = -1 := by
    intro n
    induction n with
    | zero =>
      intro a e
      obtain rfl : a = b := by omega
      rw [mTxt, if_neg (nI_pos hb), tn_n hb] at h
      exact h
    | succ n ih => intro a e; exact txF_mono iW irow _ _ _ (ih (a + 1) (by omega))
  rw [mTxt, if_neg (nI_pos (by omega)), tn_n (by omega)]
  exact key (b - a) a (by omega)
def mStS (T : sM) (c : Int32) : sM := if c ≤ 0 then (if T.2 5 (tn (-c - nI 1)) = 0 then T else mTakeS T (tn (-c - nI 1))) else (if mRef T (mAt T (tn (c - nI 1))) = true then T else mComeS T (tn (c - nI 1)))
def mStB (T : sM) (c : Int32) : Bool := if c ≤ 0 then (decide (T.2 5 (tn (-c - nI 1)) = 0) || decide (T.2 6 (tn (-c - nI 1)) = -1)) else !mRef T (mAt T (tn (c - nI 1)))
def mMrg (S : sM) (w : Nat) : Nat → sM × Nat
  | 0 => (sS S 0 0, 0)
  | k + 1 => (mStS (mMrg S w k).1 (S.2 11 (700 * w + k)), if mStB (mMrg S w k).1 (S.2 11 (700 * w + k)) then (mMrg S w k).2 else (mMrg S w k).2 + 1)
theorem mStS_11 (T : sM) (c : Int32) : (mStS T c).2 11 = T.2 11 ∧ (mStS T c).2 10 = T.2 10 := by
  unfold mStS
  split
  · split
    · exact ⟨rfl, rfl⟩
    · exact ⟨rfl, rfl⟩
  · split
    · exact ⟨rfl, rfl⟩
    · exact ⟨rfl, rfl⟩
theorem mMrg_11 (S : sM) (w k : Nat) : (mMrg S w k).1.2 11 = S.2 11 ∧ (mMrg S w k).1.2 10 = S.2 10 := by
  induction k with
  | zero => exact ⟨rfl, rfl⟩
  | succ k ih =>
    have := mStS_11 (mMrg S w k).1 (S.2 11 (700 * w + k))
    exact ⟨this.1.trans ih.1, this.2.trans ih.2⟩
theorem mMrg_le (S : sM) (w k : Nat) : (mMrg S w k).2 ≤ k := by
  induction k with
  | zero => exact Nat.le_refl 0
  | succ k ih =>
    rw [mMrg]
    show (if _ then _ else _) ≤ _
    split
    · exact Nat.le_succ_of_le ih
    · exact Nat.succ_le_succ ih
/-- what the merge of writer w rests on: at each change the bounds hold, and its word is one -/
def mOk (S : sM) (w : Nat) : Prop := (∀ k, k ≤ tn (S.2 10 w) → IM (mMrg S w k).1) ∧ ∀ k, k < tn (S.2 10 w) →
  (S.2 11 (700 * w + k) ≤ 0 → -(S.2 11 (700 * w + k)) - nI 1 = nI (tn (-(S.2 11 (700 * w + k)) - nI 1)) ∧ tn (-(S.2 11 (700 * w + k)) - nI 1) < (mMrg S w k).1.1 1) ∧
  (¬ S.2 11 (700 * w + k) ≤ 0 → S.2 11 (700 * w + k) - nI 1 = nI (tn (S.2 11 (700 * w + k) - nI 1)) ∧ tn (S.2 11 (700 * w + k) - nI 1) < (mMrg S w k).1.1 1 ∧ (mMrg S w k).1.1 8 < 300)
def mCpF (T : sM) (w : Nat) : Nat → (Nat → Int32) × Nat
  | 0 => (T.2 9, 0)
  | k + 1 => if T.2 5 (tn (T.2 7 k)) = 0 then mCpF T w k else (upd (mCpF T w k).1 (300 * w + (mCpF T w k).2) (T.2 7 k), (mCpF T w k).2 + 1)
theorem mCpF_le (T : sM) (w k : Nat) : (mCpF T w k).2 ≤ k := by
  induction k with
  | zero => exact Nat.le_refl 0
  | succ k ih =>
    rw [mCpF]
    split
    · exact Nat.le_succ_of_le ih
    · exact Nat.succ_le_succ ih
def mFill (T : sM) (w k : Nat) : sM := sA (sA (sA T 10 (upd (T.2 10) w (nI 0))) 9 (mCpF T w k).1) 8 (upd (T.2 8) w (nI (mCpF T w k).2))
def msMrg (S : sM) (w : Nat) : sM := mFill (mMrg S w (tn (S.2 10 w))).1 w ((mMrg S w (tn (S.2 10 w))).1.1 8)
theorem sA4 {S : sM} {i j : Nat} (h : i ≠ j) {a b c d : Nat → Int32} : sA (sA (sA (sA S i a) j b) i c) j d = sA (sA S i c) j d := by
  simp only [sA]
  congr 1
  funext k
  by_cases e : k = j
  · simp [e]
  · by_cases e2 : k = i <;> simp [e, e2, h]
