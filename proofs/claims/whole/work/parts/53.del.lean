/-! the relation kept: delete -/
theorem shb_m {g : Nat → Int32} {b p n i : Nat} (hi : i < n - 1) (hp : p < n) : shb g (b + p) (b + (n - 1)) (b + i) = shb (fun j => g (b + j)) p (n - 1) i := by
  rw [shb, shb]
  by_cases h : p ≤ i
  · rw [if_pos (by omega), if_pos (by omega)]; rfl
  · rw [if_neg (by omega), if_neg (by omega)]
theorem wT_o {S : sC} {w : Nat} {x y : List Int32} {j : Nat} (hw : w < 6) (hj : j < 24 ∨ 57 < j) : (sSet (sSet S (24 + 6 * w) x) (27 + 6 * w) y).1 j = S.1 j := by
  rw [sSet_o (by omega), sSet_o (by omega)]
/-- what stays when a writer's two rows change -/
theorem Rl_w {k : Nat} {S : sC} {T : sM} {w : Nat} {x y : List Int32} (hw : w < 6) (h1 : RA1 S T) (h2 : RA2 S T) (h4 : RA4 S T) (h5 : RA5 S T) (h6 : RA6 S T) : RA1 (sSet (sSet S (24 + 6 * w) x) (27 + 6 * w) y) T ∧ RA2 (sSet (sSet S (24 + 6 * w) x) (27 + 6 * w) y) T ∧ RA4 (sSet (sSet S (24 + 6 * w) x) (27 + 6 * w) y) T ∧ RA5 (sSet (sSet S (24 + 6 * w) x) (27 + 6 * w) y) T ∧ RA6 (sSet (sSet S (24 + 6 * w) x) (27 + 6 * w) y) T := by
  refine ⟨?_, ?_, ?_, ?_, ?_⟩
  · unfold RA1
    rw [wT_o hw (by decide), wT_o hw (by decide), wT_o hw (by decide), wT_o hw (by decide), wT_o hw (by decide), wT_o hw (by decide), wT_o hw (by decide), wT_o hw (by decide)]
    exact h1
  · unfold RA2; rw [wT_o hw (by decide)]; exact h2
  · unfold RA4
    rw [wT_o hw (by decide), wT_o hw (by decide), wT_o hw (by decide), wT_o hw (by decide), wT_o hw (by decide), wT_o hw (by decide), wT_o hw (by decide)]
    exact h4
  · unfold RA5; rw [wT_o hw (by decide), wT_o hw (by decide)]; exact h5
  · unfold RA6
    rw [wT_o hw (by decide), wT_o hw (by decide), wT_o hw (by decide), wT_o hw (by decide), wT_o hw (by decide)]
    exact h6
theorem neg_neg1 (c : Int32) : -(-c - nI 1) - nI 1 = c := by
  rw [Int32.neg_sub, Int32.sub_neg, Int32.add_comm, Int32.add_sub_cancel]
theorem neg_le0 {a : Nat} (h : a < 2 ^ 29) : -(nI a) - nI 1 ≤ 0 := by
  have e : (-(nI a) - nI 1) = nI 0 - nI (a + 1) := by
    rw [← nI_add, nI_0]
    rw [Int32.zero_sub, Int32.neg_add, Int32.sub_eq_add_neg]
  rw [e]
  have h2 := pk_sub_toInt (a := 0) (b := a + 1) (show 0 < 2 ^ 30 by decide) (show a + 1 < 2 ^ 30 by omega)
  rw [Int32.le_iff_toInt_le, h2]
  show _ ≤ (0 : Int)
  omega
theorem cdT_neg {a : Nat} (h : a < 2 ^ 29) : cdT (-(nI a) - nI 1) = 300 + nI a := by
  rw [cdT, if_pos (neg_le0 h), neg_neg1]
  rfl
