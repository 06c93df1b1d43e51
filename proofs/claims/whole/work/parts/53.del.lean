/-! the relation kept: delete -/
theorem shb_m {g : Nat → Int32} {b p n i : Nat} (hi : i < n - 1) (hp : p < n) : shb g (b + p) (b + (n - 1)) (b + i) = shb (fun j => g (b + j)) p (n - 1) i := by
  rw [shb, shb]
  by_cases h : p ≤ i
  · rw [if_pos (by omega), if_pos (by omega)]; rfl
  · rw [if_neg (by omega), if_neg (by omega)]
theorem wT_o {S : sC} {w : Nat} {x y : List Int32} {j : Nat} (hw : w < 6) (hj : j < 24 ∨ 57 < j) : (sSet (sSet S (24 + 6 * w) x) (27 + 6 * w) y).1 j = S.1 j := by
  rw [sSet_o (by omega), sSet_o (by omega)]
/-- what stays when a writer's two rows change -/
theorem Rl_w {k : Nat} {S : sC} {T : sM} {w : Nat} {x y : List Int32} (hw : w < 6) (h1 : RA1 S T) (h2 : RA2 S T) (h4 : RA4 S T) (h5 : RA5 S T) (h6 : RA6 S T) : RA1 (sSet (sSet S (24 + 6 * w) x) (27 + 6 * w) y) T ∧ RA2 (sSet (sSet S (24 + 6 * w) x) (27 + 6 * w) y) T ∧ RA4 (sSet (sSet S (24 + 6 * w) x) (27 + 6 * w) y) T ∧ RA5 (sSet (sSet S (24 + 6 * w) x) (27 + 6 * w) y) T ∧ RA6 (sSet (sSet S (24 + 6 * w) x) (27 + 6 * w) y) T := by
  refine ⟨?_, ?_, ?_, ?_, ?_⟩
  · unfold RA1
    rw [wT_o hw (by decide), wT_o hw (by decide), wT_o hw (by decide), wT_o hw (by decide), wT_o hw (by decide), wT_o hw (by decide), wT_o hw (by decide), wT_o hw (by decide)]
    exact h1
  · unfold RA2; rw [wT_o hw (by decide)]; exact h2
  · unfold RA4
    rw [wT_o hw (by decide), wT_o hw (by decide), wT_o hw (by decide), wT_o hw (by decide), wT_o hw (by decide), wT_o hw (by decide), wT_o hw (by decide)]
    exact h4
  · unfold RA5; rw [wT_o hw (by decide), wT_o hw (by decide)]; exact h5
  · unfold RA6
    rw [wT_o hw (by decide), wT_o hw (by decide), wT_o hw (by decide), wT_o hw (by decide), wT_o hw (by decide)]
    exact h6
