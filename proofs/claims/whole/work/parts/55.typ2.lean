/-! the relation kept: type -/
/-- the class's new word -/
theorem wAdd_t {k : Nat} {S : sC} {T : sM} (h : Rl k S T) (hW : T.1 1 < 300) (w x a : Int32) : wAdd S w x a = sSet (sSet (sSet (sSet (sSet (sSet S 3 (tab (T.1 1 + 1) (upd (T.2 1) (T.1 1) x))) 5 (tab (T.1 1 + 1) (upd (T.2 2) (T.1 1) w))) 7 (tab (T.1 1 + 1) (upd (T.2 3) (T.1 1) a))) 9 (tab (T.1 1 + 1) (upd (stT T) (T.1 1) 0))) 11 (tab (T.1 1 + 1) (upd (T.2 6) (T.1 1) (-1)))) 13 (tab (T.1 1 + 1) (upd (fun n => bits (T.2 26) n (T.1 33)) (T.1 1) 0)) := by
  obtain ⟨a3, a5, a7, a9, a11, a13, -⟩ := h.2.1
  obtain ⟨c3, c5, c7, c9, c11, c13⟩ := capW
  rw [wAdd, a3, a5, a7, a9, a11, a13, rAdd_tab _ _ (by omega), rAdd_tab _ _ (by omega), rAdd_tab _ _ (by omega), rAdd_tab _ _ (by omega), rAdd_tab _ _ (by omega), rAdd_tab _ _ (by omega)]
/-- the reference's state behind a typing -/
theorem msType_e (T : sM) (w p : Nat) (x : Int32) : msType T w p x = sA (sA (sS (sA (sA (sA (sA (sA (sA (sS T 0 0) 1 (upd (T.2 1) (T.1 1) x)) 2 (upd (T.2 2) (T.1 1) (nI w))) 6 (upd (T.2 6) (T.1 1) (-1))) 3 (upd (T.2 3) (T.1 1) (if p = 0 then -1 else T.2 9 (300 * w + p - 1)))) 9 (mIns (T.2 9) (300 * w) p (tn (T.2 8 w)) (nI (T.1 1)))) 8 (upd (T.2 8) w (nI (tn (T.2 8 w) + 1)))) 1 (T.1 1 + 1)) 11 (upd (T.2 11) (700 * w + tn (T.2 10 w)) (nI (T.1 1 + 1)))) 10 (upd (T.2 10) w (nI (tn (T.2 10 w) + 1))) := rfl
theorem mIns_m {g : Nat → Int32} {b p n i : Nat} {v : Int32} : mIns g b p n v (b + i) = upd (shf (fun j => g (b + j)) p n) p v i := by
  rw [mIns, upd, upd]
  by_cases h : i = p
  · rw [if_pos (by omega), if_pos h]
  · rw [if_neg (by omega), if_neg h, shf, shf]
    by_cases h2 : p < i ∧ i ≤ n
    · rw [if_pos (by omega), if_pos h2, show b + i - 1 = b + (i - 1) by omega]
    · rw [if_neg (by omega), if_neg h2]
theorem mIns_far {g : Nat → Int32} {b p n j : Nat} {v : Int32} (h : j < b ∨ b + n < j) (hp : p ≤ n) : mIns g b p n v j = g j := by
  rw [mIns, upd_o (by omega), shf, if_neg (by omega)]
