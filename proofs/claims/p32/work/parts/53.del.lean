/-! the relation kept: delete -/
theorem shb_m {g : Nat → Int32} {b p n i : Nat} (hi : i < n - 1) (hp : p < n) : shb g (b + p) (b + (n - 1)) (b + i) = shb (fun j => g (b + j)) p (n - 1) i := by
  rw [shb, shb]
  by_cases h : p ≤ i
  · rw [if_pos (by omega), if_pos (by omega)]; rfl
  · rw [if_neg (by omega), if_neg (by omega)]
theorem wT_o {S : sC} {w : Nat} {x y : List Int32} {j : Nat} (hw : w < 6) (hj : j < 24 ∨ 57 < j) : (sSet (sSet S (24 + 6 * w) x) (27 + 6 * w) y).1 j = S.1 j := by
  rw [sSet_o (by omega), sSet_o (by omega)]
/-- what stays when a writer's two rows change -/
theorem Rl_w {S : sC} {T : sM} {w : Nat} {x y : List Int32} (hw : w < 6) (h1 : RA1 S T) (h2 : RA2 S T) (h4 : RA4 S T) (h5 : RA5 S T) (h6 : RA6 S T) : RA1 (sSet (sSet S (24 + 6 * w) x) (27 + 6 * w) y) T ∧ RA2 (sSet (sSet S (24 + 6 * w) x) (27 + 6 * w) y) T ∧ RA4 (sSet (sSet S (24 + 6 * w) x) (27 + 6 * w) y) T ∧ RA5 (sSet (sSet S (24 + 6 * w) x) (27 + 6 * w) y) T ∧ RA6 (sSet (sSet S (24 + 6 * w) x) (27 + 6 * w) y) T := by
  refine ⟨?_, ?_, ?_, ?_, ?_⟩
  · unfold RA1
    rw [wT_o hw (by decide), wT_o hw (by decide), wT_o hw (by decide), wT_o hw (by decide), wT_o hw (by decide), wT_o hw (by decide), wT_o hw (by decide), wT_o hw (by decide)]
    exact h1
  · unfold RA2; rw [wT_o hw (by decide)]; exact h2
  · unfold RA4
    rw [wT_o hw (by decide), wT_o hw (by decide), wT_o hw (by decide), wT_o hw (by decide), wT_o hw (by decide), wT_o hw (by decide), wT_o hw (by decide)]
    exact h4
  · unfold RA5; rw [wT_o hw (by decide), wT_o hw (by decide)]; exact h5
  · unfold RA6
    rw [wT_o hw (by decide), wT_o hw (by decide), wT_o hw (by decide), wT_o hw (by decide), wT_o hw (by decide)]
    exact h6
theorem neg_neg1 (c : Int32) : -(-c - nI 1) - nI 1 = c := by
  rw [Int32.neg_sub, Int32.sub_neg, Int32.add_comm, Int32.add_sub_cancel]
theorem neg_le0 {a : Nat} (h : a < 2 ^ 29) : -(nI a) - nI 1 ≤ 0 := by
  have e : (-(nI a) - nI 1) = nI 0 - nI (a + 1) := by
    rw [← nI_add, nI_0]
    rw [Int32.zero_sub, Int32.neg_add, Int32.sub_eq_add_neg]
  rw [e]
  have h2 := pk_sub_toInt (a := 0) (b := a + 1) (show 0 < 2 ^ 30 by decide) (show a + 1 < 2 ^ 30 by omega)
  rw [Int32.le_iff_toInt_le, h2]
  show _ ≤ (0 : Int)
  omega
theorem cdT_neg {a : Nat} (h : a < 2 ^ 29) : cdT (-(nI a) - nI 1) = 300 + nI a := by
  rw [cdT, if_pos (neg_le0 h), neg_neg1]
  rfl
theorem upd_at (g : Nat → Int32) (k : Nat) (v : Int32) : upd g k v k = v := if_pos rfl
theorem upd_o {g : Nat → Int32} {k j : Nat} {v : Int32} (h : j ≠ k) : upd g k v j = g j := if_neg h
theorem cap_own : ∀ w, w < 6 → cap (24 + 6 * w) = 300 ∧ cap (27 + 6 * w) = 600 := by decide +kernel
theorem opK_delete_ok : opK_delete Rl := fun k S T w p hk h => by
  have hI := h.1.1
  have hW := hI.1
  have e := cp_cd h w p
  by_cases h0 : tCopyAt S w p = 0
  · have hm : mtCp T w p = 0 := by rw [e, h0]; rfl
    rw [if_pos hm, if_pos h0]
    obtain ⟨hw, hl, hp, hpl⟩ := cp_0 h h0
    obtain ⟨⟨i0, j1, j2, j3, j4, j5, j6, j7, j8, j9⟩, r1, r2, r3, r4, r5, r6⟩ := h.le (Nat.le_succ k)
    have hc := i0.2.2.2.2.2.2.2.2.2.2.1 _ hl
    have hcc := i0.2.2.2.2.2.2.2.2.2.2.2.1 _ hl
    have hk8 := (h.1.2.2.2.2.2.2.2.2.1 _ hl).1
    obtain ⟨num, hnum, enum⟩ := (j7 _ hl).2 _ hpl
    have ho := (r3 _ hl).1
    have hpe := (r3 _ hl).2
    have hat : rAt (S.1 (24 + 6 * tn w)) p = nI num := by rw [ho, hp, rAt_tab _ (by omega) hpl, ← enum]
    have f1 : rRem (S.1 (24 + 6 * tn w)) p = tab (tn (T.2 8 (tn w)) - 1) (fun i => shb (T.2 9) (300 * tn w + tn p) (300 * tn w + (tn (T.2 8 (tn w)) - 1)) (300 * tn w + i)) := by
      rw [ho]
      conv => lhs; rw [hp]
      rw [rRem_tab _ (by omega) hpl]
      exact tab_co fun i hi => (shb_m (g := T.2 9) hi hpl).symm
    have f2 : rAdd (S.1 (27 + 6 * tn w)) (cap (27 + 6 * tn w)) (300 + nI num) = tab (tn (T.2 10 (tn w)) + 1) (fun i => cdT (upd (T.2 11) (700 * tn w + tn (T.2 10 (tn w))) (-(nI num) - nI 1) (700 * tn w + i))) := by
      rw [hpe, rAdd_tab _ _ (by rw [(cap_own _ hl).2]; omega)]
      refine tab_co fun i hi => ?_
      by_cases e9 : i = tn (T.2 10 (tn w))
      · subst e9; rw [upd_at, upd_at, cdT_neg (by omega)]
      · rw [upd_o e9, upd_o (by omega)]
    have fS : wTake S (pW w) p = sSet (sSet S (24 + 6 * tn w) (tab (tn (T.2 8 (tn w)) - 1) (fun i => shb (T.2 9) (300 * tn w + tn p) (300 * tn w + (tn (T.2 8 (tn w)) - 1)) (300 * tn w + i)))) (27 + 6 * tn w) (tab (tn (T.2 10 (tn w)) + 1) (fun i => cdT (upd (T.2 11) (700 * tn w + tn (T.2 10 (tn w))) (-(nI num) - nI 1) (700 * tn w + i)))) := by
      rw [wTake, pW1, pW4, hat, f1, f2]
    have fT : msDel T (tn w) (tn p) = sA (sA (sA (sA (sS T 0 0) 8 (upd (T.2 8) (tn w) (nI (tn (T.2 8 (tn w)) - 1)))) 9 (shb (T.2 9) (300 * tn w + tn p) (300 * tn w + (tn (T.2 8 (tn w)) - 1)))) 11 (upd (T.2 11) (700 * tn w + tn (T.2 10 (tn w))) (-(nI num) - nI 1))) 10 (upd (T.2 10) (tn w) (nI (tn (T.2 10 (tn w)) + 1))) := by
      rw [← enum]; rfl
    rw [pW1, hat, fS, fT, ← enum]
    rw [enum]
    obtain ⟨q1, q2, q4, q5, q6⟩ := Rl_w (x := tab (tn (T.2 8 (tn w)) - 1) (fun i => shb (T.2 9) (300 * tn w + tn p) (300 * tn w + (tn (T.2 8 (tn w)) - 1)) (300 * tn w + i))) (y := tab (tn (T.2 10 (tn w)) + 1) (fun i => cdT (upd (T.2 11) (700 * tn w + tn (T.2 10 (tn w))) (-(nI num) - nI 1) (700 * tn w + i)))) hl r1 r2 r4 r5 r6
    have g8 : ∀ v, v < 6 → upd (T.2 8) (tn w) (nI (tn (T.2 8 (tn w)) - 1)) v = nI (tn (upd (T.2 8) (tn w) (nI (tn (T.2 8 (tn w)) - 1)) v)) ∧ tn (upd (T.2 8) (tn w) (nI (tn (T.2 8 (tn w)) - 1)) v) ≤ T.1 1 := fun v hv => by
      by_cases e9 : v = tn w
      · subst e9; rw [upd_at, tn_n (by omega)]; exact ⟨rfl, by omega⟩
      · rw [upd_o e9]; exact i0.2.2.2.2.2.2.2.2.2.2.1 v hv
    have g10 : ∀ v, v < 6 → upd (T.2 10) (tn w) (nI (tn (T.2 10 (tn w)) + 1)) v = nI (tn (upd (T.2 10) (tn w) (nI (tn (T.2 10 (tn w)) + 1)) v)) ∧ tn (upd (T.2 10) (tn w) (nI (tn (T.2 10 (tn w)) + 1)) v) < 700 := fun v hv => by
      by_cases e9 : v = tn w
      · subst e9; rw [upd_at, tn_n (by omega)]; exact ⟨rfl, by omega⟩
      · rw [upd_o e9]; exact i0.2.2.2.2.2.2.2.2.2.2.2.1 v hv
    have j7' : J7 (sA (sA (sA (sA (sS T 0 0) 8 (upd (T.2 8) (tn w) (nI (tn (T.2 8 (tn w)) - 1)))) 9 (shb (T.2 9) (300 * tn w + tn p) (300 * tn w + (tn (T.2 8 (tn w)) - 1)))) 11 (upd (T.2 11) (700 * tn w + tn (T.2 10 (tn w))) (-(nI num) - nI 1))) 10 (upd (T.2 10) (tn w) (nI (tn (T.2 10 (tn w)) + 1)))) := fun v hv => by
      show tn (upd (T.2 8) (tn w) (nI (tn (T.2 8 (tn w)) - 1)) v) ≤ T.1 1 ∧ ∀ i, i < tn (upd (T.2 8) (tn w) (nI (tn (T.2 8 (tn w)) - 1)) v) → ∃ n, n < T.1 1 ∧ shb (T.2 9) (300 * tn w + tn p) (300 * tn w + (tn (T.2 8 (tn w)) - 1)) (300 * v + i) = nI n
      refine ⟨(g8 v hv).2, fun i hi => ?_⟩
      have hlen := (j7 _ hl).1
      by_cases e9 : v = tn w
      · subst e9
        rw [upd_at, tn_n (by omega)] at hi
        rw [shb]
        by_cases h9 : 300 * tn w + tn p ≤ 300 * tn w + i ∧ 300 * tn w + i < 300 * tn w + (tn (T.2 8 (tn w)) - 1)
        · rw [if_pos h9]; exact (j7 _ hl).2 (i + 1) (by omega)
        · rw [if_neg h9]; exact (j7 _ hl).2 i (by omega)
      · rw [upd_o e9] at hi
        have h8 := (j7 v hv).1
        rw [shb, if_neg (by omega)]
        exact (j7 v hv).2 i hi
    have j8' : J8 (k + 1) (sA (sA (sA (sA (sS T 0 0) 8 (upd (T.2 8) (tn w) (nI (tn (T.2 8 (tn w)) - 1)))) 9 (shb (T.2 9) (300 * tn w + tn p) (300 * tn w + (tn (T.2 8 (tn w)) - 1)))) 11 (upd (T.2 11) (700 * tn w + tn (T.2 10 (tn w))) (-(nI num) - nI 1))) 10 (upd (T.2 10) (tn w) (nI (tn (T.2 10 (tn w)) + 1)))) := fun v hv => by
      show tn (upd (T.2 10) (tn w) (nI (tn (T.2 10 (tn w)) + 1)) v) ≤ k + 1 ∧ (∀ i, i < tn (upd (T.2 10) (tn w) (nI (tn (T.2 10 (tn w)) + 1)) v) → (∃ n, n < T.1 1 ∧ upd (T.2 11) (700 * tn w + tn (T.2 10 (tn w))) (-(nI num) - nI 1) (700 * v + i) = nI (n + 1) ∧ T.2 4 n = 0 ∧ T.2 2 n = nI v) ∨ ∃ n, n < T.1 1 ∧ upd (T.2 11) (700 * tn w + tn (T.2 10 (tn w))) (-(nI num) - nI 1) (700 * v + i) = -(nI n) - nI 1) ∧ ∀ i j, i < j → j < tn (upd (T.2 10) (tn w) (nI (tn (T.2 10 (tn w)) + 1)) v) → upd (T.2 11) (700 * tn w + tn (T.2 10 (tn w))) (-(nI num) - nI 1) (700 * v + i) = upd (T.2 11) (700 * tn w + tn (T.2 10 (tn w))) (-(nI num) - nI 1) (700 * v + j) → upd (T.2 11) (700 * tn w + tn (T.2 10 (tn w))) (-(nI num) - nI 1) (700 * v + j) ≤ 0
      have h8 := j8 v hv
      by_cases e9 : v = tn w
      · subst e9
        rw [upd_at, tn_n (by omega)]
        refine ⟨by omega, fun i hi => ?_, fun i j hij hj he => ?_⟩
        · by_cases h9 : i = tn (T.2 10 (tn w))
          · subst h9; rw [upd_at]; exact Or.inr ⟨num, hnum, rfl⟩
          · rw [upd_o (by omega)]; exact h8.2.1 i (by omega)
        · by_cases h9 : j = tn (T.2 10 (tn w))
          · subst h9; rw [upd_at]; exact neg_le0 (by omega)
          · rw [upd_o (by omega), upd_o (by omega)] at he
            rw [upd_o (by omega)]
            exact h8.2.2 i j hij (by omega) he
      · have h700 := (i0.2.2.2.2.2.2.2.2.2.2.2.1 v hv).2
        have ho11 : ∀ i, i < tn (T.2 10 v) → upd (T.2 11) (700 * tn w + tn (T.2 10 (tn w))) (-(nI num) - nI 1) (700 * v + i) = T.2 11 (700 * v + i) := fun i hi => upd_o (by omega)
        rw [upd_o e9]
        refine ⟨by omega, fun i hi => ?_, fun i j hij hj he => ?_⟩
        · rw [ho11 i hi]; exact h8.2.1 i hi
        · rw [ho11 i (by omega), ho11 j hj] at he
          rw [ho11 j hj]
          exact h8.2.2 i j hij hj he
    refine ⟨hI, e, hm.symm, fun _ => rfl, ⟨⟨i0.1, i0.2.1, i0.2.2.1, i0.2.2.2.1, i0.2.2.2.2.1, i0.2.2.2.2.2.1, i0.2.2.2.2.2.2.1, i0.2.2.2.2.2.2.2.1, i0.2.2.2.2.2.2.2.2.1, i0.2.2.2.2.2.2.2.2.2.1, g8, g10, i0.2.2.2.2.2.2.2.2.2.2.2.2⟩, j1, j2, j3, j4, j5, j6, j7', j8', j9⟩, q1, q2, fun v hv => ?_, q4, q5, q6⟩
    show (sSet (sSet S (24 + 6 * tn w) _) (27 + 6 * tn w) _).1 (24 + 6 * v) = tab (tn (upd (T.2 8) (tn w) (nI (tn (T.2 8 (tn w)) - 1)) v)) (fun i => shb (T.2 9) (300 * tn w + tn p) (300 * tn w + (tn (T.2 8 (tn w)) - 1)) (300 * v + i)) ∧ (sSet (sSet S (24 + 6 * tn w) _) (27 + 6 * tn w) _).1 (27 + 6 * v) = tab (tn (upd (T.2 10) (tn w) (nI (tn (T.2 10 (tn w)) + 1)) v)) (fun i => cdT (upd (T.2 11) (700 * tn w + tn (T.2 10 (tn w))) (-(nI num) - nI 1) (700 * v + i)))
    by_cases e9 : v = tn w
    · subst e9
      rw [sSet_o (by omega), sSet_1, sSet_1, upd_at, upd_at, tn_n (by omega), tn_n (by omega)]
      exact ⟨rfl, rfl⟩
    · rw [sSet_o (by omega), sSet_o (by omega), sSet_o (by omega), sSet_o (by omega), upd_o e9, upd_o e9]
      have h700 := (i0.2.2.2.2.2.2.2.2.2.2.2.1 v hv).2
      have h8 := (j7 v hv).1
      refine ⟨(r3 v hv).1.trans (tab_co fun i hi => ?_), (r3 v hv).2.trans (tab_co fun i hi => ?_)⟩
      · rw [shb, if_neg (by have := (j7 _ hl).1; omega)]
      · rw [upd_o (by omega)]
  · have hm : ¬ mtCp T w p = 0 := by rw [e, cd, if_neg h0]; omega
    rw [if_neg hm, if_neg h0]
    exact ⟨hI, e, (mtCp_1 hm).symm, fun h9 => absurd h9 h0, Rl_0 h _⟩
