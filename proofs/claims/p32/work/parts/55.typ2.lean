/-! the relation kept: type -/
/-- the class's new word -/
theorem wAdd_t {k : Nat} {S : sC} {T : sM} (h : Rl k S T) (hW : T.1 1 < 300) (w x a : Int32) : wAdd S w x a = sSet (sSet (sSet (sSet (sSet (sSet S 3 (tab (T.1 1 + 1) (upd (T.2 1) (T.1 1) x))) 5 (tab (T.1 1 + 1) (upd (T.2 2) (T.1 1) w))) 7 (tab (T.1 1 + 1) (upd (T.2 3) (T.1 1) a))) 9 (tab (T.1 1 + 1) (upd (stT T) (T.1 1) 0))) 11 (tab (T.1 1 + 1) (upd (T.2 6) (T.1 1) (-1)))) 13 (tab (T.1 1 + 1) (upd (fun n => bits (T.2 26) n (T.1 33)) (T.1 1) 0)) := by
  obtain ⟨a3, a5, a7, a9, a11, a13, -⟩ := h.2.1
  obtain ⟨c3, c5, c7, c9, c11, c13⟩ := capW
  rw [wAdd, a3, a5, a7, a9, a11, a13, rAdd_tab _ _ (by omega), rAdd_tab _ _ (by omega), rAdd_tab _ _ (by omega), rAdd_tab _ _ (by omega), rAdd_tab _ _ (by omega), rAdd_tab _ _ (by omega)]
/-- the reference's state behind a typing -/
theorem msType_e (T : sM) (w p : Nat) (x : Int32) : msType T w p x = sA (sA (sS (sA (sA (sA (sA (sA (sA (sS T 0 0) 1 (upd (T.2 1) (T.1 1) x)) 2 (upd (T.2 2) (T.1 1) (nI w))) 6 (upd (T.2 6) (T.1 1) (-1))) 3 (upd (T.2 3) (T.1 1) (if p = 0 then -1 else T.2 9 (300 * w + p - 1)))) 9 (mIns (T.2 9) (300 * w) p (tn (T.2 8 w)) (nI (T.1 1)))) 8 (upd (T.2 8) w (nI (tn (T.2 8 w) + 1)))) 1 (T.1 1 + 1)) 11 (upd (T.2 11) (700 * w + tn (T.2 10 w)) (nI (T.1 1 + 1)))) 10 (upd (T.2 10) w (nI (tn (T.2 10 w) + 1))) := rfl
theorem mIns_m {g : Nat → Int32} {b p n i : Nat} {v : Int32} : mIns g b p n v (b + i) = upd (shf (fun j => g (b + j)) p n) p v i := by
  rw [mIns, upd, upd]
  by_cases h : i = p
  · rw [if_pos (by omega), if_pos h]
  · rw [if_neg (by omega), if_neg h, shf, shf]
    by_cases h2 : p < i ∧ i ≤ n
    · rw [if_pos (by omega), if_pos h2, show b + i - 1 = b + (i - 1) by omega]
    · rw [if_neg (by omega), if_neg h2]
theorem mIns_far {g : Nat → Int32} {b p n j : Nat} {v : Int32} (h : j < b ∨ b + n < j) (hp : p ≤ n) : mIns g b p n v j = g j := by
  rw [mIns, upd_o (by omega), shf, if_neg (by omega)]
theorem JM_type {k : Nat} {T : sM} (h : JM k T) {w p : Nat} (x : Int32) (hw : w < 6) (hp : p ≤ tn (T.2 8 w)) (hW : T.1 1 < 300) (hm : tn (T.2 10 w) ≤ 512) : JM (k + 1) (msType T w p x) := by
  obtain ⟨i0, j1, j2, j3, j4, j5, j6, j7, j8, j9⟩ := h.le (Nat.le_succ k)
  have hk8 := (h.2.2.2.2.2.2.2.2.1 w hw).1
  have hc := i0.2.2.2.2.2.2.2.2.2.2.1 w hw
  have hlen := (j7 w hw).1
  have z4 : T.2 4 (T.1 1) = 0 := j1.2.2.2 _ (Nat.le_refl _)
  have z5 : T.2 5 (T.1 1) = 0 := by
    rcases j1.1 (T.1 1) with h5 | h5
    · exact h5
    · have := j1.2.2.1 _ h5; rw [z4] at this; exact absurd this (by decide)
  have un : ∀ (g : Nat → Int32) (v : Int32) (i : Nat), i < T.1 1 → upd g (T.1 1) v i = g i := fun g v i hi => upd_o (by omega)
  rw [msType_e]
  have hrow := i0.2.2.2.2.2.2.2.1
  refine ⟨⟨?_, i0.2.1, i0.2.2.1, i0.2.2.2.1, i0.2.2.2.2.1, i0.2.2.2.2.2.1, i0.2.2.2.2.2.2.1, ?_, ?_, ?_, ?_, ?_, i0.2.2.2.2.2.2.2.2.2.2.2.2⟩, ⟨j1.1, j1.2.1, j1.2.2.1, fun n hn => j1.2.2.2 n (by have hn' : T.1 1 + 1 ≤ n := hn; omega)⟩, ⟨j2.1, j2.2.1, ?_, ?_, ?_⟩, ⟨?_, ?_⟩, j4, j5, j6, ?_, ?_, ?_⟩
  · show T.1 1 + 1 ≤ 300; omega
  · intro i hi
    have h1 := hrow i hi
    exact ⟨h1.1, show tn (T.2 7 i) < T.1 1 + 1 by omega⟩
  · intro n hn
    have hn' : n < T.1 1 + 1 := hn
    show upd (T.2 3) (T.1 1) _ n = -1 ∨ (upd (T.2 3) (T.1 1) _ n = nI (tn (upd (T.2 3) (T.1 1) _ n)) ∧ tn (upd (T.2 3) (T.1 1) _ n) < n)
    by_cases e : n = T.1 1
    · subst e
      rw [upd_at]
      by_cases hp0 : p = 0
      · rw [if_pos hp0]; exact Or.inl rfl
      · rw [if_neg hp0]
        obtain ⟨num, hnum, en⟩ := (j7 w hw).2 (p - 1) (by omega)
        rw [show 300 * w + p - 1 = 300 * w + (p - 1) by omega, en, tn_n (by omega)]
        exact Or.inr ⟨rfl, hnum⟩
    · rw [upd_o e]; exact i0.2.2.2.2.2.2.2.2.1 n (by omega)
  · intro n hn
    have hn' : n < T.1 1 + 1 := hn
    show upd (T.2 2) (T.1 1) (nI w) n = nI (tn (upd (T.2 2) (T.1 1) (nI w) n)) ∧ tn (upd (T.2 2) (T.1 1) (nI w) n) < 6
    by_cases e : n = T.1 1
    · subst e; rw [upd_at, tn_n (by omega)]; exact ⟨rfl, hw⟩
    · rw [upd_o e]; exact i0.2.2.2.2.2.2.2.2.2.1 n (by omega)
  · intro v hv
    show upd (T.2 8) w (nI (tn (T.2 8 w) + 1)) v = nI (tn (upd (T.2 8) w (nI (tn (T.2 8 w) + 1)) v)) ∧ tn (upd (T.2 8) w (nI (tn (T.2 8 w) + 1)) v) ≤ T.1 1 + 1
    by_cases e : v = w
    · subst e; rw [upd_at, tn_n (by omega)]; exact ⟨rfl, by omega⟩
    · rw [upd_o e]; have h1 := i0.2.2.2.2.2.2.2.2.2.2.1 v hv; exact ⟨h1.1, by omega⟩
  · intro v hv
    show upd (T.2 10) w (nI (tn (T.2 10 w) + 1)) v = nI (tn (upd (T.2 10) w (nI (tn (T.2 10 w) + 1)) v)) ∧ tn (upd (T.2 10) w (nI (tn (T.2 10 w) + 1)) v) < 700
    by_cases e : v = w
    · subst e; rw [upd_at, tn_n (by omega)]; exact ⟨rfl, by omega⟩
    · rw [upd_o e]; exact i0.2.2.2.2.2.2.2.2.2.2.2.1 v hv
  · intro n hn h1
    have hn' : n < T.1 1 + 1 := hn
    have h1' : T.2 4 n = 1 := h1
    by_cases e : n = T.1 1
    · subst e; rw [z4] at h1'; exact absurd h1' (by decide)
    · exact j2.2.2.1 n (by omega) h1'
  · show T.1 8 = cIn (T.2 4) (T.1 1 + 1)
    rw [cIn, if_neg (by rw [z4]; decide)]; exact j2.2.2.2.1
  · intro v
    show rwB (upd (T.2 2) (T.1 1) (nI w)) (T.2 5) (T.2 7) v (T.1 8) = shG (upd (T.2 2) (T.1 1) (nI w)) (T.2 5) v (T.1 1 + 1)
    rw [shG, if_neg (fun hh => hh.1 z5), rwB_co (h := T.2 2) (h5 := T.2 5) (h7 := T.2 7) _ (fun _ _ => rfl) (fun i hi => un _ _ _ (hrow i hi).2) (fun _ _ => rfl), shG_co (h := T.2 2) (h5 := T.2 5) _ (fun i hi => un _ _ _ hi) (fun _ _ => rfl)]
    exact j2.2.2.2.2 v
  · intro n hn
    have hn' : n < T.1 1 + 1 := hn
    show upd (T.2 6) (T.1 1) (-1) n = -1 ∨ ∃ r, r < T.1 17 ∧ upd (T.2 6) (T.1 1) (-1) n = nI r ∧ opnR T r
    by_cases e : n = T.1 1
    · subst e; rw [upd_at]; exact Or.inl rfl
    · rw [upd_o e]; exact j3.1 n (by omega)
  · intro r hr ho
    have hr' : r < T.1 17 := hr
    have hV := i0.2.2.1
    show T.2 17 r = nI (cFz (upd (T.2 6) (T.1 1) (-1)) (nI r) (T.1 1 + 1))
    rw [cFz, upd_at, if_neg (Ne.symm (nI_m1ne (by omega))), Nat.add_zero, cFz_co (h := T.2 6) _ (fun i hi => un _ _ _ hi)]
    exact j3.2 r hr' ho
  · intro v hv
    show tn (upd (T.2 8) w (nI (tn (T.2 8 w) + 1)) v) ≤ T.1 1 + 1 ∧ ∀ i, i < tn (upd (T.2 8) w (nI (tn (T.2 8 w) + 1)) v) → ∃ n, n < T.1 1 + 1 ∧ mIns (T.2 9) (300 * w) p (tn (T.2 8 w)) (nI (T.1 1)) (300 * v + i) = nI n
    have hv8 := (j7 v hv).1
    by_cases e : v = w
    · subst e
      rw [upd_at, tn_n (by omega)]
      refine ⟨by omega, fun i hi => ?_⟩
      rw [mIns_m]
      by_cases e2 : i = p
      · subst e2; rw [upd_at]; exact ⟨_, Nat.lt_succ_self _, rfl⟩
      · rw [upd_o e2, shf]
        by_cases e3 : p < i ∧ i ≤ tn (T.2 8 v)
        · rw [if_pos e3]
          obtain ⟨n, h1, h2⟩ := (j7 v hv).2 (i - 1) (by omega)
          exact ⟨n, by omega, h2⟩
        · rw [if_neg e3]
          obtain ⟨n, h1, h2⟩ := (j7 v hv).2 i (by omega)
          exact ⟨n, by omega, h2⟩
    · rw [upd_o e]
      refine ⟨by omega, fun i hi => ?_⟩
      rw [mIns_far (by omega) hp]
      obtain ⟨n, h1, h2⟩ := (j7 v hv).2 i hi
      exact ⟨n, by omega, h2⟩
  · intro v hv
    show tn (upd (T.2 10) w (nI (tn (T.2 10 w) + 1)) v) ≤ k + 1 ∧ (∀ i, i < tn (upd (T.2 10) w (nI (tn (T.2 10 w) + 1)) v) → (∃ n, n < T.1 1 + 1 ∧ upd (T.2 11) (700 * w + tn (T.2 10 w)) (nI (T.1 1 + 1)) (700 * v + i) = nI (n + 1) ∧ T.2 4 n = 0 ∧ upd (T.2 2) (T.1 1) (nI w) n = nI v) ∨ ∃ n, n < T.1 1 + 1 ∧ upd (T.2 11) (700 * w + tn (T.2 10 w)) (nI (T.1 1 + 1)) (700 * v + i) = -(nI n) - nI 1) ∧ ∀ i j, i < j → j < tn (upd (T.2 10) w (nI (tn (T.2 10 w) + 1)) v) → upd (T.2 11) (700 * w + tn (T.2 10 w)) (nI (T.1 1 + 1)) (700 * v + i) = upd (T.2 11) (700 * w + tn (T.2 10 w)) (nI (T.1 1 + 1)) (700 * v + j) → upd (T.2 11) (700 * w + tn (T.2 10 w)) (nI (T.1 1 + 1)) (700 * v + j) ≤ 0
    have h8 := j8 v hv
    have old : ∀ i, i < tn (T.2 10 v) → (∃ n, n < T.1 1 + 1 ∧ T.2 11 (700 * v + i) = nI (n + 1) ∧ T.2 4 n = 0 ∧ upd (T.2 2) (T.1 1) (nI w) n = nI v) ∨ ∃ n, n < T.1 1 + 1 ∧ T.2 11 (700 * v + i) = -(nI n) - nI 1 := fun i hi => by
      rcases h8.2.1 i hi with ⟨n, a1, a2, a3, a4⟩ | ⟨n, a1, a2⟩
      · exact Or.inl ⟨n, by omega, a2, a3, by rw [un _ _ _ a1]; exact a4⟩
      · exact Or.inr ⟨n, by omega, a2⟩
    have h700 := (i0.2.2.2.2.2.2.2.2.2.2.2.1 v hv).2
    by_cases e : v = w
    · subst e
      rw [upd_at, tn_n (by omega)]
      refine ⟨by omega, fun i hi => ?_, fun i j hij hj he => ?_⟩
      · by_cases e2 : i = tn (T.2 10 v)
        · subst e2; rw [upd_at]; exact Or.inl ⟨T.1 1, by omega, rfl, z4, upd_at _ _ _⟩
        · rw [upd_o (by omega)]; exact old i (by omega)
      · by_cases e2 : j = tn (T.2 10 v)
        · subst e2
          rw [upd_at] at he ⊢
          rw [upd_o (by omega)] at he
          rcases h8.2.1 i hij with ⟨n, a1, a2, -⟩ | ⟨n, a1, a2⟩
          · rw [a2] at he
            have := (nI_eq (by omega) (by omega)).mp he
            omega
          · rw [a2] at he
            rw [← he]
            exact neg_le0 (by omega)
        · rw [upd_o (by omega), upd_o (by omega)] at he
          rw [upd_o (by omega)]
          exact h8.2.2 i j hij (by omega) he
    · have o11 : ∀ i, i < tn (T.2 10 v) → upd (T.2 11) (700 * w + tn (T.2 10 w)) (nI (T.1 1 + 1)) (700 * v + i) = T.2 11 (700 * v + i) := fun i hi => upd_o (by omega)
      rw [upd_o e]
      refine ⟨by omega, fun i hi => ?_, fun i j hij hj he => ?_⟩
      · rw [o11 i hi]; exact old i hi
      · rw [o11 i (by omega), o11 j hj] at he
        rw [o11 j hj]
        exact h8.2.2 i j hij hj he
  · intro v hv n hn hn2
    have hn' : T.1 1 + 1 ≤ n := hn2
    exact j9 v hv n hn (by omega)
