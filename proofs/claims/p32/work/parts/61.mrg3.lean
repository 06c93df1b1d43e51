/-! merging: one change -/
theorem b1_1 : b1 = 1 := by decide
theorem cap3 : cap 15 = 300 ∧ cap 9 = 300 ∧ cap 20 = 600 ∧ cap 17 = 300 := by decide +kernel
/-- a typed word comes in -/
theorem Rm_come {w i k n : Nat} {S : sC} {T : sM} (hw : w < 6) (h : Rm w i k S T) (hn : n < T.1 1) (h4 : T.2 4 n = 0) (hwr : T.2 2 n = nI w) (hi : T.2 11 (700 * w + i) = nI (n + 1)) : Rm w (i + 1) k (putInS S (nI n)) (mComeS T n) := by
  obtain ⟨⟨i0, j1, j2, j3, j4, j5, j6, j7, j9⟩, p8, rb, r2, r3, r4, r5, r6⟩ := h
  have hW := i0.1
  have irow := i0.2.2.2.2.2.2.2.1
  have h41 : ¬ T.2 4 n = 1 := by rw [h4]; decide
  have h5 : T.2 5 n = 0 := (j1.1 n).resolve_right fun h9 => h41 (j1.2.2.1 n h9)
  have hL : T.1 8 < 300 := by
    have := cIn_lt h41 hn
    have := j2.2.2.2.1
    omega
  have hp := mAt_le (S := T) n (by omega)
  obtain ⟨c15, c9, c20, -⟩ := cap3
  have nrow : ∀ q, q < T.1 8 → tn (T.2 7 q) ≠ n := fun q hq h9 => by
    have := j2.2.1 q hq
    rw [h9] at this
    exact h41 this
  have f15 : rIns (S.1 15) (cap 15) (nI (pIdx (S.1 15) (anc S (nI n)))) (nI n) = tab (T.1 8 + 1) (upd (shf (T.2 7) (mAt T n) (T.1 8)) (mAt T n) (nI n)) := by
    rw [pIdx_eq i0 j1 j2 rb hn, rb.2.2.2.2.2.2, rIns_tab _ _ (by omega) hp (by omega)]
  have f9 : rSet (S.1 9) (nI n) 1 = tab (T.1 1) (upd (stT T) n 1) := by rw [rb.2.2.2.1, rSet_tab _ _ (by omega) hn]
  have hlen := r2.1
  have hcd := cDl_le (T.2 4) (T.2 5) (T.1 1)
  have hci := j2.2.2.2.1
  have f20 : rAdd (S.1 20) (cap 20) (nI n) = S.1 20 ++ [nI n] := by rw [rAdd, if_pos (by omega)]
  have fS : putInS S (nI n) = sSet (sSet (sSet S 15 (tab (T.1 8 + 1) (upd (shf (T.2 7) (mAt T n) (T.1 8)) (mAt T n) (nI n)))) 9 (tab (T.1 1) (upd (stT T) n 1))) 20 (S.1 20 ++ [nI n]) := by rw [putInS, f15, f9, f20]
  have fT : mComeS T n = sA (sA (sS (sA T 7 (upd (shf (T.2 7) (mAt T n) (T.1 8)) (mAt T n) (nI n))) 8 (T.1 8 + 1)) 4 (upd (T.2 4) n 1)) 5 (upd (T.2 5) n 1) := by rw [mComeS, b1_1]
  rw [fS, fT]
  generalize mAt T n = p at hp
  have j1' : (∀ m, upd (T.2 5) n 1 m = 0 ∨ upd (T.2 5) n 1 m = 1) ∧ (∀ m, upd (T.2 4) n 1 m = 0 ∨ upd (T.2 4) n 1 m = 1) ∧ (∀ m, upd (T.2 5) n 1 m = 1 → upd (T.2 4) n 1 m = 1) ∧ (∀ m, T.1 1 ≤ m → upd (T.2 4) n 1 m = 0) := by
    refine ⟨fun m => ?_, fun m => ?_, fun m => ?_, fun m hm => ?_⟩
    · by_cases e : m = n
      · subst e; rw [upd_at]; exact Or.inr rfl
      · rw [upd_o e]; exact j1.1 m
    · by_cases e : m = n
      · subst e; rw [upd_at]; exact Or.inr rfl
      · rw [upd_o e]; exact j1.2.1 m
    · by_cases e : m = n
      · subst e; rw [upd_at, upd_at]; exact fun _ => rfl
      · rw [upd_o e, upd_o e]; exact j1.2.2.1 m
    · rw [upd_o (by omega)]; exact j1.2.2.2 m hm
  have j2' : J2 (sA (sA (sS (sA T 7 (upd (shf (T.2 7) p (T.1 8)) p (nI n))) 8 (T.1 8 + 1)) 4 (upd (T.2 4) n 1)) 5 (upd (T.2 5) n 1)) := by
    have nn : ∀ q, q < T.1 8 → T.2 7 q ≠ nI n := fun q hq h9 => nrow q hq (by rw [h9, tn_n (by omega)])
    refine ⟨fun a b ha hb he => ?_, fun a ha => ?_, fun m hm h9 => ?_, ?_, fun v => ?_⟩
    · have ha' : a < T.1 8 + 1 := ha
      have hb' : b < T.1 8 + 1 := hb
      have he' : upd (shf (T.2 7) p (T.1 8)) p (nI n) a = upd (shf (T.2 7) p (T.1 8)) p (nI n) b := he
      rcases insR_cases (R := T.2 7) (x := nI n) hp ha' with ⟨a1, a2⟩ | ⟨qa, a1, a2, a3⟩
      · rcases insR_cases (R := T.2 7) (x := nI n) hp hb' with ⟨b1, b2⟩ | ⟨qb, b1, b2, b3⟩
        · omega
        · rw [a2, b3] at he'; exact absurd he'.symm (nn qb b1)
      · rcases insR_cases (R := T.2 7) (x := nI n) hp hb' with ⟨b1, b2⟩ | ⟨qb, b1, b2, b3⟩
        · rw [b2, a3] at he'; exact absurd he' (nn qa a1)
        · rw [a3, b3] at he'
          have := j2.1 qa qb a1 b1 he'
          omega
    · have ha' : a < T.1 8 + 1 := ha
      show upd (T.2 4) n 1 (tn (upd (shf (T.2 7) p (T.1 8)) p (nI n) a)) = 1
      rcases insR_cases (R := T.2 7) (x := nI n) hp ha' with ⟨a1, a2⟩ | ⟨qa, a1, a2, a3⟩
      · rw [a2, tn_n (by omega), upd_at]
      · rw [a3, upd_o (nrow qa a1)]; exact j2.2.1 qa a1
    · have hm' : m < T.1 1 := hm
      have h9' : upd (T.2 4) n 1 m = 1 := h9
      show ∃ a, a < T.1 8 + 1 ∧ upd (shf (T.2 7) p (T.1 8)) p (nI n) a = nI m
      by_cases e : m = n
      · subst e; exact ⟨p, by omega, upd_at _ _ _⟩
      · rw [upd_o e] at h9'
        obtain ⟨q, q1, q2⟩ := j2.2.2.1 m hm' h9'
        by_cases e2 : q < p
        · exact ⟨q, by omega, by rw [insR_dn e2]; exact q2⟩
        · exact ⟨q + 1, by omega, by rw [insR_up (by omega) q1]; exact q2⟩
    · show T.1 8 + 1 = cIn (upd (T.2 4) n 1) (T.1 1)
      rw [cIn_upd h41, if_pos hn, hci]
    · show rwB (T.2 2) (upd (T.2 5) n 1) (upd (shf (T.2 7) p (T.1 8)) p (nI n)) v (T.1 8 + 1) = shG (T.2 2) (upd (T.2 5) n 1) v (T.1 1)
      rw [rwB_ins _ hp (Nat.le_refl _), shG_come h5, tn_n (by omega), upd_at, rwB_co (h := T.2 2) (h5 := T.2 5) (h7 := T.2 7) _ (fun _ _ => rfl) (fun _ _ => rfl) (fun q hq => upd_o (nrow q hq)), j2.2.2.2.2 v]
      congr 1
      by_cases e : T.2 2 n = v
      · rw [if_pos ⟨by decide, e⟩, if_pos ⟨hn, e⟩]
      · rw [if_neg (fun hh => e hh.2), if_neg (fun hh => e hh.2)]
  have j6' : J6 (sA (sA (sS (sA T 7 (upd (shf (T.2 7) p (T.1 8)) p (nI n))) 8 (T.1 8 + 1)) 4 (upd (T.2 4) n 1)) 5 (upd (T.2 5) n 1)) := fun c hc => by
    obtain ⟨a, b, h1, h2, h3, h9⟩ := j6 c hc
    have mv : ∀ q, q < T.1 8 → upd (shf (T.2 7) p (T.1 8)) p (nI n) (if q < p then q else q + 1) = T.2 7 q := fun q hq => by
      by_cases e : q < p
      · rw [if_pos e, insR_dn e]
      · rw [if_neg e, insR_up (by omega) hq]
    refine ⟨if a < p then a else a + 1, if b < p then b else b + 1, ?_, ?_, (mv a (by omega)).trans h3, (mv b h2).trans h9⟩
    · split <;> split <;> omega
    · show _ < T.1 8 + 1
      split <;> omega
  have i0' : IM (sA (sA (sS (sA T 7 (upd (shf (T.2 7) p (T.1 8)) p (nI n))) 8 (T.1 8 + 1)) 4 (upd (T.2 4) n 1)) 5 (upd (T.2 5) n 1)) := by
    refine ⟨i0.1, (show T.1 8 + 1 ≤ 300 by omega), i0.2.2.1, i0.2.2.2.1, i0.2.2.2.2.1, i0.2.2.2.2.2.1, i0.2.2.2.2.2.2.1, fun a ha => ?_, i0.2.2.2.2.2.2.2.2⟩
    have ha' : a < T.1 8 + 1 := ha
    show upd (shf (T.2 7) p (T.1 8)) p (nI n) a = nI (tn (upd (shf (T.2 7) p (T.1 8)) p (nI n) a)) ∧ tn (upd (shf (T.2 7) p (T.1 8)) p (nI n) a) < T.1 1
    rcases insR_cases (R := T.2 7) (x := nI n) hp ha' with ⟨a1, a2⟩ | ⟨qa, a1, a2, a3⟩
    · rw [a2, tn_n (by omega)]; exact ⟨rfl, hn⟩
    · rw [a3]; exact irow qa a1
  have p8' : P8 w (i + 1) k (sA (sA (sS (sA T 7 (upd (shf (T.2 7) p (T.1 8)) p (nI n))) 8 (T.1 8 + 1)) 4 (upd (T.2 4) n 1)) 5 (upd (T.2 5) n 1)) := fun v hv => by
    refine ⟨(p8 v hv).1, fun m hm hl => ?_, (p8 v hv).2.2⟩
    have hl' : m < tn (T.2 10 v) := hl
    show (∃ n', n' < T.1 1 ∧ T.2 11 (700 * v + m) = nI (n' + 1) ∧ upd (T.2 4) n 1 n' = 0 ∧ T.2 2 n' = nI v) ∨ ∃ n', n' < T.1 1 ∧ T.2 11 (700 * v + m) = -(nI n') - nI 1
    rcases (p8 v hv).2.1 m (fun e => by have := hm e; omega) hl' with ⟨n', h1, h2, h3, h9⟩ | h1
    · refine Or.inl ⟨n', h1, h2, ?_, h9⟩
      by_cases e : n' = n
      · exfalso
        subst e
        by_cases ev : v = w
        · subst ev
          have h10 := (p8 v hv).2.2 i m (by have := hm rfl; omega) hl' (by rw [hi, h2])
          rw [h2] at h10
          exact nI_nle (by omega) (by omega) h10
        · rw [hwr] at h9
          exact ev ((nI_eq (by omega) (by omega)).mp h9.symm)
      · rw [upd_o e]; exact h3
    · exact Or.inr h1
  refine ⟨⟨i0', j1', j2', j3, j4, j5, j6', j7, j9⟩, p8', ⟨rb.1, rb.2.1, rb.2.2.1, ?_, rb.2.2.2.2.1, rb.2.2.2.2.2.1, rfl⟩, ⟨?_, fun c hc => ?_, fun v => ?_⟩, RA3_set (by decide) (RA3_set (by decide) (RA3_set (by decide) r3)), r4, r5, r6⟩
  · show tab (T.1 1) (upd (stT T) n 1) = tab (T.1 1) (fun m => if upd (T.2 5) n 1 m = 1 then 1 else if upd (T.2 4) n 1 m = 1 then 2 else 0)
    refine tab_co fun m hm => ?_
    by_cases e : m = n
    · subst e; rw [upd_at, upd_at, if_pos rfl]
    · rw [upd_o e, upd_o e, upd_o e]; rfl
  · show (S.1 20 ++ [nI n]).length = cIn (upd (T.2 4) n 1) (T.1 1) + cDl (upd (T.2 4) n 1) (upd (T.2 5) n 1) (T.1 1)
    rw [List.length_append, cIn_upd h41, if_pos hn, cDl_come h41, hlen]
    show _ + 1 = _
    omega
  · have hc' : c ∈ S.1 20 ++ [nI n] := hc
    rcases List.mem_append.mp hc' with h9 | h9
    · exact r2.2.1 c h9
    · exact ⟨n, hn, Or.inl (List.mem_singleton.mp h9)⟩
  · show hsm (T.2 2) v (S.1 20 ++ [nI n]) = nI (shG (T.2 2) (upd (T.2 5) n 1) v (T.1 1))
    rw [hsm_app, r2.2.2 v, shG_come h5, if_pos (show nI n < 300 from (nI_ltI (b := 300) (by omega) (by decide)).mpr (by omega)), tn_n (by omega), ← nI_add]
    congr 1
    by_cases e : T.2 2 n = v
    · rw [if_pos e, if_pos ⟨hn, e⟩]; rfl
    · rw [if_neg e, if_neg (fun hh => e hh.2)]; rfl
/-- a word is deleted -/
theorem Rm_take {w i k n : Nat} {S : sC} {T : sM} (h : Rm w i k S T) (hn : n < T.1 1) (h5 : T.2 5 n = 1) : Rm w (i + 1) k (takeOutS S (nI n)) (sA T 5 (upd (T.2 5) n 0)) := by
  obtain ⟨⟨i0, j1, j2, j3, j4, j5, j6, j7, j9⟩, p8, rb, r2, r3, r4, r5, r6⟩ := h
  have hW := i0.1
  have hL := i0.2.1
  have irow := i0.2.2.2.2.2.2.2.1
  have h4 := j1.2.2.1 n h5
  have h51 : ¬ T.2 5 n = 0 := by rw [h5]; decide
  obtain ⟨c15, c9, c20, -⟩ := cap3
  have hlen := r2.1
  have hcd := cDl_take (g := T.2 4) (h := T.2 5) h4 h51 (T.1 1)
  rw [if_pos hn] at hcd
  have hcd2 := cDl_le (T.2 4) (upd (T.2 5) n 0) (T.1 1)
  have hci := cIn_le (T.2 4) (T.1 1)
  have f9 : rSet (S.1 9) (nI n) 2 = tab (T.1 1) (upd (stT T) n 2) := by rw [rb.2.2.2.1, rSet_tab _ _ (by omega) hn]
  have f20 : rAdd (S.1 20) (cap 20) (300 + nI n) = S.1 20 ++ [300 + nI n] := by rw [rAdd, if_pos (by omega)]
  have e300 : (300 : Int32) + nI n = nI (300 + n) := nI_add 300 n
  have fS : takeOutS S (nI n) = sSet (sSet S 9 (tab (T.1 1) (upd (stT T) n 2))) 20 (S.1 20 ++ [nI (300 + n)]) := by rw [takeOutS, f9, f20, e300]
  rw [fS]
  obtain ⟨i1, hi1, ei1⟩ := j2.2.2.1 n hn h4
  have hu : ∀ q, q < T.1 8 → tn (T.2 7 q) = n → q = i1 := fun q hq h9 => j2.1 q i1 hq hi1 (by rw [ei1, (irow q hq).1, h9])
  have j1' : (∀ m, upd (T.2 5) n 0 m = 0 ∨ upd (T.2 5) n 0 m = 1) ∧ (∀ m, T.2 4 m = 0 ∨ T.2 4 m = 1) ∧ (∀ m, upd (T.2 5) n 0 m = 1 → T.2 4 m = 1) ∧ (∀ m, T.1 1 ≤ m → T.2 4 m = 0) := by
    refine ⟨fun m => ?_, j1.2.1, fun m hm => ?_, j1.2.2.2⟩
    · by_cases e : m = n
      · subst e; rw [upd_at]; exact Or.inl rfl
      · rw [upd_o e]; exact j1.1 m
    · by_cases e : m = n
      · subst e; exact h4
      · rw [upd_o e] at hm; exact j1.2.2.1 m hm
  have j2' : J2 (sA T 5 (upd (T.2 5) n 0)) := by
    refine ⟨j2.1, j2.2.1, j2.2.2.1, j2.2.2.2.1, fun v => ?_⟩
    show rwB (T.2 2) (upd (T.2 5) n 0) (T.2 7) v (T.1 8) = shG (T.2 2) (upd (T.2 5) n 0) v (T.1 1)
    have e1 := rwB_take (g2 := T.2 2) (v := v) (show tn (T.2 7 i1) = n by rw [ei1, tn_n (by omega)]) hu h51 (T.1 8) (Nat.le_refl _)
    have e2 := shG_take (g2 := T.2 2) h51 v (T.1 1)
    have e3 := j2.2.2.2.2 v
    by_cases e : T.2 2 n = v
    · rw [if_pos ⟨hi1, e⟩] at e1; rw [if_pos ⟨hn, e⟩] at e2; omega
    · rw [if_neg (fun hh => e hh.2)] at e1; rw [if_neg (fun hh => e hh.2)] at e2; omega
  refine ⟨⟨i0, j1', j2', j3, j4, j5, j6, j7, j9⟩, p8.le, ⟨rb.1, rb.2.1, rb.2.2.1, ?_, rb.2.2.2.2.1, rb.2.2.2.2.2.1, rb.2.2.2.2.2.2⟩, ⟨?_, fun c hc => ?_, fun v => ?_⟩, RA3_set (by decide) (RA3_set (by decide) r3), r4, r5, r6⟩
  · show tab (T.1 1) (upd (stT T) n 2) = tab (T.1 1) (fun m => if upd (T.2 5) n 0 m = 1 then 1 else if T.2 4 m = 1 then 2 else 0)
    refine tab_co fun m hm => ?_
    by_cases e : m = n
    · subst e; rw [upd_at, upd_at, if_neg (by decide), if_pos h4]
    · rw [upd_o e, upd_o e]; rfl
  · show (S.1 20 ++ [nI (300 + n)]).length = cIn (T.2 4) (T.1 1) + cDl (T.2 4) (upd (T.2 5) n 0) (T.1 1)
    rw [List.length_append, hlen]
    show _ + 1 = _
    omega
  · have hc' : c ∈ S.1 20 ++ [nI (300 + n)] := hc
    rcases List.mem_append.mp hc' with h9 | h9
    · exact r2.2.1 c h9
    · exact ⟨n, hn, Or.inr (List.mem_singleton.mp h9)⟩
  · show hsm (T.2 2) v (S.1 20 ++ [nI (300 + n)]) = nI (shG (T.2 2) (upd (T.2 5) n 0) v (T.1 1))
    have h6 : nI (300 + n) - 300 = nI n := by
      rw [show (300 : Int32) = nI 300 from rfl, pk_sub (by omega), show 300 + n - 300 = n by omega]
    have e2 := shG_take (g2 := T.2 2) h51 v (T.1 1)
    rw [hsm_app, r2.2.2 v, if_neg (show ¬ nI (300 + n) < 300 from fun h9 => absurd ((nI_ltI (b := 300) (by omega) (by decide)).mp h9) (by omega)), h6, tn_n (by omega), ← e2]
    by_cases e : T.2 2 n = v
    · rw [if_pos e, if_pos ⟨hn, e⟩, ← nI_add, Int32.add_assoc]
      exact Int32.add_zero _
    · rw [if_neg e, if_neg (fun hh => e hh.2)]; exact Int32.add_zero _
