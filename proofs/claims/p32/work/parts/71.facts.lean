/-! the facts that the law's checks ask, out of what is kept -/
theorem sum6_add (f g : Nat → Nat) : ∀ n, sum6 (fun w => f w + g w) n = sum6 f n + sum6 g n := by
  intro n
  induction n with
  | zero => rfl
  | succ n ih => rw [sum6, sum6, sum6, ih]; omega
theorem sum6_co {f g : Nat → Nat} : ∀ n, (∀ w, w < n → f w = g w) → sum6 f n = sum6 g n := by
  intro n
  induction n with
  | zero => intro _; rfl
  | succ n ih => intro h; rw [sum6, sum6, ih fun w hw => h w (by omega), h n (by omega)]
theorem sum6_ind {x : Int32} {v : Nat} (hv : v < 6) (e : x = nI v) : sum6 (fun w => if x = nI w then 1 else 0) 6 = 1 := by
  rw [sum6_co (g := fun w => if v = w then 1 else 0) 6 fun w hw => ?_]
  · rcases (show v = 0 ∨ v = 1 ∨ v = 2 ∨ v = 3 ∨ v = 4 ∨ v = 5 by omega) with rfl | rfl | rfl | rfl | rfl | rfl <;> rfl
  · by_cases h : v = w
    · rw [if_pos h, if_pos (by rw [e, h])]
    · rw [if_neg h, if_neg (fun h2 => h ((nI_eq (by omega) (by omega)).mp (e.symm.trans h2)))]
theorem sum_cnt (f : Int32 → Int32) : ∀ l : List Int32, (∀ x, x ∈ l → ∃ v, v < 6 ∧ f x = nI v) → sum6 (fun w => l.countP (fun x => decide (f x = nI w))) 6 = l.length := by
  intro l
  induction l with
  | nil => intro _; rfl
  | cons a l ih =>
    intro h
    obtain ⟨v, hv, e⟩ := h a List.mem_cons_self
    have e1 : sum6 (fun w => (a :: l).countP (fun x => decide (f x = nI w))) 6 = sum6 (fun w => l.countP (fun x => decide (f x = nI w)) + if f a = nI w then 1 else 0) 6 := sum6_co 6 fun w _ => by
      rw [List.countP_cons]
      congr 1
      by_cases h3 : f a = nI w
      · rw [if_pos h3, if_pos (decide_eq_true h3)]
      · rw [if_neg h3, if_neg (by rw [decide_eq_false h3]; exact Bool.false_ne_true)]
    rw [e1, sum6_add, ih fun x hx => h x (List.mem_cons_of_mem _ hx), sum6_ind hv e, List.length_cons]
def cTh (g5 : Nat → Int32) : Nat → Nat
  | 0 => 0
  | n + 1 => cTh g5 n + if g5 n = 0 then 0 else 1
theorem sum_sh {g2 g5 : Nat → Int32} : ∀ n, (∀ i, i < n → ∃ v, v < 6 ∧ g2 i = nI v) → sum6 (fun w => shG g2 g5 (nI w) n) 6 = cTh g5 n := by
  intro n
  induction n with
  | zero => intro _; rfl
  | succ n ih =>
    intro h
    obtain ⟨v, hv, e⟩ := h n (Nat.lt_succ_self n)
    have ih2 := ih fun i hi => h i (by omega)
    rw [cTh]
    by_cases h5 : g5 n = 0
    · rw [if_pos h5, ← ih2]
      exact sum6_co 6 fun w _ => by rw [shG, if_neg (fun hh => hh.1 h5)]; rfl
    · have e1 : sum6 (fun w => shG g2 g5 (nI w) (n + 1)) 6 = sum6 (fun w => shG g2 g5 (nI w) n + if g2 n = nI w then 1 else 0) 6 := sum6_co 6 fun w _ => by
        show shG g2 g5 (nI w) n + _ = _
        congr 1
        by_cases h2 : g2 n = nI w
        · rw [if_pos h2, if_pos ⟨h5, h2⟩]
        · rw [if_neg h2, if_neg (fun hh => h2 hh.2)]
      rw [if_neg h5, e1, sum6_add, ih2, sum6_ind hv e]
theorem cnt_P {k : Nat} {S : sC} {T : sM} (h : Rl k S T) (w : Int32) : cntBy S w = (txT T).countP (fun x => decide (T.2 2 (tn x) = w)) := by
  have e := cntF_h h.1 h.2.1.2.1 h.2.1.2.2.2.2.2.2.2 w ((txT T).length + 1) 0 0 (by omega) (Nat.zero_le _)
  have e2 : cntBy S w = cntF S w ((txT T).length + 1) 0 0 := by rw [cntBy, h.2.1.2.2.2.2.2.2.2]
  rw [e2, e, List.drop_zero, Nat.zero_add]
theorem cnt_S {k : Nat} {S : sC} {T : sM} (h : Rl k S T) (w : Int32) : cntBy S w = shG (T.2 2) (T.2 5) w (T.1 1) := by
  rw [cnt_P h w]
  exact (rwB_cnt T w (T.1 8)).trans (h.1.2.2.1.2.2.2.2 w)
theorem pl_T {k : Nat} {S : sC} {T : sM} (h : Rl k S T) {n : Nat} (hn : n < T.1 1) : (T.2 5 n = 1 ∧ ∃ j, j < 2 ^ 30 ∧ rIdx (S.1 17) (nI n) = nI j) ∨ (T.2 5 n = 0 ∧ rIdx (S.1 17) (nI n) = -1) := by
  have hW := h.1.1.1
  have hL := h.1.1.2.1
  rw [h.2.1.2.2.2.2.2.2.2]
  rcases h.1.2.1.1 n with h5 | h5
  · refine Or.inr ⟨h5, rIdx_none fun hm => ?_⟩
    obtain ⟨_, _, _, h3, _⟩ := txT_mem h.1 hm
    rw [tn_n (by omega), h5] at h3
    exact absurd h3 (by decide)
  · obtain ⟨p, hp, e⟩ := h.1.2.2.1.2.2.1 n hn (h.1.2.1.2.2.1 _ h5)
    refine Or.inl ⟨h5, mCnt T p, ?_, ?_⟩
    · have := mCnt_le T p; omega
    · rw [← e, tx_idx h.1.2.2.1 hp (by rw [e, tn_n (by omega), h5]; decide)]
theorem thr_T {k : Nat} {S : sC} {T : sM} (h : Rl k S T) : ∀ n, n ≤ T.1 1 → thrN S n = cTh (T.2 5) n := by
  intro n
  induction n with
  | zero => intro _; rfl
  | succ n ih =>
    intro hn
    rw [thrN, cTh, ih (by omega)]
    congr 1
    rcases pl_T h (show n < T.1 1 by omega) with ⟨h5, j, hj, e⟩ | ⟨h5, e⟩
    · rw [e, if_neg (nI_pos (by omega)), if_neg (by rw [h5]; decide)]
    · rw [e, if_pos (by decide), if_pos h5]
theorem FT_of {k : Nat} {S : sC} (hk : k < 512) (h : IV k S) : ∃ m, FT S m := by
  obtain ⟨T, hR, hT⟩ := h
  have hI := hR.1.1
  have hW := hI.1
  have hL := hI.2.1
  have hV := hI.2.2.1
  obtain ⟨-, a1, a2, a3, a4, a5, a6⟩ := id hR
  have l3 : (S.1 3).length = T.1 1 := by rw [a1.1, tab_len]
  have l62 : (S.1 62).length = T.1 17 := by rw [a4.2.1, tab_len]
  have e17 : S.1 17 = txT T := a1.2.2.2.2.2.2.2
  have hx : ∀ w, ∃ m, m ≤ 9000 ∧ (w < 6 → T.2 12 w = nI (5 * m)) := fun w => by
    by_cases hw : w < 6
    · obtain ⟨m, h1, h2⟩ := hT.2.1 w hw
      have := cFz_le (T.2 16) (nI 3) (T.1 17)
      exact ⟨m, by omega, fun _ => h2⟩
    · exact ⟨0, Nat.zero_le _, fun h => absurd h hw⟩
  obtain ⟨m, hm⟩ := Classical.axiomOfChoice hx
  have hs : sum6 (fun w => cntBy S (nI w)) 6 = (S.1 17).length := by
    rw [e17, sum6_co (g := fun w => (txT T).countP (fun x => decide (T.2 2 (tn x) = nI w))) 6 fun w _ => cnt_P hR (nI w)]
    exact sum_cnt (fun x => T.2 2 (tn x)) (txT T) fun x hx => by
      obtain ⟨_, _, _, _, _, h4⟩ := txT_mem hR.1 hx
      have h5 := hI.2.2.2.2.2.2.2.2.2.1 _ h4
      exact ⟨_, h5.2, h5.1⟩
  have hs2 : sum6 (fun w => cntBy S (nI w)) 6 = cTh (T.2 5) (T.1 1) := by
    rw [sum6_co (g := fun w => shG (T.2 2) (T.2 5) (nI w) (T.1 1)) 6 fun w _ => cnt_S hR (nI w)]
    exact sum_sh _ fun i hi => by
      have h5 := hI.2.2.2.2.2.2.2.2.2.1 i hi
      exact ⟨_, h5.2, h5.1⟩
  refine ⟨m, fun w hw => ?_, fun w => ?_, hs, fun w hw => ?_, fun w => (hm w).1, fun i hi => ?_, fun n hn => ?_, ?_⟩
  · have t0 : tIx (nI w) 6 = 0 := tIx_in (N := 6) (by omega) hw
    obtain ⟨_, -, -, e1, -⟩ := opK_share_ok k S T (nI w) hk hR
    obtain ⟨_, -, -, e2, -⟩ := opK_shareAnew_ok k S T (nI w) hk hR
    exact (e2 t0).symm.trans (e1 t0)
  · rw [cnt_P hR]
    exact Nat.le_trans List.countP_le_length (tx_le hR.1)
  · rw [a4.1, rAt_tab _ (by omega) hw]
    exact (hm w).2 hw
  · have ht := tx_le hR.1
    rw [e17] at hi ⊢
    obtain ⟨n, hn, e1, e5⟩ := tx_in hR.1 hi
    refine ⟨n, by rw [l3]; exact hn, e1, ?_, ?_⟩
    · have n1 : ¬ mTxt T (nI i) = -1 := by rw [mTxt_rAt, e1]; exact nI_m1ne (by omega)
      obtain ⟨p, hp, ep, np, tp⟩ := mTxt_pos n1
      rw [mTxt_rAt, e1] at ep
      rw [← ep, tx_idx hR.1.2.2.1 hp tp, np, tn_n (by omega)]
    · rw [a1.2.2.2.2.1, rAt_tab _ (by omega) hn]
      rcases hR.1.2.2.2.1.1 n hn with h1 | ⟨r, hr, h1, ho⟩
      · exact Or.inl h1
      · refine Or.inr ⟨r, by rw [l62]; exact hr, h1, ?_⟩
        rw [a4.2.2.2.2.1, rAt_tab _ (by omega) hr]
        exact ho
  · rw [l3] at hn
    refine ⟨?_, ?_⟩
    · rw [a1.2.1, a1.1, rAt_tab _ (by omega) hn, rAt_tab _ (by omega) hn]
      obtain ⟨x, hx1, hx2⟩ := hT.2.2.1 n hn
      have hw := hI.2.2.2.2.2.2.2.2.2.1 n hn
      rw [hx2, hw.1, show (1000 : Int32) = nI 1000 from rfl, pk_mul, nI_add]
      exact ⟨_, by omega, rfl⟩
    · rcases pl_T hR hn with ⟨h5, j, hj, e⟩ | ⟨h5, e⟩
      · exact Or.inl ⟨j, hj, e⟩
      · refine Or.inr ⟨e, ?_⟩
        rw [a1.2.2.2.2.1, rAt_tab _ (by omega) hn]
        exact (hT.1 n hn).resolve_right (by rw [h5]; decide)
  · rw [l3, thr_T hR _ (Nat.le_refl _), ← hs2, hs]
theorem dn_T {S : sC} {T : sM} (h : RA4 S T) (hV : T.1 17 ≤ 30) : ∀ n, n ≤ T.1 17 → dnN S n = (dnL (T.2 16) n).length := by
  intro n
  induction n with
  | zero => intro _; rfl
  | succ n ih =>
    intro hn
    rw [dnN, dnL_s, List.length_append, ih (by omega), h.2.2.2.2.1, rAt_tab _ (by omega) (by omega)]
    congr 1
    by_cases e : T.2 16 n = 1
    · rw [if_pos e, if_pos (show T.2 16 n = nI 1 from e)]; rfl
    · rw [if_neg e, if_neg (show ¬ T.2 16 n = nI 1 from e)]; rfl
theorem FD_of {k : Nat} {S : sC} (hk : k < 512) (h : IV k S) : FD S := by
  obtain ⟨T, hR, hT⟩ := h
  have hI := hR.1.1
  have hL := hI.2.1
  have hV := hI.2.2.1
  have hC := hI.2.2.2.2.1
  obtain ⟨-, a1, a2, a3, a4, a5, a6⟩ := id hR
  have l62 : (S.1 62).length = T.1 17 := by rw [a4.2.1, tab_len]
  have l86 : (S.1 86).length = T.1 30 := by rw [a6.2.2.2.1, tab_len]
  have l17 : (S.1 17).length = mCnt T (T.1 8) := by rw [a1.2.2.2.2.2.2.2, txT_len]
  have l72 : (S.1 72).length = (dnL (T.2 16) (T.1 17)).length := (q_perm a5 hV).length_eq
  have l72b := dnL_le (T.2 16) (T.1 17)
  refine ⟨fun c hc => ?_, fun i hi => ?_, fun r hr => ?_, ?_⟩
  · obtain ⟨_, -, -, e1, -⟩ := opK_span_ok k S T (nI c) hk hR
    have e2 := e1 (tIx_in (by omega) hc)
    rw [← e2, tn_n (by omega)]
    obtain ⟨p, q, hpq, hq, ep, eq⟩ := hR.1.2.2.2.2.2.2.1 c (by omega)
    have J := hR.1.2.2.1
    have m1 : mPos T (T.2 24 c) = p + 1 := by rw [← ep, mPos_at J (by omega) (by omega)]
    have m2 : mPos T (T.2 25 c) = q + 1 := by rw [← eq, mPos_at J (by omega) hq]
    have hmm := mCnt_mono T (show p ≤ q + 1 by omega)
    have hle := mCnt_mono T (show q + 1 ≤ T.1 8 by omega)
    have hle2 := mCnt_le T (T.1 8)
    have hM : mSpM T c = nI (mCnt T (q + 1) - mCnt T p) := by rw [mSpM, m1, m2, Nat.add_sub_cancel, pk_sub hmm]
    rw [mSpn, hM, m1, Nat.add_sub_cancel]
    by_cases h0 : nI (mCnt T (q + 1) - mCnt T p) = 0
    · rw [if_pos h0]; exact Or.inl rfl
    · rw [if_neg h0, nI_add]
      refine Or.inr ⟨mCnt T p, mCnt T (q + 1) - mCnt T p, rfl, ?_, ?_, ?_⟩
      · exact Nat.pos_of_ne_zero fun h1 => h0 (by rw [h1]; rfl)
      · omega
      · rw [l17]; omega
  · obtain ⟨r, hr, e, hs⟩ := (a5.2.2.2.1 _).mp (List.getElem_mem hi)
    refine ⟨r, by rw [l62]; exact hr, ?_, ?_⟩
    · rw [rAt_lt (by omega) hi, ← e]; simp [List.getD, hi]
    · rw [a4.2.2.2.2.1, rAt_tab _ (by omega) hr]; exact hs
  · rw [l62] at hr
    obtain ⟨x, h1, h2⟩ := hT.2.2.2.2.2 r hr
    exact ⟨x, h1, by rw [a4.2.2.2.2.1, rAt_tab _ (by omega) hr, h2]⟩
  · rw [l62, l72]; exact dn_T a4 hV _ (Nat.le_refl _)
theorem mrgF_le (c : Nat) : ∀ fu n kk S, (mrgF c fu n kk S).1 ≤ kk + fu := by
  intro fu
  induction fu with
  | zero => intro n kk S; exact Nat.le_refl _
  | succ fu ih =>
    intro n kk S
    rw [mrgF]
    split
    · split
      · refine Nat.le_trans (ih _ _ _) ?_
        split <;> omega
      · refine Nat.le_trans (ih _ _ _) ?_
        split <;> omega
    · exact Nat.le_add_right _ _
theorem StepOK_if {k : Nat} {S : sC} {p : Prop} [Decidable p] {a b : Int32 × sC} (h1 : StepOK k S a) (h2 : StepOK k S b) : StepOK k S (if p then a else b) := by
  by_cases h : p
  · rw [if_pos h]; exact h1
  · rw [if_neg h]; exact h2
theorem iv_actO {k : Nat} {S : sC} (hk : k < 512) (h : IV k S) (j : Nat) (v : Int32) : StepOK k S (actO j S v) := by
  unfold actO
  exact StepOK_if (iv_type hk h _ _ _) (StepOK_if (iv_delete hk h _ _) (StepOK_if (iv_merge hk h _) (StepOK_if (iv_setRate hk h _ _) (StepOK_if (iv_order hk h _ _ _) (StepOK_if (iv_finish hk h _ _) (StepOK_if (iv_cancel hk h _) (StepOK_if (iv_addIssue hk h _ _) (StepOK_if (iv_pass hk h _) (StepOK_if (iv_comment hk h _ _) (StepOK_if (iv_keep hk h) (iv_type hk h _ _ _)))))))))))
theorem iv_actE {k : Nat} {S : sC} (hk : k < 512) (h : IV k S) (j : Nat) (v : Int32) : StepOK k S (actE j S v) := by
  unfold actE
  exact StepOK_if (iv_type hk h _ _ _) (StepOK_if (iv_delete hk h _ _) (StepOK_if (iv_merge hk h _) (StepOK_if (iv_setRate hk h _ _) (StepOK_if (iv_order hk h _ _ _) (StepOK_if (iv_finish hk h _ _) (StepOK_if (iv_cancel hk h _) (StepOK_if (iv_addIssue hk h _ _) (StepOK_if (iv_pass hk h _) (StepOK_if (iv_comment hk h _ _) (StepOK_if (iv_keep hk h) (iv_type hk h _ _ _)))))))))))
theorem IV_ok : InvOK IV := by
  refine ⟨fun k S v hk h => ?_, fun k S hk h => ⟨FT_of (by omega) h, FD_of (by omega) h⟩, fun k S hk h => ⟨?_, ?_⟩⟩
  · show StepOK k S (actN S v)
    unfold actN
    split
    · exact iv_actO (by omega) h _ v
    · exact iv_actE (by omega) h _ v
  · have h1 := (iv_merge (by omega) h 2).1
    have e : (wr (tIx 2 6) (nI (mrg S (pW 2)).1) (sMerge S 2) S).2 = sMerge S 2 := wr_2 (by decide)
    rw [e] at h1
    exact h1
  · obtain ⟨T, hR, -⟩ := h
    have h1 := (hR.2.2.2.1 2 (by omega)).2
    have h2 := (hR.1.1.2.2.2.2.2.2.2.2.2.2.2.1 2 (by omega)).2
    have h3 : (S.1 (pW 2 + 4)).length = tn (T.2 10 2) := by rw [show pW 2 + 4 = 27 + 6 * 2 from by decide, h1, tab_len]
    have h4 := mrgF_le (pW 2 + 4) ((S.1 (pW 2 + 4)).length + 1) 0 0 S
    rw [mrg]
    omega
theorem EX_00 : EX 0 S0M := by
  have z2 : ∀ i, i ≠ 13 → ∀ n, S0M.2 i n = 0 := fun i hi n => by
    show (if i = 13 then rat4 else fun _ => 0) n = 0
    rw [if_neg hi]
  have v0 : ∀ {k : Nat}, k < 0 → False := fun h => absurd h (Nat.not_lt_zero _)
  refine ⟨fun n h => (v0 h).elim, fun w _ => ⟨0, Nat.zero_le _, z2 12 (by decide) w⟩, fun n h => (v0 h).elim, ⟨fun r hr => ?_, fun n h => (v0 h).elim, fun n h => (v0 h).elim⟩, fun r _ => ⟨0, Nat.zero_le _, z2 14 (by decide) r⟩, fun n h => (v0 h).elim⟩
  show inR 100 (rat4 r)
  rcases (show r = 0 ∨ r = 1 ∨ r = 2 ∨ r = 3 by omega) with rfl | rfl | rfl | rfl <;> exact ⟨1, by omega, by decide⟩
theorem IV_00 : IV 0 S00 := ⟨S0M, Rl_00, EX_00⟩
