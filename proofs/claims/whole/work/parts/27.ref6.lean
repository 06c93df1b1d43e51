/-! the reference: what waits, passes, is printed, commented, kept -/
/-- how many reviews are done and wait -/
def dnG (sts : Nat → Int32) : Nat → Nat
  | 0 => 0
  | k + 1 => if sts k = nI 1 then dnG sts k + 1 else dnG sts k
theorem dnG_le (sts : Nat → Int32) : ∀ k, dnG sts k ≤ k := by
  intro k
  induction k with
  | zero => exact Nat.le_refl 0
  | succ k ih => rw [dnG]; split <;> omega
theorem dnG_ge {sts : Nat → Int32} {r : Nat} {v : Int32} : ∀ k, k ≤ r → dnG (upd sts r v) k = dnG sts k := by
  intro k
  induction k with
  | zero => intro _; rfl
  | succ k ih =>
    intro h
    rw [dnG, dnG, ih (by omega), show upd sts r v k = sts k from if_neg (by omega)]
theorem dnG_up {sts : Nat → Int32} {r : Nat} (hr : sts r = nI 1) : ∀ k, r < k → dnG (upd sts r (nI 3)) k + 1 = dnG sts k := by
  intro k
  induction k with
  | zero => intro h; omega
  | succ k ih =>
    intro h
    rw [dnG, dnG]
    by_cases e : r = k
    · subst e
      rw [show upd sts r (nI 3) r = nI 3 from if_pos rfl, if_neg (by decide), if_pos hr, dnG_ge r (Nat.le_refl r)]
    · rw [show upd sts r (nI 3) k = sts k from if_neg (fun e2 => e e2.symm)]
      have := ih (by omega)
      split <;> omega
def mRoy (S : sM) (r : Int32) : Nat → Nat → Int32
  | 0 => S.2 12
  | k + 1 => upd (mRoy S r k) (tn (S.2 2 k)) (mRoy S r k (tn (S.2 2 k)) + if S.2 6 k = r then nI 5 else nI 0)
def mPrN (T : sM) (i r : Nat) : sM := mThaw (sA (sA (sA T 23 (upd (T.2 23) i (T.2 23 i + T.2 17 r))) 16 (upd (T.2 16) r (nI 3))) 12 (mRoy T (nI r) (T.1 1))) (nI r)
def mPrF (i : Nat) : Nat → sM → sM
  | 0, T => T
  | fu + 1, T => if mWt T 0 = -1 then T else if T.2 23 i + T.2 17 (tn (mWt T 0)) ≤ T.2 22 i then mPrF i fu (mPrN T i (tn (mWt T 0))) else T
def mPr (S : sM) (i : Nat) : sM := mPrF i 31 (sA S 23 (upd (S.2 23) i (nI 0)))
theorem mPrF_fr (i : Nat) : ∀ fu T, (mPrF i fu T).1 = T.1 ∧ ∀ j, j ≠ 23 → j ≠ 16 → j ≠ 12 → j ≠ 6 → (mPrF i fu T).2 j = T.2 j := by
  intro fu
  induction fu with
  | zero => intro T; exact ⟨rfl, fun _ _ _ _ _ => rfl⟩
  | succ fu ih =>
    intro T
    rw [mPrF]
    split
    · exact ⟨rfl, fun _ _ _ _ _ => rfl⟩
    · split
      · obtain ⟨h1, h2⟩ := ih (mPrN T i (tn (mWt T 0)))
        refine ⟨h1, fun j a b c d => (h2 j a b c d).trans ?_⟩
        simp [mPrN, mThaw, sA, a, b, c, d]
      · exact ⟨rfl, fun _ _ _ _ _ => rfl⟩
theorem mPr_fr (S : sM) (i : Nat) : (mPr S i).1 = S.1 ∧ ∀ j, j ≠ 23 → j ≠ 16 → j ≠ 12 → j ≠ 6 → (mPr S i).2 j = S.2 j := by
  obtain ⟨h1, h2⟩ := mPrF_fr i 31 (sA S 23 (upd (S.2 23) i (nI 0)))
  refine ⟨h1, fun j a b c d => (h2 j a b c d).trans ?_⟩
  simp [sA, a]
theorem IM_co {S T : sM} (h1 : T.1 = S.1) (h2 : ∀ j, j ≠ 23 → j ≠ 16 → j ≠ 12 → j ≠ 6 → T.2 j = S.2 j) (h : IM S) : IM T := by
  unfold IM at h ⊢
  rw [h1, h2 7 (by decide) (by decide) (by decide) (by decide), h2 3 (by decide) (by decide) (by decide) (by decide), h2 2 (by decide) (by decide) (by decide) (by decide), h2 8 (by decide) (by decide) (by decide) (by decide), h2 10 (by decide) (by decide) (by decide) (by decide), h2 15 (by decide) (by decide) (by decide) (by decide)]
  exact h
theorem mWt_in {T : sM} (h : ¬ mWt T 0 = -1) (hV : T.1 17 ≤ 30) : mWt T 0 = nI (tn (mWt T 0)) ∧ tn (mWt T 0) < T.1 17 ∧ T.2 16 (tn (mWt T 0)) = nI 1 := by
  obtain ⟨i, h1, h2, h3⟩ := (wtG_form _ _ _ _ _ _).resolve_left h
  rw [mWt] at *
  rw [h2, tn_n (by omega)]
  exact ⟨rfl, h1, h3⟩
def mtPo (x : Int32) : Nat := if x < 0 then 1 else 0
def mtPs (S : sM) (d : Int32) : Nat := if inB d 1 100 = true then (if S.1 29 + tn d ≤ 1000 then 0 else 2) else 1
def mIs (T : sM) (sm : Int32) : Nat → sM × Int32
  | 0 => (T, sm)
  | n + 1 => if (mIs T sm n).1.2 21 n = nI ((mIs T sm n).1.1 29) then (mPr (mIs T sm n).1 n, (mIs T sm n).2 + (mPr (mIs T sm n).1 n).2 23 n) else mIs T sm n
def mPas (S : sM) : Nat → sM × Int32
  | 0 => (sS S 0 0, nI 0)
  | k + 1 => mIs (sS (mPas S k).1 29 ((mPas S k).1.1 29 + 1)) (mPas S k).2 ((mPas S k).1.1 25)
def mtPd (S : sM) (i : Int32) : Nat := if inB i 0 (nI (S.1 25) - nI 1) = true then 0 else 1
def mtCom (S : sM) (a b : Int32) : Nat := if ¬ mTxt S a = -1 ∧ ¬ mTxt S b = -1 then (if a ≤ b then (if S.1 30 = 40 then 3 else 0) else 2) else 1
def msCom (S : sM) (a b : Int32) : sM := sS (sA (sA (sS S 0 0) 24 (upd (S.2 24) (S.1 30) (mTxt S a))) 25 (upd (S.2 25) (S.1 30) (mTxt S b))) 30 (S.1 30 + 1)
def mtSpn (S : sM) (c : Int32) : Nat := if inB c 0 (nI (S.1 30) - nI 1) = true then 0 else 1
def mSpM (S : sM) (c : Nat) : Int32 := nI (mCnt S (mPos S (S.2 25 c))) - nI (mCnt S (mPos S (S.2 24 c) - 1))
def mSpn (S : sM) (c : Nat) : Int32 := if mSpM S c = 0 then -1 else nI (1000 * mCnt S (mPos S (S.2 24 c) - 1)) + mSpM S c
def mtKp (S : sM) : Nat := if S.1 33 = 20 then 1 else 0
def mKpF (S : sM) : Nat → Nat → Int32
  | 0 => S.2 26
  | k + 1 => upd (mKpF S k) (300 * S.1 33 + k) (vp_nar .boolean (S.2 5 k))
def msKp (S : sM) : sM := sS (sA (sS S 0 0) 26 (mKpF S 300)) 33 (S.1 33 + 1)
def mtCmp (S : sM) (a b : Int32) : Nat := if inB a 0 (nI (S.1 33) - nI 1) = true ∧ inB b 0 (nI (S.1 33) - nI 1) = true then 0 else 1
def mOnl (S : sM) (a b : Nat) : Nat → Nat
  | 0 => 0
  | k + 1 => mOnl S a b k + if ¬ S.2 26 (300 * a + k) = 0 ∧ S.2 26 (300 * b + k) = 0 then 1 else 0
theorem inwX9_isAhead_X9 : ∀ w ∈ wsX90, w ∈ wsX9_isAhead := fun _ h => List.mem_cons_of_mem _ (List.mem_append_right _ h)
theorem hdX9_isAhead : yX9_isAhead.cls = RX9 ∧ yX9_isAhead.cls ≠ "java/lang/invoke/MethodHandle" ∧ yX9_isAhead.cls ≠ "java/lang/invoke/VarHandle" ∧ (parseMethodDescriptor yX9_isAhead.desc).map (fun d => d.parameters.length) = some 2 := by decide +kernel
set_option maxRecDepth 100000 in
set_option maxHeartbeats 4000000 in
theorem c9_isAhead (l : Launch) {D : va_G} {cI cW cZ cL : ClassId} {ad : Nat → Nat} (hJ : injA ad 27) (S : sM) (i j : Nat) (hi : i < 30) (hj : j < 30)  : kMi l yX9_isAhead wsX9_isAhead ({ frames := 0, cells := 0, slots := 0, locals := 0 }) D vwCl (tyL cI cW cZ cL) ad 27 [.ref (ad 0), .int (nI i), .int (nI j)] (PM cI cZ ad S) (bI (ahdG (S.2 19) (S.2 20) i j)) (PM cI cZ ad S) := by
  refine vv_enter (cc := cX9_isAhead) (maxL := 3) (ret := (some .boolean)) (own := RX9) (lv := [(0, .ref (ad 0)), (1, .int (nI i)), (2, .int (nI j))]) (by decide +kernel) rfl rfl hJ (Nat.le_of_ble_eq_true rfl) rfl ?_
  intro p e s m args below meth c hC hK hW hr hlk
  refine vv_aload_n hC 0 dX9_isAhead_0 rfl rfl (q := 1) rfl ?_
  refine vv_get hC hK (K := RX9) (T := TX9) (N := 35) (ci := 9) inwX9_isAhead_X9 0 (by decide) (fs := fldM ad S) om0 rfl 22 (by decide) (List.mem_of_getElem? (i := 1) rfl) rfl (v := .ref (ad 19)) rfl dX9_isAhead_1 (q := 4) rfl ?_
  refine vv_iload_n hC 1 dX9_isAhead_4 rfl rfl (q := 5) rfl ?_
  refine vv_ialdN (P := PM cI cZ ad S) hC hK 19 (by decide) 0 (g := S.2 19) (omI (by decide) rfl) rfl (show i < 30 from (by omega)) (by decide) dX9_isAhead_5 (q := 6) rfl ?_
  refine vv_aload_n hC 0 dX9_isAhead_6 rfl rfl (q := 7) rfl ?_
  refine vv_get hC hK (K := RX9) (T := TX9) (N := 35) (ci := 9) inwX9_isAhead_X9 0 (by decide) (fs := fldM ad S) om0 rfl 22 (by decide) (List.mem_of_getElem? (i := 1) rfl) rfl (v := .ref (ad 19)) rfl dX9_isAhead_7 (q := 10) rfl ?_
  refine vv_iload_n hC 2 dX9_isAhead_10 rfl rfl (q := 11) rfl ?_
  refine vv_ialdN (P := PM cI cZ ad S) hC hK 19 (by decide) 0 (g := S.2 19) (omI (by decide) rfl) rfl (show j < 30 from (by omega)) (by decide) dX9_isAhead_11 (q := 12) rfl ?_
  refine vv_icmp_eq hC (tgt := 38) dX9_isAhead_12 (by decide) (q := 15) rfl (fun h12 => ?_) (fun h12 => ?_)
  · skip
    refine vv_aload_n hC 0 dX9_isAhead_38 rfl rfl (q := 39) rfl ?_
    refine vv_get hC hK (K := RX9) (T := TX9) (N := 35) (ci := 9) inwX9_isAhead_X9 0 (by decide) (fs := fldM ad S) om0 rfl 23 (by decide) (List.mem_of_getElem? (i := 2) rfl) rfl (v := .ref (ad 20)) rfl dX9_isAhead_39 (q := 42) rfl ?_
    refine vv_iload_n hC 1 dX9_isAhead_42 rfl rfl (q := 43) rfl ?_
    refine vv_ialdN (P := PM cI cZ ad S) hC hK 20 (by decide) 0 (g := S.2 20) (omI (by decide) rfl) rfl (show i < 30 from (by omega)) (by decide) dX9_isAhead_43 (q := 44) rfl ?_
    refine vv_aload_n hC 0 dX9_isAhead_44 rfl rfl (q := 45) rfl ?_
    refine vv_get hC hK (K := RX9) (T := TX9) (N := 35) (ci := 9) inwX9_isAhead_X9 0 (by decide) (fs := fldM ad S) om0 rfl 23 (by decide) (List.mem_of_getElem? (i := 2) rfl) rfl (v := .ref (ad 20)) rfl dX9_isAhead_45 (q := 48) rfl ?_
    refine vv_iload_n hC 2 dX9_isAhead_48 rfl rfl (q := 49) rfl ?_
    refine vv_ialdN (P := PM cI cZ ad S) hC hK 20 (by decide) 0 (g := S.2 20) (omI (by decide) rfl) rfl (show j < 30 from (by omega)) (by decide) dX9_isAhead_49 (q := 50) rfl ?_
    refine vv_icmp_ge hC (tgt := 57) dX9_isAhead_50 (by decide) (q := 53) rfl (fun h50 => ?_) (fun h50 => ?_)
    · skip
      refine vv_iconst hC (v := nI 0) dX9_isAhead_57 rfl (q := 58) rfl ?_
      exact vv_zret hC hK hr hlk rfl (by rw [ahdG, if_pos h12, decide_eq_false (Int32.not_lt.mpr h50)]; rfl) (fun _ h => h) dX9_isAhead_58
    · skip
      refine vv_iconst hC (v := nI 1) dX9_isAhead_53 rfl (q := 54) rfl ?_
      refine vv_goto hC (tgt := 58) dX9_isAhead_54 (by decide) ?_
      exact vv_zret hC hK hr hlk rfl (by rw [ahdG, if_pos h12, decide_eq_true (Int32.not_le.mp h50)]; rfl) (fun _ h => h) dX9_isAhead_58
  · skip
    refine vv_aload_n hC 0 dX9_isAhead_15 rfl rfl (q := 16) rfl ?_
    refine vv_get hC hK (K := RX9) (T := TX9) (N := 35) (ci := 9) inwX9_isAhead_X9 0 (by decide) (fs := fldM ad S) om0 rfl 22 (by decide) (List.mem_of_getElem? (i := 1) rfl) rfl (v := .ref (ad 19)) rfl dX9_isAhead_16 (q := 19) rfl ?_
    refine vv_iload_n hC 1 dX9_isAhead_19 rfl rfl (q := 20) rfl ?_
    refine vv_ialdN (P := PM cI cZ ad S) hC hK 19 (by decide) 0 (g := S.2 19) (omI (by decide) rfl) rfl (show i < 30 from (by omega)) (by decide) dX9_isAhead_20 (q := 21) rfl ?_
    refine vv_aload_n hC 0 dX9_isAhead_21 rfl rfl (q := 22) rfl ?_
    refine vv_get hC hK (K := RX9) (T := TX9) (N := 35) (ci := 9) inwX9_isAhead_X9 0 (by decide) (fs := fldM ad S) om0 rfl 22 (by decide) (List.mem_of_getElem? (i := 1) rfl) rfl (v := .ref (ad 19)) rfl dX9_isAhead_22 (q := 25) rfl ?_
    refine vv_iload_n hC 2 dX9_isAhead_25 rfl rfl (q := 26) rfl ?_
    refine vv_ialdN (P := PM cI cZ ad S) hC hK 19 (by decide) 0 (g := S.2 19) (omI (by decide) rfl) rfl (show j < 30 from (by omega)) (by decide) dX9_isAhead_26 (q := 27) rfl ?_
    refine vv_icmp_le hC (tgt := 34) dX9_isAhead_27 (by decide) (q := 30) rfl (fun h27 => ?_) (fun h27 => ?_)
    · skip
      refine vv_iconst hC (v := nI 0) dX9_isAhead_34 rfl (q := 35) rfl ?_
      refine vv_goto hC (tgt := 58) dX9_isAhead_35 (by decide) ?_
      exact vv_zret hC hK hr hlk rfl (by rw [ahdG, if_neg h12, decide_eq_false (Int32.not_lt.mpr h27)]; rfl) (fun _ h => h) dX9_isAhead_58
    · skip
      refine vv_iconst hC (v := nI 1) dX9_isAhead_30 rfl (q := 31) rfl ?_
      refine vv_goto hC (tgt := 58) dX9_isAhead_31 (by decide) ?_
      exact vv_zret hC hK hr hlk rfl (by rw [ahdG, if_neg h12, decide_eq_true (Int32.not_le.mp h27)]; rfl) (fun _ h => h) dX9_isAhead_58
theorem inwX9_waitingAt_X9 : ∀ w ∈ wsX90, w ∈ wsX9_waitingAt := fun _ h => List.mem_cons_of_mem _ (List.mem_append_right _ h)
theorem hdX9_waitingAt : yX9_waitingAt.cls = RX9 ∧ yX9_waitingAt.cls ≠ "java/lang/invoke/MethodHandle" ∧ yX9_waitingAt.cls ≠ "java/lang/invoke/VarHandle" ∧ (parseMethodDescriptor yX9_waitingAt.desc).map (fun d => d.parameters.length) = some 1 := by decide +kernel
set_option maxRecDepth 100000 in
set_option maxHeartbeats 4000000 in
theorem c9_waitingAt (l : Launch) {D : va_G} {cI cW cZ cL : ClassId} {ad : Nat → Nat} (hJ : injA ad 27) (S : sM) (x : Int32) (hI : IM S)  : kMi l yX9_waitingAt wsX9_waitingAt ({ frames := 1, cells := 0, slots := 0, locals := 22 }) D vwCl (tyL cI cW cZ cL) ad 27 [.ref (ad 0), .int x] (PM cI cZ ad S) (mWt S x) (PM cI cZ ad S) := by
  refine vv_enter (cc := cX9_waitingAt) (maxL := 6) (ret := (some .int)) (own := RX9) (lv := [(0, .ref (ad 0)), (1, .int x)]) (by decide +kernel) rfl rfl hJ (Nat.le_of_ble_eq_true rfl) rfl ?_
  intro p e s m args below meth c hC hK hW hr hlk
  obtain ⟨iW, iR, iV, iI, iC, iK, iD, irow, ianc, iwr, icl, icc, irv⟩ := id hI
  refine vv_iconst hC (v := (-1)) dX9_waitingAt_0 rfl (q := 1) rfl ?_
  refine vv_istore_n hC (i := 2) (lv' := [(2, .int (-1)), (0, .ref (ad 0)), (1, .int x)]) dX9_waitingAt_1 rfl (by decide) rfl (q := 2) rfl ?_
  refine vv_iconst hC (v := nI 0) dX9_waitingAt_2 rfl (q := 3) rfl ?_
  refine vv_istore_n hC (i := 3) (lv' := [(3, .int (nI 0)), (2, .int (-1)), (0, .ref (ad 0)), (1, .int x)]) dX9_waitingAt_3 rfl (by decide) rfl (q := 4) rfl ?_
  have loop4 : ∀ (fu : Nat) (k : Nat), S.1 17 < k + fu → k ≤ S.1 17 → vv p l e (headSpec wsX9_waitingAt ({ frames := 1, cells := 0, slots := 0, locals := 22 })).room s m args below meth c 6 (RA ad 27) s.heap 0 0 (MQ below (va_Qi (fun r' (_ : Unit) => r' = (mWt S x)) (fun _ => ws0 D vwCl (tyL cI cW cZ cL) ad 27 (PM cI cZ ad S)) (RA ad 27)) args s 0 0 (RA ad 27)) (wq D vwCl ad 27 (PM cI cZ ad S)) 4 [(0, .ref (ad 0)), (1, .int x), (2, .int (wtG (S.1 17) (S.2 16) (S.2 19) (S.2 20) x k)), (3, .int (nI k))] [] := by
    intro fu
    induction fu with
    | zero =>
      intro k hfu hk
      exact absurd hfu (by omega)
    | succ fu ih =>
      intro k hfu hk
      refine vv_iload_n hC 3 dX9_waitingAt_4 rfl rfl (q := 5) rfl ?_
      refine vv_aload_n hC 0 dX9_waitingAt_5 rfl rfl (q := 6) rfl ?_
      refine vv_get hC hK (K := RX9) (T := TX9) (N := 35) (ci := 9) inwX9_waitingAt_X9 0 (by decide) (fs := fldM ad S) om0 rfl 17 (by decide) (List.mem_of_getElem? (i := 1) rfl) rfl (v := .int (nI (S.1 17))) rfl dX9_waitingAt_6 (q := 9) rfl ?_
      refine vv_icmpN_ge hC (tgt := 92) (by omega) (by omega) dX9_waitingAt_9 (by decide) (q := 12) rfl (fun h9 => ?_) (fun h9 => ?_)
      · skip
        refine vv_iload_n hC 2 dX9_waitingAt_92 rfl rfl (q := 93) rfl ?_
        exact vv_iret hC hK hr hlk (by obtain rfl : k = S.1 17 := (by omega); rfl) (fun _ h => h) dX9_waitingAt_93
      · skip
        refine vv_iconst hC (v := nI 0) dX9_waitingAt_12 rfl (q := 13) rfl ?_
        refine vv_istore hC (i := 4) (lv' := [(4, .int (nI 0)), (0, .ref (ad 0)), (1, .int x), (2, .int (wtG (S.1 17) (S.2 16) (S.2 19) (S.2 20) x k)), (3, .int (nI k))]) dX9_waitingAt_13 (by decide) rfl (q := 15) rfl ?_
        refine vv_iconst hC (v := nI 0) dX9_waitingAt_15 rfl (q := 16) rfl ?_
        refine vv_istore hC (i := 5) (lv' := [(5, .int (nI 0)), (4, .int (nI 0)), (0, .ref (ad 0)), (1, .int x), (2, .int (wtG (S.1 17) (S.2 16) (S.2 19) (S.2 20) x k)), (3, .int (nI k))]) dX9_waitingAt_16 (by decide) rfl (q := 18) rfl ?_
        have loop18 : ∀ (fu : Nat) (n : Nat), S.1 17 < n + fu → n ≤ S.1 17 → vv p l e (headSpec wsX9_waitingAt ({ frames := 1, cells := 0, slots := 0, locals := 22 })).room s m args below meth c 6 (RA ad 27) s.heap 0 0 (MQ below (va_Qi (fun r' (_ : Unit) => r' = (mWt S x)) (fun _ => ws0 D vwCl (tyL cI cW cZ cL) ad 27 (PM cI cZ ad S)) (RA ad 27)) args s 0 0 (RA ad 27)) (wq D vwCl ad 27 (PM cI cZ ad S)) 18 [(0, .ref (ad 0)), (1, .int x), (2, .int (wtG (S.1 17) (S.2 16) (S.2 19) (S.2 20) x k)), (3, .int (nI k)), (4, .int (nI (ahcG (S.2 16) (S.2 19) (S.2 20) k n))), (5, .int (nI n))] [] := by
          intro fu
          induction fu with
          | zero =>
            intro n hfu2 hn
            exact absurd hfu2 (by omega)
          | succ fu ih2 =>
            intro n hfu2 hn
            refine vv_iload hC 5 dX9_waitingAt_18 rfl (q := 20) rfl ?_
            refine vv_aload_n hC 0 dX9_waitingAt_20 rfl rfl (q := 21) rfl ?_
            refine vv_get hC hK (K := RX9) (T := TX9) (N := 35) (ci := 9) inwX9_waitingAt_X9 0 (by decide) (fs := fldM ad S) om0 rfl 17 (by decide) (List.mem_of_getElem? (i := 1) rfl) rfl (v := .int (nI (S.1 17))) rfl dX9_waitingAt_21 (q := 24) rfl ?_
            refine vv_icmpN_ge hC (tgt := 64) (by omega) (by omega) dX9_waitingAt_24 (by decide) (q := 27) rfl (fun h24 => ?_) (fun h24 => ?_)
            · skip
              obtain rfl : n = S.1 17 := by omega
              refine vv_aload_n hC 0 dX9_waitingAt_64 rfl rfl (q := 65) rfl ?_
              refine vv_get hC hK (K := RX9) (T := TX9) (N := 35) (ci := 9) inwX9_waitingAt_X9 0 (by decide) (fs := fldM ad S) om0 rfl 19 (by decide) (List.mem_of_getElem? (i := 2) rfl) rfl (v := .ref (ad 16)) rfl dX9_waitingAt_65 (q := 68) rfl ?_
              refine vv_iload_n hC 3 dX9_waitingAt_68 rfl rfl (q := 69) rfl ?_
              refine vv_ialdN (P := PM cI cZ ad S) hC hK 16 (by decide) 0 (g := S.2 16) (omI (by decide) rfl) rfl (show k < 30 from (by omega)) (by decide) dX9_waitingAt_69 (q := 70) rfl ?_
              refine vv_iconst hC (v := nI 1) dX9_waitingAt_70 rfl (q := 71) rfl ?_
              refine vv_icmp_ne hC (tgt := 84) dX9_waitingAt_71 (by decide) (q := 74) rfl (fun h71 => ?_) (fun h71 => ?_)
              · skip
                refine vv_iload_n hC 2 dX9_waitingAt_84 rfl rfl (q := 85) rfl ?_
                refine vv_istore_n hC (i := 2) (lv' := [(2, .int (wtG (S.1 17) (S.2 16) (S.2 19) (S.2 20) x k)), (0, .ref (ad 0)), (1, .int x), (3, .int (nI k)), (4, .int (nI (ahcG (S.2 16) (S.2 19) (S.2 20) k (S.1 17)))), (5, .int (nI (S.1 17)))]) dX9_waitingAt_85 rfl (by decide) rfl (q := 86) rfl ?_
                refine vv_iinc hC (i := 3) (v := nI (k + 1)) (lv' := [(3, .int (nI (k + 1))), (2, .int (wtG (S.1 17) (S.2 16) (S.2 19) (S.2 20) x k)), (0, .ref (ad 0)), (1, .int x), (4, .int (nI (ahcG (S.2 16) (S.2 19) (S.2 20) k (S.1 17)))), (5, .int (nI (S.1 17)))]) 3 dX9_waitingAt_86 rfl (nI_1 k) (by decide) rfl (q := 89) rfl ?_
                refine vv_goto hC (tgt := 4) dX9_waitingAt_89 (by decide) ?_
                refine vv_lv [2, 3, 1, 0] (lv' := [(0, .ref (ad 0)), (1, .int x), (2, .int (wtG (S.1 17) (S.2 16) (S.2 19) (S.2 20) x k)), (3, .int (nI (k + 1)))]) rfl ?_
                exact vv_eql (by rw [wtG, if_neg h71]) (ih (k + 1) (by omega) (by omega))
              · skip
                refine vv_iload hC 4 dX9_waitingAt_74 rfl (q := 76) rfl ?_
                refine vv_iload_n hC 1 dX9_waitingAt_76 rfl rfl (q := 77) rfl ?_
                refine vv_icmp_ne hC (tgt := 84) dX9_waitingAt_77 (by decide) (q := 80) rfl (fun h77 => ?_) (fun h77 => ?_)
                · skip
                  refine vv_iload_n hC 2 dX9_waitingAt_84 rfl rfl (q := 85) rfl ?_
                  refine vv_istore_n hC (i := 2) (lv' := [(2, .int (wtG (S.1 17) (S.2 16) (S.2 19) (S.2 20) x k)), (0, .ref (ad 0)), (1, .int x), (3, .int (nI k)), (4, .int (nI (ahcG (S.2 16) (S.2 19) (S.2 20) k (S.1 17)))), (5, .int (nI (S.1 17)))]) dX9_waitingAt_85 rfl (by decide) rfl (q := 86) rfl ?_
                  refine vv_iinc hC (i := 3) (v := nI (k + 1)) (lv' := [(3, .int (nI (k + 1))), (2, .int (wtG (S.1 17) (S.2 16) (S.2 19) (S.2 20) x k)), (0, .ref (ad 0)), (1, .int x), (4, .int (nI (ahcG (S.2 16) (S.2 19) (S.2 20) k (S.1 17)))), (5, .int (nI (S.1 17)))]) 3 dX9_waitingAt_86 rfl (nI_1 k) (by decide) rfl (q := 89) rfl ?_
                  refine vv_goto hC (tgt := 4) dX9_waitingAt_89 (by decide) ?_
                  refine vv_lv [2, 3, 1, 0] (lv' := [(0, .ref (ad 0)), (1, .int x), (2, .int (wtG (S.1 17) (S.2 16) (S.2 19) (S.2 20) x k)), (3, .int (nI (k + 1)))]) rfl ?_
                  exact vv_eql (by rw [wtG, if_pos h71, if_neg h77]) (ih (k + 1) (by omega) (by omega))
                · skip
                  refine vv_iload_n hC 3 dX9_waitingAt_80 rfl rfl (q := 81) rfl ?_
                  refine vv_goto hC (tgt := 85) dX9_waitingAt_81 (by decide) ?_
                  refine vv_istore_n hC (i := 2) (lv' := [(2, .int (nI k)), (0, .ref (ad 0)), (1, .int x), (3, .int (nI k)), (4, .int (nI (ahcG (S.2 16) (S.2 19) (S.2 20) k (S.1 17)))), (5, .int (nI (S.1 17)))]) dX9_waitingAt_85 rfl (by decide) rfl (q := 86) rfl ?_
                  refine vv_iinc hC (i := 3) (v := nI (k + 1)) (lv' := [(3, .int (nI (k + 1))), (2, .int (nI k)), (0, .ref (ad 0)), (1, .int x), (4, .int (nI (ahcG (S.2 16) (S.2 19) (S.2 20) k (S.1 17)))), (5, .int (nI (S.1 17)))]) 3 dX9_waitingAt_86 rfl (nI_1 k) (by decide) rfl (q := 89) rfl ?_
                  refine vv_goto hC (tgt := 4) dX9_waitingAt_89 (by decide) ?_
                  refine vv_lv [2, 3, 1, 0] (lv' := [(0, .ref (ad 0)), (1, .int x), (2, .int (nI k)), (3, .int (nI (k + 1)))]) rfl ?_
                  exact vv_eql (by rw [wtG, if_pos h71, if_pos h77]) (ih (k + 1) (by omega) (by omega))
            · skip
              refine vv_iload hC 4 dX9_waitingAt_27 rfl (q := 29) rfl ?_
              refine vv_aload_n hC 0 dX9_waitingAt_29 rfl rfl (q := 30) rfl ?_
              refine vv_get hC hK (K := RX9) (T := TX9) (N := 35) (ci := 9) inwX9_waitingAt_X9 0 (by decide) (fs := fldM ad S) om0 rfl 19 (by decide) (List.mem_of_getElem? (i := 2) rfl) rfl (v := .ref (ad 16)) rfl dX9_waitingAt_30 (q := 33) rfl ?_
              refine vv_iload hC 5 dX9_waitingAt_33 rfl (q := 35) rfl ?_
              refine vv_ialdN (P := PM cI cZ ad S) hC hK 16 (by decide) 0 (g := S.2 16) (omI (by decide) rfl) rfl (show n < 30 from (by omega)) (by decide) dX9_waitingAt_35 (q := 36) rfl ?_
              refine vv_iconst hC (v := nI 1) dX9_waitingAt_36 rfl (q := 37) rfl ?_
              refine vv_icmp_ne hC (tgt := 54) dX9_waitingAt_37 (by decide) (q := 40) rfl (fun h37 => ?_) (fun h37 => ?_)
              · skip
                refine vv_iconst hC (v := nI 0) dX9_waitingAt_54 rfl (q := 55) rfl ?_
                refine vv_iaddN hC dX9_waitingAt_55 (q := 56) rfl ?_
                refine vv_istore hC (i := 4) (lv' := [(4, .int (nI ((ahcG (S.2 16) (S.2 19) (S.2 20) k n) + 0))), (0, .ref (ad 0)), (1, .int x), (2, .int (wtG (S.1 17) (S.2 16) (S.2 19) (S.2 20) x k)), (3, .int (nI k)), (5, .int (nI n))]) dX9_waitingAt_56 (by decide) rfl (q := 58) rfl ?_
                refine vv_iinc hC (i := 5) (v := nI (n + 1)) (lv' := [(5, .int (nI (n + 1))), (4, .int (nI ((ahcG (S.2 16) (S.2 19) (S.2 20) k n) + 0))), (0, .ref (ad 0)), (1, .int x), (2, .int (wtG (S.1 17) (S.2 16) (S.2 19) (S.2 20) x k)), (3, .int (nI k))]) 5 dX9_waitingAt_58 rfl (nI_1 n) (by decide) rfl (q := 61) rfl ?_
                refine vv_goto hC (tgt := 18) dX9_waitingAt_61 (by decide) ?_
                refine vv_lv [2, 3, 4, 5, 1, 0] (lv' := [(0, .ref (ad 0)), (1, .int x), (2, .int (wtG (S.1 17) (S.2 16) (S.2 19) (S.2 20) x k)), (3, .int (nI k)), (4, .int (nI ((ahcG (S.2 16) (S.2 19) (S.2 20) k n) + 0))), (5, .int (nI (n + 1)))]) rfl ?_
                exact vv_eql (by rw [ahcG, if_neg h37]; rfl) (ih2 (n + 1) (by omega) (by omega))
              · skip
                refine vv_aload_n hC 0 dX9_waitingAt_40 rfl rfl (q := 41) rfl ?_
                refine vv_iload hC 5 dX9_waitingAt_41 rfl (q := 43) rfl ?_
                refine vv_iload_n hC 3 dX9_waitingAt_43 rfl rfl (q := 44) rfl ?_
                refine vv_calli hC hK (fun _ h => h) (As := [.int (nI n), .int (nI k)]) 0 (by decide) or9 rfl (c9_isAhead l hJ S n k (by omega) (by omega)) (cwV 2 hC.2.2.2.2 gX9_waitingAt_X9_isAhead rfl rfl rfl hdX9_isAhead ⟨Nat.le_of_ble_eq_true rfl, Nat.le_of_ble_eq_true rfl⟩) rfl rfl (Nat.le_of_ble_eq_true rfl) ⟨Nat.le_of_ble_eq_true rfl, Nat.le_of_ble_eq_true rfl⟩ dX9_waitingAt_44 (q := 47) rfl ?_
                refine vv_if_eq hC (tgt := 54) dX9_waitingAt_47 (by decide) (q := 50) rfl (fun h47 => ?_) (fun h47 => ?_)
                · skip
                  refine vv_iconst hC (v := nI 0) dX9_waitingAt_54 rfl (q := 55) rfl ?_
                  refine vv_iaddN hC dX9_waitingAt_55 (q := 56) rfl ?_
                  refine vv_istore hC (i := 4) (lv' := [(4, .int (nI ((ahcG (S.2 16) (S.2 19) (S.2 20) k n) + 0))), (0, .ref (ad 0)), (1, .int x), (2, .int (wtG (S.1 17) (S.2 16) (S.2 19) (S.2 20) x k)), (3, .int (nI k)), (5, .int (nI n))]) dX9_waitingAt_56 (by decide) rfl (q := 58) rfl ?_
                  refine vv_iinc hC (i := 5) (v := nI (n + 1)) (lv' := [(5, .int (nI (n + 1))), (4, .int (nI ((ahcG (S.2 16) (S.2 19) (S.2 20) k n) + 0))), (0, .ref (ad 0)), (1, .int x), (2, .int (wtG (S.1 17) (S.2 16) (S.2 19) (S.2 20) x k)), (3, .int (nI k))]) 5 dX9_waitingAt_58 rfl (nI_1 n) (by decide) rfl (q := 61) rfl ?_
                  refine vv_goto hC (tgt := 18) dX9_waitingAt_61 (by decide) ?_
                  refine vv_lv [2, 3, 4, 5, 1, 0] (lv' := [(0, .ref (ad 0)), (1, .int x), (2, .int (wtG (S.1 17) (S.2 16) (S.2 19) (S.2 20) x k)), (3, .int (nI k)), (4, .int (nI ((ahcG (S.2 16) (S.2 19) (S.2 20) k n) + 0))), (5, .int (nI (n + 1)))]) rfl ?_
                  exact vv_eql (by rw [ahcG, if_pos h37, if_neg (by rw [bI_0.mp h47]; decide)]; rfl) (ih2 (n + 1) (by omega) (by omega))
                · skip
                  refine vv_iconst hC (v := nI 1) dX9_waitingAt_50 rfl (q := 51) rfl ?_
                  refine vv_goto hC (tgt := 55) dX9_waitingAt_51 (by decide) ?_
                  refine vv_iaddN hC dX9_waitingAt_55 (q := 56) rfl ?_
                  refine vv_istore hC (i := 4) (lv' := [(4, .int (nI ((ahcG (S.2 16) (S.2 19) (S.2 20) k n) + 1))), (0, .ref (ad 0)), (1, .int x), (2, .int (wtG (S.1 17) (S.2 16) (S.2 19) (S.2 20) x k)), (3, .int (nI k)), (5, .int (nI n))]) dX9_waitingAt_56 (by decide) rfl (q := 58) rfl ?_
                  refine vv_iinc hC (i := 5) (v := nI (n + 1)) (lv' := [(5, .int (nI (n + 1))), (4, .int (nI ((ahcG (S.2 16) (S.2 19) (S.2 20) k n) + 1))), (0, .ref (ad 0)), (1, .int x), (2, .int (wtG (S.1 17) (S.2 16) (S.2 19) (S.2 20) x k)), (3, .int (nI k))]) 5 dX9_waitingAt_58 rfl (nI_1 n) (by decide) rfl (q := 61) rfl ?_
                  refine vv_goto hC (tgt := 18) dX9_waitingAt_61 (by decide) ?_
                  refine vv_lv [2, 3, 4, 5, 1, 0] (lv' := [(0, .ref (ad 0)), (1, .int x), (2, .int (wtG (S.1 17) (S.2 16) (S.2 19) (S.2 20) x k)), (3, .int (nI k)), (4, .int (nI ((ahcG (S.2 16) (S.2 19) (S.2 20) k n) + 1))), (5, .int (nI (n + 1)))]) rfl ?_
                  exact vv_eql (by rw [ahcG, if_pos h37, if_pos (bI_1 h47)]) (ih2 (n + 1) (by omega) (by omega))
        refine vv_lv [2, 3, 4, 5, 1, 0] (lv' := [(0, .ref (ad 0)), (1, .int x), (2, .int (wtG (S.1 17) (S.2 16) (S.2 19) (S.2 20) x k)), (3, .int (nI k)), (4, .int (nI 0)), (5, .int (nI 0))]) rfl ?_
        exact loop18 31 0 (by omega) (Nat.zero_le _)
  refine vv_lv [2, 3, 1, 0] (lv' := [(0, .ref (ad 0)), (1, .int x), (2, .int (-1)), (3, .int (nI 0))]) rfl ?_
  exact loop4 31 0 (by omega) (Nat.zero_le _)
theorem inwX9_waiting_X9 : ∀ w ∈ wsX90, w ∈ wsX9_waiting := fun _ h => List.mem_cons_of_mem _ (List.mem_append_right _ h)
theorem hdX9_waiting : yX9_waiting.cls = RX9 ∧ yX9_waiting.cls ≠ "java/lang/invoke/MethodHandle" ∧ yX9_waiting.cls ≠ "java/lang/invoke/VarHandle" ∧ (parseMethodDescriptor yX9_waiting.desc).map (fun d => d.parameters.length) = some 1 := by decide +kernel
set_option maxRecDepth 100000 in
set_option maxHeartbeats 4000000 in
theorem c9_waiting (l : Launch) {D : va_G} {cI cW cZ cL : ClassId} {ad : Nat → Nat} (hJ : injA ad 27) (S : sM) (x : Int32) (hI : IM S)  : kMi l yX9_waiting wsX9_waiting ({ frames := 2, cells := 0, slots := 0, locals := 47 }) D vwCl (tyL cI cW cZ cL) ad 27 [.ref (ad 0), .int x] (PM cI cZ ad S) (if mtPo x = 0 then mWt S x else 0) (PM cI cZ ad (if mtPo x = 0 then sS S 0 0 else sS S 0 (mtPo x))) := by
  refine vv_enter (cc := cX9_waiting) (maxL := 2) (ret := (some .int)) (own := RX9) (lv := [(0, .ref (ad 0)), (1, .int x)]) (by decide +kernel) rfl rfl hJ (Nat.le_of_ble_eq_true rfl) rfl ?_
  intro p e s m args below meth c hC hK hW hr hlk
  refine vv_aload_n hC 0 dX9_waiting_0 rfl rfl (q := 1) rfl ?_
  refine vv_iload_n hC 1 dX9_waiting_1 rfl rfl (q := 2) rfl ?_
  refine vv_if_lt hC (tgt := 9) dX9_waiting_2 (by decide) (q := 5) rfl (fun h2 => ?_) (fun h2 => ?_)
  · skip
    refine vv_iconst hC (v := nI 1) dX9_waiting_9 rfl (q := 10) rfl ?_
    refine vv_calli hC hK (fun _ h => h) (As := [.int (nI 1)]) 0 (by decide) or9 rfl (c9_goesWell l hJ S 1 (by decide)) (cwV 1 hC.2.2.2.2 gX9_waiting_X9_goesWell rfl rfl rfl hdX9_goesWell ⟨Nat.le_of_ble_eq_true rfl, Nat.le_of_ble_eq_true rfl⟩) rfl rfl (Nat.le_of_ble_eq_true rfl) ⟨Nat.le_of_ble_eq_true rfl, Nat.le_of_ble_eq_true rfl⟩ dX9_waiting_10 (q := 13) rfl ?_
    refine vv_eqv (st' := [.int (nI 0)]) rfl ?_
    refine vv_if_eq hC (tgt := 24) dX9_waiting_13 (by decide) (q := 16) rfl (fun _ => ?_) (fun h => absurd h (by decide))
    refine vv_iconst hC (v := nI 0) dX9_waiting_24 rfl (q := 25) rfl ?_
    have hT : mtPo x = 1 := by simp only [mtPo, h2, Bool.false_eq_true, true_and, and_true, false_and, and_false, and_self, not_true, not_false_iff, or_true, true_or, or_false, false_or, if_true, if_false, reduceIte]
    exact vv_iret hC hK hr hlk (by rw [if_neg (by rw [hT]; decide)]; rfl) (fun f h => by rw [if_neg (by rw [hT]; decide)]; rw [hT]; exact h) dX9_waiting_25
  · skip
    refine vv_iconst hC (v := nI 0) dX9_waiting_5 rfl (q := 6) rfl ?_
    refine vv_goto hC (tgt := 10) dX9_waiting_6 (by decide) ?_
    refine vv_calli hC hK (fun _ h => h) (As := [.int (nI 0)]) 0 (by decide) or9 rfl (c9_goesWell l hJ S 0 (by decide)) (cwV 1 hC.2.2.2.2 gX9_waiting_X9_goesWell rfl rfl rfl hdX9_goesWell ⟨Nat.le_of_ble_eq_true rfl, Nat.le_of_ble_eq_true rfl⟩) rfl rfl (Nat.le_of_ble_eq_true rfl) ⟨Nat.le_of_ble_eq_true rfl, Nat.le_of_ble_eq_true rfl⟩ dX9_waiting_10 (q := 13) rfl ?_
    refine vv_eqv (st' := [.int (nI 1)]) rfl ?_
    refine vv_if_eq hC (tgt := 24) dX9_waiting_13 (by decide) (q := 16) rfl (fun h => absurd h (by decide)) (fun _ => ?_)
    refine vv_aload_n hC 0 dX9_waiting_16 rfl rfl (q := 17) rfl ?_
    refine vv_iload_n hC 1 dX9_waiting_17 rfl rfl (q := 18) rfl ?_
    refine vv_calli hC hK (fun _ h => h) (As := [.int x]) 0 (by decide) or9 rfl (c9_waitingAt l hJ (sS S 0 0) x hI) (cwV 1 hC.2.2.2.2 gX9_waiting_X9_waitingAt rfl rfl rfl hdX9_waitingAt ⟨Nat.le_of_ble_eq_true rfl, Nat.le_of_ble_eq_true rfl⟩) rfl rfl (Nat.le_of_ble_eq_true rfl) ⟨Nat.le_of_ble_eq_true rfl, Nat.le_of_ble_eq_true rfl⟩ dX9_waiting_18 (q := 21) rfl ?_
    refine vv_goto hC (tgt := 25) dX9_waiting_21 (by decide) ?_
    have hT : mtPo x = 0 := by simp only [mtPo, h2, Bool.false_eq_true, true_and, and_true, false_and, and_false, and_self, not_true, not_false_iff, or_true, true_or, or_false, false_or, if_true, if_false, reduceIte]
    exact vv_iret hC hK hr hlk (by rw [if_pos hT]; rfl) (fun f h => by rw [if_pos hT]; exact h) dX9_waiting_25
theorem inwX9_print_X9 : ∀ w ∈ wsX90, w ∈ wsX9_print := fun _ h => List.mem_cons_of_mem _ (List.mem_append_right _ h)
theorem hdX9_print : yX9_print.cls = RX9 ∧ yX9_print.cls ≠ "java/lang/invoke/MethodHandle" ∧ yX9_print.cls ≠ "java/lang/invoke/VarHandle" ∧ (parseMethodDescriptor yX9_print.desc).map (fun d => d.parameters.length) = some 1 := by decide +kernel
set_option maxRecDepth 100000 in
set_option maxHeartbeats 4000000 in
theorem c9_print (l : Launch) {D : va_G} {cI cW cZ cL : ClassId} {ad : Nat → Nat} (hJ : injA ad 27) (S : sM) (i : Nat) (hi : i < 12) (hI : IM S)  : kMv l yX9_print wsX9_print ({ frames := 2, cells := 0, slots := 0, locals := 47 }) D vwCl (tyL cI cW cZ cL) ad 27 [.ref (ad 0), .int (nI i)] (PM cI cZ ad S) (PM cI cZ ad (mPr S i)) := by
  refine vv_enter (cc := cX9_print) (maxL := 4) (ret := none) (own := RX9) (lv := [(0, .ref (ad 0)), (1, .int (nI i))]) (by decide +kernel) rfl rfl hJ (Nat.le_of_ble_eq_true rfl) rfl ?_
  intro p e s m args below meth c hC hK hW hr hlk
  obtain ⟨iW, iR, iV, iI, iC, iK, iD, irow, ianc, iwr, icl, icc, irv⟩ := id hI
  refine vv_aload_n hC 0 dX9_print_0 rfl rfl (q := 1) rfl ?_
  refine vv_get hC hK (K := RX9) (T := TX9) (N := 35) (ci := 9) inwX9_print_X9 0 (by decide) (fs := fldM ad S) om0 rfl 28 (by decide) (List.mem_of_getElem? (i := 1) rfl) rfl (v := .ref (ad 23)) rfl dX9_print_1 (q := 4) rfl ?_
  refine vv_iload_n hC 1 dX9_print_4 rfl rfl (q := 5) rfl ?_
  refine vv_iconst hC (v := nI 0) dX9_print_5 rfl (q := 6) rfl ?_
  refine vv_iastN (P := PM cI cZ ad S) hC hK hW (P1 := PM cI cZ ad (sA S 23 (upd (S.2 23) i (nI 0)))) 23 (by decide) 0 (g := S.2 23) (omI (by decide) rfl) rfl (show i < 12 from (by omega)) (by decide) (om_aI (j := 23) (by decide) rfl _) dX9_print_6 (q := 7) rfl ?_
  refine vv_aload_n hC 0 dX9_print_7 rfl rfl (q := 8) rfl ?_
  refine vv_iconst hC (v := nI 0) dX9_print_8 rfl (q := 9) rfl ?_
  refine vv_calli hC hK (fun _ h => h) (As := [.int (nI 0)]) 0 (by decide) or9 rfl (c9_waitingAt l hJ (sA S 23 (upd (S.2 23) i (nI 0))) 0 hI) (cwV 1 hC.2.2.2.2 gX9_print_X9_waitingAt rfl rfl rfl hdX9_waitingAt ⟨Nat.le_of_ble_eq_true rfl, Nat.le_of_ble_eq_true rfl⟩) rfl rfl (Nat.le_of_ble_eq_true rfl) ⟨Nat.le_of_ble_eq_true rfl, Nat.le_of_ble_eq_true rfl⟩ dX9_print_9 (q := 12) rfl ?_
  refine vv_istore_n hC (i := 2) (lv' := [(2, .int (mWt (sA S 23 (upd (S.2 23) i (nI 0))) 0)), (0, .ref (ad 0)), (1, .int (nI i))]) dX9_print_12 rfl (by decide) rfl (q := 13) rfl ?_
  have loop13 : ∀ (fu : Nat) (T : sM) (r : Nat), IM T → dnG (T.2 16) (T.1 17) < r → r < fu → mPrF i r T = mPr S i → vv p l e (headSpec wsX9_print ({ frames := 2, cells := 0, slots := 0, locals := 47 })).room s m args below meth c 4 (RA ad 27) s.heap 0 0 (MQ below (va_Qv (fun (_ : Unit) => True) (fun _ => ws0 D vwCl (tyL cI cW cZ cL) ad 27 (PM cI cZ ad (mPr S i))) (RA ad 27)) args s 0 0 (RA ad 27)) (wq D vwCl ad 27 (PM cI cZ ad T)) 13 [(0, .ref (ad 0)), (1, .int (nI i)), (2, .int (mWt T 0))] [] := by
    intro fu
    induction fu with
    | zero =>
      intro T r hIT hdn hfu hres
      exact absurd hfu (Nat.not_lt_zero _)
    | succ fu ih =>
      intro T r hIT hdn hfu hres
      refine vv_iload_n hC 2 dX9_print_13 rfl rfl (q := 14) rfl ?_
      refine vv_iconst hC (v := (-1)) dX9_print_14 rfl (q := 15) rfl ?_
      refine vv_icmp_eq hC (tgt := 121) dX9_print_15 (by decide) (q := 18) rfl (fun h15 => ?_) (fun h15 => ?_)
      · skip
        exact vv_vret hC hK hr hlk (fun f h => by rw [← hres]; cases r with | zero => exact absurd hdn (Nat.not_lt_zero _) | succ r => rw [mPrF, if_pos h15]; exact h) dX9_print_121
      · skip
        obtain ⟨jW, jR, jV, jI, jC, jK, jD, jrow, janc, jwr, jcl, jcc, jrv⟩ := id hIT
        obtain ⟨ew, lw, sw⟩ := mWt_in h15 jV
        obtain ⟨r, rfl⟩ : ∃ r2, r = r2 + 1 := ⟨r - 1, by omega⟩
        refine vv_eql (lv' := [(0, .ref (ad 0)), (1, .int (nI i)), (2, .int (nI (tn (mWt T 0))))]) (by rw [← ew]) ?_
        refine vv_aload_n hC 0 dX9_print_18 rfl rfl (q := 19) rfl ?_
        refine vv_get hC hK (K := RX9) (T := TX9) (N := 35) (ci := 9) inwX9_print_X9 0 (by decide) (fs := fldM ad T) om0 rfl 28 (by decide) (List.mem_of_getElem? (i := 1) rfl) rfl (v := .ref (ad 23)) rfl dX9_print_19 (q := 22) rfl ?_
        refine vv_iload_n hC 1 dX9_print_22 rfl rfl (q := 23) rfl ?_
        refine vv_ialdN (P := PM cI cZ ad T) hC hK 23 (by decide) 0 (g := T.2 23) (omI (by decide) rfl) rfl (show i < 12 from (by omega)) (by decide) dX9_print_23 (q := 24) rfl ?_
        refine vv_aload_n hC 0 dX9_print_24 rfl rfl (q := 25) rfl ?_
        refine vv_get hC hK (K := RX9) (T := TX9) (N := 35) (ci := 9) inwX9_print_X9 0 (by decide) (fs := fldM ad T) om0 rfl 20 (by decide) (List.mem_of_getElem? (i := 2) rfl) rfl (v := .ref (ad 17)) rfl dX9_print_25 (q := 28) rfl ?_
        refine vv_iload_n hC 2 dX9_print_28 rfl rfl (q := 29) rfl ?_
        refine vv_ialdN (P := PM cI cZ ad T) hC hK 17 (by decide) 0 (g := T.2 17) (omI (by decide) rfl) rfl (show tn (mWt T 0) < 30 from (by omega)) (by decide) dX9_print_29 (q := 30) rfl ?_
        refine vv_iadd hC dX9_print_30 (q := 31) rfl ?_
        refine vv_aload_n hC 0 dX9_print_31 rfl rfl (q := 32) rfl ?_
        refine vv_get hC hK (K := RX9) (T := TX9) (N := 35) (ci := 9) inwX9_print_X9 0 (by decide) (fs := fldM ad T) om0 rfl 27 (by decide) (List.mem_of_getElem? (i := 3) rfl) rfl (v := .ref (ad 22)) rfl dX9_print_32 (q := 35) rfl ?_
        refine vv_iload_n hC 1 dX9_print_35 rfl rfl (q := 36) rfl ?_
        refine vv_ialdN (P := PM cI cZ ad T) hC hK 22 (by decide) 0 (g := T.2 22) (omI (by decide) rfl) rfl (show i < 12 from (by omega)) (by decide) dX9_print_36 (q := 37) rfl ?_
        refine vv_icmp_gt hC (tgt := 121) dX9_print_37 (by decide) (q := 40) rfl (fun h37 => ?_) (fun h37 => ?_)
        · skip
          exact vv_vret hC hK hr hlk (fun f h => by rw [← hres, mPrF, if_neg h15, if_neg (Int32.not_le.mpr h37)]; exact h) dX9_print_121
        · skip
          refine vv_aload_n hC 0 dX9_print_40 rfl rfl (q := 41) rfl ?_
          refine vv_get hC hK (K := RX9) (T := TX9) (N := 35) (ci := 9) inwX9_print_X9 0 (by decide) (fs := fldM ad T) om0 rfl 28 (by decide) (List.mem_of_getElem? (i := 1) rfl) rfl (v := .ref (ad 23)) rfl dX9_print_41 (q := 44) rfl ?_
          refine vv_iload_n hC 1 dX9_print_44 rfl rfl (q := 45) rfl ?_
          refine vv_dup2 hC dX9_print_45 rfl rfl (q := 46) rfl ?_
          refine vv_ialdN (P := PM cI cZ ad T) hC hK 23 (by decide) 0 (g := T.2 23) (omI (by decide) rfl) rfl (show i < 12 from (by omega)) (by decide) dX9_print_46 (q := 47) rfl ?_
          refine vv_aload_n hC 0 dX9_print_47 rfl rfl (q := 48) rfl ?_
          refine vv_get hC hK (K := RX9) (T := TX9) (N := 35) (ci := 9) inwX9_print_X9 0 (by decide) (fs := fldM ad T) om0 rfl 20 (by decide) (List.mem_of_getElem? (i := 2) rfl) rfl (v := .ref (ad 17)) rfl dX9_print_48 (q := 51) rfl ?_
          refine vv_iload_n hC 2 dX9_print_51 rfl rfl (q := 52) rfl ?_
          refine vv_ialdN (P := PM cI cZ ad T) hC hK 17 (by decide) 0 (g := T.2 17) (omI (by decide) rfl) rfl (show tn (mWt T 0) < 30 from (by omega)) (by decide) dX9_print_52 (q := 53) rfl ?_
          refine vv_iadd hC dX9_print_53 (q := 54) rfl ?_
          refine vv_iastN (P := PM cI cZ ad T) hC hK hW (P1 := PM cI cZ ad (sA T 23 (upd (T.2 23) i ((T.2 23 i) + (T.2 17 (tn (mWt T 0))))))) 23 (by decide) 0 (g := T.2 23) (omI (by decide) rfl) rfl (show i < 12 from (by omega)) (by decide) (om_aI (j := 23) (by decide) rfl _) dX9_print_54 (q := 55) rfl ?_
          refine vv_aload_n hC 0 dX9_print_55 rfl rfl (q := 56) rfl ?_
          refine vv_get hC hK (K := RX9) (T := TX9) (N := 35) (ci := 9) inwX9_print_X9 0 (by decide) (fs := fldM ad (sA T 23 (upd (T.2 23) i ((T.2 23 i) + (T.2 17 (tn (mWt T 0))))))) om0 rfl 19 (by decide) (List.mem_of_getElem? (i := 4) rfl) rfl (v := .ref (ad 16)) rfl dX9_print_56 (q := 59) rfl ?_
          refine vv_iload_n hC 2 dX9_print_59 rfl rfl (q := 60) rfl ?_
          refine vv_iconst hC (v := nI 3) dX9_print_60 rfl (q := 61) rfl ?_
          refine vv_iastN (P := PM cI cZ ad (sA T 23 (upd (T.2 23) i ((T.2 23 i) + (T.2 17 (tn (mWt T 0))))))) hC hK hW (P1 := PM cI cZ ad (sA (sA T 23 (upd (T.2 23) i ((T.2 23 i) + (T.2 17 (tn (mWt T 0)))))) 16 (upd (T.2 16) (tn (mWt T 0)) (nI 3)))) 16 (by decide) 0 (g := T.2 16) (omI (by decide) rfl) rfl (show tn (mWt T 0) < 30 from (by omega)) (by decide) (om_aI (j := 16) (by decide) rfl _) dX9_print_61 (q := 62) rfl ?_
          refine vv_iconst hC (v := nI 0) dX9_print_62 rfl (q := 63) rfl ?_
          refine vv_istore_n hC (i := 3) (lv' := [(3, .int (nI 0)), (0, .ref (ad 0)), (1, .int (nI i)), (2, .int (nI (tn (mWt T 0))))]) dX9_print_63 rfl (by decide) rfl (q := 64) rfl ?_
          have loop64 : ∀ (fu : Nat) (k : Nat), T.1 1 < k + fu → k ≤ T.1 1 → vv p l e (headSpec wsX9_print ({ frames := 2, cells := 0, slots := 0, locals := 47 })).room s m args below meth c 4 (RA ad 27) s.heap 0 0 (MQ below (va_Qv (fun (_ : Unit) => True) (fun _ => ws0 D vwCl (tyL cI cW cZ cL) ad 27 (PM cI cZ ad (mPr S i))) (RA ad 27)) args s 0 0 (RA ad 27)) (wq D vwCl ad 27 (PM cI cZ ad (sA (sA (sA T 23 (upd (T.2 23) i (T.2 23 i + T.2 17 (tn (mWt T 0))))) 16 (upd (T.2 16) (tn (mWt T 0)) (nI 3))) 12 (mRoy T (nI (tn (mWt T 0))) k)))) 64 [(0, .ref (ad 0)), (1, .int (nI i)), (2, .int (nI (tn (mWt T 0)))), (3, .int (nI k))] [] := by
            intro fu
            induction fu with
            | zero =>
              intro k hfu2 hk
              exact absurd hfu2 (by omega)
            | succ fu ih2 =>
              intro k hfu2 hk
              refine vv_iload_n hC 3 dX9_print_64 rfl rfl (q := 65) rfl ?_
              refine vv_aload_n hC 0 dX9_print_65 rfl rfl (q := 66) rfl ?_
              refine vv_get hC hK (K := RX9) (T := TX9) (N := 35) (ci := 9) inwX9_print_X9 0 (by decide) (fs := fldM ad (sA (sA (sA T 23 (upd (T.2 23) i (T.2 23 i + T.2 17 (tn (mWt T 0))))) 16 (upd (T.2 16) (tn (mWt T 0)) (nI 3))) 12 (mRoy T (nI (tn (mWt T 0))) k))) om0 rfl 1 (by decide) (List.mem_of_getElem? (i := 5) rfl) rfl (v := .int (nI (T.1 1))) rfl dX9_print_66 (q := 69) rfl ?_
              refine vv_icmpN_ge hC (tgt := 107) (by omega) (by omega) dX9_print_69 (by decide) (q := 72) rfl (fun h69 => ?_) (fun h69 => ?_)
              · skip
                obtain rfl : k = T.1 1 := by omega
                refine vv_aload_n hC 0 dX9_print_107 rfl rfl (q := 108) rfl ?_
                refine vv_iload_n hC 2 dX9_print_108 rfl rfl (q := 109) rfl ?_
                refine vv_callv hC hK (fun _ h => h) (As := [.int (nI (tn (mWt T 0)))]) 0 (by decide) or9 rfl (c9_thaw l hJ (sA (sA (sA T 23 (upd (T.2 23) i (T.2 23 i + T.2 17 (tn (mWt T 0))))) 16 (upd (T.2 16) (tn (mWt T 0)) (nI 3))) 12 (mRoy T (nI (tn (mWt T 0))) (T.1 1))) (nI (tn (mWt T 0))) hIT) (cwV 1 hC.2.2.2.2 gX9_print_X9_thaw rfl rfl rfl hdX9_thaw ⟨Nat.le_of_ble_eq_true rfl, Nat.le_of_ble_eq_true rfl⟩) rfl rfl (Nat.le_of_ble_eq_true rfl) ⟨Nat.le_of_ble_eq_true rfl, Nat.le_of_ble_eq_true rfl⟩ dX9_print_109 (q := 112) rfl ?_
                refine vv_aload_n hC 0 dX9_print_112 rfl rfl (q := 113) rfl ?_
                refine vv_iconst hC (v := nI 0) dX9_print_113 rfl (q := 114) rfl ?_
                refine vv_calli hC hK (fun _ h => h) (As := [.int (nI 0)]) 0 (by decide) or9 rfl (c9_waitingAt l hJ (mThaw (sA (sA (sA T 23 (upd (T.2 23) i (T.2 23 i + T.2 17 (tn (mWt T 0))))) 16 (upd (T.2 16) (tn (mWt T 0)) (nI 3))) 12 (mRoy T (nI (tn (mWt T 0))) (T.1 1))) (nI (tn (mWt T 0)))) 0 hIT) (cwV 1 hC.2.2.2.2 gX9_print_X9_waitingAt rfl rfl rfl hdX9_waitingAt ⟨Nat.le_of_ble_eq_true rfl, Nat.le_of_ble_eq_true rfl⟩) rfl rfl (Nat.le_of_ble_eq_true rfl) ⟨Nat.le_of_ble_eq_true rfl, Nat.le_of_ble_eq_true rfl⟩ dX9_print_114 (q := 117) rfl ?_
                refine vv_istore_n hC (i := 2) (lv' := [(2, .int (mWt (mThaw (sA (sA (sA T 23 (upd (T.2 23) i (T.2 23 i + T.2 17 (tn (mWt T 0))))) 16 (upd (T.2 16) (tn (mWt T 0)) (nI 3))) 12 (mRoy T (nI (tn (mWt T 0))) (T.1 1))) (nI (tn (mWt T 0)))) 0)), (0, .ref (ad 0)), (1, .int (nI i)), (3, .int (nI (T.1 1)))]) dX9_print_117 rfl (by decide) rfl (q := 118) rfl ?_
                refine vv_goto hC (tgt := 13) dX9_print_118 (by decide) ?_
                refine vv_lv [1, 2, 0] (lv' := [(0, .ref (ad 0)), (1, .int (nI i)), (2, .int (mWt (mThaw (sA (sA (sA T 23 (upd (T.2 23) i (T.2 23 i + T.2 17 (tn (mWt T 0))))) 16 (upd (T.2 16) (tn (mWt T 0)) (nI 3))) 12 (mRoy T (nI (tn (mWt T 0))) (T.1 1))) (nI (tn (mWt T 0)))) 0))]) rfl ?_
                exact ih (mPrN T i (tn (mWt T 0))) r hIT (Nat.lt_of_succ_lt_succ (Nat.lt_of_le_of_lt (Nat.le_of_eq (dnG_up sw (T.1 17) lw)) hdn)) (by omega) (by rw [← hres, mPrF, if_neg h15, if_pos (Int32.not_lt.mp h37)])
              · skip
                refine vv_aload_n hC 0 dX9_print_72 rfl rfl (q := 73) rfl ?_
                refine vv_get hC hK (K := RX9) (T := TX9) (N := 35) (ci := 9) inwX9_print_X9 0 (by decide) (fs := fldM ad (sA (sA (sA T 23 (upd (T.2 23) i (T.2 23 i + T.2 17 (tn (mWt T 0))))) 16 (upd (T.2 16) (tn (mWt T 0)) (nI 3))) 12 (mRoy T (nI (tn (mWt T 0))) k))) om0 rfl 14 (by decide) (List.mem_of_getElem? (i := 6) rfl) rfl (v := .ref (ad 12)) rfl dX9_print_73 (q := 76) rfl ?_
                refine vv_aload_n hC 0 dX9_print_76 rfl rfl (q := 77) rfl ?_
                refine vv_get hC hK (K := RX9) (T := TX9) (N := 35) (ci := 9) inwX9_print_X9 0 (by decide) (fs := fldM ad (sA (sA (sA T 23 (upd (T.2 23) i (T.2 23 i + T.2 17 (tn (mWt T 0))))) 16 (upd (T.2 16) (tn (mWt T 0)) (nI 3))) 12 (mRoy T (nI (tn (mWt T 0))) k))) om0 rfl 3 (by decide) (List.mem_of_getElem? (i := 7) rfl) rfl (v := .ref (ad 2)) rfl dX9_print_77 (q := 80) rfl ?_
                refine vv_iload_n hC 3 dX9_print_80 rfl rfl (q := 81) rfl ?_
                refine vv_ialdN (P := PM cI cZ ad (sA (sA (sA T 23 (upd (T.2 23) i (T.2 23 i + T.2 17 (tn (mWt T 0))))) 16 (upd (T.2 16) (tn (mWt T 0)) (nI 3))) 12 (mRoy T (nI (tn (mWt T 0))) k))) hC hK 2 (by decide) 0 (g := T.2 2) (omI (by decide) rfl) rfl (show k < 300 from (by omega)) (by decide) dX9_print_81 (q := 82) rfl ?_
                refine vv_eqv (st' := [.int (nI (tn (T.2 2 k))), .ref (ad 12)]) (by rw [← (jwr k (by omega)).1]) ?_
                refine vv_dup2 hC dX9_print_82 rfl rfl (q := 83) rfl ?_
                refine vv_ialdN (P := PM cI cZ ad (sA (sA (sA T 23 (upd (T.2 23) i (T.2 23 i + T.2 17 (tn (mWt T 0))))) 16 (upd (T.2 16) (tn (mWt T 0)) (nI 3))) 12 (mRoy T (nI (tn (mWt T 0))) k))) hC hK 12 (by decide) 0 (g := mRoy T (nI (tn (mWt T 0))) k) (omI (by decide) rfl) rfl (show tn (T.2 2 k) < 6 from (by have := (jwr k (by omega)).2; omega)) (by decide) dX9_print_83 (q := 84) rfl ?_
                refine vv_aload_n hC 0 dX9_print_84 rfl rfl (q := 85) rfl ?_
                refine vv_get hC hK (K := RX9) (T := TX9) (N := 35) (ci := 9) inwX9_print_X9 0 (by decide) (fs := fldM ad (sA (sA (sA T 23 (upd (T.2 23) i (T.2 23 i + T.2 17 (tn (mWt T 0))))) 16 (upd (T.2 16) (tn (mWt T 0)) (nI 3))) 12 (mRoy T (nI (tn (mWt T 0))) k))) om0 rfl 7 (by decide) (List.mem_of_getElem? (i := 8) rfl) rfl (v := .ref (ad 6)) rfl dX9_print_85 (q := 88) rfl ?_
                refine vv_iload_n hC 3 dX9_print_88 rfl rfl (q := 89) rfl ?_
                refine vv_ialdN (P := PM cI cZ ad (sA (sA (sA T 23 (upd (T.2 23) i (T.2 23 i + T.2 17 (tn (mWt T 0))))) 16 (upd (T.2 16) (tn (mWt T 0)) (nI 3))) 12 (mRoy T (nI (tn (mWt T 0))) k))) hC hK 6 (by decide) 0 (g := T.2 6) (omI (by decide) rfl) rfl (show k < 300 from (by omega)) (by decide) dX9_print_89 (q := 90) rfl ?_
                refine vv_iload_n hC 2 dX9_print_90 rfl rfl (q := 91) rfl ?_
                refine vv_icmp_ne hC (tgt := 98) dX9_print_91 (by decide) (q := 94) rfl (fun h91 => ?_) (fun h91 => ?_)
                · skip
                  refine vv_iconst hC (v := nI 0) dX9_print_98 rfl (q := 99) rfl ?_
                  refine vv_iadd hC dX9_print_99 (q := 100) rfl ?_
                  refine vv_iastN (P := PM cI cZ ad (sA (sA (sA T 23 (upd (T.2 23) i (T.2 23 i + T.2 17 (tn (mWt T 0))))) 16 (upd (T.2 16) (tn (mWt T 0)) (nI 3))) 12 (mRoy T (nI (tn (mWt T 0))) k))) hC hK hW (P1 := PM cI cZ ad (sA (sA (sA T 23 (upd (T.2 23) i (T.2 23 i + T.2 17 (tn (mWt T 0))))) 16 (upd (T.2 16) (tn (mWt T 0)) (nI 3))) 12 (upd (mRoy T (nI (tn (mWt T 0))) k) (tn (T.2 2 k)) (((mRoy T (nI (tn (mWt T 0))) k) (tn (T.2 2 k))) + (nI 0))))) 12 (by decide) 0 (g := mRoy T (nI (tn (mWt T 0))) k) (omI (by decide) rfl) rfl (show tn (T.2 2 k) < 6 from (by have := (jwr k (by omega)).2; omega)) (by decide) (fun f h => by rw [← sA_sA (g := mRoy T (nI (tn (mWt T 0))) k)]; exact om_aI (j := 12) (by decide) rfl _ f h) dX9_print_100 (q := 101) rfl ?_
                  refine vv_iinc hC (i := 3) (v := nI (k + 1)) (lv' := [(3, .int (nI (k + 1))), (0, .ref (ad 0)), (1, .int (nI i)), (2, .int (nI (tn (mWt T 0))))]) 3 dX9_print_101 rfl (nI_1 k) (by decide) rfl (q := 104) rfl ?_
                  refine vv_goto hC (tgt := 64) dX9_print_104 (by decide) ?_
                  refine vv_lv [1, 2, 3, 0] (lv' := [(0, .ref (ad 0)), (1, .int (nI i)), (2, .int (nI (tn (mWt T 0)))), (3, .int (nI (k + 1)))]) rfl ?_
                  refine vv_wq (P1 := PM cI cZ ad (sA (sA (sA T 23 (upd (T.2 23) i (T.2 23 i + T.2 17 (tn (mWt T 0))))) 16 (upd (T.2 16) (tn (mWt T 0)) (nI 3))) 12 (mRoy T (nI (tn (mWt T 0))) (k + 1)))) (fun f h => by rw [mRoy, if_neg h91]; exact h) ?_
                  exact ih2 (k + 1) (by omega) (by omega)
                · skip
                  refine vv_iconst hC (v := nI 5) dX9_print_94 rfl (q := 95) rfl ?_
                  refine vv_goto hC (tgt := 99) dX9_print_95 (by decide) ?_
                  refine vv_iadd hC dX9_print_99 (q := 100) rfl ?_
                  refine vv_iastN (P := PM cI cZ ad (sA (sA (sA T 23 (upd (T.2 23) i (T.2 23 i + T.2 17 (tn (mWt T 0))))) 16 (upd (T.2 16) (tn (mWt T 0)) (nI 3))) 12 (mRoy T (nI (tn (mWt T 0))) k))) hC hK hW (P1 := PM cI cZ ad (sA (sA (sA T 23 (upd (T.2 23) i (T.2 23 i + T.2 17 (tn (mWt T 0))))) 16 (upd (T.2 16) (tn (mWt T 0)) (nI 3))) 12 (upd (mRoy T (nI (tn (mWt T 0))) k) (tn (T.2 2 k)) (((mRoy T (nI (tn (mWt T 0))) k) (tn (T.2 2 k))) + (nI 5))))) 12 (by decide) 0 (g := mRoy T (nI (tn (mWt T 0))) k) (omI (by decide) rfl) rfl (show tn (T.2 2 k) < 6 from (by have := (jwr k (by omega)).2; omega)) (by decide) (fun f h => by rw [← sA_sA (g := mRoy T (nI (tn (mWt T 0))) k)]; exact om_aI (j := 12) (by decide) rfl _ f h) dX9_print_100 (q := 101) rfl ?_
                  refine vv_iinc hC (i := 3) (v := nI (k + 1)) (lv' := [(3, .int (nI (k + 1))), (0, .ref (ad 0)), (1, .int (nI i)), (2, .int (nI (tn (mWt T 0))))]) 3 dX9_print_101 rfl (nI_1 k) (by decide) rfl (q := 104) rfl ?_
                  refine vv_goto hC (tgt := 64) dX9_print_104 (by decide) ?_
                  refine vv_lv [1, 2, 3, 0] (lv' := [(0, .ref (ad 0)), (1, .int (nI i)), (2, .int (nI (tn (mWt T 0)))), (3, .int (nI (k + 1)))]) rfl ?_
                  refine vv_wq (P1 := PM cI cZ ad (sA (sA (sA T 23 (upd (T.2 23) i (T.2 23 i + T.2 17 (tn (mWt T 0))))) 16 (upd (T.2 16) (tn (mWt T 0)) (nI 3))) 12 (mRoy T (nI (tn (mWt T 0))) (k + 1)))) (fun f h => by rw [mRoy, if_pos h91]; exact h) ?_
                  exact ih2 (k + 1) (by omega) (by omega)
          refine vv_lv [1, 2, 3, 0] (lv' := [(0, .ref (ad 0)), (1, .int (nI i)), (2, .int (nI (tn (mWt T 0)))), (3, .int (nI 0))]) rfl ?_
          refine vv_wq (P1 := PM cI cZ ad (sA (sA (sA T 23 (upd (T.2 23) i (T.2 23 i + T.2 17 (tn (mWt T 0))))) 16 (upd (T.2 16) (tn (mWt T 0)) (nI 3))) 12 (mRoy T (nI (tn (mWt T 0))) 0))) (fun f h => by rw [show mRoy T (nI (tn (mWt T 0))) 0 = (sA (sA T 23 (upd (T.2 23) i (T.2 23 i + T.2 17 (tn (mWt T 0))))) 16 (upd (T.2 16) (tn (mWt T 0)) (nI 3))).2 12 from rfl, sA_id]; exact h) ?_
          exact loop64 301 0 (by omega) (Nat.zero_le _)
  refine vv_lv [1, 2, 0] (lv' := [(0, .ref (ad 0)), (1, .int (nI i)), (2, .int (mWt (sA S 23 (upd (S.2 23) i (nI 0))) 0))]) rfl ?_
  exact loop13 32 (sA S 23 (upd (S.2 23) i (nI 0))) 31 hI (Nat.lt_of_le_of_lt (dnG_le _ _) (Nat.lt_succ_of_le iV)) (by omega) rfl
theorem inB_1 {v : Int32} (h : inB v 1 100 = true) : v = nI (tn v) ∧ tn v ≤ 100 := by
  obtain ⟨h1, h2⟩ := inB_t h
  exact inB_n (b := 100) (by decide) (by rw [inB, decide_eq_true (Int32.le_trans (by decide) h1), decide_eq_true (show v ≤ nI 100 from h2)]; rfl)
theorem inwX9_pass_X9 : ∀ w ∈ wsX90, w ∈ wsX9_pass := fun _ h => List.mem_cons_of_mem _ (List.mem_append_right _ h)
theorem hdX9_pass : yX9_pass.cls = RX9 ∧ yX9_pass.cls ≠ "java/lang/invoke/MethodHandle" ∧ yX9_pass.cls ≠ "java/lang/invoke/VarHandle" ∧ (parseMethodDescriptor yX9_pass.desc).map (fun d => d.parameters.length) = some 1 := by decide +kernel
set_option maxRecDepth 100000 in
set_option maxHeartbeats 4000000 in
theorem c9_pass (l : Launch) {D : va_G} {cI cW cZ cL : ClassId} {ad : Nat → Nat} (hJ : injA ad 27) (S : sM) (d : Int32) (hI : IM S)  : kMi l yX9_pass wsX9_pass ({ frames := 3, cells := 0, slots := 0, locals := 70 }) D vwCl (tyL cI cW cZ cL) ad 27 [.ref (ad 0), .int d] (PM cI cZ ad S) (if mtPs S d = 0 then (mPas S (tn d)).2 else 0) (PM cI cZ ad (if mtPs S d = 0 then (mPas S (tn d)).1 else sS S 0 (mtPs S d))) := by
  refine vv_enter (cc := cX9_pass) (maxL := 6) (ret := (some .int)) (own := RX9) (lv := [(0, .ref (ad 0)), (1, .int d)]) (by decide +kernel) rfl rfl hJ (Nat.le_of_ble_eq_true rfl) rfl ?_
  intro p e s m args below meth c hC hK hW hr hlk
  obtain ⟨iW, iR, iV, iI, iC, iK, iD, irow, ianc, iwr, icl, icc, irv⟩ := id hI
  refine vv_iload_n hC 1 dX9_pass_0 rfl rfl (q := 1) rfl ?_
  refine vv_iconst hC (v := nI 1) dX9_pass_1 rfl (q := 2) rfl ?_
  refine vv_bipush hC (v := nI 100) dX9_pass_2 rfl (q := 4) rfl ?_
  refine vv_callsi hC hK (fun _ h => h) (As := [.int d, .int (nI 1), .int (nI 100)]) (c9_in l hJ S d 1 100) (va_cwS 3 hC.2.2.2.2 gX9_pass_X9_in rfl rfl rfl hsX9_in ⟨Nat.le_of_ble_eq_true rfl, Nat.le_of_ble_eq_true rfl⟩) rfl rfl (Nat.le_of_ble_eq_true rfl) ⟨Nat.le_of_ble_eq_true rfl, Nat.le_of_ble_eq_true rfl⟩ dX9_pass_4 (q := 7) rfl ?_
  refine vv_istore_n hC (i := 2) (lv' := [(2, .int (bI (inB d 1 100))), (0, .ref (ad 0)), (1, .int d)]) dX9_pass_7 rfl (by decide) rfl (q := 8) rfl ?_
  refine vv_aload_n hC 1 dX9_pass_8 rfl rfl (q := 9) rfl ?_
  refine vv_iload_n hC 0 dX9_pass_9 rfl rfl (q := 10) rfl ?_
  refine vv_if_ne hC (tgt := 17) dX9_pass_10 (by decide) (q := 13) rfl (fun h10 => ?_) (fun h10 => ?_)
  · skip
    obtain ⟨hdn, hdl⟩ := inB_1 (bI_1 h10)
    refine vv_eql (lv' := [(2, .int (bI (inB d 1 100))), (0, .ref (ad 0)), (1, .int (nI (tn d)))]) (by rw [← hdn]) ?_
    refine vv_aload_n hC 1 dX9_pass_17 rfl rfl (q := 18) rfl ?_
    refine vv_get hC hK (K := RX9) (T := TX9) (N := 35) (ci := 9) inwX9_pass_X9 0 (by decide) (fs := fldM ad S) om0 rfl 29 (by decide) (List.mem_of_getElem? (i := 1) rfl) rfl (v := .int (nI (S.1 29))) rfl dX9_pass_18 (q := 21) rfl ?_
    refine vv_iload_n hC 2 dX9_pass_21 rfl rfl (q := 22) rfl ?_
    refine vv_iaddN hC dX9_pass_22 (q := 23) rfl ?_
    refine vv_sipush hC (v := nI 1000) dX9_pass_23 rfl (q := 26) rfl ?_
    refine vv_icmpN_le hC (tgt := 33) (by omega) (by omega) dX9_pass_26 (by decide) (q := 29) rfl (fun h26 => ?_) (fun h26 => ?_)
    · skip
      refine vv_iconst hC (v := nI 0) dX9_pass_33 rfl (q := 34) rfl ?_
      refine vv_calli hC hK (fun _ h => h) (As := [.int (nI 0)]) 0 (by decide) or9 rfl (c9_goesWell l hJ S 0 (by decide)) (cwV 1 hC.2.2.2.2 gX9_pass_X9_goesWell rfl rfl rfl hdX9_goesWell ⟨Nat.le_of_ble_eq_true rfl, Nat.le_of_ble_eq_true rfl⟩) rfl rfl (Nat.le_of_ble_eq_true rfl) ⟨Nat.le_of_ble_eq_true rfl, Nat.le_of_ble_eq_true rfl⟩ dX9_pass_34 (q := 37) rfl ?_
      refine vv_eqv (st' := [.int (nI 1)]) rfl ?_
      refine vv_if_ne hC (tgt := 42) dX9_pass_37 (by decide) (q := 40) rfl (fun _ => ?_) (fun h => absurd h (by decide))
      refine vv_iconst hC (v := nI 0) dX9_pass_42 rfl (q := 43) rfl ?_
      refine vv_istore_n hC (i := 3) (lv' := [(3, .int (nI 0)), (2, .int (bI (inB d 1 100))), (0, .ref (ad 0)), (1, .int (nI (tn d)))]) dX9_pass_43 rfl (by decide) rfl (q := 44) rfl ?_
      refine vv_iconst hC (v := nI 0) dX9_pass_44 rfl (q := 45) rfl ?_
      refine vv_istore hC (i := 4) (lv' := [(4, .int (nI 0)), (3, .int (nI 0)), (2, .int (bI (inB d 1 100))), (0, .ref (ad 0)), (1, .int (nI (tn d)))]) dX9_pass_45 (by decide) rfl (q := 47) rfl ?_
      have loop47 : ∀ (fu : Nat) (T : sM) (sm : Int32) (k : Nat), mPas S k = (T, sm) → IM T → T.1 29 = S.1 29 + k → tn d < k + fu → k ≤ tn d → vv p l e (headSpec wsX9_pass ({ frames := 3, cells := 0, slots := 0, locals := 70 })).room s m args below meth c 6 (RA ad 27) s.heap 0 0 (MQ below (va_Qi (fun r' (_ : Unit) => r' = (if mtPs S d = 0 then (mPas S (tn d)).2 else 0)) (fun _ => ws0 D vwCl (tyL cI cW cZ cL) ad 27 (PM cI cZ ad (if mtPs S d = 0 then (mPas S (tn d)).1 else sS S 0 (mtPs S d)))) (RA ad 27)) args s 0 0 (RA ad 27)) (wq D vwCl ad 27 (PM cI cZ ad T)) 47 [(0, .ref (ad 0)), (1, .int (nI (tn d))), (2, .int (bI (inB d 1 100))), (3, .int sm), (4, .int (nI k))] [] := by
        intro fu
        induction fu with
        | zero =>
          intro T sm k hPT hIT hT29 hfu hk
          exact absurd hfu (by omega)
        | succ fu ih =>
          intro T sm k hPT hIT hT29 hfu hk
          refine vv_iload hC 4 dX9_pass_47 rfl (q := 49) rfl ?_
          refine vv_iload_n hC 1 dX9_pass_49 rfl rfl (q := 50) rfl ?_
          refine vv_icmpN_ge hC (tgt := 117) (by omega) (by omega) dX9_pass_50 (by decide) (q := 53) rfl (fun h50 => ?_) (fun h50 => ?_)
          · skip
            obtain rfl : k = tn d := by omega
            refine vv_iload_n hC 3 dX9_pass_117 rfl rfl (q := 118) rfl ?_
            have hT : mtPs S d = 0 := by simp only [mtPs, bI_1 h10, h26, h50, Bool.false_eq_true, true_and, and_true, false_and, and_false, and_self, not_true, not_false_iff, or_true, true_or, or_false, false_or, if_true, if_false, reduceIte]
            exact vv_iret hC hK hr hlk (by rw [if_pos hT]; rw [hPT]) (fun f h => by rw [if_pos hT]; rw [hPT]; exact h) dX9_pass_118
          · skip
            refine vv_aload_n hC 0 dX9_pass_53 rfl rfl (q := 54) rfl ?_
            refine vv_dup hC dX9_pass_54 rfl (q := 55) rfl ?_
            refine vv_get hC hK (K := RX9) (T := TX9) (N := 35) (ci := 9) inwX9_pass_X9 0 (by decide) (fs := fldM ad T) om0 rfl 29 (by decide) (List.mem_of_getElem? (i := 1) rfl) rfl (v := .int (nI (T.1 29))) rfl dX9_pass_55 (q := 58) rfl ?_
            refine vv_iconst hC (v := nI 1) dX9_pass_58 rfl (q := 59) rfl ?_
            refine vv_iaddN hC dX9_pass_59 (q := 60) rfl ?_
            refine vv_put hC hK hW (P1 := PM cI cZ ad (sS T 29 ((T.1 29) + 1))) (K := RX9) (T := TX9) (N := 35) (ci := 9) inwX9_pass_X9 tyX9 tyX9_ok nmX9 0 (by decide) (fs := fldM ad T) om0 rfl (ty := .int) 29 (by decide) (List.mem_of_getElem? (i := 1) rfl) rfl rfl (by decide +kernel) rfl rfl (Nat.le_of_ble_eq_true rfl) (om_s29 _) dX9_pass_60 (q := 63) rfl ?_
            obtain ⟨jW, jR, jV, jI, jC, jK, jD, jrow, janc, jwr, jcl, jcc, jrv⟩ := id hIT
            have hIT2 : IM (sS T 29 (T.1 29 + 1)) := ⟨jW, jR, jV, jI, jC, jK, (by show T.1 29 + 1 ≤ 1000; omega), jrow, janc, jwr, jcl, jcc, jrv⟩
            refine vv_iconst hC (v := nI 0) dX9_pass_63 rfl (q := 64) rfl ?_
            refine vv_istore hC (i := 5) (lv' := [(5, .int (nI 0)), (0, .ref (ad 0)), (1, .int (nI (tn d))), (2, .int (bI (inB d 1 100))), (3, .int sm), (4, .int (nI k))]) dX9_pass_64 (by decide) rfl (q := 66) rfl ?_
            have loop66 : ∀ (fu : Nat) (U : sM) (su : Int32) (n : Nat), mIs (sS T 29 (T.1 29 + 1)) sm n = (U, su) → IM U → U.1 = (sS T 29 (T.1 29 + 1)).1 → U.1 25 < n + fu → n ≤ U.1 25 → vv p l e (headSpec wsX9_pass ({ frames := 3, cells := 0, slots := 0, locals := 70 })).room s m args below meth c 6 (RA ad 27) s.heap 0 0 (MQ below (va_Qi (fun r' (_ : Unit) => r' = (if mtPs S d = 0 then (mPas S (tn d)).2 else 0)) (fun _ => ws0 D vwCl (tyL cI cW cZ cL) ad 27 (PM cI cZ ad (if mtPs S d = 0 then (mPas S (tn d)).1 else sS S 0 (mtPs S d)))) (RA ad 27)) args s 0 0 (RA ad 27)) (wq D vwCl ad 27 (PM cI cZ ad U)) 66 [(0, .ref (ad 0)), (1, .int (nI (tn d))), (2, .int (bI (inB d 1 100))), (3, .int su), (4, .int (nI k)), (5, .int (nI n))] [] := by
              intro fu
              induction fu with
              | zero =>
                intro U su n hU hIU hU1 hfu2 hn
                exact absurd hfu2 (by omega)
              | succ fu ih2 =>
                intro U su n hU hIU hU1 hfu2 hn
                obtain ⟨kW, kR, kV, kI, kC, kK, kD, krow, kanc, kwr, kcl, kcc, krv⟩ := id hIU
                refine vv_iload hC 5 dX9_pass_66 rfl (q := 68) rfl ?_
                refine vv_aload_n hC 0 dX9_pass_68 rfl rfl (q := 69) rfl ?_
                refine vv_get hC hK (K := RX9) (T := TX9) (N := 35) (ci := 9) inwX9_pass_X9 0 (by decide) (fs := fldM ad U) om0 rfl 25 (by decide) (List.mem_of_getElem? (i := 2) rfl) rfl (v := .int (nI (U.1 25))) rfl dX9_pass_69 (q := 72) rfl ?_
                refine vv_icmpN_ge hC (tgt := 111) (by omega) (by omega) dX9_pass_72 (by decide) (q := 75) rfl (fun h72 => ?_) (fun h72 => ?_)
                · skip
                  obtain rfl : n = U.1 25 := by omega
                  refine vv_iinc hC (i := 4) (v := nI (k + 1)) (lv' := [(4, .int (nI (k + 1))), (0, .ref (ad 0)), (1, .int (nI (tn d))), (2, .int (bI (inB d 1 100))), (3, .int su), (5, .int (nI (U.1 25)))]) 4 dX9_pass_111 rfl (nI_1 k) (by decide) rfl (q := 114) rfl ?_
                  refine vv_goto hC (tgt := 47) dX9_pass_114 (by decide) ?_
                  refine vv_lv [1, 2, 3, 4, 0] (lv' := [(0, .ref (ad 0)), (1, .int (nI (tn d))), (2, .int (bI (inB d 1 100))), (3, .int su), (4, .int (nI (k + 1)))]) rfl ?_
                  exact ih U su (k + 1) (by rw [mPas, hPT]; show mIs (sS T 29 (T.1 29 + 1)) sm (T.1 25) = _; rw [show T.1 25 = U.1 25 by rw [hU1]; rfl]; exact hU) hIU (by rw [hU1]; show T.1 29 + 1 = _; omega) (by omega) (by omega)
                · skip
                  refine vv_aload_n hC 0 dX9_pass_75 rfl rfl (q := 76) rfl ?_
                  refine vv_get hC hK (K := RX9) (T := TX9) (N := 35) (ci := 9) inwX9_pass_X9 0 (by decide) (fs := fldM ad U) om0 rfl 26 (by decide) (List.mem_of_getElem? (i := 3) rfl) rfl (v := .ref (ad 21)) rfl dX9_pass_76 (q := 79) rfl ?_
                  refine vv_iload hC 5 dX9_pass_79 rfl (q := 81) rfl ?_
                  refine vv_ialdN (P := PM cI cZ ad U) hC hK 21 (by decide) 0 (g := U.2 21) (omI (by decide) rfl) rfl (show n < 12 from (by omega)) (by decide) dX9_pass_81 (q := 82) rfl ?_
                  refine vv_aload_n hC 0 dX9_pass_82 rfl rfl (q := 83) rfl ?_
                  refine vv_get hC hK (K := RX9) (T := TX9) (N := 35) (ci := 9) inwX9_pass_X9 0 (by decide) (fs := fldM ad U) om0 rfl 29 (by decide) (List.mem_of_getElem? (i := 1) rfl) rfl (v := .int (nI (U.1 29))) rfl dX9_pass_83 (q := 86) rfl ?_
                  refine vv_icmp_ne hC (tgt := 105) dX9_pass_86 (by decide) (q := 89) rfl (fun h86 => ?_) (fun h86 => ?_)
                  · skip
                    refine vv_iinc hC (i := 5) (v := nI (n + 1)) (lv' := [(5, .int (nI (n + 1))), (0, .ref (ad 0)), (1, .int (nI (tn d))), (2, .int (bI (inB d 1 100))), (3, .int su), (4, .int (nI k))]) 5 dX9_pass_105 rfl (nI_1 n) (by decide) rfl (q := 108) rfl ?_
                    refine vv_goto hC (tgt := 66) dX9_pass_108 (by decide) ?_
                    refine vv_lv [1, 2, 3, 4, 5, 0] (lv' := [(0, .ref (ad 0)), (1, .int (nI (tn d))), (2, .int (bI (inB d 1 100))), (3, .int su), (4, .int (nI k)), (5, .int (nI (n + 1)))]) rfl ?_
                    exact ih2 U su (n + 1) (by rw [mIs, hU, if_neg h86]) hIU hU1 (by omega) (by omega)
                  · skip
                    refine vv_aload_n hC 0 dX9_pass_89 rfl rfl (q := 90) rfl ?_
                    refine vv_iload hC 5 dX9_pass_90 rfl (q := 92) rfl ?_
                    refine vv_callv hC hK (fun _ h => h) (As := [.int (nI n)]) 0 (by decide) or9 rfl (c9_print l hJ U n (by omega) hIU) (cwV 1 hC.2.2.2.2 gX9_pass_X9_print rfl rfl rfl hdX9_print ⟨Nat.le_of_ble_eq_true rfl, Nat.le_of_ble_eq_true rfl⟩) rfl rfl (Nat.le_of_ble_eq_true rfl) ⟨Nat.le_of_ble_eq_true rfl, Nat.le_of_ble_eq_true rfl⟩ dX9_pass_92 (q := 95) rfl ?_
                    refine vv_iload_n hC 3 dX9_pass_95 rfl rfl (q := 96) rfl ?_
                    refine vv_aload_n hC 0 dX9_pass_96 rfl rfl (q := 97) rfl ?_
                    refine vv_get hC hK (K := RX9) (T := TX9) (N := 35) (ci := 9) inwX9_pass_X9 0 (by decide) (fs := fldM ad (mPr U n)) om0 rfl 28 (by decide) (List.mem_of_getElem? (i := 4) rfl) rfl (v := .ref (ad 23)) rfl dX9_pass_97 (q := 100) rfl ?_
                    refine vv_iload hC 5 dX9_pass_100 rfl (q := 102) rfl ?_
                    refine vv_ialdN (P := PM cI cZ ad (mPr U n)) hC hK 23 (by decide) 0 (g := (mPr U n).2 23) (omI (by decide) rfl) rfl (show n < 12 from (by omega)) (by decide) dX9_pass_102 (q := 103) rfl ?_
                    refine vv_iadd hC dX9_pass_103 (q := 104) rfl ?_
                    refine vv_istore_n hC (i := 3) (lv' := [(3, .int (su + (((mPr U n).2 23) n))), (0, .ref (ad 0)), (1, .int (nI (tn d))), (2, .int (bI (inB d 1 100))), (4, .int (nI k)), (5, .int (nI n))]) dX9_pass_104 rfl (by decide) rfl (q := 105) rfl ?_
                    refine vv_iinc hC (i := 5) (v := nI (n + 1)) (lv' := [(5, .int (nI (n + 1))), (3, .int (su + (((mPr U n).2 23) n))), (0, .ref (ad 0)), (1, .int (nI (tn d))), (2, .int (bI (inB d 1 100))), (4, .int (nI k))]) 5 dX9_pass_105 rfl (nI_1 n) (by decide) rfl (q := 108) rfl ?_
                    refine vv_goto hC (tgt := 66) dX9_pass_108 (by decide) ?_
                    refine vv_lv [2, 3, 4, 1, 5, 0] (lv' := [(0, .ref (ad 0)), (1, .int (nI (tn d))), (2, .int (bI (inB d 1 100))), (3, .int (su + (((mPr U n).2 23) n))), (4, .int (nI k)), (5, .int (nI (n + 1)))]) rfl ?_
                    exact ih2 (mPr U n) (su + (mPr U n).2 23 n) (n + 1) (by rw [mIs, hU, if_pos h86]) (IM_co (mPr_fr U n).1 (mPr_fr U n).2 hIU) ((mPr_fr U n).1.trans hU1) (by rw [(mPr_fr U n).1]; omega) (by rw [(mPr_fr U n).1]; omega)
            refine vv_lv [1, 2, 3, 4, 5, 0] (lv' := [(0, .ref (ad 0)), (1, .int (nI (tn d))), (2, .int (bI (inB d 1 100))), (3, .int sm), (4, .int (nI k)), (5, .int (nI 0))]) rfl ?_
            exact loop66 13 (sS T 29 (T.1 29 + 1)) sm 0 rfl hIT2 rfl (show T.1 25 < 0 + 13 by omega) (Nat.zero_le _)
      refine vv_lv [3, 4, 2, 1, 0] (lv' := [(0, .ref (ad 0)), (1, .int (nI (tn d))), (2, .int (bI (inB d 1 100))), (3, .int (nI 0)), (4, .int (nI 0))]) rfl ?_
      exact loop47 101 (sS S 0 0) (nI 0) 0 rfl hI rfl (by omega) (Nat.zero_le _)
    · skip
      refine vv_iconst hC (v := nI 2) dX9_pass_29 rfl (q := 30) rfl ?_
      refine vv_goto hC (tgt := 34) dX9_pass_30 (by decide) ?_
      refine vv_calli hC hK (fun _ h => h) (As := [.int (nI 2)]) 0 (by decide) or9 rfl (c9_goesWell l hJ S 2 (by decide)) (cwV 1 hC.2.2.2.2 gX9_pass_X9_goesWell rfl rfl rfl hdX9_goesWell ⟨Nat.le_of_ble_eq_true rfl, Nat.le_of_ble_eq_true rfl⟩) rfl rfl (Nat.le_of_ble_eq_true rfl) ⟨Nat.le_of_ble_eq_true rfl, Nat.le_of_ble_eq_true rfl⟩ dX9_pass_34 (q := 37) rfl ?_
      refine vv_eqv (st' := [.int (nI 0)]) rfl ?_
      refine vv_if_ne hC (tgt := 42) dX9_pass_37 (by decide) (q := 40) rfl (fun h => absurd h (by decide)) (fun _ => ?_)
      refine vv_iconst hC (v := nI 0) dX9_pass_40 rfl (q := 41) rfl ?_
      have hT : mtPs S d = 2 := by simp only [mtPs, bI_1 h10, h26, Bool.false_eq_true, true_and, and_true, false_and, and_false, and_self, not_true, not_false_iff, or_true, true_or, or_false, false_or, if_true, if_false, reduceIte]
      exact vv_iret hC hK hr hlk (by rw [if_neg (by rw [hT]; decide)]; rfl) (fun f h => by rw [if_neg (by rw [hT]; decide)]; rw [hT]; exact h) dX9_pass_41
  · skip
    refine vv_iconst hC (v := nI 1) dX9_pass_13 rfl (q := 14) rfl ?_
    refine vv_goto hC (tgt := 34) dX9_pass_14 (by decide) ?_
    refine vv_calli hC hK (fun _ h => h) (As := [.int (nI 1)]) 0 (by decide) or9 rfl (c9_goesWell l hJ S 1 (by decide)) (cwV 1 hC.2.2.2.2 gX9_pass_X9_goesWell rfl rfl rfl hdX9_goesWell ⟨Nat.le_of_ble_eq_true rfl, Nat.le_of_ble_eq_true rfl⟩) rfl rfl (Nat.le_of_ble_eq_true rfl) ⟨Nat.le_of_ble_eq_true rfl, Nat.le_of_ble_eq_true rfl⟩ dX9_pass_34 (q := 37) rfl ?_
    refine vv_eqv (st' := [.int (nI 0)]) rfl ?_
    refine vv_if_ne hC (tgt := 42) dX9_pass_37 (by decide) (q := 40) rfl (fun h => absurd h (by decide)) (fun _ => ?_)
    refine vv_iconst hC (v := nI 0) dX9_pass_40 rfl (q := 41) rfl ?_
    have hT : mtPs S d = 1 := by simp only [mtPs, bI_0.mp h10, Bool.false_eq_true, true_and, and_true, false_and, and_false, and_self, not_true, not_false_iff, or_true, true_or, or_false, false_or, if_true, if_false, reduceIte]
    exact vv_iret hC hK hr hlk (by rw [if_neg (by rw [hT]; decide)]; rfl) (fun f h => by rw [if_neg (by rw [hT]; decide)]; rw [hT]; exact h) dX9_pass_41
theorem inwX9_today_X9 : ∀ w ∈ wsX90, w ∈ wsX9_today := fun _ h => List.mem_cons_of_mem _ (List.mem_append_right _ h)
theorem hdX9_today : yX9_today.cls = RX9 ∧ yX9_today.cls ≠ "java/lang/invoke/MethodHandle" ∧ yX9_today.cls ≠ "java/lang/invoke/VarHandle" ∧ (parseMethodDescriptor yX9_today.desc).map (fun d => d.parameters.length) = some 0 := by decide +kernel
set_option maxRecDepth 100000 in
set_option maxHeartbeats 4000000 in
theorem c9_today (l : Launch) {D : va_G} {cI cW cZ cL : ClassId} {ad : Nat → Nat} (hJ : injA ad 27) (S : sM)   : kMi l yX9_today wsX9_today ({ frames := 0, cells := 0, slots := 0, locals := 0 }) D vwCl (tyL cI cW cZ cL) ad 27 [.ref (ad 0)] (PM cI cZ ad S) (nI (S.1 29)) (PM cI cZ ad (sS S 0 0)) := by
  refine vv_enter (cc := cX9_today) (maxL := 1) (ret := (some .int)) (own := RX9) (lv := [(0, .ref (ad 0))]) (by decide +kernel) rfl rfl hJ (Nat.le_of_ble_eq_true rfl) rfl ?_
  intro p e s m args below meth c hC hK hW hr hlk
  refine vv_aload_n hC 0 dX9_today_0 rfl rfl (q := 1) rfl ?_
  refine vv_iconst hC (v := nI 0) dX9_today_1 rfl (q := 2) rfl ?_
  refine vv_put hC hK hW (P1 := PM cI cZ ad (sS S 0 0)) (K := RX9) (T := TX9) (N := 35) (ci := 9) inwX9_today_X9 tyX9 tyX9_ok nmX9 0 (by decide) (fs := fldM ad S) om0 rfl (ty := .int) 0 (by decide) (List.mem_of_getElem? (i := 1) rfl) rfl rfl (by decide +kernel) rfl rfl (Nat.le_of_ble_eq_true rfl) (om_s0 _) dX9_today_2 (q := 5) rfl ?_
  refine vv_aload_n hC 0 dX9_today_5 rfl rfl (q := 6) rfl ?_
  refine vv_get hC hK (K := RX9) (T := TX9) (N := 35) (ci := 9) inwX9_today_X9 0 (by decide) (fs := fldM ad (sS S 0 0)) om0 rfl 29 (by decide) (List.mem_of_getElem? (i := 2) rfl) rfl (v := .int (nI (S.1 29))) rfl dX9_today_6 (q := 9) rfl ?_
  exact vv_iret hC hK hr hlk rfl (fun _ h => h) dX9_today_9
theorem inwX9_printed_X9 : ∀ w ∈ wsX90, w ∈ wsX9_printed := fun _ h => List.mem_cons_of_mem _ (List.mem_append_right _ h)
theorem hdX9_printed : yX9_printed.cls = RX9 ∧ yX9_printed.cls ≠ "java/lang/invoke/MethodHandle" ∧ yX9_printed.cls ≠ "java/lang/invoke/VarHandle" ∧ (parseMethodDescriptor yX9_printed.desc).map (fun d => d.parameters.length) = some 1 := by decide +kernel
set_option maxRecDepth 100000 in
set_option maxHeartbeats 4000000 in
theorem c9_printed (l : Launch) {D : va_G} {cI cW cZ cL : ClassId} {ad : Nat → Nat} (hJ : injA ad 27) (S : sM) (i : Int32) (hI : IM S)  : kMi l yX9_printed wsX9_printed ({ frames := 1, cells := 0, slots := 0, locals := 22 }) D vwCl (tyL cI cW cZ cL) ad 27 [.ref (ad 0), .int i] (PM cI cZ ad S) (if mtPd S i = 0 then S.2 23 (tn i) else 0) (PM cI cZ ad (if mtPd S i = 0 then sS S 0 0 else sS S 0 (mtPd S i))) := by
  refine vv_enter (cc := cX9_printed) (maxL := 2) (ret := (some .int)) (own := RX9) (lv := [(0, .ref (ad 0)), (1, .int i)]) (by decide +kernel) rfl rfl hJ (Nat.le_of_ble_eq_true rfl) rfl ?_
  intro p e s m args below meth c hC hK hW hr hlk
  obtain ⟨iW, iR, iV, iI, iC, iK, iD, irow, ianc, iwr, icl, icc, irv⟩ := id hI
  refine vv_aload_n hC 0 dX9_printed_0 rfl rfl (q := 1) rfl ?_
  refine vv_iload_n hC 1 dX9_printed_1 rfl rfl (q := 2) rfl ?_
  refine vv_iconst hC (v := nI 0) dX9_printed_2 rfl (q := 3) rfl ?_
  refine vv_aload_n hC 0 dX9_printed_3 rfl rfl (q := 4) rfl ?_
  refine vv_get hC hK (K := RX9) (T := TX9) (N := 35) (ci := 9) inwX9_printed_X9 0 (by decide) (fs := fldM ad S) om0 rfl 25 (by decide) (List.mem_of_getElem? (i := 1) rfl) rfl (v := .int (nI (S.1 25))) rfl dX9_printed_4 (q := 7) rfl ?_
  refine vv_iconst hC (v := nI 1) dX9_printed_7 rfl (q := 8) rfl ?_
  refine vv_isub hC dX9_printed_8 (q := 9) rfl ?_
  refine vv_callsi hC hK (fun _ h => h) (As := [.int i, .int (nI 0), .int ((nI (S.1 25)) - (nI 1))]) (c9_in l hJ S i 0 ((nI (S.1 25)) - (nI 1))) (va_cwS 3 hC.2.2.2.2 gX9_printed_X9_in rfl rfl rfl hsX9_in ⟨Nat.le_of_ble_eq_true rfl, Nat.le_of_ble_eq_true rfl⟩) rfl rfl (Nat.le_of_ble_eq_true rfl) ⟨Nat.le_of_ble_eq_true rfl, Nat.le_of_ble_eq_true rfl⟩ dX9_printed_9 (q := 12) rfl ?_
  refine vv_if_eq hC (tgt := 19) dX9_printed_12 (by decide) (q := 15) rfl (fun h12 => ?_) (fun h12 => ?_)
  · skip
    refine vv_iconst hC (v := nI 1) dX9_printed_19 rfl (q := 20) rfl ?_
    refine vv_calli hC hK (fun _ h => h) (As := [.int (nI 1)]) 0 (by decide) or9 rfl (c9_goesWell l hJ S 1 (by decide)) (cwV 1 hC.2.2.2.2 gX9_printed_X9_goesWell rfl rfl rfl hdX9_goesWell ⟨Nat.le_of_ble_eq_true rfl, Nat.le_of_ble_eq_true rfl⟩) rfl rfl (Nat.le_of_ble_eq_true rfl) ⟨Nat.le_of_ble_eq_true rfl, Nat.le_of_ble_eq_true rfl⟩ dX9_printed_20 (q := 23) rfl ?_
    refine vv_eqv (st' := [.int (nI 0)]) rfl ?_
    refine vv_if_eq hC (tgt := 35) dX9_printed_23 (by decide) (q := 26) rfl (fun _ => ?_) (fun h => absurd h (by decide))
    refine vv_iconst hC (v := nI 0) dX9_printed_35 rfl (q := 36) rfl ?_
    have hT : mtPd S i = 1 := by simp only [mtPd, bI_0.mp h12, Bool.false_eq_true, true_and, and_true, false_and, and_false, and_self, not_true, not_false_iff, or_true, true_or, or_false, false_or, if_true, if_false, reduceIte]
    exact vv_iret hC hK hr hlk (by rw [if_neg (by rw [hT]; decide)]; rfl) (fun f h => by rw [if_neg (by rw [hT]; decide)]; rw [hT]; exact h) dX9_printed_36
  · skip
    refine vv_iconst hC (v := nI 0) dX9_printed_15 rfl (q := 16) rfl ?_
    refine vv_goto hC (tgt := 20) dX9_printed_16 (by decide) ?_
    refine vv_calli hC hK (fun _ h => h) (As := [.int (nI 0)]) 0 (by decide) or9 rfl (c9_goesWell l hJ S 0 (by decide)) (cwV 1 hC.2.2.2.2 gX9_printed_X9_goesWell rfl rfl rfl hdX9_goesWell ⟨Nat.le_of_ble_eq_true rfl, Nat.le_of_ble_eq_true rfl⟩) rfl rfl (Nat.le_of_ble_eq_true rfl) ⟨Nat.le_of_ble_eq_true rfl, Nat.le_of_ble_eq_true rfl⟩ dX9_printed_20 (q := 23) rfl ?_
    refine vv_eqv (st' := [.int (nI 1)]) rfl ?_
    refine vv_if_eq hC (tgt := 35) dX9_printed_23 (by decide) (q := 26) rfl (fun h => absurd h (by decide)) (fun _ => ?_)
    obtain ⟨hnn, hnl⟩ := inB_m1 (b := S.1 25) (by omega) (bI_1 h12)
    refine vv_eql (lv' := [(0, .ref (ad 0)), (1, .int (nI (tn i)))]) (by rw [← hnn]) ?_
    refine vv_aload_n hC 0 dX9_printed_26 rfl rfl (q := 27) rfl ?_
    refine vv_get hC hK (K := RX9) (T := TX9) (N := 35) (ci := 9) inwX9_printed_X9 0 (by decide) (fs := fldM ad (sS S 0 0)) om0 rfl 28 (by decide) (List.mem_of_getElem? (i := 2) rfl) rfl (v := .ref (ad 23)) rfl dX9_printed_27 (q := 30) rfl ?_
    refine vv_iload_n hC 1 dX9_printed_30 rfl rfl (q := 31) rfl ?_
    refine vv_ialdN (P := PM cI cZ ad (sS S 0 0)) hC hK 23 (by decide) 0 (g := S.2 23) (omI (by decide) rfl) rfl (show tn i < 12 from (by omega)) (by decide) dX9_printed_31 (q := 32) rfl ?_
    refine vv_goto hC (tgt := 36) dX9_printed_32 (by decide) ?_
    have hT : mtPd S i = 0 := by simp only [mtPd, bI_1 h12, Bool.false_eq_true, true_and, and_true, false_and, and_false, and_self, not_true, not_false_iff, or_true, true_or, or_false, false_or, if_true, if_false, reduceIte]
    exact vv_iret hC hK hr hlk (by rw [if_pos hT]) (fun f h => by rw [if_pos hT]; exact h) dX9_printed_36
theorem inwX9_comment_X9 : ∀ w ∈ wsX90, w ∈ wsX9_comment := fun _ h => List.mem_cons_of_mem _ (List.mem_append_right _ h)
theorem hdX9_comment : yX9_comment.cls = RX9 ∧ yX9_comment.cls ≠ "java/lang/invoke/MethodHandle" ∧ yX9_comment.cls ≠ "java/lang/invoke/VarHandle" ∧ (parseMethodDescriptor yX9_comment.desc).map (fun d => d.parameters.length) = some 2 := by decide +kernel
set_option maxRecDepth 100000 in
set_option maxHeartbeats 4000000 in
theorem c9_comment (l : Launch) {D : va_G} {cI cW cZ cL : ClassId} {ad : Nat → Nat} (hJ : injA ad 27) (S : sM) (a b : Int32) (hI : IM S)  : kMi l yX9_comment wsX9_comment ({ frames := 1, cells := 0, slots := 0, locals := 23 }) D vwCl (tyL cI cW cZ cL) ad 27 [.ref (ad 0), .int a, .int b] (PM cI cZ ad S) (if mtCom S a b = 0 then nI (S.1 30) else 0) (PM cI cZ ad (if mtCom S a b = 0 then msCom S a b else sS S 0 (mtCom S a b))) := by
  refine vv_enter (cc := cX9_comment) (maxL := 4) (ret := (some .int)) (own := RX9) (lv := [(0, .ref (ad 0)), (1, .int a), (2, .int b)]) (by decide +kernel) rfl rfl hJ (Nat.le_of_ble_eq_true rfl) rfl ?_
  intro p e s m args below meth c hC hK hW hr hlk
  obtain ⟨iW, iR, iV, iI, iC, iK, iD, irow, ianc, iwr, icl, icc, irv⟩ := id hI
  refine vv_aload_n hC 0 dX9_comment_0 rfl rfl (q := 1) rfl ?_
  refine vv_iload_n hC 1 dX9_comment_1 rfl rfl (q := 2) rfl ?_
  refine vv_calli hC hK (fun _ h => h) (As := [.int a]) 0 (by decide) or9 rfl (c9_textAt l hJ S a hI) (cwV 1 hC.2.2.2.2 gX9_comment_X9_textAt rfl rfl rfl hdX9_textAt ⟨Nat.le_of_ble_eq_true rfl, Nat.le_of_ble_eq_true rfl⟩) rfl rfl (Nat.le_of_ble_eq_true rfl) ⟨Nat.le_of_ble_eq_true rfl, Nat.le_of_ble_eq_true rfl⟩ dX9_comment_2 (q := 5) rfl ?_
  refine vv_iconst hC (v := (-1)) dX9_comment_5 rfl (q := 6) rfl ?_
  refine vv_icmp_eq hC (tgt := 22) dX9_comment_6 (by decide) (q := 9) rfl (fun h6 => ?_) (fun h6 => ?_)
  · skip
    refine vv_iconst hC (v := nI 0) dX9_comment_22 rfl (q := 23) rfl ?_
    refine vv_istore_n hC (i := 3) (lv' := [(3, .int (nI 0)), (0, .ref (ad 0)), (1, .int a), (2, .int b)]) dX9_comment_23 rfl (by decide) rfl (q := 24) rfl ?_
    refine vv_aload_n hC 1 dX9_comment_24 rfl rfl (q := 25) rfl ?_
    refine vv_iload_n hC 0 dX9_comment_25 rfl rfl (q := 26) rfl ?_
    refine vv_if_ne hC (tgt := 33) dX9_comment_26 (by decide) (q := 29) rfl (fun h => absurd h (by decide)) (fun _ => ?_)
    refine vv_iconst hC (v := nI 1) dX9_comment_29 rfl (q := 30) rfl ?_
    refine vv_goto hC (tgt := 56) dX9_comment_30 (by decide) ?_
    refine vv_calli hC hK (fun _ h => h) (As := [.int (nI 1)]) 0 (by decide) or9 rfl (c9_goesWell l hJ S 1 (by decide)) (cwV 1 hC.2.2.2.2 gX9_comment_X9_goesWell rfl rfl rfl hdX9_goesWell ⟨Nat.le_of_ble_eq_true rfl, Nat.le_of_ble_eq_true rfl⟩) rfl rfl (Nat.le_of_ble_eq_true rfl) ⟨Nat.le_of_ble_eq_true rfl, Nat.le_of_ble_eq_true rfl⟩ dX9_comment_56 (q := 59) rfl ?_
    refine vv_eqv (st' := [.int (nI 0)]) rfl ?_
    refine vv_if_ne hC (tgt := 64) dX9_comment_59 (by decide) (q := 62) rfl (fun h => absurd h (by decide)) (fun _ => ?_)
    refine vv_iconst hC (v := nI 0) dX9_comment_62 rfl (q := 63) rfl ?_
    have hT : mtCom S a b = 1 := by simp only [mtCom, h6, Bool.false_eq_true, true_and, and_true, false_and, and_false, and_self, not_true, not_false_iff, or_true, true_or, or_false, false_or, if_true, if_false, reduceIte]
    exact vv_iret hC hK hr hlk (by rw [if_neg (by rw [hT]; decide)]; rfl) (fun f h => by rw [if_neg (by rw [hT]; decide)]; rw [hT]; exact h) dX9_comment_63
  · skip
    refine vv_aload_n hC 0 dX9_comment_9 rfl rfl (q := 10) rfl ?_
    refine vv_iload_n hC 2 dX9_comment_10 rfl rfl (q := 11) rfl ?_
    refine vv_calli hC hK (fun _ h => h) (As := [.int b]) 0 (by decide) or9 rfl (c9_textAt l hJ S b hI) (cwV 1 hC.2.2.2.2 gX9_comment_X9_textAt rfl rfl rfl hdX9_textAt ⟨Nat.le_of_ble_eq_true rfl, Nat.le_of_ble_eq_true rfl⟩) rfl rfl (Nat.le_of_ble_eq_true rfl) ⟨Nat.le_of_ble_eq_true rfl, Nat.le_of_ble_eq_true rfl⟩ dX9_comment_11 (q := 14) rfl ?_
    refine vv_iconst hC (v := (-1)) dX9_comment_14 rfl (q := 15) rfl ?_
    refine vv_icmp_eq hC (tgt := 22) dX9_comment_15 (by decide) (q := 18) rfl (fun h15 => ?_) (fun h15 => ?_)
    · skip
      refine vv_iconst hC (v := nI 0) dX9_comment_22 rfl (q := 23) rfl ?_
      refine vv_istore_n hC (i := 3) (lv' := [(3, .int (nI 0)), (0, .ref (ad 0)), (1, .int a), (2, .int b)]) dX9_comment_23 rfl (by decide) rfl (q := 24) rfl ?_
      refine vv_aload_n hC 1 dX9_comment_24 rfl rfl (q := 25) rfl ?_
      refine vv_iload_n hC 0 dX9_comment_25 rfl rfl (q := 26) rfl ?_
      refine vv_if_ne hC (tgt := 33) dX9_comment_26 (by decide) (q := 29) rfl (fun h => absurd h (by decide)) (fun _ => ?_)
      refine vv_iconst hC (v := nI 1) dX9_comment_29 rfl (q := 30) rfl ?_
      refine vv_goto hC (tgt := 56) dX9_comment_30 (by decide) ?_
      refine vv_calli hC hK (fun _ h => h) (As := [.int (nI 1)]) 0 (by decide) or9 rfl (c9_goesWell l hJ S 1 (by decide)) (cwV 1 hC.2.2.2.2 gX9_comment_X9_goesWell rfl rfl rfl hdX9_goesWell ⟨Nat.le_of_ble_eq_true rfl, Nat.le_of_ble_eq_true rfl⟩) rfl rfl (Nat.le_of_ble_eq_true rfl) ⟨Nat.le_of_ble_eq_true rfl, Nat.le_of_ble_eq_true rfl⟩ dX9_comment_56 (q := 59) rfl ?_
      refine vv_eqv (st' := [.int (nI 0)]) rfl ?_
      refine vv_if_ne hC (tgt := 64) dX9_comment_59 (by decide) (q := 62) rfl (fun h => absurd h (by decide)) (fun _ => ?_)
      refine vv_iconst hC (v := nI 0) dX9_comment_62 rfl (q := 63) rfl ?_
      have hT : mtCom S a b = 1 := by simp only [mtCom, h6, h15, Bool.false_eq_true, true_and, and_true, false_and, and_false, and_self, not_true, not_false_iff, or_true, true_or, or_false, false_or, if_true, if_false, reduceIte]
      exact vv_iret hC hK hr hlk (by rw [if_neg (by rw [hT]; decide)]; rfl) (fun f h => by rw [if_neg (by rw [hT]; decide)]; rw [hT]; exact h) dX9_comment_63
    · skip
      refine vv_iconst hC (v := nI 1) dX9_comment_18 rfl (q := 19) rfl ?_
      refine vv_goto hC (tgt := 23) dX9_comment_19 (by decide) ?_
      refine vv_istore_n hC (i := 3) (lv' := [(3, .int (nI 1)), (0, .ref (ad 0)), (1, .int a), (2, .int b)]) dX9_comment_23 rfl (by decide) rfl (q := 24) rfl ?_
      refine vv_aload_n hC 1 dX9_comment_24 rfl rfl (q := 25) rfl ?_
      refine vv_iload_n hC 0 dX9_comment_25 rfl rfl (q := 26) rfl ?_
      refine vv_if_ne hC (tgt := 33) dX9_comment_26 (by decide) (q := 29) rfl (fun _ => ?_) (fun h => absurd h (by decide))
      refine vv_iload_n hC 3 dX9_comment_33 rfl rfl (q := 34) rfl ?_
      refine vv_iload_n hC 2 dX9_comment_34 rfl rfl (q := 35) rfl ?_
      refine vv_icmp_ge hC (tgt := 42) dX9_comment_35 (by decide) (q := 38) rfl (fun h35 => ?_) (fun h35 => ?_)
      · skip
        refine vv_aload_n hC 1 dX9_comment_42 rfl rfl (q := 43) rfl ?_
        refine vv_get hC hK (K := RX9) (T := TX9) (N := 35) (ci := 9) inwX9_comment_X9 0 (by decide) (fs := fldM ad S) om0 rfl 30 (by decide) (List.mem_of_getElem? (i := 1) rfl) rfl (v := .int (nI (S.1 30))) rfl dX9_comment_43 (q := 46) rfl ?_
        refine vv_bipush hC (v := nI 40) dX9_comment_46 rfl (q := 48) rfl ?_
        refine vv_icmpN_ne hC (tgt := 55) (by omega) (by omega) dX9_comment_48 (by decide) (q := 51) rfl (fun h48 => ?_) (fun h48 => ?_)
        · skip
          refine vv_iconst hC (v := nI 0) dX9_comment_55 rfl (q := 56) rfl ?_
          refine vv_calli hC hK (fun _ h => h) (As := [.int (nI 0)]) 0 (by decide) or9 rfl (c9_goesWell l hJ S 0 (by decide)) (cwV 1 hC.2.2.2.2 gX9_comment_X9_goesWell rfl rfl rfl hdX9_goesWell ⟨Nat.le_of_ble_eq_true rfl, Nat.le_of_ble_eq_true rfl⟩) rfl rfl (Nat.le_of_ble_eq_true rfl) ⟨Nat.le_of_ble_eq_true rfl, Nat.le_of_ble_eq_true rfl⟩ dX9_comment_56 (q := 59) rfl ?_
          refine vv_eqv (st' := [.int (nI 1)]) rfl ?_
          refine vv_if_ne hC (tgt := 64) dX9_comment_59 (by decide) (q := 62) rfl (fun _ => ?_) (fun h => absurd h (by decide))
          refine vv_aload_n hC 1 dX9_comment_64 rfl rfl (q := 65) rfl ?_
          refine vv_get hC hK (K := RX9) (T := TX9) (N := 35) (ci := 9) inwX9_comment_X9 0 (by decide) (fs := fldM ad (sS S 0 0)) om0 rfl 31 (by decide) (List.mem_of_getElem? (i := 2) rfl) rfl (v := .ref (ad 24)) rfl dX9_comment_65 (q := 68) rfl ?_
          refine vv_aload_n hC 1 dX9_comment_68 rfl rfl (q := 69) rfl ?_
          refine vv_get hC hK (K := RX9) (T := TX9) (N := 35) (ci := 9) inwX9_comment_X9 0 (by decide) (fs := fldM ad (sS S 0 0)) om0 rfl 30 (by decide) (List.mem_of_getElem? (i := 1) rfl) rfl (v := .int (nI (S.1 30))) rfl dX9_comment_69 (q := 72) rfl ?_
          refine vv_aload_n hC 1 dX9_comment_72 rfl rfl (q := 73) rfl ?_
          refine vv_iload_n hC 2 dX9_comment_73 rfl rfl (q := 74) rfl ?_
          refine vv_calli hC hK (fun _ h => h) (As := [.int a]) 0 (by decide) or9 rfl (c9_textAt l hJ (sS S 0 0) a hI) (cwV 1 hC.2.2.2.2 gX9_comment_X9_textAt rfl rfl rfl hdX9_textAt ⟨Nat.le_of_ble_eq_true rfl, Nat.le_of_ble_eq_true rfl⟩) rfl rfl (Nat.le_of_ble_eq_true rfl) ⟨Nat.le_of_ble_eq_true rfl, Nat.le_of_ble_eq_true rfl⟩ dX9_comment_74 (q := 77) rfl ?_
          refine vv_eqv (st' := [.int (mTxt S a), .int (nI (S.1 30)), .ref (ad 24)]) rfl ?_
          refine vv_iastN (P := PM cI cZ ad (sS S 0 0)) hC hK hW (P1 := PM cI cZ ad (sA (sS S 0 0) 24 (upd (S.2 24) (S.1 30) (mTxt S a)))) 24 (by decide) 0 (g := S.2 24) (omI (by decide) rfl) rfl (show S.1 30 < 40 from (by omega)) (by decide) (om_aI (j := 24) (by decide) rfl _) dX9_comment_77 (q := 78) rfl ?_
          refine vv_aload_n hC 1 dX9_comment_78 rfl rfl (q := 79) rfl ?_
          refine vv_get hC hK (K := RX9) (T := TX9) (N := 35) (ci := 9) inwX9_comment_X9 0 (by decide) (fs := fldM ad (sA (sS S 0 0) 24 (upd (S.2 24) (S.1 30) (mTxt S a)))) om0 rfl 32 (by decide) (List.mem_of_getElem? (i := 3) rfl) rfl (v := .ref (ad 25)) rfl dX9_comment_79 (q := 82) rfl ?_
          refine vv_aload_n hC 1 dX9_comment_82 rfl rfl (q := 83) rfl ?_
          refine vv_get hC hK (K := RX9) (T := TX9) (N := 35) (ci := 9) inwX9_comment_X9 0 (by decide) (fs := fldM ad (sA (sS S 0 0) 24 (upd (S.2 24) (S.1 30) (mTxt S a)))) om0 rfl 30 (by decide) (List.mem_of_getElem? (i := 1) rfl) rfl (v := .int (nI (S.1 30))) rfl dX9_comment_83 (q := 86) rfl ?_
          refine vv_aload_n hC 1 dX9_comment_86 rfl rfl (q := 87) rfl ?_
          refine vv_iload_n hC 3 dX9_comment_87 rfl rfl (q := 88) rfl ?_
          refine vv_calli hC hK (fun _ h => h) (As := [.int b]) 0 (by decide) or9 rfl (c9_textAt l hJ (sA (sS S 0 0) 24 (upd (S.2 24) (S.1 30) (mTxt S a))) b hI) (cwV 1 hC.2.2.2.2 gX9_comment_X9_textAt rfl rfl rfl hdX9_textAt ⟨Nat.le_of_ble_eq_true rfl, Nat.le_of_ble_eq_true rfl⟩) rfl rfl (Nat.le_of_ble_eq_true rfl) ⟨Nat.le_of_ble_eq_true rfl, Nat.le_of_ble_eq_true rfl⟩ dX9_comment_88 (q := 91) rfl ?_
          refine vv_eqv (st' := [.int (mTxt S b), .int (nI (S.1 30)), .ref (ad 25)]) rfl ?_
          refine vv_iastN (P := PM cI cZ ad (sA (sS S 0 0) 24 (upd (S.2 24) (S.1 30) (mTxt S a)))) hC hK hW (P1 := PM cI cZ ad (sA (sA (sS S 0 0) 24 (upd (S.2 24) (S.1 30) (mTxt S a))) 25 (upd (S.2 25) (S.1 30) (mTxt S b)))) 25 (by decide) 0 (g := S.2 25) (omI (by decide) rfl) rfl (show S.1 30 < 40 from (by omega)) (by decide) (om_aI (j := 25) (by decide) rfl _) dX9_comment_91 (q := 92) rfl ?_
          refine vv_aload_n hC 1 dX9_comment_92 rfl rfl (q := 93) rfl ?_
          refine vv_dup hC dX9_comment_93 rfl (q := 94) rfl ?_
          refine vv_get hC hK (K := RX9) (T := TX9) (N := 35) (ci := 9) inwX9_comment_X9 0 (by decide) (fs := fldM ad (sA (sA (sS S 0 0) 24 (upd (S.2 24) (S.1 30) (mTxt S a))) 25 (upd (S.2 25) (S.1 30) (mTxt S b)))) om0 rfl 30 (by decide) (List.mem_of_getElem? (i := 1) rfl) rfl (v := .int (nI (S.1 30))) rfl dX9_comment_94 (q := 97) rfl ?_
          refine vv_iconst hC (v := nI 1) dX9_comment_97 rfl (q := 98) rfl ?_
          refine vv_iaddN hC dX9_comment_98 (q := 99) rfl ?_
          refine vv_put hC hK hW (P1 := PM cI cZ ad (sS (sA (sA (sS S 0 0) 24 (upd (S.2 24) (S.1 30) (mTxt S a))) 25 (upd (S.2 25) (S.1 30) (mTxt S b))) 30 ((S.1 30) + 1))) (K := RX9) (T := TX9) (N := 35) (ci := 9) inwX9_comment_X9 tyX9 tyX9_ok nmX9 0 (by decide) (fs := fldM ad (sA (sA (sS S 0 0) 24 (upd (S.2 24) (S.1 30) (mTxt S a))) 25 (upd (S.2 25) (S.1 30) (mTxt S b)))) om0 rfl (ty := .int) 30 (by decide) (List.mem_of_getElem? (i := 1) rfl) rfl rfl (by decide +kernel) rfl rfl (Nat.le_of_ble_eq_true rfl) (om_s30 _) dX9_comment_99 (q := 102) rfl ?_
          refine vv_aload_n hC 1 dX9_comment_102 rfl rfl (q := 103) rfl ?_
          refine vv_get hC hK (K := RX9) (T := TX9) (N := 35) (ci := 9) inwX9_comment_X9 0 (by decide) (fs := fldM ad (sS (sA (sA (sS S 0 0) 24 (upd (S.2 24) (S.1 30) (mTxt S a))) 25 (upd (S.2 25) (S.1 30) (mTxt S b))) 30 ((S.1 30) + 1))) om0 rfl 30 (by decide) (List.mem_of_getElem? (i := 1) rfl) rfl (v := .int (nI ((S.1 30) + 1))) rfl dX9_comment_103 (q := 106) rfl ?_
          refine vv_iconst hC (v := nI 1) dX9_comment_106 rfl (q := 107) rfl ?_
          refine vv_isubN hC (by omega) dX9_comment_107 (q := 108) rfl ?_
          have hT : mtCom S a b = 0 := by simp only [mtCom, h6, h15, h35, h48, Bool.false_eq_true, true_and, and_true, false_and, and_false, and_self, not_true, not_false_iff, or_true, true_or, or_false, false_or, if_true, if_false, reduceIte]
          exact vv_iret hC hK hr hlk (by rw [if_pos hT]; rfl) (fun f h => by rw [if_pos hT]; exact h) dX9_comment_108
        · skip
          refine vv_iconst hC (v := nI 3) dX9_comment_51 rfl (q := 52) rfl ?_
          refine vv_goto hC (tgt := 56) dX9_comment_52 (by decide) ?_
          refine vv_calli hC hK (fun _ h => h) (As := [.int (nI 3)]) 0 (by decide) or9 rfl (c9_goesWell l hJ S 3 (by decide)) (cwV 1 hC.2.2.2.2 gX9_comment_X9_goesWell rfl rfl rfl hdX9_goesWell ⟨Nat.le_of_ble_eq_true rfl, Nat.le_of_ble_eq_true rfl⟩) rfl rfl (Nat.le_of_ble_eq_true rfl) ⟨Nat.le_of_ble_eq_true rfl, Nat.le_of_ble_eq_true rfl⟩ dX9_comment_56 (q := 59) rfl ?_
          refine vv_eqv (st' := [.int (nI 0)]) rfl ?_
          refine vv_if_ne hC (tgt := 64) dX9_comment_59 (by decide) (q := 62) rfl (fun h => absurd h (by decide)) (fun _ => ?_)
          refine vv_iconst hC (v := nI 0) dX9_comment_62 rfl (q := 63) rfl ?_
          have hT : mtCom S a b = 3 := by simp only [mtCom, h6, h15, h35, h48, Bool.false_eq_true, true_and, and_true, false_and, and_false, and_self, not_true, not_false_iff, or_true, true_or, or_false, false_or, if_true, if_false, reduceIte]
          exact vv_iret hC hK hr hlk (by rw [if_neg (by rw [hT]; decide)]; rfl) (fun f h => by rw [if_neg (by rw [hT]; decide)]; rw [hT]; exact h) dX9_comment_63
      · skip
        refine vv_iconst hC (v := nI 2) dX9_comment_38 rfl (q := 39) rfl ?_
        refine vv_goto hC (tgt := 56) dX9_comment_39 (by decide) ?_
        refine vv_calli hC hK (fun _ h => h) (As := [.int (nI 2)]) 0 (by decide) or9 rfl (c9_goesWell l hJ S 2 (by decide)) (cwV 1 hC.2.2.2.2 gX9_comment_X9_goesWell rfl rfl rfl hdX9_goesWell ⟨Nat.le_of_ble_eq_true rfl, Nat.le_of_ble_eq_true rfl⟩) rfl rfl (Nat.le_of_ble_eq_true rfl) ⟨Nat.le_of_ble_eq_true rfl, Nat.le_of_ble_eq_true rfl⟩ dX9_comment_56 (q := 59) rfl ?_
        refine vv_eqv (st' := [.int (nI 0)]) rfl ?_
        refine vv_if_ne hC (tgt := 64) dX9_comment_59 (by decide) (q := 62) rfl (fun h => absurd h (by decide)) (fun _ => ?_)
        refine vv_iconst hC (v := nI 0) dX9_comment_62 rfl (q := 63) rfl ?_
        have hT : mtCom S a b = 2 := by simp only [mtCom, h6, h15, h35, Bool.false_eq_true, true_and, and_true, false_and, and_false, and_self, not_true, not_false_iff, or_true, true_or, or_false, false_or, if_true, if_false, reduceIte]
        exact vv_iret hC hK hr hlk (by rw [if_neg (by rw [hT]; decide)]; rfl) (fun f h => by rw [if_neg (by rw [hT]; decide)]; rw [hT]; exact h) dX9_comment_63
theorem inwX9_span_X9 : ∀ w ∈ wsX90, w ∈ wsX9_span := fun _ h => List.mem_cons_of_mem _ (List.mem_append_right _ h)
theorem hdX9_span : yX9_span.cls = RX9 ∧ yX9_span.cls ≠ "java/lang/invoke/MethodHandle" ∧ yX9_span.cls ≠ "java/lang/invoke/VarHandle" ∧ (parseMethodDescriptor yX9_span.desc).map (fun d => d.parameters.length) = some 1 := by decide +kernel
set_option maxRecDepth 100000 in
set_option maxHeartbeats 4000000 in
theorem c9_span (l : Launch) {D : va_G} {cI cW cZ cL : ClassId} {ad : Nat → Nat} (hJ : injA ad 27) (S : sM) (cc : Int32) (hI : IM S)  : kMi l yX9_span wsX9_span ({ frames := 1, cells := 0, slots := 0, locals := 23 }) D vwCl (tyL cI cW cZ cL) ad 27 [.ref (ad 0), .int cc] (PM cI cZ ad S) (if mtSpn S cc = 0 then mSpn S (tn cc) else 0) (PM cI cZ ad (if mtSpn S cc = 0 then sS S 0 0 else sS S 0 (mtSpn S cc))) := by
  refine vv_enter (cc := cX9_span) (maxL := 4) (ret := (some .int)) (own := RX9) (lv := [(0, .ref (ad 0)), (1, .int cc)]) (by decide +kernel) rfl rfl hJ (Nat.le_of_ble_eq_true rfl) rfl ?_
  intro p e s m args below meth c hC hK hW hr hlk
  obtain ⟨iW, iR, iV, iI, iC, iK, iD, irow, ianc, iwr, icl, icc, irv⟩ := id hI
  refine vv_aload_n hC 0 dX9_span_0 rfl rfl (q := 1) rfl ?_
  refine vv_iload_n hC 1 dX9_span_1 rfl rfl (q := 2) rfl ?_
  refine vv_iconst hC (v := nI 0) dX9_span_2 rfl (q := 3) rfl ?_
  refine vv_aload_n hC 0 dX9_span_3 rfl rfl (q := 4) rfl ?_
  refine vv_get hC hK (K := RX9) (T := TX9) (N := 35) (ci := 9) inwX9_span_X9 0 (by decide) (fs := fldM ad S) om0 rfl 30 (by decide) (List.mem_of_getElem? (i := 1) rfl) rfl (v := .int (nI (S.1 30))) rfl dX9_span_4 (q := 7) rfl ?_
  refine vv_iconst hC (v := nI 1) dX9_span_7 rfl (q := 8) rfl ?_
  refine vv_isub hC dX9_span_8 (q := 9) rfl ?_
  refine vv_callsi hC hK (fun _ h => h) (As := [.int cc, .int (nI 0), .int ((nI (S.1 30)) - (nI 1))]) (c9_in l hJ S cc 0 ((nI (S.1 30)) - (nI 1))) (va_cwS 3 hC.2.2.2.2 gX9_span_X9_in rfl rfl rfl hsX9_in ⟨Nat.le_of_ble_eq_true rfl, Nat.le_of_ble_eq_true rfl⟩) rfl rfl (Nat.le_of_ble_eq_true rfl) ⟨Nat.le_of_ble_eq_true rfl, Nat.le_of_ble_eq_true rfl⟩ dX9_span_9 (q := 12) rfl ?_
  refine vv_if_eq hC (tgt := 19) dX9_span_12 (by decide) (q := 15) rfl (fun h12 => ?_) (fun h12 => ?_)
  · skip
    refine vv_iconst hC (v := nI 1) dX9_span_19 rfl (q := 20) rfl ?_
    refine vv_calli hC hK (fun _ h => h) (As := [.int (nI 1)]) 0 (by decide) or9 rfl (c9_goesWell l hJ S 1 (by decide)) (cwV 1 hC.2.2.2.2 gX9_span_X9_goesWell rfl rfl rfl hdX9_goesWell ⟨Nat.le_of_ble_eq_true rfl, Nat.le_of_ble_eq_true rfl⟩) rfl rfl (Nat.le_of_ble_eq_true rfl) ⟨Nat.le_of_ble_eq_true rfl, Nat.le_of_ble_eq_true rfl⟩ dX9_span_20 (q := 23) rfl ?_
    refine vv_eqv (st' := [.int (nI 0)]) rfl ?_
    refine vv_if_ne hC (tgt := 28) dX9_span_23 (by decide) (q := 26) rfl (fun h => absurd h (by decide)) (fun _ => ?_)
    refine vv_iconst hC (v := nI 0) dX9_span_26 rfl (q := 27) rfl ?_
    have hT : mtSpn S cc = 1 := by simp only [mtSpn, bI_0.mp h12, Bool.false_eq_true, true_and, and_true, false_and, and_false, and_self, not_true, not_false_iff, or_true, true_or, or_false, false_or, if_true, if_false, reduceIte]
    exact vv_iret hC hK hr hlk (by rw [if_neg (by rw [hT]; decide)]; rfl) (fun f h => by rw [if_neg (by rw [hT]; decide)]; rw [hT]; exact h) dX9_span_27
  · skip
    refine vv_iconst hC (v := nI 0) dX9_span_15 rfl (q := 16) rfl ?_
    refine vv_goto hC (tgt := 20) dX9_span_16 (by decide) ?_
    refine vv_calli hC hK (fun _ h => h) (As := [.int (nI 0)]) 0 (by decide) or9 rfl (c9_goesWell l hJ S 0 (by decide)) (cwV 1 hC.2.2.2.2 gX9_span_X9_goesWell rfl rfl rfl hdX9_goesWell ⟨Nat.le_of_ble_eq_true rfl, Nat.le_of_ble_eq_true rfl⟩) rfl rfl (Nat.le_of_ble_eq_true rfl) ⟨Nat.le_of_ble_eq_true rfl, Nat.le_of_ble_eq_true rfl⟩ dX9_span_20 (q := 23) rfl ?_
    refine vv_eqv (st' := [.int (nI 1)]) rfl ?_
    refine vv_if_ne hC (tgt := 28) dX9_span_23 (by decide) (q := 26) rfl (fun _ => ?_) (fun h => absurd h (by decide))
    obtain ⟨hnn, hnl⟩ := inB_m1 (b := S.1 30) (by omega) (bI_1 h12)
    refine vv_eql (lv' := [(0, .ref (ad 0)), (1, .int (nI (tn cc)))]) (by rw [← hnn]) ?_
    refine vv_aload_n hC 0 dX9_span_28 rfl rfl (q := 29) rfl ?_
    refine vv_aload_n hC 0 dX9_span_29 rfl rfl (q := 30) rfl ?_
    refine vv_get hC hK (K := RX9) (T := TX9) (N := 35) (ci := 9) inwX9_span_X9 0 (by decide) (fs := fldM ad (sS S 0 0)) om0 rfl 31 (by decide) (List.mem_of_getElem? (i := 2) rfl) rfl (v := .ref (ad 24)) rfl dX9_span_30 (q := 33) rfl ?_
    refine vv_iload_n hC 1 dX9_span_33 rfl rfl (q := 34) rfl ?_
    refine vv_ialdN (P := PM cI cZ ad (sS S 0 0)) hC hK 24 (by decide) 0 (g := S.2 24) (omI (by decide) rfl) rfl (show tn cc < 40 from (by omega)) (by decide) dX9_span_34 (q := 35) rfl ?_
    refine vv_calli hC hK (fun _ h => h) (As := [.int (S.2 24 (tn cc))]) 0 (by decide) or9 rfl (c9_indexOf l hJ (sS S 0 0) (S.2 24 (tn cc)) hI) (cwV 1 hC.2.2.2.2 gX9_span_X9_indexOf rfl rfl rfl hdX9_indexOf ⟨Nat.le_of_ble_eq_true rfl, Nat.le_of_ble_eq_true rfl⟩) rfl rfl (Nat.le_of_ble_eq_true rfl) ⟨Nat.le_of_ble_eq_true rfl, Nat.le_of_ble_eq_true rfl⟩ dX9_span_35 (q := 38) rfl ?_
    refine vv_eqv (st' := [.int (mIdx S (S.2 24 (tn cc)))]) rfl ?_
    refine vv_eqv (st' := [.int (nI (mPos S (S.2 24 (tn cc))) - 1)]) (by rw [(mPos_spec (S := S) (S.2 24 (tn cc)) (by omega)).1]) ?_
    refine vv_istore_n hC (i := 2) (lv' := [(2, .int (nI (mPos S (S.2 24 (tn cc))) - 1)), (0, .ref (ad 0)), (1, .int (nI (tn cc)))]) dX9_span_38 rfl (by decide) rfl (q := 39) rfl ?_
    refine vv_aload_n hC 1 dX9_span_39 rfl rfl (q := 40) rfl ?_
    refine vv_aload_n hC 1 dX9_span_40 rfl rfl (q := 41) rfl ?_
    refine vv_aload_n hC 1 dX9_span_41 rfl rfl (q := 42) rfl ?_
    refine vv_get hC hK (K := RX9) (T := TX9) (N := 35) (ci := 9) inwX9_span_X9 0 (by decide) (fs := fldM ad (sS S 0 0)) om0 rfl 32 (by decide) (List.mem_of_getElem? (i := 3) rfl) rfl (v := .ref (ad 25)) rfl dX9_span_42 (q := 45) rfl ?_
    refine vv_iload_n hC 2 dX9_span_45 rfl rfl (q := 46) rfl ?_
    refine vv_ialdN (P := PM cI cZ ad (sS S 0 0)) hC hK 25 (by decide) 0 (g := S.2 25) (omI (by decide) rfl) rfl (show tn cc < 40 from (by omega)) (by decide) dX9_span_46 (q := 47) rfl ?_
    refine vv_calli hC hK (fun _ h => h) (As := [.int (S.2 25 (tn cc))]) 0 (by decide) or9 rfl (c9_indexOf l hJ (sS S 0 0) (S.2 25 (tn cc)) hI) (cwV 1 hC.2.2.2.2 gX9_span_X9_indexOf rfl rfl rfl hdX9_indexOf ⟨Nat.le_of_ble_eq_true rfl, Nat.le_of_ble_eq_true rfl⟩) rfl rfl (Nat.le_of_ble_eq_true rfl) ⟨Nat.le_of_ble_eq_true rfl, Nat.le_of_ble_eq_true rfl⟩ dX9_span_47 (q := 50) rfl ?_
    refine vv_eqv (st' := [.int (mIdx S (S.2 25 (tn cc))), .ref (ad 0)]) rfl ?_
    refine vv_eqv (st' := [.int (nI (mPos S (S.2 25 (tn cc))) - 1), .ref (ad 0)]) (by rw [(mPos_spec (S := S) (S.2 25 (tn cc)) (by omega)).1]) ?_
    refine vv_iconst hC (v := nI 1) dX9_span_50 rfl (q := 51) rfl ?_
    refine vv_iadd hC dX9_span_51 (q := 52) rfl ?_
    refine vv_eqv (st' := [.int (nI (mPos S (S.2 25 (tn cc)))), .ref (ad 0)]) (by rw [show nI (mPos S (S.2 25 (tn cc))) - 1 + nI 1 = nI (mPos S (S.2 25 (tn cc))) by rw [show nI 1 = (1 : Int32) from rfl]; simp]) ?_
    refine vv_calli hC hK (fun _ h => h) (As := [.int (nI (mPos S (S.2 25 (tn cc))))]) 0 (by decide) or9 rfl (c9_countAhead l hJ (sS S 0 0) (mPos S (S.2 25 (tn cc))) (mPos_spec (S := S) _ (by omega)).2 hI) (cwV 1 hC.2.2.2.2 gX9_span_X9_countAhead rfl rfl rfl hdX9_countAhead ⟨Nat.le_of_ble_eq_true rfl, Nat.le_of_ble_eq_true rfl⟩) rfl rfl (Nat.le_of_ble_eq_true rfl) ⟨Nat.le_of_ble_eq_true rfl, Nat.le_of_ble_eq_true rfl⟩ dX9_span_52 (q := 55) rfl ?_
    refine vv_eqv (st' := [.int (nI (mCnt S (mPos S (S.2 25 (tn cc)))))]) rfl ?_
    refine vv_aload_n hC 1 dX9_span_55 rfl rfl (q := 56) rfl ?_
    refine vv_iload_n hC 0 dX9_span_56 rfl rfl (q := 57) rfl ?_
    refine vv_calli hC hK (fun _ h => h) (As := [.int (nI (mPos S (S.2 24 (tn cc))) - 1)]) 0 (by decide) or9 rfl (c9_countAheadQ l hJ (sS S 0 0) (mPos S (S.2 24 (tn cc))) (mPos_spec (S := S) _ (by omega)).2 hI) (cwV 1 hC.2.2.2.2 gX9_span_X9_countAhead rfl rfl rfl hdX9_countAhead ⟨Nat.le_of_ble_eq_true rfl, Nat.le_of_ble_eq_true rfl⟩) rfl rfl (Nat.le_of_ble_eq_true rfl) ⟨Nat.le_of_ble_eq_true rfl, Nat.le_of_ble_eq_true rfl⟩ dX9_span_57 (q := 60) rfl ?_
    refine vv_eqv (st' := [.int (nI (mCnt S ((mPos S (S.2 24 (tn cc))) - 1))), .int (nI (mCnt S (mPos S (S.2 25 (tn cc)))))]) rfl ?_
    refine vv_isub hC dX9_span_60 (q := 61) rfl ?_
    refine vv_istore_n hC (i := 3) (lv' := [(3, .int ((nI (mCnt S (mPos S (S.2 25 (tn cc))))) - (nI (mCnt S ((mPos S (S.2 24 (tn cc))) - 1))))), (2, .int (nI (mPos S (S.2 24 (tn cc))) - 1)), (0, .ref (ad 0)), (1, .int (nI (tn cc)))]) dX9_span_61 rfl (by decide) rfl (q := 62) rfl ?_
    refine vv_iload_n hC 0 dX9_span_62 rfl rfl (q := 63) rfl ?_
    refine vv_if_ne hC (tgt := 70) dX9_span_63 (by decide) (q := 66) rfl (fun h63 => ?_) (fun h63 => ?_)
    · skip
      refine vv_sipush hC (v := nI 1000) dX9_span_70 rfl (q := 73) rfl ?_
      refine vv_aload_n hC 2 dX9_span_73 rfl rfl (q := 74) rfl ?_
      refine vv_iload_n hC 1 dX9_span_74 rfl rfl (q := 75) rfl ?_
      refine vv_calli hC hK (fun _ h => h) (As := [.int (nI (mPos S (S.2 24 (tn cc))) - 1)]) 0 (by decide) or9 rfl (c9_countAheadQ l hJ (sS S 0 0) (mPos S (S.2 24 (tn cc))) (mPos_spec (S := S) _ (by omega)).2 hI) (cwV 1 hC.2.2.2.2 gX9_span_X9_countAhead rfl rfl rfl hdX9_countAhead ⟨Nat.le_of_ble_eq_true rfl, Nat.le_of_ble_eq_true rfl⟩) rfl rfl (Nat.le_of_ble_eq_true rfl) ⟨Nat.le_of_ble_eq_true rfl, Nat.le_of_ble_eq_true rfl⟩ dX9_span_75 (q := 78) rfl ?_
      refine vv_eqv (st' := [.int (nI (mCnt S ((mPos S (S.2 24 (tn cc))) - 1))), .int (nI 1000)]) rfl ?_
      refine vv_imulN hC dX9_span_78 (q := 79) rfl ?_
      refine vv_iload_n hC 0 dX9_span_79 rfl rfl (q := 80) rfl ?_
      refine vv_iadd hC dX9_span_80 (q := 81) rfl ?_
      have hT : mtSpn S cc = 0 := by simp only [mtSpn, bI_1 h12, h63, Bool.false_eq_true, true_and, and_true, false_and, and_false, and_self, not_true, not_false_iff, or_true, true_or, or_false, false_or, if_true, if_false, reduceIte]
      exact vv_iret hC hK hr hlk (by rw [if_pos hT]; rw [mSpn, if_neg (show ¬ mSpM S (tn cc) = 0 from h63)]; rfl) (fun f h => by rw [if_pos hT]; exact h) dX9_span_81
    · skip
      refine vv_iconst hC (v := (-1)) dX9_span_66 rfl (q := 67) rfl ?_
      refine vv_goto hC (tgt := 81) dX9_span_67 (by decide) ?_
      have hT : mtSpn S cc = 0 := by simp only [mtSpn, bI_1 h12, h63, Bool.false_eq_true, true_and, and_true, false_and, and_false, and_self, not_true, not_false_iff, or_true, true_or, or_false, false_or, if_true, if_false, reduceIte]
      exact vv_iret hC hK hr hlk (by rw [if_pos hT]; rw [mSpn, if_pos (show mSpM S (tn cc) = 0 from h63)]) (fun f h => by rw [if_pos hT]; exact h) dX9_span_81
theorem inwX9_keep_X9 : ∀ w ∈ wsX90, w ∈ wsX9_keep := fun _ h => List.mem_cons_of_mem _ (List.mem_append_right _ h)
theorem hdX9_keep : yX9_keep.cls = RX9 ∧ yX9_keep.cls ≠ "java/lang/invoke/MethodHandle" ∧ yX9_keep.cls ≠ "java/lang/invoke/VarHandle" ∧ (parseMethodDescriptor yX9_keep.desc).map (fun d => d.parameters.length) = some 0 := by decide +kernel
set_option maxRecDepth 100000 in
set_option maxHeartbeats 4000000 in
theorem c9_keep (l : Launch) {D : va_G} {cI cW cZ cL : ClassId} {ad : Nat → Nat} (hJ : injA ad 27) (S : sM) (hI : IM S)  : kMi l yX9_keep wsX9_keep ({ frames := 1, cells := 0, slots := 0, locals := 21 }) D vwCl (tyL cI cW cZ cL) ad 27 [.ref (ad 0)] (PM cI cZ ad S) (if mtKp S = 0 then nI (S.1 33) else 0) (PM cI cZ ad (if mtKp S = 0 then msKp S else sS S 0 (mtKp S))) := by
  refine vv_enter (cc := cX9_keep) (maxL := 2) (ret := (some .int)) (own := RX9) (lv := [(0, .ref (ad 0))]) (by decide +kernel) rfl rfl hJ (Nat.le_of_ble_eq_true rfl) rfl ?_
  intro p e s m args below meth c hC hK hW hr hlk
  obtain ⟨iW, iR, iV, iI, iC, iK, iD, irow, ianc, iwr, icl, icc, irv⟩ := id hI
  refine vv_aload_n hC 0 dX9_keep_0 rfl rfl (q := 1) rfl ?_
  refine vv_aload_n hC 0 dX9_keep_1 rfl rfl (q := 2) rfl ?_
  refine vv_get hC hK (K := RX9) (T := TX9) (N := 35) (ci := 9) inwX9_keep_X9 0 (by decide) (fs := fldM ad S) om0 rfl 33 (by decide) (List.mem_of_getElem? (i := 1) rfl) rfl (v := .int (nI (S.1 33))) rfl dX9_keep_2 (q := 5) rfl ?_
  refine vv_bipush hC (v := nI 20) dX9_keep_5 rfl (q := 7) rfl ?_
  refine vv_icmpN_ne hC (tgt := 14) (by omega) (by omega) dX9_keep_7 (by decide) (q := 10) rfl (fun h7 => ?_) (fun h7 => ?_)
  · skip
    refine vv_iconst hC (v := nI 0) dX9_keep_14 rfl (q := 15) rfl ?_
    refine vv_calli hC hK (fun _ h => h) (As := [.int (nI 0)]) 0 (by decide) or9 rfl (c9_goesWell l hJ S 0 (by decide)) (cwV 1 hC.2.2.2.2 gX9_keep_X9_goesWell rfl rfl rfl hdX9_goesWell ⟨Nat.le_of_ble_eq_true rfl, Nat.le_of_ble_eq_true rfl⟩) rfl rfl (Nat.le_of_ble_eq_true rfl) ⟨Nat.le_of_ble_eq_true rfl, Nat.le_of_ble_eq_true rfl⟩ dX9_keep_15 (q := 18) rfl ?_
    refine vv_eqv (st' := [.int (nI 1)]) rfl ?_
    refine vv_if_ne hC (tgt := 23) dX9_keep_18 (by decide) (q := 21) rfl (fun _ => ?_) (fun h => absurd h (by decide))
    refine vv_iconst hC (v := nI 0) dX9_keep_23 rfl (q := 24) rfl ?_
    refine vv_istore_n hC (i := 1) (lv' := [(1, .int (nI 0)), (0, .ref (ad 0))]) dX9_keep_24 rfl (by decide) rfl (q := 25) rfl ?_
    have loop25 : ∀ (fu : Nat) (k : Nat), 300 < k + fu → k ≤ 300 → vv p l e (headSpec wsX9_keep ({ frames := 1, cells := 0, slots := 0, locals := 21 })).room s m args below meth c 2 (RA ad 27) s.heap 0 0 (MQ below (va_Qi (fun r' (_ : Unit) => r' = (if mtKp S = 0 then nI (S.1 33) else 0)) (fun _ => ws0 D vwCl (tyL cI cW cZ cL) ad 27 (PM cI cZ ad (if mtKp S = 0 then msKp S else sS S 0 (mtKp S)))) (RA ad 27)) args s 0 0 (RA ad 27)) (wq D vwCl ad 27 (PM cI cZ ad (sA (sS S 0 0) 26 (mKpF S k)))) 25 [(0, .ref (ad 0)), (1, .int (nI k))] [] := by
      intro fu
      induction fu with
      | zero =>
        intro k hfu hk
        exact absurd hfu (by omega)
      | succ fu ih =>
        intro k hfu hk
        refine vv_iload_n hC 1 dX9_keep_25 rfl rfl (q := 26) rfl ?_
        refine vv_sipush hC (v := nI 300) dX9_keep_26 rfl (q := 29) rfl ?_
        refine vv_icmpN_ge hC (tgt := 59) (by omega) (by omega) dX9_keep_29 (by decide) (q := 32) rfl (fun h29 => ?_) (fun h29 => ?_)
        · skip
          obtain rfl : k = 300 := by omega
          refine vv_aload_n hC 0 dX9_keep_59 rfl rfl (q := 60) rfl ?_
          refine vv_dup hC dX9_keep_60 rfl (q := 61) rfl ?_
          refine vv_get hC hK (K := RX9) (T := TX9) (N := 35) (ci := 9) inwX9_keep_X9 0 (by decide) (fs := fldM ad (sA (sS S 0 0) 26 (mKpF S 300))) om0 rfl 33 (by decide) (List.mem_of_getElem? (i := 1) rfl) rfl (v := .int (nI (S.1 33))) rfl dX9_keep_61 (q := 64) rfl ?_
          refine vv_iconst hC (v := nI 1) dX9_keep_64 rfl (q := 65) rfl ?_
          refine vv_iaddN hC dX9_keep_65 (q := 66) rfl ?_
          refine vv_put hC hK hW (P1 := PM cI cZ ad (sS (sA (sS S 0 0) 26 (mKpF S 300)) 33 ((S.1 33) + 1))) (K := RX9) (T := TX9) (N := 35) (ci := 9) inwX9_keep_X9 tyX9 tyX9_ok nmX9 0 (by decide) (fs := fldM ad (sA (sS S 0 0) 26 (mKpF S 300))) om0 rfl (ty := .int) 33 (by decide) (List.mem_of_getElem? (i := 1) rfl) rfl rfl (by decide +kernel) rfl rfl (Nat.le_of_ble_eq_true rfl) (om_s33 _) dX9_keep_66 (q := 69) rfl ?_
          refine vv_aload_n hC 0 dX9_keep_69 rfl rfl (q := 70) rfl ?_
          refine vv_get hC hK (K := RX9) (T := TX9) (N := 35) (ci := 9) inwX9_keep_X9 0 (by decide) (fs := fldM ad (sS (sA (sS S 0 0) 26 (mKpF S 300)) 33 ((S.1 33) + 1))) om0 rfl 33 (by decide) (List.mem_of_getElem? (i := 1) rfl) rfl (v := .int (nI ((S.1 33) + 1))) rfl dX9_keep_70 (q := 73) rfl ?_
          refine vv_iconst hC (v := nI 1) dX9_keep_73 rfl (q := 74) rfl ?_
          refine vv_isubN hC (by omega) dX9_keep_74 (q := 75) rfl ?_
          have hT : mtKp S = 0 := by simp only [mtKp, h7, h29, Bool.false_eq_true, true_and, and_true, false_and, and_false, and_self, not_true, not_false_iff, or_true, true_or, or_false, false_or, if_true, if_false, reduceIte]
          exact vv_iret hC hK hr hlk (by rw [if_pos hT]; rfl) (fun f h => by rw [if_pos hT]; exact h) dX9_keep_75
        · skip
          refine vv_aload_n hC 0 dX9_keep_32 rfl rfl (q := 33) rfl ?_
          refine vv_get hC hK (K := RX9) (T := TX9) (N := 35) (ci := 9) inwX9_keep_X9 0 (by decide) (fs := fldM ad (sA (sS S 0 0) 26 (mKpF S k))) om0 rfl 34 (by decide) (List.mem_of_getElem? (i := 2) rfl) rfl (v := .ref (ad 26)) rfl dX9_keep_33 (q := 36) rfl ?_
          refine vv_sipush hC (v := nI 300) dX9_keep_36 rfl (q := 39) rfl ?_
          refine vv_aload_n hC 0 dX9_keep_39 rfl rfl (q := 40) rfl ?_
          refine vv_get hC hK (K := RX9) (T := TX9) (N := 35) (ci := 9) inwX9_keep_X9 0 (by decide) (fs := fldM ad (sA (sS S 0 0) 26 (mKpF S k))) om0 rfl 33 (by decide) (List.mem_of_getElem? (i := 1) rfl) rfl (v := .int (nI (S.1 33))) rfl dX9_keep_40 (q := 43) rfl ?_
          refine vv_imulN hC dX9_keep_43 (q := 44) rfl ?_
          refine vv_iload_n hC 1 dX9_keep_44 rfl rfl (q := 45) rfl ?_
          refine vv_iaddN hC dX9_keep_45 (q := 46) rfl ?_
          refine vv_aload_n hC 0 dX9_keep_46 rfl rfl (q := 47) rfl ?_
          refine vv_get hC hK (K := RX9) (T := TX9) (N := 35) (ci := 9) inwX9_keep_X9 0 (by decide) (fs := fldM ad (sA (sS S 0 0) 26 (mKpF S k))) om0 rfl 6 (by decide) (List.mem_of_getElem? (i := 3) rfl) rfl (v := .ref (ad 5)) rfl dX9_keep_47 (q := 50) rfl ?_
          refine vv_iload_n hC 1 dX9_keep_50 rfl rfl (q := 51) rfl ?_
          refine vv_zaldN (P := PM cI cZ ad (sA (sS S 0 0) 26 (mKpF S k))) hC hK 5 (by decide) 2 (g := S.2 5) (omZ (by decide) rfl) rfl (show k < 300 from (by omega)) (by decide) dX9_keep_51 (q := 52) rfl ?_
          refine vv_zastN (P := PM cI cZ ad (sA (sS S 0 0) 26 (mKpF S k))) hC hK hW (P1 := PM cI cZ ad (sA (sS S 0 0) 26 (upd (mKpF S k) ((300 * (S.1 33)) + k) (vp_nar .boolean (S.2 5 k))))) 26 (by decide) 2 (g := mKpF S k) (omZ (by decide) rfl) rfl (show (300 * (S.1 33)) + k < 6000 from (by omega)) (by decide) (fun f h => by rw [← sA_sA (g := mKpF S k)]; exact om_aZ (j := 26) (by decide) rfl _ f h) dX9_keep_52 (q := 53) rfl ?_
          refine vv_iinc hC (i := 1) (v := nI (k + 1)) (lv' := [(1, .int (nI (k + 1))), (0, .ref (ad 0))]) 1 dX9_keep_53 rfl (nI_1 k) (by decide) rfl (q := 56) rfl ?_
          refine vv_goto hC (tgt := 25) dX9_keep_56 (by decide) ?_
          refine vv_lv [1, 0] (lv' := [(0, .ref (ad 0)), (1, .int (nI (k + 1)))]) rfl ?_
          exact ih (k + 1) (by omega) (by omega)
    refine vv_lv [1, 0] (lv' := [(0, .ref (ad 0)), (1, .int (nI 0))]) rfl ?_
    refine vv_wq (P1 := PM cI cZ ad (sA (sS S 0 0) 26 (mKpF S 0))) (fun f h => by rw [show mKpF S 0 = (sS S 0 0).2 26 from rfl, sA_id]; exact h) ?_
    exact loop25 301 0 (by omega) (Nat.zero_le _)
  · skip
    refine vv_iconst hC (v := nI 1) dX9_keep_10 rfl (q := 11) rfl ?_
    refine vv_goto hC (tgt := 15) dX9_keep_11 (by decide) ?_
    refine vv_calli hC hK (fun _ h => h) (As := [.int (nI 1)]) 0 (by decide) or9 rfl (c9_goesWell l hJ S 1 (by decide)) (cwV 1 hC.2.2.2.2 gX9_keep_X9_goesWell rfl rfl rfl hdX9_goesWell ⟨Nat.le_of_ble_eq_true rfl, Nat.le_of_ble_eq_true rfl⟩) rfl rfl (Nat.le_of_ble_eq_true rfl) ⟨Nat.le_of_ble_eq_true rfl, Nat.le_of_ble_eq_true rfl⟩ dX9_keep_15 (q := 18) rfl ?_
    refine vv_eqv (st' := [.int (nI 0)]) rfl ?_
    refine vv_if_ne hC (tgt := 23) dX9_keep_18 (by decide) (q := 21) rfl (fun h => absurd h (by decide)) (fun _ => ?_)
    refine vv_iconst hC (v := nI 0) dX9_keep_21 rfl (q := 22) rfl ?_
    have hT : mtKp S = 1 := by simp only [mtKp, h7, Bool.false_eq_true, true_and, and_true, false_and, and_false, and_self, not_true, not_false_iff, or_true, true_or, or_false, false_or, if_true, if_false, reduceIte]
    exact vv_iret hC hK hr hlk (by rw [if_neg (by rw [hT]; decide)]; rfl) (fun f h => by rw [if_neg (by rw [hT]; decide)]; rw [hT]; exact h) dX9_keep_22
theorem inwX9_compare_X9 : ∀ w ∈ wsX90, w ∈ wsX9_compare := fun _ h => List.mem_cons_of_mem _ (List.mem_append_right _ h)
theorem hdX9_compare : yX9_compare.cls = RX9 ∧ yX9_compare.cls ≠ "java/lang/invoke/MethodHandle" ∧ yX9_compare.cls ≠ "java/lang/invoke/VarHandle" ∧ (parseMethodDescriptor yX9_compare.desc).map (fun d => d.parameters.length) = some 2 := by decide +kernel
set_option maxRecDepth 100000 in
set_option maxHeartbeats 4000000 in
theorem c9_compare (l : Launch) {D : va_G} {cI cW cZ cL : ClassId} {ad : Nat → Nat} (hJ : injA ad 27) (S : sM) (a b : Int32) (hI : IM S)  : kMi l yX9_compare wsX9_compare ({ frames := 1, cells := 0, slots := 0, locals := 22 }) D vwCl (tyL cI cW cZ cL) ad 27 [.ref (ad 0), .int a, .int b] (PM cI cZ ad S) (if mtCmp S a b = 0 then nI (1000 * mOnl S (tn b) (tn a) 300 + mOnl S (tn a) (tn b) 300) else 0) (PM cI cZ ad (if mtCmp S a b = 0 then sS S 0 0 else sS S 0 (mtCmp S a b))) := by
  refine vv_enter (cc := cX9_compare) (maxL := 8) (ret := (some .int)) (own := RX9) (lv := [(0, .ref (ad 0)), (1, .int a), (2, .int b)]) (by decide +kernel) rfl rfl hJ (Nat.le_of_ble_eq_true rfl) rfl ?_
  intro p e s m args below meth c hC hK hW hr hlk
  obtain ⟨iW, iR, iV, iI, iC, iK, iD, irow, ianc, iwr, icl, icc, irv⟩ := id hI
  refine vv_aload_n hC 0 dX9_compare_0 rfl rfl (q := 1) rfl ?_
  refine vv_iload_n hC 1 dX9_compare_1 rfl rfl (q := 2) rfl ?_
  refine vv_iconst hC (v := nI 0) dX9_compare_2 rfl (q := 3) rfl ?_
  refine vv_aload_n hC 0 dX9_compare_3 rfl rfl (q := 4) rfl ?_
  refine vv_get hC hK (K := RX9) (T := TX9) (N := 35) (ci := 9) inwX9_compare_X9 0 (by decide) (fs := fldM ad S) om0 rfl 33 (by decide) (List.mem_of_getElem? (i := 1) rfl) rfl (v := .int (nI (S.1 33))) rfl dX9_compare_4 (q := 7) rfl ?_
  refine vv_iconst hC (v := nI 1) dX9_compare_7 rfl (q := 8) rfl ?_
  refine vv_isub hC dX9_compare_8 (q := 9) rfl ?_
  refine vv_callsi hC hK (fun _ h => h) (As := [.int a, .int (nI 0), .int ((nI (S.1 33)) - (nI 1))]) (c9_in l hJ S a 0 ((nI (S.1 33)) - (nI 1))) (va_cwS 3 hC.2.2.2.2 gX9_compare_X9_in rfl rfl rfl hsX9_in ⟨Nat.le_of_ble_eq_true rfl, Nat.le_of_ble_eq_true rfl⟩) rfl rfl (Nat.le_of_ble_eq_true rfl) ⟨Nat.le_of_ble_eq_true rfl, Nat.le_of_ble_eq_true rfl⟩ dX9_compare_9 (q := 12) rfl ?_
  refine vv_if_eq hC (tgt := 33) dX9_compare_12 (by decide) (q := 15) rfl (fun h12 => ?_) (fun h12 => ?_)
  · skip
    refine vv_iconst hC (v := nI 1) dX9_compare_33 rfl (q := 34) rfl ?_
    refine vv_calli hC hK (fun _ h => h) (As := [.int (nI 1)]) 0 (by decide) or9 rfl (c9_goesWell l hJ S 1 (by decide)) (cwV 1 hC.2.2.2.2 gX9_compare_X9_goesWell rfl rfl rfl hdX9_goesWell ⟨Nat.le_of_ble_eq_true rfl, Nat.le_of_ble_eq_true rfl⟩) rfl rfl (Nat.le_of_ble_eq_true rfl) ⟨Nat.le_of_ble_eq_true rfl, Nat.le_of_ble_eq_true rfl⟩ dX9_compare_34 (q := 37) rfl ?_
    refine vv_eqv (st' := [.int (nI 0)]) rfl ?_
    refine vv_if_ne hC (tgt := 42) dX9_compare_37 (by decide) (q := 40) rfl (fun h => absurd h (by decide)) (fun _ => ?_)
    refine vv_iconst hC (v := nI 0) dX9_compare_40 rfl (q := 41) rfl ?_
    have hT : mtCmp S a b = 1 := by simp only [mtCmp, bI_0.mp h12, Bool.false_eq_true, true_and, and_true, false_and, and_false, and_self, not_true, not_false_iff, or_true, true_or, or_false, false_or, if_true, if_false, reduceIte]
    exact vv_iret hC hK hr hlk (by rw [if_neg (by rw [hT]; decide)]; rfl) (fun f h => by rw [if_neg (by rw [hT]; decide)]; rw [hT]; exact h) dX9_compare_41
  · skip
    refine vv_iload_n hC 2 dX9_compare_15 rfl rfl (q := 16) rfl ?_
    refine vv_iconst hC (v := nI 0) dX9_compare_16 rfl (q := 17) rfl ?_
    refine vv_aload_n hC 0 dX9_compare_17 rfl rfl (q := 18) rfl ?_
    refine vv_get hC hK (K := RX9) (T := TX9) (N := 35) (ci := 9) inwX9_compare_X9 0 (by decide) (fs := fldM ad S) om0 rfl 33 (by decide) (List.mem_of_getElem? (i := 1) rfl) rfl (v := .int (nI (S.1 33))) rfl dX9_compare_18 (q := 21) rfl ?_
    refine vv_iconst hC (v := nI 1) dX9_compare_21 rfl (q := 22) rfl ?_
    refine vv_isub hC dX9_compare_22 (q := 23) rfl ?_
    refine vv_callsi hC hK (fun _ h => h) (As := [.int b, .int (nI 0), .int ((nI (S.1 33)) - (nI 1))]) (c9_in l hJ S b 0 ((nI (S.1 33)) - (nI 1))) (va_cwS 3 hC.2.2.2.2 gX9_compare_X9_in rfl rfl rfl hsX9_in ⟨Nat.le_of_ble_eq_true rfl, Nat.le_of_ble_eq_true rfl⟩) rfl rfl (Nat.le_of_ble_eq_true rfl) ⟨Nat.le_of_ble_eq_true rfl, Nat.le_of_ble_eq_true rfl⟩ dX9_compare_23 (q := 26) rfl ?_
    refine vv_if_eq hC (tgt := 33) dX9_compare_26 (by decide) (q := 29) rfl (fun h26 => ?_) (fun h26 => ?_)
    · skip
      refine vv_iconst hC (v := nI 1) dX9_compare_33 rfl (q := 34) rfl ?_
      refine vv_calli hC hK (fun _ h => h) (As := [.int (nI 1)]) 0 (by decide) or9 rfl (c9_goesWell l hJ S 1 (by decide)) (cwV 1 hC.2.2.2.2 gX9_compare_X9_goesWell rfl rfl rfl hdX9_goesWell ⟨Nat.le_of_ble_eq_true rfl, Nat.le_of_ble_eq_true rfl⟩) rfl rfl (Nat.le_of_ble_eq_true rfl) ⟨Nat.le_of_ble_eq_true rfl, Nat.le_of_ble_eq_true rfl⟩ dX9_compare_34 (q := 37) rfl ?_
      refine vv_eqv (st' := [.int (nI 0)]) rfl ?_
      refine vv_if_ne hC (tgt := 42) dX9_compare_37 (by decide) (q := 40) rfl (fun h => absurd h (by decide)) (fun _ => ?_)
      refine vv_iconst hC (v := nI 0) dX9_compare_40 rfl (q := 41) rfl ?_
      have hT : mtCmp S a b = 1 := by simp only [mtCmp, bI_1 h12, bI_0.mp h26, Bool.false_eq_true, true_and, and_true, false_and, and_false, and_self, not_true, not_false_iff, or_true, true_or, or_false, false_or, if_true, if_false, reduceIte]
      exact vv_iret hC hK hr hlk (by rw [if_neg (by rw [hT]; decide)]; rfl) (fun f h => by rw [if_neg (by rw [hT]; decide)]; rw [hT]; exact h) dX9_compare_41
    · skip
      refine vv_iconst hC (v := nI 0) dX9_compare_29 rfl (q := 30) rfl ?_
      refine vv_goto hC (tgt := 34) dX9_compare_30 (by decide) ?_
      refine vv_calli hC hK (fun _ h => h) (As := [.int (nI 0)]) 0 (by decide) or9 rfl (c9_goesWell l hJ S 0 (by decide)) (cwV 1 hC.2.2.2.2 gX9_compare_X9_goesWell rfl rfl rfl hdX9_goesWell ⟨Nat.le_of_ble_eq_true rfl, Nat.le_of_ble_eq_true rfl⟩) rfl rfl (Nat.le_of_ble_eq_true rfl) ⟨Nat.le_of_ble_eq_true rfl, Nat.le_of_ble_eq_true rfl⟩ dX9_compare_34 (q := 37) rfl ?_
      refine vv_eqv (st' := [.int (nI 1)]) rfl ?_
      refine vv_if_ne hC (tgt := 42) dX9_compare_37 (by decide) (q := 40) rfl (fun _ => ?_) (fun h => absurd h (by decide))
      obtain ⟨han, hal⟩ := inB_m1 (b := S.1 33) (by omega) (bI_1 h12)
      obtain ⟨hbn, hbl⟩ := inB_m1 (b := S.1 33) (by omega) (bI_1 h26)
      refine vv_eql (lv' := [(0, .ref (ad 0)), (1, .int (nI (tn a))), (2, .int (nI (tn b)))]) (by rw [← han, ← hbn]) ?_
      refine vv_iconst hC (v := nI 0) dX9_compare_42 rfl (q := 43) rfl ?_
      refine vv_istore_n hC (i := 3) (lv' := [(3, .int (nI 0)), (0, .ref (ad 0)), (1, .int (nI (tn a))), (2, .int (nI (tn b)))]) dX9_compare_43 rfl (by decide) rfl (q := 44) rfl ?_
      refine vv_iconst hC (v := nI 0) dX9_compare_44 rfl (q := 45) rfl ?_
      refine vv_istore hC (i := 4) (lv' := [(4, .int (nI 0)), (3, .int (nI 0)), (0, .ref (ad 0)), (1, .int (nI (tn a))), (2, .int (nI (tn b)))]) dX9_compare_45 (by decide) rfl (q := 47) rfl ?_
      refine vv_iconst hC (v := nI 0) dX9_compare_47 rfl (q := 48) rfl ?_
      refine vv_istore hC (i := 5) (lv' := [(5, .int (nI 0)), (4, .int (nI 0)), (3, .int (nI 0)), (0, .ref (ad 0)), (1, .int (nI (tn a))), (2, .int (nI (tn b)))]) dX9_compare_48 (by decide) rfl (q := 50) rfl ?_
      have loop50 : ∀ (fu : Nat) (k : Nat), 300 < k + fu → k ≤ 300 → vv p l e (headSpec wsX9_compare ({ frames := 1, cells := 0, slots := 0, locals := 22 })).room s m args below meth c 8 (RA ad 27) s.heap 0 0 (MQ below (va_Qi (fun r' (_ : Unit) => r' = (if mtCmp S a b = 0 then nI (1000 * mOnl S (tn b) (tn a) 300 + mOnl S (tn a) (tn b) 300) else 0)) (fun _ => ws0 D vwCl (tyL cI cW cZ cL) ad 27 (PM cI cZ ad (if mtCmp S a b = 0 then sS S 0 0 else sS S 0 (mtCmp S a b)))) (RA ad 27)) args s 0 0 (RA ad 27)) (wq D vwCl ad 27 (PM cI cZ ad (sS S 0 0))) 50 [(0, .ref (ad 0)), (1, .int (nI (tn a))), (2, .int (nI (tn b))), (3, .int (nI (mOnl S (tn b) (tn a) k))), (4, .int (nI (mOnl S (tn a) (tn b) k))), (5, .int (nI k))] [] := by
        intro fu
        induction fu with
        | zero =>
          intro k hfu hk
          exact absurd hfu (by omega)
        | succ fu ih =>
          intro k hfu hk
          refine vv_iload hC 5 dX9_compare_50 rfl (q := 52) rfl ?_
          refine vv_sipush hC (v := nI 300) dX9_compare_52 rfl (q := 55) rfl ?_
          refine vv_icmpN_ge hC (tgt := 132) (by omega) (by omega) dX9_compare_55 (by decide) (q := 58) rfl (fun h55 => ?_) (fun h55 => ?_)
          · skip
            obtain rfl : k = 300 := by omega
            refine vv_sipush hC (v := nI 1000) dX9_compare_132 rfl (q := 135) rfl ?_
            refine vv_iload_n hC 3 dX9_compare_135 rfl rfl (q := 136) rfl ?_
            refine vv_imulN hC dX9_compare_136 (q := 137) rfl ?_
            refine vv_iload hC 4 dX9_compare_137 rfl (q := 139) rfl ?_
            refine vv_iaddN hC dX9_compare_139 (q := 140) rfl ?_
            have hT : mtCmp S a b = 0 := by simp only [mtCmp, bI_1 h12, bI_1 h26, h55, Bool.false_eq_true, true_and, and_true, false_and, and_false, and_self, not_true, not_false_iff, or_true, true_or, or_false, false_or, if_true, if_false, reduceIte]
            exact vv_iret hC hK hr hlk (by rw [if_pos hT]) (fun f h => by rw [if_pos hT]; exact h) dX9_compare_140
          · skip
            refine vv_aload_n hC 0 dX9_compare_58 rfl rfl (q := 59) rfl ?_
            refine vv_get hC hK (K := RX9) (T := TX9) (N := 35) (ci := 9) inwX9_compare_X9 0 (by decide) (fs := fldM ad (sS S 0 0)) om0 rfl 34 (by decide) (List.mem_of_getElem? (i := 2) rfl) rfl (v := .ref (ad 26)) rfl dX9_compare_59 (q := 62) rfl ?_
            refine vv_sipush hC (v := nI 300) dX9_compare_62 rfl (q := 65) rfl ?_
            refine vv_iload_n hC 1 dX9_compare_65 rfl rfl (q := 66) rfl ?_
            refine vv_imulN hC dX9_compare_66 (q := 67) rfl ?_
            refine vv_iload hC 5 dX9_compare_67 rfl (q := 69) rfl ?_
            refine vv_iaddN hC dX9_compare_69 (q := 70) rfl ?_
            refine vv_zaldN (P := PM cI cZ ad (sS S 0 0)) hC hK 26 (by decide) 2 (g := S.2 26) (omZ (by decide) rfl) rfl (show (300 * (tn a)) + k < 6000 from (by omega)) (by decide) dX9_compare_70 (q := 71) rfl ?_
            refine vv_istore hC (i := 6) (lv' := [(6, .int (S.2 26 ((300 * (tn a)) + k))), (0, .ref (ad 0)), (1, .int (nI (tn a))), (2, .int (nI (tn b))), (3, .int (nI (mOnl S (tn b) (tn a) k))), (4, .int (nI (mOnl S (tn a) (tn b) k))), (5, .int (nI k))]) dX9_compare_71 (by decide) rfl (q := 73) rfl ?_
            refine vv_aload_n hC 1 dX9_compare_73 rfl rfl (q := 74) rfl ?_
            refine vv_get hC hK (K := RX9) (T := TX9) (N := 35) (ci := 9) inwX9_compare_X9 0 (by decide) (fs := fldM ad (sS S 0 0)) om0 rfl 34 (by decide) (List.mem_of_getElem? (i := 2) rfl) rfl (v := .ref (ad 26)) rfl dX9_compare_74 (q := 77) rfl ?_
            refine vv_sipush hC (v := nI 300) dX9_compare_77 rfl (q := 80) rfl ?_
            refine vv_iload_n hC 3 dX9_compare_80 rfl rfl (q := 81) rfl ?_
            refine vv_imulN hC dX9_compare_81 (q := 82) rfl ?_
            refine vv_iload hC 6 dX9_compare_82 rfl (q := 84) rfl ?_
            refine vv_iaddN hC dX9_compare_84 (q := 85) rfl ?_
            refine vv_zaldN (P := PM cI cZ ad (sS S 0 0)) hC hK 26 (by decide) 2 (g := S.2 26) (omZ (by decide) rfl) rfl (show (300 * (tn b)) + k < 6000 from (by omega)) (by decide) dX9_compare_85 (q := 86) rfl ?_
            refine vv_istore hC (i := 7) (lv' := [(7, .int (S.2 26 ((300 * (tn b)) + k))), (6, .int (S.2 26 ((300 * (tn a)) + k))), (0, .ref (ad 0)), (1, .int (nI (tn a))), (2, .int (nI (tn b))), (3, .int (nI (mOnl S (tn b) (tn a) k))), (4, .int (nI (mOnl S (tn a) (tn b) k))), (5, .int (nI k))]) dX9_compare_86 (by decide) rfl (q := 88) rfl ?_
            refine vv_iload_n hC 5 dX9_compare_88 rfl rfl (q := 89) rfl ?_
            refine vv_iload hC 0 dX9_compare_89 rfl (q := 91) rfl ?_
            refine vv_if_eq hC (tgt := 103) dX9_compare_91 (by decide) (q := 94) rfl (fun h91 => ?_) (fun h91 => ?_)
            · skip
              refine vv_iconst hC (v := nI 0) dX9_compare_103 rfl (q := 104) rfl ?_
              refine vv_iaddN hC dX9_compare_104 (q := 105) rfl ?_
              refine vv_istore_n hC (i := 3) (lv' := [(3, .int (nI ((mOnl S (tn b) (tn a) k) + 0))), (7, .int (S.2 26 ((300 * (tn b)) + k))), (6, .int (S.2 26 ((300 * (tn a)) + k))), (0, .ref (ad 0)), (1, .int (nI (tn a))), (2, .int (nI (tn b))), (4, .int (nI (mOnl S (tn a) (tn b) k))), (5, .int (nI k))]) dX9_compare_105 rfl (by decide) rfl (q := 106) rfl ?_
              refine vv_iload hC 6 dX9_compare_106 rfl (q := 108) rfl ?_
              refine vv_iload hC 2 dX9_compare_108 rfl (q := 110) rfl ?_
              refine vv_if_eq hC (tgt := 122) dX9_compare_110 (by decide) (q := 113) rfl (fun h110 => ?_) (fun h110 => ?_)
              · skip
                refine vv_iconst hC (v := nI 0) dX9_compare_122 rfl (q := 123) rfl ?_
                refine vv_iaddN hC dX9_compare_123 (q := 124) rfl ?_
                refine vv_istore hC (i := 4) (lv' := [(4, .int (nI ((mOnl S (tn a) (tn b) k) + 0))), (3, .int (nI ((mOnl S (tn b) (tn a) k) + 0))), (7, .int (S.2 26 ((300 * (tn b)) + k))), (6, .int (S.2 26 ((300 * (tn a)) + k))), (0, .ref (ad 0)), (1, .int (nI (tn a))), (2, .int (nI (tn b))), (5, .int (nI k))]) dX9_compare_124 (by decide) rfl (q := 126) rfl ?_
                refine vv_iinc hC (i := 5) (v := nI (k + 1)) (lv' := [(5, .int (nI (k + 1))), (4, .int (nI ((mOnl S (tn a) (tn b) k) + 0))), (3, .int (nI ((mOnl S (tn b) (tn a) k) + 0))), (7, .int (S.2 26 ((300 * (tn b)) + k))), (6, .int (S.2 26 ((300 * (tn a)) + k))), (0, .ref (ad 0)), (1, .int (nI (tn a))), (2, .int (nI (tn b)))]) 7 dX9_compare_126 rfl (nI_1 k) (by decide) rfl (q := 129) rfl ?_
                refine vv_goto hC (tgt := 50) dX9_compare_129 (by decide) ?_
                refine vv_lv [5, 6, 7, 2, 1, 0] (lv' := [(0, .ref (ad 0)), (1, .int (nI (tn a))), (2, .int (nI (tn b))), (3, .int (nI ((mOnl S (tn b) (tn a) k) + 0))), (4, .int (nI ((mOnl S (tn a) (tn b) k) + 0))), (5, .int (nI (k + 1)))]) rfl ?_
                exact vv_eql (by simp only [mOnl, h91, h110, not_true, not_false_iff, and_true, true_and, false_and, and_false, and_self, if_true, if_false]) (ih (k + 1) (by omega) (by omega))
              · skip
                refine vv_iload hC 1 dX9_compare_113 rfl (q := 115) rfl ?_
                refine vv_if_ne hC (tgt := 122) dX9_compare_115 (by decide) (q := 118) rfl (fun h115 => ?_) (fun h115 => ?_)
                · skip
                  exact absurd h91 h115
                · skip
                  refine vv_iconst hC (v := nI 1) dX9_compare_118 rfl (q := 119) rfl ?_
                  refine vv_goto hC (tgt := 123) dX9_compare_119 (by decide) ?_
                  refine vv_iaddN hC dX9_compare_123 (q := 124) rfl ?_
                  refine vv_istore hC (i := 4) (lv' := [(4, .int (nI ((mOnl S (tn a) (tn b) k) + 1))), (3, .int (nI ((mOnl S (tn b) (tn a) k) + 0))), (7, .int (S.2 26 ((300 * (tn b)) + k))), (6, .int (S.2 26 ((300 * (tn a)) + k))), (0, .ref (ad 0)), (1, .int (nI (tn a))), (2, .int (nI (tn b))), (5, .int (nI k))]) dX9_compare_124 (by decide) rfl (q := 126) rfl ?_
                  refine vv_iinc hC (i := 5) (v := nI (k + 1)) (lv' := [(5, .int (nI (k + 1))), (4, .int (nI ((mOnl S (tn a) (tn b) k) + 1))), (3, .int (nI ((mOnl S (tn b) (tn a) k) + 0))), (7, .int (S.2 26 ((300 * (tn b)) + k))), (6, .int (S.2 26 ((300 * (tn a)) + k))), (0, .ref (ad 0)), (1, .int (nI (tn a))), (2, .int (nI (tn b)))]) 7 dX9_compare_126 rfl (nI_1 k) (by decide) rfl (q := 129) rfl ?_
                  refine vv_goto hC (tgt := 50) dX9_compare_129 (by decide) ?_
                  refine vv_lv [5, 6, 7, 2, 1, 0] (lv' := [(0, .ref (ad 0)), (1, .int (nI (tn a))), (2, .int (nI (tn b))), (3, .int (nI ((mOnl S (tn b) (tn a) k) + 0))), (4, .int (nI ((mOnl S (tn a) (tn b) k) + 1))), (5, .int (nI (k + 1)))]) rfl ?_
                  exact vv_eql (by simp only [mOnl, h91, h110, h115, not_true, not_false_iff, and_true, true_and, false_and, and_false, and_self, if_true, if_false]) (ih (k + 1) (by omega) (by omega))
            · skip
              refine vv_iload hC 1 dX9_compare_94 rfl (q := 96) rfl ?_
              refine vv_if_ne hC (tgt := 103) dX9_compare_96 (by decide) (q := 99) rfl (fun h96 => ?_) (fun h96 => ?_)
              · skip
                refine vv_iconst hC (v := nI 0) dX9_compare_103 rfl (q := 104) rfl ?_
                refine vv_iaddN hC dX9_compare_104 (q := 105) rfl ?_
                refine vv_istore_n hC (i := 3) (lv' := [(3, .int (nI ((mOnl S (tn b) (tn a) k) + 0))), (7, .int (S.2 26 ((300 * (tn b)) + k))), (6, .int (S.2 26 ((300 * (tn a)) + k))), (0, .ref (ad 0)), (1, .int (nI (tn a))), (2, .int (nI (tn b))), (4, .int (nI (mOnl S (tn a) (tn b) k))), (5, .int (nI k))]) dX9_compare_105 rfl (by decide) rfl (q := 106) rfl ?_
                refine vv_iload hC 6 dX9_compare_106 rfl (q := 108) rfl ?_
                refine vv_iload hC 2 dX9_compare_108 rfl (q := 110) rfl ?_
                refine vv_if_eq hC (tgt := 122) dX9_compare_110 (by decide) (q := 113) rfl (fun h110 => ?_) (fun h110 => ?_)
                · skip
                  exact absurd h110 h96
                · skip
                  refine vv_iload hC 1 dX9_compare_113 rfl (q := 115) rfl ?_
                  refine vv_if_ne hC (tgt := 122) dX9_compare_115 (by decide) (q := 118) rfl (fun h115 => ?_) (fun h115 => ?_)
                  · skip
                    refine vv_iconst hC (v := nI 0) dX9_compare_122 rfl (q := 123) rfl ?_
                    refine vv_iaddN hC dX9_compare_123 (q := 124) rfl ?_
                    refine vv_istore hC (i := 4) (lv' := [(4, .int (nI ((mOnl S (tn a) (tn b) k) + 0))), (3, .int (nI ((mOnl S (tn b) (tn a) k) + 0))), (7, .int (S.2 26 ((300 * (tn b)) + k))), (6, .int (S.2 26 ((300 * (tn a)) + k))), (0, .ref (ad 0)), (1, .int (nI (tn a))), (2, .int (nI (tn b))), (5, .int (nI k))]) dX9_compare_124 (by decide) rfl (q := 126) rfl ?_
                    refine vv_iinc hC (i := 5) (v := nI (k + 1)) (lv' := [(5, .int (nI (k + 1))), (4, .int (nI ((mOnl S (tn a) (tn b) k) + 0))), (3, .int (nI ((mOnl S (tn b) (tn a) k) + 0))), (7, .int (S.2 26 ((300 * (tn b)) + k))), (6, .int (S.2 26 ((300 * (tn a)) + k))), (0, .ref (ad 0)), (1, .int (nI (tn a))), (2, .int (nI (tn b)))]) 7 dX9_compare_126 rfl (nI_1 k) (by decide) rfl (q := 129) rfl ?_
                    refine vv_goto hC (tgt := 50) dX9_compare_129 (by decide) ?_
                    refine vv_lv [5, 6, 7, 2, 1, 0] (lv' := [(0, .ref (ad 0)), (1, .int (nI (tn a))), (2, .int (nI (tn b))), (3, .int (nI ((mOnl S (tn b) (tn a) k) + 0))), (4, .int (nI ((mOnl S (tn a) (tn b) k) + 0))), (5, .int (nI (k + 1)))]) rfl ?_
                    exact vv_eql (by simp only [mOnl, h91, h96, h110, h115, not_true, not_false_iff, and_true, true_and, false_and, and_false, and_self, if_true, if_false]) (ih (k + 1) (by omega) (by omega))
                  · skip
                    exact absurd h115 h91
              · skip
                refine vv_iconst hC (v := nI 1) dX9_compare_99 rfl (q := 100) rfl ?_
                refine vv_goto hC (tgt := 104) dX9_compare_100 (by decide) ?_
                refine vv_iaddN hC dX9_compare_104 (q := 105) rfl ?_
                refine vv_istore_n hC (i := 3) (lv' := [(3, .int (nI ((mOnl S (tn b) (tn a) k) + 1))), (7, .int (S.2 26 ((300 * (tn b)) + k))), (6, .int (S.2 26 ((300 * (tn a)) + k))), (0, .ref (ad 0)), (1, .int (nI (tn a))), (2, .int (nI (tn b))), (4, .int (nI (mOnl S (tn a) (tn b) k))), (5, .int (nI k))]) dX9_compare_105 rfl (by decide) rfl (q := 106) rfl ?_
                refine vv_iload hC 6 dX9_compare_106 rfl (q := 108) rfl ?_
                refine vv_iload hC 2 dX9_compare_108 rfl (q := 110) rfl ?_
                refine vv_if_eq hC (tgt := 122) dX9_compare_110 (by decide) (q := 113) rfl (fun h110 => ?_) (fun h110 => ?_)
                · skip
                  refine vv_iconst hC (v := nI 0) dX9_compare_122 rfl (q := 123) rfl ?_
                  refine vv_iaddN hC dX9_compare_123 (q := 124) rfl ?_
                  refine vv_istore hC (i := 4) (lv' := [(4, .int (nI ((mOnl S (tn a) (tn b) k) + 0))), (3, .int (nI ((mOnl S (tn b) (tn a) k) + 1))), (7, .int (S.2 26 ((300 * (tn b)) + k))), (6, .int (S.2 26 ((300 * (tn a)) + k))), (0, .ref (ad 0)), (1, .int (nI (tn a))), (2, .int (nI (tn b))), (5, .int (nI k))]) dX9_compare_124 (by decide) rfl (q := 126) rfl ?_
                  refine vv_iinc hC (i := 5) (v := nI (k + 1)) (lv' := [(5, .int (nI (k + 1))), (4, .int (nI ((mOnl S (tn a) (tn b) k) + 0))), (3, .int (nI ((mOnl S (tn b) (tn a) k) + 1))), (7, .int (S.2 26 ((300 * (tn b)) + k))), (6, .int (S.2 26 ((300 * (tn a)) + k))), (0, .ref (ad 0)), (1, .int (nI (tn a))), (2, .int (nI (tn b)))]) 7 dX9_compare_126 rfl (nI_1 k) (by decide) rfl (q := 129) rfl ?_
                  refine vv_goto hC (tgt := 50) dX9_compare_129 (by decide) ?_
                  refine vv_lv [5, 6, 7, 2, 1, 0] (lv' := [(0, .ref (ad 0)), (1, .int (nI (tn a))), (2, .int (nI (tn b))), (3, .int (nI ((mOnl S (tn b) (tn a) k) + 1))), (4, .int (nI ((mOnl S (tn a) (tn b) k) + 0))), (5, .int (nI (k + 1)))]) rfl ?_
                  exact vv_eql (by simp only [mOnl, h91, h96, h110, not_true, not_false_iff, and_true, true_and, false_and, and_false, and_self, if_true, if_false]) (ih (k + 1) (by omega) (by omega))
                · skip
                  exact absurd h96 h110
      refine vv_lv [3, 4, 5, 2, 1, 0] (lv' := [(0, .ref (ad 0)), (1, .int (nI (tn a))), (2, .int (nI (tn b))), (3, .int (nI 0)), (4, .int (nI 0)), (5, .int (nI 0))]) rfl ?_
      exact loop50 301 0 (by omega) (Nat.zero_le _)
