/-! the reference: words, shares, reviews, issues -/
theorem txF_lt {S : sM} : ∀ fu k lf, ¬ txF S fu k lf = -1 → k + lf < S.1 8 := by
  intro fu
  induction fu with
  | zero => intro k lf h; exact absurd rfl h
  | succ fu ih =>
    intro k lf
    rw [txF_s]
    split
    · rename_i h1
      split
      · intro h; have := ih (k + 1) lf h; omega
      · split
        · rename_i h2; intro _; omega
        · intro h; have := ih (k + 1) (lf - 1) h; omega
    · intro h; exact absurd rfl h
theorem mTxt_lt {S : sM} {x : Int32} (h : ¬ mTxt S x = -1) : x = nI (tn x) ∧ tn x < S.1 8 := by
  rw [mTxt] at h
  by_cases h1 : x < 0
  · rw [if_pos h1] at h; exact absurd rfl h
  · rw [if_neg h1] at h
    have h2 := txF_lt _ _ _ h
    obtain ⟨n, hn, rfl⟩ := nI_of h1
    rw [tn_n hn] at h2 ⊢
    exact ⟨rfl, by omega⟩
def mtTx (S : sM) (x : Int32) : Nat := if mTxt S x = -1 then 1 else 0
def mtWd (S : sM) (n : Int32) : Nat := if inB n 0 (nI (S.1 1) - 1) = true then 0 else 1
def mtRv (S : sM) (n : Int32) : Nat := if inB n 0 (nI (S.1 17) - 1) = true then 0 else 1
def mtRw (r : Int32) : Nat := if inB r 0 3 = true then 0 else 1
def mtRt (r v : Int32) : Nat := if inB r 0 3 = true then (if inB v 0 100 = true then 0 else 2) else 1
def mFr (S : sM) (a : Nat) : Nat → Bool
  | 0 => true
  | n + 1 => mFr S a n && decide (S.2 6 (tn (mTxt S (nI (a + n)))) = -1)
def mtOrd (S : sM) (r a b : Int32) : Nat := if inB r 0 3 = true ∧ ¬ mTxt S a = -1 ∧ ¬ mTxt S b = -1 then (if tn b < tn a then 2 else if 30 ≤ S.1 17 then 3 else if mFr S (tn a) (tn b + 1 - tn a) = true then 0 else 3) else 1
def mFz (S : sM) (a : Nat) : Nat → Nat → Int32
  | 0 => S.2 6
  | n + 1 => upd (mFz S a n) (tn (mTxt S (nI (a + n)))) (nI (S.1 17))
def msOrd (S : sM) (r a b : Nat) : sM := sS (sA (sA (sA (sA (sA (sS S 0 0) 6 (mFz S a (b + 1 - a))) 15 (upd (S.2 15) (S.1 17) (nI r))) 16 (upd (S.2 16) (S.1 17) (nI 0))) 17 (upd (S.2 17) (S.1 17) (nI (b - a + 1)))) 18 (upd (S.2 18) (S.1 17) (nI (b - a + 1) * S.2 13 r))) 17 (S.1 17 + 1)
def mtFin (S : sM) (r u : Int32) : Nat := if inB r 0 (nI (S.1 17) - 1) = true then (if inB u 0 9 = true then (if S.2 16 (tn r) = 0 then 0 else 3) else 2) else 1
def msFin (S : sM) (r : Nat) (u : Int32) : sM := sA (sS (sA (sA (sA (sS S 0 0) 16 (upd (S.2 16) r (nI 1))) 19 (upd (S.2 19) r u)) 20 (upd (S.2 20) r (nI (S.1 24)))) 24 (S.1 24 + 1)) 14 (upd (S.2 14) (tn (S.2 15 r)) (S.2 14 (tn (S.2 15 r)) + S.2 18 r))
def mtCan (S : sM) (r : Int32) : Nat := if inB r 0 (nI (S.1 17) - 1) = true then (if S.2 16 (tn r) = 0 then 0 else 2) else 1
def msCan (S : sM) (r : Nat) : sM := mThaw (sA (sS S 0 0) 16 (upd (S.2 16) r (nI 2))) (nI r)
def mTk (S : sM) (d : Int32) : Nat → Bool
  | 0 => false
  | k + 1 => mTk S d k || decide (S.2 21 k = d)
def mtIss (S : sM) (d z : Int32) : Nat := if inB d (nI (S.1 29 + 1)) 1000 = true ∧ inB z 1 200 = true then (if S.1 25 = 12 ∨ mTk S d (S.1 25) = true then 2 else 0) else 1
def msIss (S : sM) (d z : Int32) : sM := sS (sA (sA (sA (sS S 0 0) 21 (upd (S.2 21) (S.1 25) d)) 22 (upd (S.2 22) (S.1 25) z)) 23 (upd (S.2 23) (S.1 25) (-1))) 25 (S.1 25 + 1)
theorem mThw_0 (g : Nat → Int32) (r : Int32) : mThw g r 0 = g := funext fun n => by rw [mThw, if_neg (by omega)]
theorem mThw_at (g : Nat → Int32) (r : Int32) (k : Nat) : mThw g r k k = g k := by rw [mThw, if_neg (by omega)]
theorem mThw_1 {g : Nat → Int32} {r : Int32} {k : Nat} (h : g k = r) : upd (mThw g r k) k (-1) = mThw g r (k + 1) := funext fun n => by
  unfold upd mThw
  by_cases e : n = k
  · subst e; rw [if_pos rfl, if_pos ⟨by omega, h⟩]
  · rw [if_neg e]
    by_cases e2 : n < k ∧ g n = r
    · rw [if_pos e2, if_pos ⟨by omega, e2.2⟩]
    · rw [if_neg e2, if_neg (fun e3 => e2 ⟨by omega, e3.2⟩)]
theorem mThw_2 {g : Nat → Int32} {r : Int32} {k : Nat} (h : ¬ g k = r) : upd (mThw g r k) k (g k) = mThw g r (k + 1) := funext fun n => by
  unfold upd mThw
  by_cases e : n = k
  · subst e; rw [if_pos rfl, if_neg (fun e => h e.2)]
  · rw [if_neg e]
    by_cases e2 : n < k ∧ g n = r
    · rw [if_pos e2, if_pos ⟨by omega, e2.2⟩]
    · rw [if_neg e2, if_neg (fun e3 => e2 ⟨by omega, e3.2⟩)]
theorem inwX9_length_X9 : ∀ w ∈ wsX90, w ∈ wsX9_length := fun _ h => List.mem_cons_of_mem _ (List.mem_append_right _ h)
theorem hdX9_length : yX9_length.cls = RX9 ∧ yX9_length.cls ≠ "java/lang/invoke/MethodHandle" ∧ yX9_length.cls ≠ "java/lang/invoke/VarHandle" ∧ (parseMethodDescriptor yX9_length.desc).map (fun d => d.parameters.length) = some 0 := by decide +kernel
set_option maxRecDepth 100000 in
set_option maxHeartbeats 4000000 in
theorem c9_length (l : Launch) {D : va_G} {cI cW cZ cL : ClassId} {ad : Nat → Nat} (hJ : injA ad 27) (S : sM) (hI : IM S)  : kMi l yX9_length wsX9_length ({ frames := 1, cells := 0, slots := 0, locals := 22 }) D vwCl (tyL cI cW cZ cL) ad 27 [.ref (ad 0)] (PM cI cZ ad S) (nI (mCnt S (S.1 8))) (PM cI cZ ad (sS S 0 0)) := by
  refine vv_enter (cc := cX9_length) (maxL := 1) (ret := (some .int)) (own := RX9) (lv := [(0, .ref (ad 0))]) (by decide +kernel) rfl rfl hJ (Nat.le_of_ble_eq_true rfl) rfl ?_
  intro p e s m args below meth c hC hK hW hr hlk
  refine vv_aload_n hC 0 dX9_length_0 rfl rfl (q := 1) rfl ?_
  refine vv_iconst hC (v := nI 0) dX9_length_1 rfl (q := 2) rfl ?_
  refine vv_put hC hK hW (P1 := PM cI cZ ad (sS S 0 0)) (K := RX9) (T := TX9) (N := 35) (ci := 9) inwX9_length_X9 tyX9 tyX9_ok nmX9 0 (by decide) (fs := fldM ad S) om0 rfl (ty := .int) 0 (by decide) (List.mem_of_getElem? (i := 1) rfl) rfl rfl (by decide +kernel) rfl rfl (Nat.le_of_ble_eq_true rfl) (om_s0 _) dX9_length_2 (q := 5) rfl ?_
  refine vv_aload_n hC 0 dX9_length_5 rfl rfl (q := 6) rfl ?_
  refine vv_calli hC hK (fun _ h => h) (As := []) 0 (by decide) or9 rfl (c9_textLength l hJ (sS S 0 0) hI) (cwV 0 hC.2.2.2.2 gX9_length_X9_textLength rfl rfl rfl hdX9_textLength ⟨Nat.le_of_ble_eq_true rfl, Nat.le_of_ble_eq_true rfl⟩) rfl rfl (Nat.le_of_ble_eq_true rfl) ⟨Nat.le_of_ble_eq_true rfl, Nat.le_of_ble_eq_true rfl⟩ dX9_length_6 (q := 9) rfl ?_
  exact vv_iret hC hK hr hlk rfl (fun _ h => h) dX9_length_9
theorem inwX9_wordAt_X9 : ∀ w ∈ wsX90, w ∈ wsX9_wordAt := fun _ h => List.mem_cons_of_mem _ (List.mem_append_right _ h)
theorem hdX9_wordAt : yX9_wordAt.cls = RX9 ∧ yX9_wordAt.cls ≠ "java/lang/invoke/MethodHandle" ∧ yX9_wordAt.cls ≠ "java/lang/invoke/VarHandle" ∧ (parseMethodDescriptor yX9_wordAt.desc).map (fun d => d.parameters.length) = some 1 := by decide +kernel
set_option maxRecDepth 100000 in
set_option maxHeartbeats 4000000 in
theorem c9_wordAt (l : Launch) {D : va_G} {cI cW cZ cL : ClassId} {ad : Nat → Nat} (hJ : injA ad 27) (S : sM) (x : Int32) (hI : IM S)  : kMi l yX9_wordAt wsX9_wordAt ({ frames := 1, cells := 0, slots := 0, locals := 23 }) D vwCl (tyL cI cW cZ cL) ad 27 [.ref (ad 0), .int x] (PM cI cZ ad S) (if mtTx S x = 0 then mTxt S x else 0) (PM cI cZ ad (if mtTx S x = 0 then sS S 0 0 else sS S 0 (mtTx S x))) := by
  refine vv_enter (cc := cX9_wordAt) (maxL := 3) (ret := (some .int)) (own := RX9) (lv := [(0, .ref (ad 0)), (1, .int x)]) (by decide +kernel) rfl rfl hJ (Nat.le_of_ble_eq_true rfl) rfl ?_
  intro p e s m args below meth c hC hK hW hr hlk
  refine vv_aload_n hC 0 dX9_wordAt_0 rfl rfl (q := 1) rfl ?_
  refine vv_iload_n hC 1 dX9_wordAt_1 rfl rfl (q := 2) rfl ?_
  refine vv_calli hC hK (fun _ h => h) (As := [.int x]) 0 (by decide) or9 rfl (c9_textAt l hJ S x hI) (cwV 1 hC.2.2.2.2 gX9_wordAt_X9_textAt rfl rfl rfl hdX9_textAt ⟨Nat.le_of_ble_eq_true rfl, Nat.le_of_ble_eq_true rfl⟩) rfl rfl (Nat.le_of_ble_eq_true rfl) ⟨Nat.le_of_ble_eq_true rfl, Nat.le_of_ble_eq_true rfl⟩ dX9_wordAt_2 (q := 5) rfl ?_
  refine vv_istore_n hC (i := 2) (lv' := [(2, .int (mTxt S x)), (0, .ref (ad 0)), (1, .int x)]) dX9_wordAt_5 rfl (by decide) rfl (q := 6) rfl ?_
  refine vv_aload_n hC 1 dX9_wordAt_6 rfl rfl (q := 7) rfl ?_
  refine vv_iload_n hC 0 dX9_wordAt_7 rfl rfl (q := 8) rfl ?_
  refine vv_iconst hC (v := (-1)) dX9_wordAt_8 rfl (q := 9) rfl ?_
  refine vv_icmp_ne hC (tgt := 16) dX9_wordAt_9 (by decide) (q := 12) rfl (fun h9 => ?_) (fun h9 => ?_)
  · skip
    refine vv_iconst hC (v := nI 0) dX9_wordAt_16 rfl (q := 17) rfl ?_
    refine vv_calli hC hK (fun _ h => h) (As := [.int (nI 0)]) 0 (by decide) or9 rfl (c9_goesWell l hJ S 0 (by decide)) (cwV 1 hC.2.2.2.2 gX9_wordAt_X9_goesWell rfl rfl rfl hdX9_goesWell ⟨Nat.le_of_ble_eq_true rfl, Nat.le_of_ble_eq_true rfl⟩) rfl rfl (Nat.le_of_ble_eq_true rfl) ⟨Nat.le_of_ble_eq_true rfl, Nat.le_of_ble_eq_true rfl⟩ dX9_wordAt_17 (q := 20) rfl ?_
    refine vv_eqv (st' := [.int (nI 1)]) rfl ?_
    refine vv_if_eq hC (tgt := 27) dX9_wordAt_20 (by decide) (q := 23) rfl (fun h => absurd h (by decide)) (fun _ => ?_)
    refine vv_iload_n hC 0 dX9_wordAt_23 rfl rfl (q := 24) rfl ?_
    refine vv_goto hC (tgt := 28) dX9_wordAt_24 (by decide) ?_
    have hT : mtTx S x = 0 := by simp only [mtTx, h9, Bool.false_eq_true, true_and, and_true, false_and, and_false, and_self, not_true, not_false_iff, or_true, true_or, or_false, false_or, if_true, if_false, reduceIte]
    exact vv_iret hC hK hr hlk (by rw [if_pos hT]) (fun f h => by rw [if_pos hT]; exact h) dX9_wordAt_28
  · skip
    refine vv_iconst hC (v := nI 1) dX9_wordAt_12 rfl (q := 13) rfl ?_
    refine vv_goto hC (tgt := 17) dX9_wordAt_13 (by decide) ?_
    refine vv_calli hC hK (fun _ h => h) (As := [.int (nI 1)]) 0 (by decide) or9 rfl (c9_goesWell l hJ S 1 (by decide)) (cwV 1 hC.2.2.2.2 gX9_wordAt_X9_goesWell rfl rfl rfl hdX9_goesWell ⟨Nat.le_of_ble_eq_true rfl, Nat.le_of_ble_eq_true rfl⟩) rfl rfl (Nat.le_of_ble_eq_true rfl) ⟨Nat.le_of_ble_eq_true rfl, Nat.le_of_ble_eq_true rfl⟩ dX9_wordAt_17 (q := 20) rfl ?_
    refine vv_eqv (st' := [.int (nI 0)]) rfl ?_
    refine vv_if_eq hC (tgt := 27) dX9_wordAt_20 (by decide) (q := 23) rfl (fun _ => ?_) (fun h => absurd h (by decide))
    refine vv_iconst hC (v := nI 0) dX9_wordAt_27 rfl (q := 28) rfl ?_
    have hT : mtTx S x = 1 := by simp only [mtTx, h9, Bool.false_eq_true, true_and, and_true, false_and, and_false, and_self, not_true, not_false_iff, or_true, true_or, or_false, false_or, if_true, if_false, reduceIte]
    exact vv_iret hC hK hr hlk (by rw [if_neg (by rw [hT]; decide)]; rfl) (fun f h => by rw [if_neg (by rw [hT]; decide)]; rw [hT]; exact h) dX9_wordAt_28
theorem inwX9_word_X9 : ∀ w ∈ wsX90, w ∈ wsX9_word := fun _ h => List.mem_cons_of_mem _ (List.mem_append_right _ h)
theorem hdX9_word : yX9_word.cls = RX9 ∧ yX9_word.cls ≠ "java/lang/invoke/MethodHandle" ∧ yX9_word.cls ≠ "java/lang/invoke/VarHandle" ∧ (parseMethodDescriptor yX9_word.desc).map (fun d => d.parameters.length) = some 1 := by decide +kernel
set_option maxRecDepth 100000 in
set_option maxHeartbeats 4000000 in
theorem c9_word (l : Launch) {D : va_G} {cI cW cZ cL : ClassId} {ad : Nat → Nat} (hJ : injA ad 27) (S : sM) (n : Int32) (hI : IM S)  : kMi l yX9_word wsX9_word ({ frames := 2, cells := 0, slots := 0, locals := 43 }) D vwCl (tyL cI cW cZ cL) ad 27 [.ref (ad 0), .int n] (PM cI cZ ad S) (if mtWd S n = 0 then nI 1000 * S.2 2 (tn n) + S.2 1 (tn n) else 0) (PM cI cZ ad (if mtWd S n = 0 then sS S 0 0 else sS S 0 (mtWd S n))) := by
  refine vv_enter (cc := cX9_word) (maxL := 2) (ret := (some .int)) (own := RX9) (lv := [(0, .ref (ad 0)), (1, .int n)]) (by decide +kernel) rfl rfl hJ (Nat.le_of_ble_eq_true rfl) rfl ?_
  intro p e s m args below meth c hC hK hW hr hlk
  obtain ⟨iW, iR, iV, iI, iC, iK, iD, irow, ianc, iwr, icl, icc, irv⟩ := id hI
  refine vv_aload_n hC 0 dX9_word_0 rfl rfl (q := 1) rfl ?_
  refine vv_aload_n hC 0 dX9_word_1 rfl rfl (q := 2) rfl ?_
  refine vv_iload_n hC 1 dX9_word_2 rfl rfl (q := 3) rfl ?_
  refine vv_calli hC hK (fun _ h => h) (As := [.int n]) 0 (by decide) or9 rfl (c9_isWord l hJ S n) (cwV 1 hC.2.2.2.2 gX9_word_X9_isWord rfl rfl rfl hdX9_isWord ⟨Nat.le_of_ble_eq_true rfl, Nat.le_of_ble_eq_true rfl⟩) rfl rfl (Nat.le_of_ble_eq_true rfl) ⟨Nat.le_of_ble_eq_true rfl, Nat.le_of_ble_eq_true rfl⟩ dX9_word_3 (q := 6) rfl ?_
  refine vv_if_eq hC (tgt := 13) dX9_word_6 (by decide) (q := 9) rfl (fun h6 => ?_) (fun h6 => ?_)
  · skip
    refine vv_iconst hC (v := nI 1) dX9_word_13 rfl (q := 14) rfl ?_
    refine vv_calli hC hK (fun _ h => h) (As := [.int (nI 1)]) 0 (by decide) or9 rfl (c9_goesWell l hJ S 1 (by decide)) (cwV 1 hC.2.2.2.2 gX9_word_X9_goesWell rfl rfl rfl hdX9_goesWell ⟨Nat.le_of_ble_eq_true rfl, Nat.le_of_ble_eq_true rfl⟩) rfl rfl (Nat.le_of_ble_eq_true rfl) ⟨Nat.le_of_ble_eq_true rfl, Nat.le_of_ble_eq_true rfl⟩ dX9_word_14 (q := 17) rfl ?_
    refine vv_eqv (st' := [.int (nI 0)]) rfl ?_
    refine vv_if_eq hC (tgt := 40) dX9_word_17 (by decide) (q := 20) rfl (fun _ => ?_) (fun h => absurd h (by decide))
    refine vv_iconst hC (v := nI 0) dX9_word_40 rfl (q := 41) rfl ?_
    have hT : mtWd S n = 1 := by simp only [mtWd, bI_0.mp h6, Bool.false_eq_true, true_and, and_true, false_and, and_false, and_self, not_true, not_false_iff, or_true, true_or, or_false, false_or, if_true, if_false, reduceIte]
    exact vv_iret hC hK hr hlk (by rw [if_neg (by rw [hT]; decide)]; rfl) (fun f h => by rw [if_neg (by rw [hT]; decide)]; rw [hT]; exact h) dX9_word_41
  · skip
    refine vv_iconst hC (v := nI 0) dX9_word_9 rfl (q := 10) rfl ?_
    refine vv_goto hC (tgt := 14) dX9_word_10 (by decide) ?_
    refine vv_calli hC hK (fun _ h => h) (As := [.int (nI 0)]) 0 (by decide) or9 rfl (c9_goesWell l hJ S 0 (by decide)) (cwV 1 hC.2.2.2.2 gX9_word_X9_goesWell rfl rfl rfl hdX9_goesWell ⟨Nat.le_of_ble_eq_true rfl, Nat.le_of_ble_eq_true rfl⟩) rfl rfl (Nat.le_of_ble_eq_true rfl) ⟨Nat.le_of_ble_eq_true rfl, Nat.le_of_ble_eq_true rfl⟩ dX9_word_14 (q := 17) rfl ?_
    refine vv_eqv (st' := [.int (nI 1)]) rfl ?_
    refine vv_if_eq hC (tgt := 40) dX9_word_17 (by decide) (q := 20) rfl (fun h => absurd h (by decide)) (fun _ => ?_)
    obtain ⟨hnn, hnl⟩ := inB_m1 (b := S.1 1) (by omega) (bI_1 h6)
    refine vv_eql (lv' := [(0, .ref (ad 0)), (1, .int (nI (tn n)))]) (by rw [← hnn]) ?_
    refine vv_sipush hC (v := nI 1000) dX9_word_20 rfl (q := 23) rfl ?_
    refine vv_aload_n hC 0 dX9_word_23 rfl rfl (q := 24) rfl ?_
    refine vv_get hC hK (K := RX9) (T := TX9) (N := 35) (ci := 9) inwX9_word_X9 0 (by decide) (fs := fldM ad (sS S 0 0)) om0 rfl 3 (by decide) (List.mem_of_getElem? (i := 1) rfl) rfl (v := .ref (ad 2)) rfl dX9_word_24 (q := 27) rfl ?_
    refine vv_iload_n hC 1 dX9_word_27 rfl rfl (q := 28) rfl ?_
    refine vv_ialdN (P := PM cI cZ ad (sS S 0 0)) hC hK 2 (by decide) 0 (g := S.2 2) (omI (by decide) rfl) rfl (show tn n < 300 from (by omega)) (by decide) dX9_word_28 (q := 29) rfl ?_
    refine vv_imul hC dX9_word_29 (q := 30) rfl ?_
    refine vv_aload_n hC 0 dX9_word_30 rfl rfl (q := 31) rfl ?_
    refine vv_get hC hK (K := RX9) (T := TX9) (N := 35) (ci := 9) inwX9_word_X9 0 (by decide) (fs := fldM ad (sS S 0 0)) om0 rfl 2 (by decide) (List.mem_of_getElem? (i := 2) rfl) rfl (v := .ref (ad 1)) rfl dX9_word_31 (q := 34) rfl ?_
    refine vv_iload_n hC 1 dX9_word_34 rfl rfl (q := 35) rfl ?_
    refine vv_ialdN (P := PM cI cZ ad (sS S 0 0)) hC hK 1 (by decide) 0 (g := S.2 1) (omI (by decide) rfl) rfl (show tn n < 300 from (by omega)) (by decide) dX9_word_35 (q := 36) rfl ?_
    refine vv_iadd hC dX9_word_36 (q := 37) rfl ?_
    refine vv_goto hC (tgt := 41) dX9_word_37 (by decide) ?_
    have hT : mtWd S n = 0 := by simp only [mtWd, bI_1 h6, Bool.false_eq_true, true_and, and_true, false_and, and_false, and_self, not_true, not_false_iff, or_true, true_or, or_false, false_or, if_true, if_false, reduceIte]
    exact vv_iret hC hK hr hlk (by rw [if_pos hT]) (fun f h => by rw [if_pos hT]; exact h) dX9_word_41
theorem c9_countAheadQ (l : Launch) {D : va_G} {cI cW cZ cL : ClassId} {ad : Nat → Nat} (hJ : injA ad 27) (S : sM) (q : Nat) (hq : q ≤ S.1 8) (hI : IM S) : kMi l yX9_countAhead wsX9_countAhead ({ frames := 0, cells := 0, slots := 0, locals := 0 }) D vwCl (tyL cI cW cZ cL) ad 27 [.ref (ad 0), .int (nI q - 1)] (PM cI cZ ad S) (nI (mCnt S (q - 1))) (PM cI cZ ad S) := by
  cases q with
  | zero => exact c9_countAheadM l hJ S hI
  | succ q => rw [nI_pred]; exact c9_countAhead l hJ S q (by omega) hI
theorem inwX9_placeOf_X9 : ∀ w ∈ wsX90, w ∈ wsX9_placeOf := fun _ h => List.mem_cons_of_mem _ (List.mem_append_right _ h)
theorem hdX9_placeOf : yX9_placeOf.cls = RX9 ∧ yX9_placeOf.cls ≠ "java/lang/invoke/MethodHandle" ∧ yX9_placeOf.cls ≠ "java/lang/invoke/VarHandle" ∧ (parseMethodDescriptor yX9_placeOf.desc).map (fun d => d.parameters.length) = some 1 := by decide +kernel
set_option maxRecDepth 100000 in
set_option maxHeartbeats 4000000 in
theorem c9_placeOf (l : Launch) {D : va_G} {cI cW cZ cL : ClassId} {ad : Nat → Nat} (hJ : injA ad 27) (S : sM) (n : Int32) (hI : IM S)  : kMi l yX9_placeOf wsX9_placeOf ({ frames := 2, cells := 0, slots := 0, locals := 43 }) D vwCl (tyL cI cW cZ cL) ad 27 [.ref (ad 0), .int n] (PM cI cZ ad S) (if mtWd S n = 0 then (if S.2 5 (tn n) = 0 then -1 else nI (mCnt S (mPos S (nI (tn n)) - 1))) else 0) (PM cI cZ ad (if mtWd S n = 0 then sS S 0 0 else sS S 0 (mtWd S n))) := by
  refine vv_enter (cc := cX9_placeOf) (maxL := 2) (ret := (some .int)) (own := RX9) (lv := [(0, .ref (ad 0)), (1, .int n)]) (by decide +kernel) rfl rfl hJ (Nat.le_of_ble_eq_true rfl) rfl ?_
  intro p e s m args below meth c hC hK hW hr hlk
  obtain ⟨iW, iR, iV, iI, iC, iK, iD, irow, ianc, iwr, icl, icc, irv⟩ := id hI
  refine vv_aload_n hC 0 dX9_placeOf_0 rfl rfl (q := 1) rfl ?_
  refine vv_aload_n hC 0 dX9_placeOf_1 rfl rfl (q := 2) rfl ?_
  refine vv_iload_n hC 1 dX9_placeOf_2 rfl rfl (q := 3) rfl ?_
  refine vv_calli hC hK (fun _ h => h) (As := [.int n]) 0 (by decide) or9 rfl (c9_isWord l hJ S n) (cwV 1 hC.2.2.2.2 gX9_placeOf_X9_isWord rfl rfl rfl hdX9_isWord ⟨Nat.le_of_ble_eq_true rfl, Nat.le_of_ble_eq_true rfl⟩) rfl rfl (Nat.le_of_ble_eq_true rfl) ⟨Nat.le_of_ble_eq_true rfl, Nat.le_of_ble_eq_true rfl⟩ dX9_placeOf_3 (q := 6) rfl ?_
  refine vv_if_eq hC (tgt := 13) dX9_placeOf_6 (by decide) (q := 9) rfl (fun h6 => ?_) (fun h6 => ?_)
  · skip
    refine vv_iconst hC (v := nI 1) dX9_placeOf_13 rfl (q := 14) rfl ?_
    refine vv_calli hC hK (fun _ h => h) (As := [.int (nI 1)]) 0 (by decide) or9 rfl (c9_goesWell l hJ S 1 (by decide)) (cwV 1 hC.2.2.2.2 gX9_placeOf_X9_goesWell rfl rfl rfl hdX9_goesWell ⟨Nat.le_of_ble_eq_true rfl, Nat.le_of_ble_eq_true rfl⟩) rfl rfl (Nat.le_of_ble_eq_true rfl) ⟨Nat.le_of_ble_eq_true rfl, Nat.le_of_ble_eq_true rfl⟩ dX9_placeOf_14 (q := 17) rfl ?_
    refine vv_eqv (st' := [.int (nI 0)]) rfl ?_
    refine vv_if_ne hC (tgt := 22) dX9_placeOf_17 (by decide) (q := 20) rfl (fun h => absurd h (by decide)) (fun _ => ?_)
    refine vv_iconst hC (v := nI 0) dX9_placeOf_20 rfl (q := 21) rfl ?_
    have hT : mtWd S n = 1 := by simp only [mtWd, bI_0.mp h6, Bool.false_eq_true, true_and, and_true, false_and, and_false, and_self, not_true, not_false_iff, or_true, true_or, or_false, false_or, if_true, if_false, reduceIte]
    exact vv_iret hC hK hr hlk (by rw [if_neg (by rw [hT]; decide)]; rfl) (fun f h => by rw [if_neg (by rw [hT]; decide)]; rw [hT]; exact h) dX9_placeOf_21
  · skip
    refine vv_iconst hC (v := nI 0) dX9_placeOf_9 rfl (q := 10) rfl ?_
    refine vv_goto hC (tgt := 14) dX9_placeOf_10 (by decide) ?_
    refine vv_calli hC hK (fun _ h => h) (As := [.int (nI 0)]) 0 (by decide) or9 rfl (c9_goesWell l hJ S 0 (by decide)) (cwV 1 hC.2.2.2.2 gX9_placeOf_X9_goesWell rfl rfl rfl hdX9_goesWell ⟨Nat.le_of_ble_eq_true rfl, Nat.le_of_ble_eq_true rfl⟩) rfl rfl (Nat.le_of_ble_eq_true rfl) ⟨Nat.le_of_ble_eq_true rfl, Nat.le_of_ble_eq_true rfl⟩ dX9_placeOf_14 (q := 17) rfl ?_
    refine vv_eqv (st' := [.int (nI 1)]) rfl ?_
    refine vv_if_ne hC (tgt := 22) dX9_placeOf_17 (by decide) (q := 20) rfl (fun _ => ?_) (fun h => absurd h (by decide))
    obtain ⟨hnn, hnl⟩ := inB_m1 (b := S.1 1) (by omega) (bI_1 h6)
    refine vv_eql (lv' := [(0, .ref (ad 0)), (1, .int (nI (tn n)))]) (by rw [← hnn]) ?_
    refine vv_aload_n hC 0 dX9_placeOf_22 rfl rfl (q := 23) rfl ?_
    refine vv_get hC hK (K := RX9) (T := TX9) (N := 35) (ci := 9) inwX9_placeOf_X9 0 (by decide) (fs := fldM ad (sS S 0 0)) om0 rfl 6 (by decide) (List.mem_of_getElem? (i := 1) rfl) rfl (v := .ref (ad 5)) rfl dX9_placeOf_23 (q := 26) rfl ?_
    refine vv_iload_n hC 1 dX9_placeOf_26 rfl rfl (q := 27) rfl ?_
    refine vv_zaldN (P := PM cI cZ ad (sS S 0 0)) hC hK 5 (by decide) 2 (g := S.2 5) (omZ (by decide) rfl) rfl (show tn n < 300 from (by omega)) (by decide) dX9_placeOf_27 (q := 28) rfl ?_
    refine vv_if_eq hC (tgt := 43) dX9_placeOf_28 (by decide) (q := 31) rfl (fun h28 => ?_) (fun h28 => ?_)
    · skip
      refine vv_iconst hC (v := (-1)) dX9_placeOf_43 rfl (q := 44) rfl ?_
      have hT : mtWd S n = 0 := by simp only [mtWd, bI_1 h6, h28, Bool.false_eq_true, true_and, and_true, false_and, and_false, and_self, not_true, not_false_iff, or_true, true_or, or_false, false_or, if_true, if_false, reduceIte]
      exact vv_iret hC hK hr hlk (by rw [if_pos hT]; rw [if_pos h28]) (fun f h => by rw [if_pos hT]; exact h) dX9_placeOf_44
    · skip
      refine vv_aload_n hC 0 dX9_placeOf_31 rfl rfl (q := 32) rfl ?_
      refine vv_aload_n hC 0 dX9_placeOf_32 rfl rfl (q := 33) rfl ?_
      refine vv_iload_n hC 1 dX9_placeOf_33 rfl rfl (q := 34) rfl ?_
      refine vv_calli hC hK (fun _ h => h) (As := [.int (nI (tn n))]) 0 (by decide) or9 rfl (c9_indexOf l hJ (sS S 0 0) (nI (tn n)) hI) (cwV 1 hC.2.2.2.2 gX9_placeOf_X9_indexOf rfl rfl rfl hdX9_indexOf ⟨Nat.le_of_ble_eq_true rfl, Nat.le_of_ble_eq_true rfl⟩) rfl rfl (Nat.le_of_ble_eq_true rfl) ⟨Nat.le_of_ble_eq_true rfl, Nat.le_of_ble_eq_true rfl⟩ dX9_placeOf_34 (q := 37) rfl ?_
      refine vv_eqv (st' := [.int (mIdx S (nI (tn n))), .ref (ad 0)]) rfl ?_
      refine vv_eqv (st' := [.int (nI (mPos S (nI (tn n))) - 1), .ref (ad 0)]) (by rw [(mPos_spec (S := S) (nI (tn n)) (by omega)).1]) ?_
      refine vv_calli hC hK (fun _ h => h) (As := [.int (nI (mPos S (nI (tn n))) - 1)]) 0 (by decide) or9 rfl (c9_countAheadQ l hJ (sS S 0 0) (mPos S (nI (tn n))) (mPos_spec (S := S) (nI (tn n)) (by omega)).2 hI) (cwV 1 hC.2.2.2.2 gX9_placeOf_X9_countAhead rfl rfl rfl hdX9_countAhead ⟨Nat.le_of_ble_eq_true rfl, Nat.le_of_ble_eq_true rfl⟩) rfl rfl (Nat.le_of_ble_eq_true rfl) ⟨Nat.le_of_ble_eq_true rfl, Nat.le_of_ble_eq_true rfl⟩ dX9_placeOf_37 (q := 40) rfl ?_
      refine vv_eqv (st' := [.int (nI (mCnt S ((mPos S (nI (tn n))) - 1)))]) rfl ?_
      refine vv_goto hC (tgt := 44) dX9_placeOf_40 (by decide) ?_
      have hT : mtWd S n = 0 := by simp only [mtWd, bI_1 h6, h28, Bool.false_eq_true, true_and, and_true, false_and, and_false, and_self, not_true, not_false_iff, or_true, true_or, or_false, false_or, if_true, if_false, reduceIte]
      exact vv_iret hC hK hr hlk (by rw [if_pos hT]; rw [if_neg h28]) (fun f h => by rw [if_pos hT]; exact h) dX9_placeOf_44
theorem inwX9_shareAnew_X9 : ∀ w ∈ wsX90, w ∈ wsX9_shareAnew := fun _ h => List.mem_cons_of_mem _ (List.mem_append_right _ h)
theorem hdX9_shareAnew : yX9_shareAnew.cls = RX9 ∧ yX9_shareAnew.cls ≠ "java/lang/invoke/MethodHandle" ∧ yX9_shareAnew.cls ≠ "java/lang/invoke/VarHandle" ∧ (parseMethodDescriptor yX9_shareAnew.desc).map (fun d => d.parameters.length) = some 1 := by decide +kernel
set_option maxRecDepth 100000 in
set_option maxHeartbeats 4000000 in
theorem c9_shareAnew (l : Launch) {D : va_G} {cI cW cZ cL : ClassId} {ad : Nat → Nat} (hJ : injA ad 27) (S : sM) (w : Int32) (hI : IM S)  : kMi l yX9_shareAnew wsX9_shareAnew ({ frames := 2, cells := 0, slots := 0, locals := 42 }) D vwCl (tyL cI cW cZ cL) ad 27 [.ref (ad 0), .int w] (PM cI cZ ad S) (if mtW w = 0 then nI (mShr S w (S.1 1)) else 0) (PM cI cZ ad (if mtW w = 0 then sS S 0 0 else sS S 0 (mtW w))) := by
  refine vv_enter (cc := cX9_shareAnew) (maxL := 4) (ret := (some .int)) (own := RX9) (lv := [(0, .ref (ad 0)), (1, .int w)]) (by decide +kernel) rfl rfl hJ (Nat.le_of_ble_eq_true rfl) rfl ?_
  intro p e s m args below meth c hC hK hW hr hlk
  obtain ⟨iW, iR, iV, iI, iC, iK, iD, irow, ianc, iwr, icl, icc, irv⟩ := id hI
  refine vv_aload_n hC 0 dX9_shareAnew_0 rfl rfl (q := 1) rfl ?_
  refine vv_iload_n hC 1 dX9_shareAnew_1 rfl rfl (q := 2) rfl ?_
  refine vv_callsi hC hK (fun _ h => h) (As := [.int w]) (c9_isWriter l hJ S w) (va_cwS 1 hC.2.2.2.2 gX9_shareAnew_X9_isWriter rfl rfl rfl hsX9_isWriter ⟨Nat.le_of_ble_eq_true rfl, Nat.le_of_ble_eq_true rfl⟩) rfl rfl (Nat.le_of_ble_eq_true rfl) ⟨Nat.le_of_ble_eq_true rfl, Nat.le_of_ble_eq_true rfl⟩ dX9_shareAnew_2 (q := 5) rfl ?_
  refine vv_if_eq hC (tgt := 12) dX9_shareAnew_5 (by decide) (q := 8) rfl (fun h5 => ?_) (fun h5 => ?_)
  · skip
    refine vv_iconst hC (v := nI 1) dX9_shareAnew_12 rfl (q := 13) rfl ?_
    refine vv_calli hC hK (fun _ h => h) (As := [.int (nI 1)]) 0 (by decide) or9 rfl (c9_goesWell l hJ S 1 (by decide)) (cwV 1 hC.2.2.2.2 gX9_shareAnew_X9_goesWell rfl rfl rfl hdX9_goesWell ⟨Nat.le_of_ble_eq_true rfl, Nat.le_of_ble_eq_true rfl⟩) rfl rfl (Nat.le_of_ble_eq_true rfl) ⟨Nat.le_of_ble_eq_true rfl, Nat.le_of_ble_eq_true rfl⟩ dX9_shareAnew_13 (q := 16) rfl ?_
    refine vv_eqv (st' := [.int (nI 0)]) rfl ?_
    refine vv_if_ne hC (tgt := 21) dX9_shareAnew_16 (by decide) (q := 19) rfl (fun h => absurd h (by decide)) (fun _ => ?_)
    refine vv_iconst hC (v := nI 0) dX9_shareAnew_19 rfl (q := 20) rfl ?_
    have hT : mtW w = 1 := by simp only [mtW, bI_0.mp h5, Bool.false_eq_true, true_and, and_true, false_and, and_false, and_self, not_true, not_false_iff, or_true, true_or, or_false, false_or, if_true, if_false, reduceIte]
    exact vv_iret hC hK hr hlk (by rw [if_neg (by rw [hT]; decide)]; rfl) (fun f h => by rw [if_neg (by rw [hT]; decide)]; rw [hT]; exact h) dX9_shareAnew_20
  · skip
    refine vv_iconst hC (v := nI 0) dX9_shareAnew_8 rfl (q := 9) rfl ?_
    refine vv_goto hC (tgt := 13) dX9_shareAnew_9 (by decide) ?_
    refine vv_calli hC hK (fun _ h => h) (As := [.int (nI 0)]) 0 (by decide) or9 rfl (c9_goesWell l hJ S 0 (by decide)) (cwV 1 hC.2.2.2.2 gX9_shareAnew_X9_goesWell rfl rfl rfl hdX9_goesWell ⟨Nat.le_of_ble_eq_true rfl, Nat.le_of_ble_eq_true rfl⟩) rfl rfl (Nat.le_of_ble_eq_true rfl) ⟨Nat.le_of_ble_eq_true rfl, Nat.le_of_ble_eq_true rfl⟩ dX9_shareAnew_13 (q := 16) rfl ?_
    refine vv_eqv (st' := [.int (nI 1)]) rfl ?_
    refine vv_if_ne hC (tgt := 21) dX9_shareAnew_16 (by decide) (q := 19) rfl (fun _ => ?_) (fun h => absurd h (by decide))
    refine vv_iconst hC (v := nI 0) dX9_shareAnew_21 rfl (q := 22) rfl ?_
    refine vv_istore_n hC (i := 2) (lv' := [(2, .int (nI 0)), (0, .ref (ad 0)), (1, .int w)]) dX9_shareAnew_22 rfl (by decide) rfl (q := 23) rfl ?_
    refine vv_iconst hC (v := nI 0) dX9_shareAnew_23 rfl (q := 24) rfl ?_
    refine vv_istore_n hC (i := 3) (lv' := [(3, .int (nI 0)), (2, .int (nI 0)), (0, .ref (ad 0)), (1, .int w)]) dX9_shareAnew_24 rfl (by decide) rfl (q := 25) rfl ?_
    have loop25 : ∀ (fu : Nat) (k : Nat), S.1 1 < k + fu → k ≤ S.1 1 → vv p l e (headSpec wsX9_shareAnew ({ frames := 2, cells := 0, slots := 0, locals := 42 })).room s m args below meth c 4 (RA ad 27) s.heap 0 0 (MQ below (va_Qi (fun r' (_ : Unit) => r' = (if mtW w = 0 then nI (mShr S w (S.1 1)) else 0)) (fun _ => ws0 D vwCl (tyL cI cW cZ cL) ad 27 (PM cI cZ ad (if mtW w = 0 then sS S 0 0 else sS S 0 (mtW w)))) (RA ad 27)) args s 0 0 (RA ad 27)) (wq D vwCl ad 27 (PM cI cZ ad (sS S 0 0))) 25 [(0, .ref (ad 0)), (1, .int w), (2, .int (nI (mShr S w k))), (3, .int (nI k))] [] := by
      intro fu
      induction fu with
      | zero =>
        intro k hfu hk
        exact absurd hfu (by omega)
      | succ fu ih =>
        intro k hfu hk
        refine vv_iload_n hC 3 dX9_shareAnew_25 rfl rfl (q := 26) rfl ?_
        refine vv_aload_n hC 0 dX9_shareAnew_26 rfl rfl (q := 27) rfl ?_
        refine vv_get hC hK (K := RX9) (T := TX9) (N := 35) (ci := 9) inwX9_shareAnew_X9 0 (by decide) (fs := fldM ad (sS S 0 0)) om0 rfl 1 (by decide) (List.mem_of_getElem? (i := 1) rfl) rfl (v := .int (nI (S.1 1))) rfl dX9_shareAnew_27 (q := 30) rfl ?_
        refine vv_icmpN_ge hC (tgt := 66) (by omega) (by omega) dX9_shareAnew_30 (by decide) (q := 33) rfl (fun h30 => ?_) (fun h30 => ?_)
        · skip
          obtain rfl : k = S.1 1 := by omega
          refine vv_iload_n hC 2 dX9_shareAnew_66 rfl rfl (q := 67) rfl ?_
          have hT : mtW w = 0 := by simp only [mtW, bI_1 h5, h30, Bool.false_eq_true, true_and, and_true, false_and, and_false, and_self, not_true, not_false_iff, or_true, true_or, or_false, false_or, if_true, if_false, reduceIte]
          exact vv_iret hC hK hr hlk (by rw [if_pos hT]) (fun f h => by rw [if_pos hT]; exact h) dX9_shareAnew_67
        · skip
          refine vv_iload_n hC 2 dX9_shareAnew_33 rfl rfl (q := 34) rfl ?_
          refine vv_aload_n hC 0 dX9_shareAnew_34 rfl rfl (q := 35) rfl ?_
          refine vv_get hC hK (K := RX9) (T := TX9) (N := 35) (ci := 9) inwX9_shareAnew_X9 0 (by decide) (fs := fldM ad (sS S 0 0)) om0 rfl 6 (by decide) (List.mem_of_getElem? (i := 2) rfl) rfl (v := .ref (ad 5)) rfl dX9_shareAnew_35 (q := 38) rfl ?_
          refine vv_iload_n hC 3 dX9_shareAnew_38 rfl rfl (q := 39) rfl ?_
          refine vv_zaldN (P := PM cI cZ ad (sS S 0 0)) hC hK 5 (by decide) 2 (g := S.2 5) (omZ (by decide) rfl) rfl (show k < 300 from (by omega)) (by decide) dX9_shareAnew_39 (q := 40) rfl ?_
          refine vv_if_eq hC (tgt := 57) dX9_shareAnew_40 (by decide) (q := 43) rfl (fun h40 => ?_) (fun h40 => ?_)
          · skip
            refine vv_iconst hC (v := nI 0) dX9_shareAnew_57 rfl (q := 58) rfl ?_
            refine vv_iaddN hC dX9_shareAnew_58 (q := 59) rfl ?_
            refine vv_istore_n hC (i := 2) (lv' := [(2, .int (nI ((mShr S w k) + 0))), (0, .ref (ad 0)), (1, .int w), (3, .int (nI k))]) dX9_shareAnew_59 rfl (by decide) rfl (q := 60) rfl ?_
            refine vv_iinc hC (i := 3) (v := nI (k + 1)) (lv' := [(3, .int (nI (k + 1))), (2, .int (nI ((mShr S w k) + 0))), (0, .ref (ad 0)), (1, .int w)]) 3 dX9_shareAnew_60 rfl (nI_1 k) (by decide) rfl (q := 63) rfl ?_
            refine vv_goto hC (tgt := 25) dX9_shareAnew_63 (by decide) ?_
            refine vv_lv [2, 3, 1, 0] (lv' := [(0, .ref (ad 0)), (1, .int w), (2, .int (nI ((mShr S w k) + 0))), (3, .int (nI (k + 1)))]) rfl ?_
            exact vv_eql (by rw [mShr, if_pos h40]; rfl) (ih (k + 1) (by omega) (by omega))
          · skip
            refine vv_aload_n hC 0 dX9_shareAnew_43 rfl rfl (q := 44) rfl ?_
            refine vv_get hC hK (K := RX9) (T := TX9) (N := 35) (ci := 9) inwX9_shareAnew_X9 0 (by decide) (fs := fldM ad (sS S 0 0)) om0 rfl 3 (by decide) (List.mem_of_getElem? (i := 3) rfl) rfl (v := .ref (ad 2)) rfl dX9_shareAnew_44 (q := 47) rfl ?_
            refine vv_iload_n hC 3 dX9_shareAnew_47 rfl rfl (q := 48) rfl ?_
            refine vv_ialdN (P := PM cI cZ ad (sS S 0 0)) hC hK 2 (by decide) 0 (g := S.2 2) (omI (by decide) rfl) rfl (show k < 300 from (by omega)) (by decide) dX9_shareAnew_48 (q := 49) rfl ?_
            refine vv_iload_n hC 1 dX9_shareAnew_49 rfl rfl (q := 50) rfl ?_
            refine vv_icmp_ne hC (tgt := 57) dX9_shareAnew_50 (by decide) (q := 53) rfl (fun h50 => ?_) (fun h50 => ?_)
            · skip
              refine vv_iconst hC (v := nI 0) dX9_shareAnew_57 rfl (q := 58) rfl ?_
              refine vv_iaddN hC dX9_shareAnew_58 (q := 59) rfl ?_
              refine vv_istore_n hC (i := 2) (lv' := [(2, .int (nI ((mShr S w k) + 0))), (0, .ref (ad 0)), (1, .int w), (3, .int (nI k))]) dX9_shareAnew_59 rfl (by decide) rfl (q := 60) rfl ?_
              refine vv_iinc hC (i := 3) (v := nI (k + 1)) (lv' := [(3, .int (nI (k + 1))), (2, .int (nI ((mShr S w k) + 0))), (0, .ref (ad 0)), (1, .int w)]) 3 dX9_shareAnew_60 rfl (nI_1 k) (by decide) rfl (q := 63) rfl ?_
              refine vv_goto hC (tgt := 25) dX9_shareAnew_63 (by decide) ?_
              refine vv_lv [2, 3, 1, 0] (lv' := [(0, .ref (ad 0)), (1, .int w), (2, .int (nI ((mShr S w k) + 0))), (3, .int (nI (k + 1)))]) rfl ?_
              exact vv_eql (by rw [mShr, if_neg h40, if_neg h50]; rfl) (ih (k + 1) (by omega) (by omega))
            · skip
              refine vv_iconst hC (v := nI 1) dX9_shareAnew_53 rfl (q := 54) rfl ?_
              refine vv_goto hC (tgt := 58) dX9_shareAnew_54 (by decide) ?_
              refine vv_iaddN hC dX9_shareAnew_58 (q := 59) rfl ?_
              refine vv_istore_n hC (i := 2) (lv' := [(2, .int (nI ((mShr S w k) + 1))), (0, .ref (ad 0)), (1, .int w), (3, .int (nI k))]) dX9_shareAnew_59 rfl (by decide) rfl (q := 60) rfl ?_
              refine vv_iinc hC (i := 3) (v := nI (k + 1)) (lv' := [(3, .int (nI (k + 1))), (2, .int (nI ((mShr S w k) + 1))), (0, .ref (ad 0)), (1, .int w)]) 3 dX9_shareAnew_60 rfl (nI_1 k) (by decide) rfl (q := 63) rfl ?_
              refine vv_goto hC (tgt := 25) dX9_shareAnew_63 (by decide) ?_
              refine vv_lv [2, 3, 1, 0] (lv' := [(0, .ref (ad 0)), (1, .int w), (2, .int (nI ((mShr S w k) + 1))), (3, .int (nI (k + 1)))]) rfl ?_
              exact vv_eql (by rw [mShr, if_neg h40, if_pos h50]) (ih (k + 1) (by omega) (by omega))
    refine vv_lv [2, 3, 1, 0] (lv' := [(0, .ref (ad 0)), (1, .int w), (2, .int (nI 0)), (3, .int (nI 0))]) rfl ?_
    exact loop25 301 0 (by omega) (Nat.zero_le _)
theorem inwX9_share_X9 : ∀ w ∈ wsX90, w ∈ wsX9_share := fun _ h => List.mem_cons_of_mem _ (List.mem_append_right _ h)
theorem hdX9_share : yX9_share.cls = RX9 ∧ yX9_share.cls ≠ "java/lang/invoke/MethodHandle" ∧ yX9_share.cls ≠ "java/lang/invoke/VarHandle" ∧ (parseMethodDescriptor yX9_share.desc).map (fun d => d.parameters.length) = some 1 := by decide +kernel
set_option maxRecDepth 100000 in
set_option maxHeartbeats 4000000 in
theorem c9_share (l : Launch) {D : va_G} {cI cW cZ cL : ClassId} {ad : Nat → Nat} (hJ : injA ad 27) (S : sM) (w : Int32) (hI : IM S)  : kMi l yX9_share wsX9_share ({ frames := 3, cells := 0, slots := 0, locals := 65 }) D vwCl (tyL cI cW cZ cL) ad 27 [.ref (ad 0), .int w] (PM cI cZ ad S) (if mtW w = 0 then nI (mShr S w (S.1 1)) else 0) (PM cI cZ ad (if mtW w = 0 then sS S 0 0 else sS S 0 (mtW w))) := by
  refine vv_enter (cc := cX9_share) (maxL := 2) (ret := (some .int)) (own := RX9) (lv := [(0, .ref (ad 0)), (1, .int w)]) (by decide +kernel) rfl rfl hJ (Nat.le_of_ble_eq_true rfl) rfl ?_
  intro p e s m args below meth c hC hK hW hr hlk
  refine vv_aload_n hC 0 dX9_share_0 rfl rfl (q := 1) rfl ?_
  refine vv_iload_n hC 1 dX9_share_1 rfl rfl (q := 2) rfl ?_
  refine vv_calli hC hK (fun _ h => h) (As := [.int w]) 0 (by decide) or9 rfl (c9_shareAnew l hJ S w hI) (cwV 1 hC.2.2.2.2 gX9_share_X9_shareAnew rfl rfl rfl hdX9_shareAnew ⟨Nat.le_of_ble_eq_true rfl, Nat.le_of_ble_eq_true rfl⟩) rfl rfl (Nat.le_of_ble_eq_true rfl) ⟨Nat.le_of_ble_eq_true rfl, Nat.le_of_ble_eq_true rfl⟩ dX9_share_2 (q := 5) rfl ?_
  exact vv_iret hC hK hr hlk rfl (fun _ h => h) dX9_share_5
theorem inwX9_setRate_X9 : ∀ w ∈ wsX90, w ∈ wsX9_setRate := fun _ h => List.mem_cons_of_mem _ (List.mem_append_right _ h)
theorem hdX9_setRate : yX9_setRate.cls = RX9 ∧ yX9_setRate.cls ≠ "java/lang/invoke/MethodHandle" ∧ yX9_setRate.cls ≠ "java/lang/invoke/VarHandle" ∧ (parseMethodDescriptor yX9_setRate.desc).map (fun d => d.parameters.length) = some 2 := by decide +kernel
set_option maxRecDepth 100000 in
set_option maxHeartbeats 4000000 in
theorem c9_setRate (l : Launch) {D : va_G} {cI cW cZ cL : ClassId} {ad : Nat → Nat} (hJ : injA ad 27) (S : sM) (r v : Int32)  : kMi l yX9_setRate wsX9_setRate ({ frames := 2, cells := 0, slots := 0, locals := 42 }) D vwCl (tyL cI cW cZ cL) ad 27 [.ref (ad 0), .int r, .int v] (PM cI cZ ad S) (if mtRt r v = 0 then S.2 13 (tn r) else 0) (PM cI cZ ad (if mtRt r v = 0 then sA (sS S 0 0) 13 (upd (S.2 13) (tn r) v) else sS S 0 (mtRt r v))) := by
  refine vv_enter (cc := cX9_setRate) (maxL := 5) (ret := (some .int)) (own := RX9) (lv := [(0, .ref (ad 0)), (1, .int r), (2, .int v)]) (by decide +kernel) rfl rfl hJ (Nat.le_of_ble_eq_true rfl) rfl ?_
  intro p e s m args below meth c hC hK hW hr hlk
  refine vv_iload_n hC 1 dX9_setRate_0 rfl rfl (q := 1) rfl ?_
  refine vv_callsi hC hK (fun _ h => h) (As := [.int r]) (c9_isReviewer l hJ S r) (va_cwS 1 hC.2.2.2.2 gX9_setRate_X9_isReviewer rfl rfl rfl hsX9_isReviewer ⟨Nat.le_of_ble_eq_true rfl, Nat.le_of_ble_eq_true rfl⟩) rfl rfl (Nat.le_of_ble_eq_true rfl) ⟨Nat.le_of_ble_eq_true rfl, Nat.le_of_ble_eq_true rfl⟩ dX9_setRate_1 (q := 4) rfl ?_
  refine vv_istore_n hC (i := 3) (lv' := [(3, .int (bI (inB r 0 3))), (0, .ref (ad 0)), (1, .int r), (2, .int v)]) dX9_setRate_4 rfl (by decide) rfl (q := 5) rfl ?_
  refine vv_aload_n hC 1 dX9_setRate_5 rfl rfl (q := 6) rfl ?_
  refine vv_iload_n hC 0 dX9_setRate_6 rfl rfl (q := 7) rfl ?_
  refine vv_if_ne hC (tgt := 14) dX9_setRate_7 (by decide) (q := 10) rfl (fun h7 => ?_) (fun h7 => ?_)
  · skip
    refine vv_iload_n hC 3 dX9_setRate_14 rfl rfl (q := 15) rfl ?_
    refine vv_iconst hC (v := nI 0) dX9_setRate_15 rfl (q := 16) rfl ?_
    refine vv_bipush hC (v := nI 100) dX9_setRate_16 rfl (q := 18) rfl ?_
    refine vv_callsi hC hK (fun _ h => h) (As := [.int v, .int (nI 0), .int (nI 100)]) (c9_in l hJ S v 0 100) (va_cwS 3 hC.2.2.2.2 gX9_setRate_X9_in rfl rfl rfl hsX9_in ⟨Nat.le_of_ble_eq_true rfl, Nat.le_of_ble_eq_true rfl⟩) rfl rfl (Nat.le_of_ble_eq_true rfl) ⟨Nat.le_of_ble_eq_true rfl, Nat.le_of_ble_eq_true rfl⟩ dX9_setRate_18 (q := 21) rfl ?_
    refine vv_if_eq hC (tgt := 28) dX9_setRate_21 (by decide) (q := 24) rfl (fun h21 => ?_) (fun h21 => ?_)
    · skip
      refine vv_iconst hC (v := nI 2) dX9_setRate_28 rfl (q := 29) rfl ?_
      refine vv_calli hC hK (fun _ h => h) (As := [.int (nI 2)]) 0 (by decide) or9 rfl (c9_goesWell l hJ S 2 (by decide)) (cwV 1 hC.2.2.2.2 gX9_setRate_X9_goesWell rfl rfl rfl hdX9_goesWell ⟨Nat.le_of_ble_eq_true rfl, Nat.le_of_ble_eq_true rfl⟩) rfl rfl (Nat.le_of_ble_eq_true rfl) ⟨Nat.le_of_ble_eq_true rfl, Nat.le_of_ble_eq_true rfl⟩ dX9_setRate_29 (q := 32) rfl ?_
      refine vv_eqv (st' := [.int (nI 0)]) rfl ?_
      refine vv_if_ne hC (tgt := 37) dX9_setRate_32 (by decide) (q := 35) rfl (fun h => absurd h (by decide)) (fun _ => ?_)
      refine vv_iconst hC (v := nI 0) dX9_setRate_35 rfl (q := 36) rfl ?_
      have hT : mtRt r v = 2 := by simp only [mtRt, bI_1 h7, bI_0.mp h21, Bool.false_eq_true, true_and, and_true, false_and, and_false, and_self, not_true, not_false_iff, or_true, true_or, or_false, false_or, if_true, if_false, reduceIte]
      exact vv_iret hC hK hr hlk (by rw [if_neg (by rw [hT]; decide)]; rfl) (fun f h => by rw [if_neg (by rw [hT]; decide)]; rw [hT]; exact h) dX9_setRate_36
    · skip
      refine vv_iconst hC (v := nI 0) dX9_setRate_24 rfl (q := 25) rfl ?_
      refine vv_goto hC (tgt := 29) dX9_setRate_25 (by decide) ?_
      refine vv_calli hC hK (fun _ h => h) (As := [.int (nI 0)]) 0 (by decide) or9 rfl (c9_goesWell l hJ S 0 (by decide)) (cwV 1 hC.2.2.2.2 gX9_setRate_X9_goesWell rfl rfl rfl hdX9_goesWell ⟨Nat.le_of_ble_eq_true rfl, Nat.le_of_ble_eq_true rfl⟩) rfl rfl (Nat.le_of_ble_eq_true rfl) ⟨Nat.le_of_ble_eq_true rfl, Nat.le_of_ble_eq_true rfl⟩ dX9_setRate_29 (q := 32) rfl ?_
      refine vv_eqv (st' := [.int (nI 1)]) rfl ?_
      refine vv_if_ne hC (tgt := 37) dX9_setRate_32 (by decide) (q := 35) rfl (fun _ => ?_) (fun h => absurd h (by decide))
      obtain ⟨hnn, hnl⟩ := inB_n (b := 3) (by decide) (bI_1 h7)
      refine vv_eql (lv' := [(3, .int (bI (inB r 0 3))), (0, .ref (ad 0)), (1, .int (nI (tn r))), (2, .int v)]) (by rw [← hnn]) ?_
      refine vv_aload_n hC 1 dX9_setRate_37 rfl rfl (q := 38) rfl ?_
      refine vv_get hC hK (K := RX9) (T := TX9) (N := 35) (ci := 9) inwX9_setRate_X9 0 (by decide) (fs := fldM ad (sS S 0 0)) om0 rfl 15 (by decide) (List.mem_of_getElem? (i := 1) rfl) rfl (v := .ref (ad 13)) rfl dX9_setRate_38 (q := 41) rfl ?_
      refine vv_iload_n hC 2 dX9_setRate_41 rfl rfl (q := 42) rfl ?_
      refine vv_ialdN (P := PM cI cZ ad (sS S 0 0)) hC hK 13 (by decide) 0 (g := S.2 13) (omI (by decide) rfl) rfl (show tn r < 4 from (by omega)) (by decide) dX9_setRate_42 (q := 43) rfl ?_
      refine vv_istore hC (i := 4) (lv' := [(4, .int (S.2 13 (tn r))), (3, .int (bI (inB r 0 3))), (0, .ref (ad 0)), (1, .int (nI (tn r))), (2, .int v)]) dX9_setRate_43 (by decide) rfl (q := 45) rfl ?_
      refine vv_aload_n hC 2 dX9_setRate_45 rfl rfl (q := 46) rfl ?_
      refine vv_get hC hK (K := RX9) (T := TX9) (N := 35) (ci := 9) inwX9_setRate_X9 0 (by decide) (fs := fldM ad (sS S 0 0)) om0 rfl 15 (by decide) (List.mem_of_getElem? (i := 1) rfl) rfl (v := .ref (ad 13)) rfl dX9_setRate_46 (q := 49) rfl ?_
      refine vv_iload_n hC 3 dX9_setRate_49 rfl rfl (q := 50) rfl ?_
      refine vv_iload_n hC 4 dX9_setRate_50 rfl rfl (q := 51) rfl ?_
      refine vv_iastN (P := PM cI cZ ad (sS S 0 0)) hC hK hW (P1 := PM cI cZ ad (sA (sS S 0 0) 13 (upd (S.2 13) (tn r) v))) 13 (by decide) 0 (g := S.2 13) (omI (by decide) rfl) rfl (show tn r < 4 from (by omega)) (by decide) (om_aI (j := 13) (by decide) rfl _) dX9_setRate_51 (q := 52) rfl ?_
      refine vv_iload hC 0 dX9_setRate_52 rfl (q := 54) rfl ?_
      have hT : mtRt r v = 0 := by simp only [mtRt, bI_1 h7, bI_1 h21, Bool.false_eq_true, true_and, and_true, false_and, and_false, and_self, not_true, not_false_iff, or_true, true_or, or_false, false_or, if_true, if_false, reduceIte]
      exact vv_iret hC hK hr hlk (by rw [if_pos hT]) (fun f h => by rw [if_pos hT]; exact h) dX9_setRate_54
  · skip
    refine vv_iconst hC (v := nI 1) dX9_setRate_10 rfl (q := 11) rfl ?_
    refine vv_goto hC (tgt := 29) dX9_setRate_11 (by decide) ?_
    refine vv_calli hC hK (fun _ h => h) (As := [.int (nI 1)]) 0 (by decide) or9 rfl (c9_goesWell l hJ S 1 (by decide)) (cwV 1 hC.2.2.2.2 gX9_setRate_X9_goesWell rfl rfl rfl hdX9_goesWell ⟨Nat.le_of_ble_eq_true rfl, Nat.le_of_ble_eq_true rfl⟩) rfl rfl (Nat.le_of_ble_eq_true rfl) ⟨Nat.le_of_ble_eq_true rfl, Nat.le_of_ble_eq_true rfl⟩ dX9_setRate_29 (q := 32) rfl ?_
    refine vv_eqv (st' := [.int (nI 0)]) rfl ?_
    refine vv_if_ne hC (tgt := 37) dX9_setRate_32 (by decide) (q := 35) rfl (fun h => absurd h (by decide)) (fun _ => ?_)
    refine vv_iconst hC (v := nI 0) dX9_setRate_35 rfl (q := 36) rfl ?_
    have hT : mtRt r v = 1 := by simp only [mtRt, bI_0.mp h7, Bool.false_eq_true, true_and, and_true, false_and, and_false, and_self, not_true, not_false_iff, or_true, true_or, or_false, false_or, if_true, if_false, reduceIte]
    exact vv_iret hC hK hr hlk (by rw [if_neg (by rw [hT]; decide)]; rfl) (fun f h => by rw [if_neg (by rw [hT]; decide)]; rw [hT]; exact h) dX9_setRate_36
theorem inwX9_areFree_X9 : ∀ w ∈ wsX90, w ∈ wsX9_areFree := fun _ h => List.mem_cons_of_mem _ (List.mem_append_right _ h)
theorem hdX9_areFree : yX9_areFree.cls = RX9 ∧ yX9_areFree.cls ≠ "java/lang/invoke/MethodHandle" ∧ yX9_areFree.cls ≠ "java/lang/invoke/VarHandle" ∧ (parseMethodDescriptor yX9_areFree.desc).map (fun d => d.parameters.length) = some 2 := by decide +kernel
set_option maxRecDepth 100000 in
set_option maxHeartbeats 4000000 in
theorem c9_areFree (l : Launch) {D : va_G} {cI cW cZ cL : ClassId} {ad : Nat → Nat} (hJ : injA ad 27) (S : sM) (a b : Nat) (hab : a ≤ b) (hb : ¬ mTxt S (nI b) = -1) (hb2 : b < 2 ^ 30) (hI : IM S)  : kMi l yX9_areFree wsX9_areFree ({ frames := 1, cells := 0, slots := 0, locals := 23 }) D vwCl (tyL cI cW cZ cL) ad 27 [.ref (ad 0), .int (nI a), .int (nI b)] (PM cI cZ ad S) (bI (mFr S a (b + 1 - a))) (PM cI cZ ad S) := by
  refine vv_enter (cc := cX9_areFree) (maxL := 5) (ret := (some .boolean)) (own := RX9) (lv := [(0, .ref (ad 0)), (1, .int (nI a)), (2, .int (nI b))]) (by decide +kernel) rfl rfl hJ (Nat.le_of_ble_eq_true rfl) rfl ?_
  intro p e s m args below meth c hC hK hW hr hlk
  obtain ⟨iW, iR, iV, iI, iC, iK, iD, irow, ianc, iwr, icl, icc, irv⟩ := id hI
  refine vv_iconst hC (v := nI 1) dX9_areFree_0 rfl (q := 1) rfl ?_
  refine vv_istore_n hC (i := 3) (lv' := [(3, .int (nI 1)), (0, .ref (ad 0)), (1, .int (nI a)), (2, .int (nI b))]) dX9_areFree_1 rfl (by decide) rfl (q := 2) rfl ?_
  refine vv_iload_n hC 2 dX9_areFree_2 rfl rfl (q := 3) rfl ?_
  refine vv_istore hC (i := 4) (lv' := [(4, .int (nI a)), (3, .int (nI 1)), (0, .ref (ad 0)), (1, .int (nI a)), (2, .int (nI b))]) dX9_areFree_3 (by decide) rfl (q := 5) rfl ?_
  have loop5 : ∀ (fu : Nat) (n : Nat), b + 1 < a + n + fu → a + n ≤ b + 1 → vv p l e (headSpec wsX9_areFree ({ frames := 1, cells := 0, slots := 0, locals := 23 })).room s m args below meth c 5 (RA ad 27) s.heap 0 0 (MQ below (va_Qi (fun r' (_ : Unit) => r' = (bI (mFr S a (b + 1 - a)))) (fun _ => ws0 D vwCl (tyL cI cW cZ cL) ad 27 (PM cI cZ ad S)) (RA ad 27)) args s 0 0 (RA ad 27)) (wq D vwCl ad 27 (PM cI cZ ad S)) 5 [(0, .ref (ad 0)), (1, .int (nI a)), (2, .int (nI b)), (3, .int (bI (mFr S a n))), (4, .int (nI (a + n)))] [] := by
    intro fu
    induction fu with
    | zero =>
      intro n hfu hk
      exact absurd hfu (by omega)
    | succ fu ih =>
      intro n hfu hk
      refine vv_iload hC 4 dX9_areFree_5 rfl (q := 7) rfl ?_
      refine vv_iload_n hC 2 dX9_areFree_7 rfl rfl (q := 8) rfl ?_
      refine vv_icmpN_gt hC (tgt := 42) (by omega) (by omega) dX9_areFree_8 (by decide) (q := 11) rfl (fun h8 => ?_) (fun h8 => ?_)
      · skip
        refine vv_iload_n hC 3 dX9_areFree_42 rfl rfl (q := 43) rfl ?_
        exact vv_zret hC hK hr hlk bI_n (by obtain rfl : n = b + 1 - a := (by omega); rfl) (fun _ h => h) dX9_areFree_43
      · skip
        refine vv_iload_n hC 3 dX9_areFree_11 rfl rfl (q := 12) rfl ?_
        refine vv_if_eq hC (tgt := 34) dX9_areFree_12 (by decide) (q := 15) rfl (fun h12 => ?_) (fun h12 => ?_)
        · skip
          refine vv_iconst hC (v := nI 0) dX9_areFree_34 rfl (q := 35) rfl ?_
          refine vv_istore_n hC (i := 3) (lv' := [(3, .int (nI 0)), (0, .ref (ad 0)), (1, .int (nI a)), (2, .int (nI b)), (4, .int (nI (a + n)))]) dX9_areFree_35 rfl (by decide) rfl (q := 36) rfl ?_
          refine vv_iinc hC (i := 4) (v := nI (a + n + 1)) (lv' := [(4, .int (nI (a + n + 1))), (3, .int (nI 0)), (0, .ref (ad 0)), (1, .int (nI a)), (2, .int (nI b))]) 4 dX9_areFree_36 rfl (nI_1 (a + n)) (by decide) rfl (q := 39) rfl ?_
          refine vv_goto hC (tgt := 5) dX9_areFree_39 (by decide) ?_
          refine vv_lv [2, 3, 4, 1, 0] (lv' := [(0, .ref (ad 0)), (1, .int (nI a)), (2, .int (nI b)), (3, .int (nI 0)), (4, .int (nI (a + n + 1)))]) rfl ?_
          exact vv_eql (by rw [mFr, bI_0.mp h12]; rfl) (ih (n + 1) (by omega) (by omega))
        · skip
          refine vv_aload_n hC 0 dX9_areFree_15 rfl rfl (q := 16) rfl ?_
          refine vv_get hC hK (K := RX9) (T := TX9) (N := 35) (ci := 9) inwX9_areFree_X9 0 (by decide) (fs := fldM ad S) om0 rfl 7 (by decide) (List.mem_of_getElem? (i := 1) rfl) rfl (v := .ref (ad 6)) rfl dX9_areFree_16 (q := 19) rfl ?_
          refine vv_aload_n hC 0 dX9_areFree_19 rfl rfl (q := 20) rfl ?_
          refine vv_iload hC 4 dX9_areFree_20 rfl (q := 22) rfl ?_
          refine vv_calli hC hK (fun _ h => h) (As := [.int (nI (a + n))]) 0 (by decide) or9 rfl (c9_textAt l hJ S (nI (a + n)) hI) (cwV 1 hC.2.2.2.2 gX9_areFree_X9_textAt rfl rfl rfl hdX9_textAt ⟨Nat.le_of_ble_eq_true rfl, Nat.le_of_ble_eq_true rfl⟩) rfl rfl (Nat.le_of_ble_eq_true rfl) ⟨Nat.le_of_ble_eq_true rfl, Nat.le_of_ble_eq_true rfl⟩ dX9_areFree_22 (q := 25) rfl ?_
          have hab : ¬ mTxt S (nI (a + n)) = -1 := mTxt_mono iW irow (by omega) (show a + n ≤ b by omega) hb
          obtain ⟨ht, hl⟩ := mTxt_in irow hab
          refine vv_eqv (st' := [.int (nI (tn (mTxt S (nI (a + n))))), .ref (ad 6)]) (by rw [← ht]) ?_
          refine vv_ialdN (P := PM cI cZ ad S) hC hK 6 (by decide) 0 (g := S.2 6) (omI (by decide) rfl) rfl (show tn (mTxt S (nI (a + n))) < 300 from (by omega)) (by decide) dX9_areFree_25 (q := 26) rfl ?_
          refine vv_iconst hC (v := (-1)) dX9_areFree_26 rfl (q := 27) rfl ?_
          refine vv_icmp_ne hC (tgt := 34) dX9_areFree_27 (by decide) (q := 30) rfl (fun h27 => ?_) (fun h27 => ?_)
          · skip
            refine vv_iconst hC (v := nI 0) dX9_areFree_34 rfl (q := 35) rfl ?_
            refine vv_istore_n hC (i := 3) (lv' := [(3, .int (nI 0)), (0, .ref (ad 0)), (1, .int (nI a)), (2, .int (nI b)), (4, .int (nI (a + n)))]) dX9_areFree_35 rfl (by decide) rfl (q := 36) rfl ?_
            refine vv_iinc hC (i := 4) (v := nI (a + n + 1)) (lv' := [(4, .int (nI (a + n + 1))), (3, .int (nI 0)), (0, .ref (ad 0)), (1, .int (nI a)), (2, .int (nI b))]) 4 dX9_areFree_36 rfl (nI_1 (a + n)) (by decide) rfl (q := 39) rfl ?_
            refine vv_goto hC (tgt := 5) dX9_areFree_39 (by decide) ?_
            refine vv_lv [2, 3, 4, 1, 0] (lv' := [(0, .ref (ad 0)), (1, .int (nI a)), (2, .int (nI b)), (3, .int (nI 0)), (4, .int (nI (a + n + 1)))]) rfl ?_
            exact vv_eql (by rw [mFr, decide_eq_false h27, Bool.and_false]; rfl) (ih (n + 1) (by omega) (by omega))
          · skip
            refine vv_iconst hC (v := nI 1) dX9_areFree_30 rfl (q := 31) rfl ?_
            refine vv_goto hC (tgt := 35) dX9_areFree_31 (by decide) ?_
            refine vv_istore_n hC (i := 3) (lv' := [(3, .int (nI 1)), (0, .ref (ad 0)), (1, .int (nI a)), (2, .int (nI b)), (4, .int (nI (a + n)))]) dX9_areFree_35 rfl (by decide) rfl (q := 36) rfl ?_
            refine vv_iinc hC (i := 4) (v := nI (a + n + 1)) (lv' := [(4, .int (nI (a + n + 1))), (3, .int (nI 1)), (0, .ref (ad 0)), (1, .int (nI a)), (2, .int (nI b))]) 4 dX9_areFree_36 rfl (nI_1 (a + n)) (by decide) rfl (q := 39) rfl ?_
            refine vv_goto hC (tgt := 5) dX9_areFree_39 (by decide) ?_
            refine vv_lv [2, 3, 4, 1, 0] (lv' := [(0, .ref (ad 0)), (1, .int (nI a)), (2, .int (nI b)), (3, .int (nI 1)), (4, .int (nI (a + n + 1)))]) rfl ?_
            exact vv_eql (by rw [mFr, bI_1 h12, decide_eq_true h27]; rfl) (ih (n + 1) (by omega) (by omega))
  refine vv_lv [2, 3, 4, 1, 0] (lv' := [(0, .ref (ad 0)), (1, .int (nI a)), (2, .int (nI b)), (3, .int (nI 1)), (4, .int (nI a))]) rfl ?_
  exact loop5 (b + 2) 0 (by omega) (by omega)
theorem inwX9_order_X9 : ∀ w ∈ wsX90, w ∈ wsX9_order := fun _ h => List.mem_cons_of_mem _ (List.mem_append_right _ h)
theorem hdX9_order : yX9_order.cls = RX9 ∧ yX9_order.cls ≠ "java/lang/invoke/MethodHandle" ∧ yX9_order.cls ≠ "java/lang/invoke/VarHandle" ∧ (parseMethodDescriptor yX9_order.desc).map (fun d => d.parameters.length) = some 3 := by decide +kernel
set_option maxRecDepth 100000 in
set_option maxHeartbeats 4000000 in
theorem c9_order (l : Launch) {D : va_G} {cI cW cZ cL : ClassId} {ad : Nat → Nat} (hJ : injA ad 27) (S : sM) (r a b : Int32) (hI : IM S)  : kMi l yX9_order wsX9_order ({ frames := 2, cells := 0, slots := 0, locals := 47 }) D vwCl (tyL cI cW cZ cL) ad 27 [.ref (ad 0), .int r, .int a, .int b] (PM cI cZ ad S) (if mtOrd S r a b = 0 then nI (S.1 17) else 0) (PM cI cZ ad (if mtOrd S r a b = 0 then msOrd S (tn r) (tn a) (tn b) else sS S 0 (mtOrd S r a b))) := by
  refine vv_enter (cc := cX9_order) (maxL := 7) (ret := (some .int)) (own := RX9) (lv := [(0, .ref (ad 0)), (1, .int r), (2, .int a), (3, .int b)]) (by decide +kernel) rfl rfl hJ (Nat.le_of_ble_eq_true rfl) rfl ?_
  intro p e s m args below meth c hC hK hW hr hlk
  obtain ⟨iW, iR, iV, iI, iC, iK, iD, irow, ianc, iwr, icl, icc, irv⟩ := id hI
  refine vv_iload_n hC 1 dX9_order_0 rfl rfl (q := 1) rfl ?_
  refine vv_callsi hC hK (fun _ h => h) (As := [.int r]) (c9_isReviewer l hJ S r) (va_cwS 1 hC.2.2.2.2 gX9_order_X9_isReviewer rfl rfl rfl hsX9_isReviewer ⟨Nat.le_of_ble_eq_true rfl, Nat.le_of_ble_eq_true rfl⟩) rfl rfl (Nat.le_of_ble_eq_true rfl) ⟨Nat.le_of_ble_eq_true rfl, Nat.le_of_ble_eq_true rfl⟩ dX9_order_1 (q := 4) rfl ?_
  refine vv_if_eq hC (tgt := 29) dX9_order_4 (by decide) (q := 7) rfl (fun h4 => ?_) (fun h4 => ?_)
  · skip
    refine vv_iconst hC (v := nI 0) dX9_order_29 rfl (q := 30) rfl ?_
    refine vv_istore hC (i := 4) (lv' := [(4, .int (nI 0)), (0, .ref (ad 0)), (1, .int r), (2, .int a), (3, .int b)]) dX9_order_30 (by decide) rfl (q := 32) rfl ?_
    refine vv_iload hC 0 dX9_order_32 rfl (q := 34) rfl ?_
    refine vv_if_eq hC (tgt := 64) dX9_order_34 (by decide) (q := 37) rfl (fun _ => ?_) (fun h => absurd h (by decide))
    refine vv_iconst hC (v := nI 0) dX9_order_64 rfl (q := 65) rfl ?_
    refine vv_istore hC (i := 5) (lv' := [(5, .int (nI 0)), (4, .int (nI 0)), (0, .ref (ad 0)), (1, .int r), (2, .int a), (3, .int b)]) dX9_order_65 (by decide) rfl (q := 67) rfl ?_
    refine vv_aload_n hC 2 dX9_order_67 rfl rfl (q := 68) rfl ?_
    refine vv_iload hC 1 dX9_order_68 rfl (q := 70) rfl ?_
    refine vv_if_ne hC (tgt := 77) dX9_order_70 (by decide) (q := 73) rfl (fun h => absurd h (by decide)) (fun _ => ?_)
    refine vv_iconst hC (v := nI 1) dX9_order_73 rfl (q := 74) rfl ?_
    refine vv_goto hC (tgt := 96) dX9_order_74 (by decide) ?_
    refine vv_calli hC hK (fun _ h => h) (As := [.int (nI 1)]) 0 (by decide) or9 rfl (c9_goesWell l hJ S 1 (by decide)) (cwV 1 hC.2.2.2.2 gX9_order_X9_goesWell rfl rfl rfl hdX9_goesWell ⟨Nat.le_of_ble_eq_true rfl, Nat.le_of_ble_eq_true rfl⟩) rfl rfl (Nat.le_of_ble_eq_true rfl) ⟨Nat.le_of_ble_eq_true rfl, Nat.le_of_ble_eq_true rfl⟩ dX9_order_96 (q := 99) rfl ?_
    refine vv_eqv (st' := [.int (nI 0)]) rfl ?_
    refine vv_if_ne hC (tgt := 104) dX9_order_99 (by decide) (q := 102) rfl (fun h => absurd h (by decide)) (fun _ => ?_)
    refine vv_iconst hC (v := nI 0) dX9_order_102 rfl (q := 103) rfl ?_
    have hT : mtOrd S r a b = 1 := by simp only [mtOrd, bI_0.mp h4, Bool.false_eq_true, true_and, and_true, false_and, and_false, and_self, not_true, not_false_iff, or_true, true_or, or_false, false_or, if_true, if_false, reduceIte]
    exact vv_iret hC hK hr hlk (by rw [if_neg (by rw [hT]; decide)]; rfl) (fun f h => by rw [if_neg (by rw [hT]; decide)]; rw [hT]; exact h) dX9_order_103
  · skip
    refine vv_aload_n hC 0 dX9_order_7 rfl rfl (q := 8) rfl ?_
    refine vv_iload_n hC 2 dX9_order_8 rfl rfl (q := 9) rfl ?_
    refine vv_calli hC hK (fun _ h => h) (As := [.int a]) 0 (by decide) or9 rfl (c9_textAt l hJ S a hI) (cwV 1 hC.2.2.2.2 gX9_order_X9_textAt rfl rfl rfl hdX9_textAt ⟨Nat.le_of_ble_eq_true rfl, Nat.le_of_ble_eq_true rfl⟩) rfl rfl (Nat.le_of_ble_eq_true rfl) ⟨Nat.le_of_ble_eq_true rfl, Nat.le_of_ble_eq_true rfl⟩ dX9_order_9 (q := 12) rfl ?_
    refine vv_iconst hC (v := (-1)) dX9_order_12 rfl (q := 13) rfl ?_
    refine vv_icmp_eq hC (tgt := 29) dX9_order_13 (by decide) (q := 16) rfl (fun h13 => ?_) (fun h13 => ?_)
    · skip
      refine vv_iconst hC (v := nI 0) dX9_order_29 rfl (q := 30) rfl ?_
      refine vv_istore hC (i := 4) (lv' := [(4, .int (nI 0)), (0, .ref (ad 0)), (1, .int r), (2, .int a), (3, .int b)]) dX9_order_30 (by decide) rfl (q := 32) rfl ?_
      refine vv_iload hC 0 dX9_order_32 rfl (q := 34) rfl ?_
      refine vv_if_eq hC (tgt := 64) dX9_order_34 (by decide) (q := 37) rfl (fun _ => ?_) (fun h => absurd h (by decide))
      refine vv_iconst hC (v := nI 0) dX9_order_64 rfl (q := 65) rfl ?_
      refine vv_istore hC (i := 5) (lv' := [(5, .int (nI 0)), (4, .int (nI 0)), (0, .ref (ad 0)), (1, .int r), (2, .int a), (3, .int b)]) dX9_order_65 (by decide) rfl (q := 67) rfl ?_
      refine vv_aload_n hC 2 dX9_order_67 rfl rfl (q := 68) rfl ?_
      refine vv_iload hC 1 dX9_order_68 rfl (q := 70) rfl ?_
      refine vv_if_ne hC (tgt := 77) dX9_order_70 (by decide) (q := 73) rfl (fun h => absurd h (by decide)) (fun _ => ?_)
      refine vv_iconst hC (v := nI 1) dX9_order_73 rfl (q := 74) rfl ?_
      refine vv_goto hC (tgt := 96) dX9_order_74 (by decide) ?_
      refine vv_calli hC hK (fun _ h => h) (As := [.int (nI 1)]) 0 (by decide) or9 rfl (c9_goesWell l hJ S 1 (by decide)) (cwV 1 hC.2.2.2.2 gX9_order_X9_goesWell rfl rfl rfl hdX9_goesWell ⟨Nat.le_of_ble_eq_true rfl, Nat.le_of_ble_eq_true rfl⟩) rfl rfl (Nat.le_of_ble_eq_true rfl) ⟨Nat.le_of_ble_eq_true rfl, Nat.le_of_ble_eq_true rfl⟩ dX9_order_96 (q := 99) rfl ?_
      refine vv_eqv (st' := [.int (nI 0)]) rfl ?_
      refine vv_if_ne hC (tgt := 104) dX9_order_99 (by decide) (q := 102) rfl (fun h => absurd h (by decide)) (fun _ => ?_)
      refine vv_iconst hC (v := nI 0) dX9_order_102 rfl (q := 103) rfl ?_
      have hT : mtOrd S r a b = 1 := by simp only [mtOrd, bI_1 h4, h13, Bool.false_eq_true, true_and, and_true, false_and, and_false, and_self, not_true, not_false_iff, or_true, true_or, or_false, false_or, if_true, if_false, reduceIte]
      exact vv_iret hC hK hr hlk (by rw [if_neg (by rw [hT]; decide)]; rfl) (fun f h => by rw [if_neg (by rw [hT]; decide)]; rw [hT]; exact h) dX9_order_103
    · skip
      refine vv_aload_n hC 0 dX9_order_16 rfl rfl (q := 17) rfl ?_
      refine vv_iload_n hC 3 dX9_order_17 rfl rfl (q := 18) rfl ?_
      refine vv_calli hC hK (fun _ h => h) (As := [.int b]) 0 (by decide) or9 rfl (c9_textAt l hJ S b hI) (cwV 1 hC.2.2.2.2 gX9_order_X9_textAt rfl rfl rfl hdX9_textAt ⟨Nat.le_of_ble_eq_true rfl, Nat.le_of_ble_eq_true rfl⟩) rfl rfl (Nat.le_of_ble_eq_true rfl) ⟨Nat.le_of_ble_eq_true rfl, Nat.le_of_ble_eq_true rfl⟩ dX9_order_18 (q := 21) rfl ?_
      refine vv_iconst hC (v := (-1)) dX9_order_21 rfl (q := 22) rfl ?_
      refine vv_icmp_eq hC (tgt := 29) dX9_order_22 (by decide) (q := 25) rfl (fun h22 => ?_) (fun h22 => ?_)
      · skip
        refine vv_iconst hC (v := nI 0) dX9_order_29 rfl (q := 30) rfl ?_
        refine vv_istore hC (i := 4) (lv' := [(4, .int (nI 0)), (0, .ref (ad 0)), (1, .int r), (2, .int a), (3, .int b)]) dX9_order_30 (by decide) rfl (q := 32) rfl ?_
        refine vv_iload hC 0 dX9_order_32 rfl (q := 34) rfl ?_
        refine vv_if_eq hC (tgt := 64) dX9_order_34 (by decide) (q := 37) rfl (fun _ => ?_) (fun h => absurd h (by decide))
        refine vv_iconst hC (v := nI 0) dX9_order_64 rfl (q := 65) rfl ?_
        refine vv_istore hC (i := 5) (lv' := [(5, .int (nI 0)), (4, .int (nI 0)), (0, .ref (ad 0)), (1, .int r), (2, .int a), (3, .int b)]) dX9_order_65 (by decide) rfl (q := 67) rfl ?_
        refine vv_aload_n hC 2 dX9_order_67 rfl rfl (q := 68) rfl ?_
        refine vv_iload hC 1 dX9_order_68 rfl (q := 70) rfl ?_
        refine vv_if_ne hC (tgt := 77) dX9_order_70 (by decide) (q := 73) rfl (fun h => absurd h (by decide)) (fun _ => ?_)
        refine vv_iconst hC (v := nI 1) dX9_order_73 rfl (q := 74) rfl ?_
        refine vv_goto hC (tgt := 96) dX9_order_74 (by decide) ?_
        refine vv_calli hC hK (fun _ h => h) (As := [.int (nI 1)]) 0 (by decide) or9 rfl (c9_goesWell l hJ S 1 (by decide)) (cwV 1 hC.2.2.2.2 gX9_order_X9_goesWell rfl rfl rfl hdX9_goesWell ⟨Nat.le_of_ble_eq_true rfl, Nat.le_of_ble_eq_true rfl⟩) rfl rfl (Nat.le_of_ble_eq_true rfl) ⟨Nat.le_of_ble_eq_true rfl, Nat.le_of_ble_eq_true rfl⟩ dX9_order_96 (q := 99) rfl ?_
        refine vv_eqv (st' := [.int (nI 0)]) rfl ?_
        refine vv_if_ne hC (tgt := 104) dX9_order_99 (by decide) (q := 102) rfl (fun h => absurd h (by decide)) (fun _ => ?_)
        refine vv_iconst hC (v := nI 0) dX9_order_102 rfl (q := 103) rfl ?_
        have hT : mtOrd S r a b = 1 := by simp only [mtOrd, bI_1 h4, h13, h22, Bool.false_eq_true, true_and, and_true, false_and, and_false, and_self, not_true, not_false_iff, or_true, true_or, or_false, false_or, if_true, if_false, reduceIte]
        exact vv_iret hC hK hr hlk (by rw [if_neg (by rw [hT]; decide)]; rfl) (fun f h => by rw [if_neg (by rw [hT]; decide)]; rw [hT]; exact h) dX9_order_103
      · skip
        refine vv_iconst hC (v := nI 1) dX9_order_25 rfl (q := 26) rfl ?_
        refine vv_goto hC (tgt := 30) dX9_order_26 (by decide) ?_
        refine vv_istore hC (i := 4) (lv' := [(4, .int (nI 1)), (0, .ref (ad 0)), (1, .int r), (2, .int a), (3, .int b)]) dX9_order_30 (by decide) rfl (q := 32) rfl ?_
        refine vv_iload hC 0 dX9_order_32 rfl (q := 34) rfl ?_
        obtain ⟨han, hal⟩ := mTxt_lt h13
        obtain ⟨hbn, hbl⟩ := mTxt_lt h22
        refine vv_eql (lv' := [(4, .int (nI 1)), (0, .ref (ad 0)), (1, .int r), (2, .int (nI (tn a))), (3, .int (nI (tn b)))]) (by rw [← han, ← hbn]) ?_
        refine vv_if_eq hC (tgt := 64) dX9_order_34 (by decide) (q := 37) rfl (fun h => absurd h (by decide)) (fun _ => ?_)
        refine vv_iload_n hC 3 dX9_order_37 rfl rfl (q := 38) rfl ?_
        refine vv_iload_n hC 4 dX9_order_38 rfl rfl (q := 39) rfl ?_
        refine vv_icmpN_gt hC (tgt := 64) (by omega) (by omega) dX9_order_39 (by decide) (q := 42) rfl (fun h39 => ?_) (fun h39 => ?_)
        · skip
          refine vv_iconst hC (v := nI 0) dX9_order_64 rfl (q := 65) rfl ?_
          refine vv_istore hC (i := 5) (lv' := [(5, .int (nI 0)), (4, .int (nI 1)), (0, .ref (ad 0)), (1, .int r), (2, .int (nI (tn a))), (3, .int (nI (tn b)))]) dX9_order_65 (by decide) rfl (q := 67) rfl ?_
          refine vv_aload_n hC 2 dX9_order_67 rfl rfl (q := 68) rfl ?_
          refine vv_iload hC 1 dX9_order_68 rfl (q := 70) rfl ?_
          refine vv_if_ne hC (tgt := 77) dX9_order_70 (by decide) (q := 73) rfl (fun _ => ?_) (fun h => absurd h (by decide))
          refine vv_iload_n hC 5 dX9_order_77 rfl rfl (q := 78) rfl ?_
          refine vv_iload_n hC 4 dX9_order_78 rfl rfl (q := 79) rfl ?_
          refine vv_icmpN_ge hC (tgt := 86) (by omega) (by omega) dX9_order_79 (by decide) (q := 82) rfl (fun h79 => ?_) (fun h79 => ?_)
          · skip
            exact absurd h79 (by omega)
          · skip
            refine vv_iconst hC (v := nI 2) dX9_order_82 rfl (q := 83) rfl ?_
            refine vv_goto hC (tgt := 96) dX9_order_83 (by decide) ?_
            refine vv_calli hC hK (fun _ h => h) (As := [.int (nI 2)]) 0 (by decide) or9 rfl (c9_goesWell l hJ S 2 (by decide)) (cwV 1 hC.2.2.2.2 gX9_order_X9_goesWell rfl rfl rfl hdX9_goesWell ⟨Nat.le_of_ble_eq_true rfl, Nat.le_of_ble_eq_true rfl⟩) rfl rfl (Nat.le_of_ble_eq_true rfl) ⟨Nat.le_of_ble_eq_true rfl, Nat.le_of_ble_eq_true rfl⟩ dX9_order_96 (q := 99) rfl ?_
            refine vv_eqv (st' := [.int (nI 0)]) rfl ?_
            refine vv_if_ne hC (tgt := 104) dX9_order_99 (by decide) (q := 102) rfl (fun h => absurd h (by decide)) (fun _ => ?_)
            refine vv_iconst hC (v := nI 0) dX9_order_102 rfl (q := 103) rfl ?_
            have hT : mtOrd S r a b = 2 := by simp only [mtOrd, bI_1 h4, h13, h22, h39, h79, Bool.false_eq_true, true_and, and_true, false_and, and_false, and_self, not_true, not_false_iff, or_true, true_or, or_false, false_or, if_true, if_false, reduceIte]
            exact vv_iret hC hK hr hlk (by rw [if_neg (by rw [hT]; decide)]; rfl) (fun f h => by rw [if_neg (by rw [hT]; decide)]; rw [hT]; exact h) dX9_order_103
        · skip
          refine vv_aload_n hC 1 dX9_order_42 rfl rfl (q := 43) rfl ?_
          refine vv_get hC hK (K := RX9) (T := TX9) (N := 35) (ci := 9) inwX9_order_X9 0 (by decide) (fs := fldM ad S) om0 rfl 17 (by decide) (List.mem_of_getElem? (i := 1) rfl) rfl (v := .int (nI (S.1 17))) rfl dX9_order_43 (q := 46) rfl ?_
          refine vv_bipush hC (v := nI 30) dX9_order_46 rfl (q := 48) rfl ?_
          refine vv_icmpN_ge hC (tgt := 64) (by omega) (by omega) dX9_order_48 (by decide) (q := 51) rfl (fun h48 => ?_) (fun h48 => ?_)
          · skip
            refine vv_iconst hC (v := nI 0) dX9_order_64 rfl (q := 65) rfl ?_
            refine vv_istore hC (i := 5) (lv' := [(5, .int (nI 0)), (4, .int (nI 1)), (0, .ref (ad 0)), (1, .int r), (2, .int (nI (tn a))), (3, .int (nI (tn b)))]) dX9_order_65 (by decide) rfl (q := 67) rfl ?_
            refine vv_aload_n hC 2 dX9_order_67 rfl rfl (q := 68) rfl ?_
            refine vv_iload hC 1 dX9_order_68 rfl (q := 70) rfl ?_
            refine vv_if_ne hC (tgt := 77) dX9_order_70 (by decide) (q := 73) rfl (fun _ => ?_) (fun h => absurd h (by decide))
            refine vv_iload_n hC 5 dX9_order_77 rfl rfl (q := 78) rfl ?_
            refine vv_iload_n hC 4 dX9_order_78 rfl rfl (q := 79) rfl ?_
            refine vv_icmpN_ge hC (tgt := 86) (by omega) (by omega) dX9_order_79 (by decide) (q := 82) rfl (fun h79 => ?_) (fun h79 => ?_)
            · skip
              refine vv_iload hC 0 dX9_order_86 rfl (q := 88) rfl ?_
              refine vv_if_eq hC (tgt := 95) dX9_order_88 (by decide) (q := 91) rfl (fun _ => ?_) (fun h => absurd h (by decide))
              refine vv_iconst hC (v := nI 3) dX9_order_95 rfl (q := 96) rfl ?_
              refine vv_calli hC hK (fun _ h => h) (As := [.int (nI 3)]) 0 (by decide) or9 rfl (c9_goesWell l hJ S 3 (by decide)) (cwV 1 hC.2.2.2.2 gX9_order_X9_goesWell rfl rfl rfl hdX9_goesWell ⟨Nat.le_of_ble_eq_true rfl, Nat.le_of_ble_eq_true rfl⟩) rfl rfl (Nat.le_of_ble_eq_true rfl) ⟨Nat.le_of_ble_eq_true rfl, Nat.le_of_ble_eq_true rfl⟩ dX9_order_96 (q := 99) rfl ?_
              refine vv_eqv (st' := [.int (nI 0)]) rfl ?_
              refine vv_if_ne hC (tgt := 104) dX9_order_99 (by decide) (q := 102) rfl (fun h => absurd h (by decide)) (fun _ => ?_)
              refine vv_iconst hC (v := nI 0) dX9_order_102 rfl (q := 103) rfl ?_
              have hT : mtOrd S r a b = 3 := by simp only [mtOrd, bI_1 h4, h13, h22, h39, h48, h79, Bool.false_eq_true, true_and, and_true, false_and, and_false, and_self, not_true, not_false_iff, or_true, true_or, or_false, false_or, if_true, if_false, reduceIte]
              exact vv_iret hC hK hr hlk (by rw [if_neg (by rw [hT]; decide)]; rfl) (fun f h => by rw [if_neg (by rw [hT]; decide)]; rw [hT]; exact h) dX9_order_103
            · skip
              exact absurd h79 (by omega)
          · skip
            refine vv_aload_n hC 1 dX9_order_51 rfl rfl (q := 52) rfl ?_
            refine vv_iload_n hC 3 dX9_order_52 rfl rfl (q := 53) rfl ?_
            refine vv_iload_n hC 4 dX9_order_53 rfl rfl (q := 54) rfl ?_
            refine vv_calli hC hK (fun _ h => h) (As := [.int (nI (tn a)), .int (nI (tn b))]) 0 (by decide) or9 rfl (c9_areFree l hJ S (tn a) (tn b) (by omega) (by rw [← hbn]; exact h22) (by omega) hI) (cwV 2 hC.2.2.2.2 gX9_order_X9_areFree rfl rfl rfl hdX9_areFree ⟨Nat.le_of_ble_eq_true rfl, Nat.le_of_ble_eq_true rfl⟩) rfl rfl (Nat.le_of_ble_eq_true rfl) ⟨Nat.le_of_ble_eq_true rfl, Nat.le_of_ble_eq_true rfl⟩ dX9_order_54 (q := 57) rfl ?_
            refine vv_if_eq hC (tgt := 64) dX9_order_57 (by decide) (q := 60) rfl (fun h57 => ?_) (fun h57 => ?_)
            · skip
              refine vv_iconst hC (v := nI 0) dX9_order_64 rfl (q := 65) rfl ?_
              refine vv_istore hC (i := 5) (lv' := [(5, .int (nI 0)), (4, .int (nI 1)), (0, .ref (ad 0)), (1, .int r), (2, .int (nI (tn a))), (3, .int (nI (tn b)))]) dX9_order_65 (by decide) rfl (q := 67) rfl ?_
              refine vv_aload_n hC 2 dX9_order_67 rfl rfl (q := 68) rfl ?_
              refine vv_iload hC 1 dX9_order_68 rfl (q := 70) rfl ?_
              refine vv_if_ne hC (tgt := 77) dX9_order_70 (by decide) (q := 73) rfl (fun _ => ?_) (fun h => absurd h (by decide))
              refine vv_iload_n hC 5 dX9_order_77 rfl rfl (q := 78) rfl ?_
              refine vv_iload_n hC 4 dX9_order_78 rfl rfl (q := 79) rfl ?_
              refine vv_icmpN_ge hC (tgt := 86) (by omega) (by omega) dX9_order_79 (by decide) (q := 82) rfl (fun h79 => ?_) (fun h79 => ?_)
              · skip
                refine vv_iload hC 0 dX9_order_86 rfl (q := 88) rfl ?_
                refine vv_if_eq hC (tgt := 95) dX9_order_88 (by decide) (q := 91) rfl (fun _ => ?_) (fun h => absurd h (by decide))
                refine vv_iconst hC (v := nI 3) dX9_order_95 rfl (q := 96) rfl ?_
                refine vv_calli hC hK (fun _ h => h) (As := [.int (nI 3)]) 0 (by decide) or9 rfl (c9_goesWell l hJ S 3 (by decide)) (cwV 1 hC.2.2.2.2 gX9_order_X9_goesWell rfl rfl rfl hdX9_goesWell ⟨Nat.le_of_ble_eq_true rfl, Nat.le_of_ble_eq_true rfl⟩) rfl rfl (Nat.le_of_ble_eq_true rfl) ⟨Nat.le_of_ble_eq_true rfl, Nat.le_of_ble_eq_true rfl⟩ dX9_order_96 (q := 99) rfl ?_
                refine vv_eqv (st' := [.int (nI 0)]) rfl ?_
                refine vv_if_ne hC (tgt := 104) dX9_order_99 (by decide) (q := 102) rfl (fun h => absurd h (by decide)) (fun _ => ?_)
                refine vv_iconst hC (v := nI 0) dX9_order_102 rfl (q := 103) rfl ?_
                have hT : mtOrd S r a b = 3 := by simp only [mtOrd, bI_1 h4, h13, h22, h39, h48, bI_0.mp h57, h79, Bool.false_eq_true, true_and, and_true, false_and, and_false, and_self, not_true, not_false_iff, or_true, true_or, or_false, false_or, if_true, if_false, reduceIte]
                exact vv_iret hC hK hr hlk (by rw [if_neg (by rw [hT]; decide)]; rfl) (fun f h => by rw [if_neg (by rw [hT]; decide)]; rw [hT]; exact h) dX9_order_103
              · skip
                exact absurd h79 (by omega)
            · skip
              refine vv_iconst hC (v := nI 1) dX9_order_60 rfl (q := 61) rfl ?_
              refine vv_goto hC (tgt := 65) dX9_order_61 (by decide) ?_
              refine vv_istore hC (i := 5) (lv' := [(5, .int (nI 1)), (4, .int (nI 1)), (0, .ref (ad 0)), (1, .int r), (2, .int (nI (tn a))), (3, .int (nI (tn b)))]) dX9_order_65 (by decide) rfl (q := 67) rfl ?_
              refine vv_aload_n hC 2 dX9_order_67 rfl rfl (q := 68) rfl ?_
              refine vv_iload hC 1 dX9_order_68 rfl (q := 70) rfl ?_
              refine vv_if_ne hC (tgt := 77) dX9_order_70 (by decide) (q := 73) rfl (fun _ => ?_) (fun h => absurd h (by decide))
              refine vv_iload_n hC 5 dX9_order_77 rfl rfl (q := 78) rfl ?_
              refine vv_iload_n hC 4 dX9_order_78 rfl rfl (q := 79) rfl ?_
              refine vv_icmpN_ge hC (tgt := 86) (by omega) (by omega) dX9_order_79 (by decide) (q := 82) rfl (fun h79 => ?_) (fun h79 => ?_)
              · skip
                refine vv_iload hC 0 dX9_order_86 rfl (q := 88) rfl ?_
                refine vv_if_eq hC (tgt := 95) dX9_order_88 (by decide) (q := 91) rfl (fun h => absurd h (by decide)) (fun _ => ?_)
                refine vv_iconst hC (v := nI 0) dX9_order_91 rfl (q := 92) rfl ?_
                refine vv_goto hC (tgt := 96) dX9_order_92 (by decide) ?_
                refine vv_calli hC hK (fun _ h => h) (As := [.int (nI 0)]) 0 (by decide) or9 rfl (c9_goesWell l hJ S 0 (by decide)) (cwV 1 hC.2.2.2.2 gX9_order_X9_goesWell rfl rfl rfl hdX9_goesWell ⟨Nat.le_of_ble_eq_true rfl, Nat.le_of_ble_eq_true rfl⟩) rfl rfl (Nat.le_of_ble_eq_true rfl) ⟨Nat.le_of_ble_eq_true rfl, Nat.le_of_ble_eq_true rfl⟩ dX9_order_96 (q := 99) rfl ?_
                refine vv_eqv (st' := [.int (nI 1)]) rfl ?_
                refine vv_if_ne hC (tgt := 104) dX9_order_99 (by decide) (q := 102) rfl (fun _ => ?_) (fun h => absurd h (by decide))
                obtain ⟨hrn, hrl⟩ := inB_n (b := 3) (by decide) (bI_1 h4)
                refine vv_eql (lv' := [(5, .int (nI 1)), (4, .int (nI 1)), (0, .ref (ad 0)), (1, .int (nI (tn r))), (2, .int (nI (tn a))), (3, .int (nI (tn b)))]) (by rw [← hrn]) ?_
                refine vv_iload_n hC 4 dX9_order_104 rfl rfl (q := 105) rfl ?_
                refine vv_istore hC (i := 6) (lv' := [(6, .int (nI (tn a))), (5, .int (nI 1)), (4, .int (nI 1)), (0, .ref (ad 0)), (1, .int (nI (tn r))), (2, .int (nI (tn a))), (3, .int (nI (tn b)))]) dX9_order_105 (by decide) rfl (q := 107) rfl ?_
                have loop107 : ∀ (fu : Nat) (n : Nat), tn b + 1 < tn a + n + fu → tn a + n ≤ tn b + 1 → vv p l e (headSpec wsX9_order ({ frames := 2, cells := 0, slots := 0, locals := 47 })).room s m args below meth c 7 (RA ad 27) s.heap 0 0 (MQ below (va_Qi (fun r' (_ : Unit) => r' = (if mtOrd S r a b = 0 then nI (S.1 17) else 0)) (fun _ => ws0 D vwCl (tyL cI cW cZ cL) ad 27 (PM cI cZ ad (if mtOrd S r a b = 0 then msOrd S (tn r) (tn a) (tn b) else sS S 0 (mtOrd S r a b)))) (RA ad 27)) args s 0 0 (RA ad 27)) (wq D vwCl ad 27 (PM cI cZ ad (sA (sS S 0 0) 6 (mFz S (tn a) n)))) 107 [(0, .ref (ad 0)), (1, .int (nI (tn r))), (2, .int (nI (tn a))), (3, .int (nI (tn b))), (6, .int (nI (tn a + n)))] [] := by
                  intro fu
                  induction fu with
                  | zero =>
                    intro n hfu hk
                    exact absurd hfu (by omega)
                  | succ fu ih =>
                    intro n hfu hk
                    refine vv_iload hC 4 dX9_order_107 rfl (q := 109) rfl ?_
                    refine vv_iload_n hC 3 dX9_order_109 rfl rfl (q := 110) rfl ?_
                    refine vv_icmpN_gt hC (tgt := 134) (by omega) (by omega) dX9_order_110 (by decide) (q := 113) rfl (fun h110 => ?_) (fun h110 => ?_)
                    · skip
                      obtain rfl : n = tn b + 1 - tn a := by omega
                      refine vv_aload_n hC 0 dX9_order_134 rfl rfl (q := 135) rfl ?_
                      refine vv_get hC hK (K := RX9) (T := TX9) (N := 35) (ci := 9) inwX9_order_X9 0 (by decide) (fs := fldM ad (sA (sS S 0 0) 6 (mFz S (tn a) (tn b + 1 - tn a)))) om0 rfl 18 (by decide) (List.mem_of_getElem? (i := 3) rfl) rfl (v := .ref (ad 15)) rfl dX9_order_135 (q := 138) rfl ?_
                      refine vv_aload_n hC 0 dX9_order_138 rfl rfl (q := 139) rfl ?_
                      refine vv_get hC hK (K := RX9) (T := TX9) (N := 35) (ci := 9) inwX9_order_X9 0 (by decide) (fs := fldM ad (sA (sS S 0 0) 6 (mFz S (tn a) (tn b + 1 - tn a)))) om0 rfl 17 (by decide) (List.mem_of_getElem? (i := 1) rfl) rfl (v := .int (nI (S.1 17))) rfl dX9_order_139 (q := 142) rfl ?_
                      refine vv_iload_n hC 1 dX9_order_142 rfl rfl (q := 143) rfl ?_
                      refine vv_iastN (P := PM cI cZ ad (sA (sS S 0 0) 6 (mFz S (tn a) (tn b + 1 - tn a)))) hC hK hW (P1 := PM cI cZ ad (sA (sA (sS S 0 0) 6 (mFz S (tn a) (tn b + 1 - tn a))) 15 (upd (S.2 15) (S.1 17) (nI (tn r))))) 15 (by decide) 0 (g := S.2 15) (omI (by decide) rfl) rfl (show S.1 17 < 30 from (by omega)) (by decide) (om_aI (j := 15) (by decide) rfl _) dX9_order_143 (q := 144) rfl ?_
                      refine vv_aload_n hC 0 dX9_order_144 rfl rfl (q := 145) rfl ?_
                      refine vv_get hC hK (K := RX9) (T := TX9) (N := 35) (ci := 9) inwX9_order_X9 0 (by decide) (fs := fldM ad (sA (sA (sS S 0 0) 6 (mFz S (tn a) (tn b + 1 - tn a))) 15 (upd (S.2 15) (S.1 17) (nI (tn r))))) om0 rfl 19 (by decide) (List.mem_of_getElem? (i := 4) rfl) rfl (v := .ref (ad 16)) rfl dX9_order_145 (q := 148) rfl ?_
                      refine vv_aload_n hC 0 dX9_order_148 rfl rfl (q := 149) rfl ?_
                      refine vv_get hC hK (K := RX9) (T := TX9) (N := 35) (ci := 9) inwX9_order_X9 0 (by decide) (fs := fldM ad (sA (sA (sS S 0 0) 6 (mFz S (tn a) (tn b + 1 - tn a))) 15 (upd (S.2 15) (S.1 17) (nI (tn r))))) om0 rfl 17 (by decide) (List.mem_of_getElem? (i := 1) rfl) rfl (v := .int (nI (S.1 17))) rfl dX9_order_149 (q := 152) rfl ?_
                      refine vv_iconst hC (v := nI 0) dX9_order_152 rfl (q := 153) rfl ?_
                      refine vv_iastN (P := PM cI cZ ad (sA (sA (sS S 0 0) 6 (mFz S (tn a) (tn b + 1 - tn a))) 15 (upd (S.2 15) (S.1 17) (nI (tn r))))) hC hK hW (P1 := PM cI cZ ad (sA (sA (sA (sS S 0 0) 6 (mFz S (tn a) (tn b + 1 - tn a))) 15 (upd (S.2 15) (S.1 17) (nI (tn r)))) 16 (upd (S.2 16) (S.1 17) (nI 0)))) 16 (by decide) 0 (g := S.2 16) (omI (by decide) rfl) rfl (show S.1 17 < 30 from (by omega)) (by decide) (om_aI (j := 16) (by decide) rfl _) dX9_order_153 (q := 154) rfl ?_
                      refine vv_aload_n hC 0 dX9_order_154 rfl rfl (q := 155) rfl ?_
                      refine vv_get hC hK (K := RX9) (T := TX9) (N := 35) (ci := 9) inwX9_order_X9 0 (by decide) (fs := fldM ad (sA (sA (sA (sS S 0 0) 6 (mFz S (tn a) (tn b + 1 - tn a))) 15 (upd (S.2 15) (S.1 17) (nI (tn r)))) 16 (upd (S.2 16) (S.1 17) (nI 0)))) om0 rfl 20 (by decide) (List.mem_of_getElem? (i := 5) rfl) rfl (v := .ref (ad 17)) rfl dX9_order_155 (q := 158) rfl ?_
                      refine vv_aload_n hC 0 dX9_order_158 rfl rfl (q := 159) rfl ?_
                      refine vv_get hC hK (K := RX9) (T := TX9) (N := 35) (ci := 9) inwX9_order_X9 0 (by decide) (fs := fldM ad (sA (sA (sA (sS S 0 0) 6 (mFz S (tn a) (tn b + 1 - tn a))) 15 (upd (S.2 15) (S.1 17) (nI (tn r)))) 16 (upd (S.2 16) (S.1 17) (nI 0)))) om0 rfl 17 (by decide) (List.mem_of_getElem? (i := 1) rfl) rfl (v := .int (nI (S.1 17))) rfl dX9_order_159 (q := 162) rfl ?_
                      refine vv_iload_n hC 3 dX9_order_162 rfl rfl (q := 163) rfl ?_
                      refine vv_iload_n hC 2 dX9_order_163 rfl rfl (q := 164) rfl ?_
                      refine vv_isubN hC (by omega) dX9_order_164 (q := 165) rfl ?_
                      refine vv_iconst hC (v := nI 1) dX9_order_165 rfl (q := 166) rfl ?_
                      refine vv_iaddN hC dX9_order_166 (q := 167) rfl ?_
                      refine vv_iastN (P := PM cI cZ ad (sA (sA (sA (sS S 0 0) 6 (mFz S (tn a) (tn b + 1 - tn a))) 15 (upd (S.2 15) (S.1 17) (nI (tn r)))) 16 (upd (S.2 16) (S.1 17) (nI 0)))) hC hK hW (P1 := PM cI cZ ad (sA (sA (sA (sA (sS S 0 0) 6 (mFz S (tn a) (tn b + 1 - tn a))) 15 (upd (S.2 15) (S.1 17) (nI (tn r)))) 16 (upd (S.2 16) (S.1 17) (nI 0))) 17 (upd (S.2 17) (S.1 17) (nI (((tn b) - (tn a)) + 1))))) 17 (by decide) 0 (g := S.2 17) (omI (by decide) rfl) rfl (show S.1 17 < 30 from (by omega)) (by decide) (om_aI (j := 17) (by decide) rfl _) dX9_order_167 (q := 168) rfl ?_
                      refine vv_aload_n hC 0 dX9_order_168 rfl rfl (q := 169) rfl ?_
                      refine vv_get hC hK (K := RX9) (T := TX9) (N := 35) (ci := 9) inwX9_order_X9 0 (by decide) (fs := fldM ad (sA (sA (sA (sA (sS S 0 0) 6 (mFz S (tn a) (tn b + 1 - tn a))) 15 (upd (S.2 15) (S.1 17) (nI (tn r)))) 16 (upd (S.2 16) (S.1 17) (nI 0))) 17 (upd (S.2 17) (S.1 17) (nI (((tn b) - (tn a)) + 1))))) om0 rfl 21 (by decide) (List.mem_of_getElem? (i := 6) rfl) rfl (v := .ref (ad 18)) rfl dX9_order_169 (q := 172) rfl ?_
                      refine vv_aload_n hC 0 dX9_order_172 rfl rfl (q := 173) rfl ?_
                      refine vv_get hC hK (K := RX9) (T := TX9) (N := 35) (ci := 9) inwX9_order_X9 0 (by decide) (fs := fldM ad (sA (sA (sA (sA (sS S 0 0) 6 (mFz S (tn a) (tn b + 1 - tn a))) 15 (upd (S.2 15) (S.1 17) (nI (tn r)))) 16 (upd (S.2 16) (S.1 17) (nI 0))) 17 (upd (S.2 17) (S.1 17) (nI (((tn b) - (tn a)) + 1))))) om0 rfl 17 (by decide) (List.mem_of_getElem? (i := 1) rfl) rfl (v := .int (nI (S.1 17))) rfl dX9_order_173 (q := 176) rfl ?_
                      refine vv_aload_n hC 0 dX9_order_176 rfl rfl (q := 177) rfl ?_
                      refine vv_get hC hK (K := RX9) (T := TX9) (N := 35) (ci := 9) inwX9_order_X9 0 (by decide) (fs := fldM ad (sA (sA (sA (sA (sS S 0 0) 6 (mFz S (tn a) (tn b + 1 - tn a))) 15 (upd (S.2 15) (S.1 17) (nI (tn r)))) 16 (upd (S.2 16) (S.1 17) (nI 0))) 17 (upd (S.2 17) (S.1 17) (nI (((tn b) - (tn a)) + 1))))) om0 rfl 20 (by decide) (List.mem_of_getElem? (i := 5) rfl) rfl (v := .ref (ad 17)) rfl dX9_order_177 (q := 180) rfl ?_
                      refine vv_aload_n hC 0 dX9_order_180 rfl rfl (q := 181) rfl ?_
                      refine vv_get hC hK (K := RX9) (T := TX9) (N := 35) (ci := 9) inwX9_order_X9 0 (by decide) (fs := fldM ad (sA (sA (sA (sA (sS S 0 0) 6 (mFz S (tn a) (tn b + 1 - tn a))) 15 (upd (S.2 15) (S.1 17) (nI (tn r)))) 16 (upd (S.2 16) (S.1 17) (nI 0))) 17 (upd (S.2 17) (S.1 17) (nI (((tn b) - (tn a)) + 1))))) om0 rfl 17 (by decide) (List.mem_of_getElem? (i := 1) rfl) rfl (v := .int (nI (S.1 17))) rfl dX9_order_181 (q := 184) rfl ?_
                      refine vv_ialdN (P := PM cI cZ ad (sA (sA (sA (sA (sS S 0 0) 6 (mFz S (tn a) (tn b + 1 - tn a))) 15 (upd (S.2 15) (S.1 17) (nI (tn r)))) 16 (upd (S.2 16) (S.1 17) (nI 0))) 17 (upd (S.2 17) (S.1 17) (nI (((tn b) - (tn a)) + 1))))) hC hK 17 (by decide) 0 (g := upd (S.2 17) (S.1 17) (nI (((tn b) - (tn a)) + 1))) (omI (by decide) rfl) rfl (show S.1 17 < 30 from (by omega)) (by decide) dX9_order_184 (q := 185) rfl ?_
                      refine vv_eqv (st' := [.int (nI (tn b - tn a + 1)), .int (nI (S.1 17)), .ref (ad 18)]) (by simp [upd]) ?_
                      refine vv_aload_n hC 0 dX9_order_185 rfl rfl (q := 186) rfl ?_
                      refine vv_get hC hK (K := RX9) (T := TX9) (N := 35) (ci := 9) inwX9_order_X9 0 (by decide) (fs := fldM ad (sA (sA (sA (sA (sS S 0 0) 6 (mFz S (tn a) (tn b + 1 - tn a))) 15 (upd (S.2 15) (S.1 17) (nI (tn r)))) 16 (upd (S.2 16) (S.1 17) (nI 0))) 17 (upd (S.2 17) (S.1 17) (nI (((tn b) - (tn a)) + 1))))) om0 rfl 15 (by decide) (List.mem_of_getElem? (i := 7) rfl) rfl (v := .ref (ad 13)) rfl dX9_order_186 (q := 189) rfl ?_
                      refine vv_iload_n hC 1 dX9_order_189 rfl rfl (q := 190) rfl ?_
                      refine vv_ialdN (P := PM cI cZ ad (sA (sA (sA (sA (sS S 0 0) 6 (mFz S (tn a) (tn b + 1 - tn a))) 15 (upd (S.2 15) (S.1 17) (nI (tn r)))) 16 (upd (S.2 16) (S.1 17) (nI 0))) 17 (upd (S.2 17) (S.1 17) (nI (((tn b) - (tn a)) + 1))))) hC hK 13 (by decide) 0 (g := S.2 13) (omI (by decide) rfl) rfl (show tn r < 4 from (by omega)) (by decide) dX9_order_190 (q := 191) rfl ?_
                      refine vv_imul hC dX9_order_191 (q := 192) rfl ?_
                      refine vv_iastN (P := PM cI cZ ad (sA (sA (sA (sA (sS S 0 0) 6 (mFz S (tn a) (tn b + 1 - tn a))) 15 (upd (S.2 15) (S.1 17) (nI (tn r)))) 16 (upd (S.2 16) (S.1 17) (nI 0))) 17 (upd (S.2 17) (S.1 17) (nI (((tn b) - (tn a)) + 1))))) hC hK hW (P1 := PM cI cZ ad (sA (sA (sA (sA (sA (sS S 0 0) 6 (mFz S (tn a) (tn b + 1 - tn a))) 15 (upd (S.2 15) (S.1 17) (nI (tn r)))) 16 (upd (S.2 16) (S.1 17) (nI 0))) 17 (upd (S.2 17) (S.1 17) (nI (((tn b) - (tn a)) + 1)))) 18 (upd (S.2 18) (S.1 17) ((nI (tn b - tn a + 1)) * (S.2 13 (tn r)))))) 18 (by decide) 0 (g := S.2 18) (omI (by decide) rfl) rfl (show S.1 17 < 30 from (by omega)) (by decide) (om_aI (j := 18) (by decide) rfl _) dX9_order_192 (q := 193) rfl ?_
                      refine vv_aload_n hC 0 dX9_order_193 rfl rfl (q := 194) rfl ?_
                      refine vv_dup hC dX9_order_194 rfl (q := 195) rfl ?_
                      refine vv_get hC hK (K := RX9) (T := TX9) (N := 35) (ci := 9) inwX9_order_X9 0 (by decide) (fs := fldM ad (sA (sA (sA (sA (sA (sS S 0 0) 6 (mFz S (tn a) (tn b + 1 - tn a))) 15 (upd (S.2 15) (S.1 17) (nI (tn r)))) 16 (upd (S.2 16) (S.1 17) (nI 0))) 17 (upd (S.2 17) (S.1 17) (nI (((tn b) - (tn a)) + 1)))) 18 (upd (S.2 18) (S.1 17) ((nI (tn b - tn a + 1)) * (S.2 13 (tn r)))))) om0 rfl 17 (by decide) (List.mem_of_getElem? (i := 1) rfl) rfl (v := .int (nI (S.1 17))) rfl dX9_order_195 (q := 198) rfl ?_
                      refine vv_iconst hC (v := nI 1) dX9_order_198 rfl (q := 199) rfl ?_
                      refine vv_iaddN hC dX9_order_199 (q := 200) rfl ?_
                      refine vv_put hC hK hW (P1 := PM cI cZ ad (sS (sA (sA (sA (sA (sA (sS S 0 0) 6 (mFz S (tn a) (tn b + 1 - tn a))) 15 (upd (S.2 15) (S.1 17) (nI (tn r)))) 16 (upd (S.2 16) (S.1 17) (nI 0))) 17 (upd (S.2 17) (S.1 17) (nI (((tn b) - (tn a)) + 1)))) 18 (upd (S.2 18) (S.1 17) ((nI (tn b - tn a + 1)) * (S.2 13 (tn r))))) 17 ((S.1 17) + 1))) (K := RX9) (T := TX9) (N := 35) (ci := 9) inwX9_order_X9 tyX9 tyX9_ok nmX9 0 (by decide) (fs := fldM ad (sA (sA (sA (sA (sA (sS S 0 0) 6 (mFz S (tn a) (tn b + 1 - tn a))) 15 (upd (S.2 15) (S.1 17) (nI (tn r)))) 16 (upd (S.2 16) (S.1 17) (nI 0))) 17 (upd (S.2 17) (S.1 17) (nI (((tn b) - (tn a)) + 1)))) 18 (upd (S.2 18) (S.1 17) ((nI (tn b - tn a + 1)) * (S.2 13 (tn r)))))) om0 rfl (ty := .int) 17 (by decide) (List.mem_of_getElem? (i := 1) rfl) rfl rfl (by decide +kernel) rfl rfl (Nat.le_of_ble_eq_true rfl) (om_s17 _) dX9_order_200 (q := 203) rfl ?_
                      refine vv_aload_n hC 0 dX9_order_203 rfl rfl (q := 204) rfl ?_
                      refine vv_get hC hK (K := RX9) (T := TX9) (N := 35) (ci := 9) inwX9_order_X9 0 (by decide) (fs := fldM ad (sS (sA (sA (sA (sA (sA (sS S 0 0) 6 (mFz S (tn a) (tn b + 1 - tn a))) 15 (upd (S.2 15) (S.1 17) (nI (tn r)))) 16 (upd (S.2 16) (S.1 17) (nI 0))) 17 (upd (S.2 17) (S.1 17) (nI (((tn b) - (tn a)) + 1)))) 18 (upd (S.2 18) (S.1 17) ((nI (tn b - tn a + 1)) * (S.2 13 (tn r))))) 17 ((S.1 17) + 1))) om0 rfl 17 (by decide) (List.mem_of_getElem? (i := 1) rfl) rfl (v := .int (nI ((S.1 17) + 1))) rfl dX9_order_204 (q := 207) rfl ?_
                      refine vv_iconst hC (v := nI 1) dX9_order_207 rfl (q := 208) rfl ?_
                      refine vv_isubN hC (by omega) dX9_order_208 (q := 209) rfl ?_
                      have hT : mtOrd S r a b = 0 := by simp only [mtOrd, bI_1 h4, h13, h22, h39, h48, bI_1 h57, h79, h110, Bool.false_eq_true, true_and, and_true, false_and, and_false, and_self, not_true, not_false_iff, or_true, true_or, or_false, false_or, if_true, if_false, reduceIte]
                      exact vv_iret hC hK hr hlk (by rw [if_pos hT]; rfl) (fun f h => by rw [if_pos hT]; exact h) dX9_order_209
                    · skip
                      refine vv_aload_n hC 0 dX9_order_113 rfl rfl (q := 114) rfl ?_
                      refine vv_get hC hK (K := RX9) (T := TX9) (N := 35) (ci := 9) inwX9_order_X9 0 (by decide) (fs := fldM ad (sA (sS S 0 0) 6 (mFz S (tn a) n))) om0 rfl 7 (by decide) (List.mem_of_getElem? (i := 2) rfl) rfl (v := .ref (ad 6)) rfl dX9_order_114 (q := 117) rfl ?_
                      refine vv_aload_n hC 0 dX9_order_117 rfl rfl (q := 118) rfl ?_
                      refine vv_iload hC 4 dX9_order_118 rfl (q := 120) rfl ?_
                      refine vv_calli hC hK (fun _ h => h) (As := [.int (nI (tn a + n))]) 0 (by decide) or9 rfl (c9_textAt l hJ (sA (sS S 0 0) 6 (mFz S (tn a) n)) (nI (tn a + n)) hI) (cwV 1 hC.2.2.2.2 gX9_order_X9_textAt rfl rfl rfl hdX9_textAt ⟨Nat.le_of_ble_eq_true rfl, Nat.le_of_ble_eq_true rfl⟩) rfl rfl (Nat.le_of_ble_eq_true rfl) ⟨Nat.le_of_ble_eq_true rfl, Nat.le_of_ble_eq_true rfl⟩ dX9_order_120 (q := 123) rfl ?_
                      refine vv_eqv (st' := [.int (mTxt S (nI (tn a + n))), .ref (ad 6)]) rfl ?_
                      have hab : ¬ mTxt S (nI (tn a + n)) = -1 := mTxt_mono iW irow (by omega) (show tn a + n ≤ tn b by omega) (by rw [← hbn]; exact h22)
                      obtain ⟨ht, hl⟩ := mTxt_in irow hab
                      refine vv_eqv (st' := [.int (nI (tn (mTxt S (nI (tn a + n))))), .ref (ad 6)]) (by rw [← ht]) ?_
                      refine vv_aload_n hC 0 dX9_order_123 rfl rfl (q := 124) rfl ?_
                      refine vv_get hC hK (K := RX9) (T := TX9) (N := 35) (ci := 9) inwX9_order_X9 0 (by decide) (fs := fldM ad (sA (sS S 0 0) 6 (mFz S (tn a) n))) om0 rfl 17 (by decide) (List.mem_of_getElem? (i := 1) rfl) rfl (v := .int (nI (S.1 17))) rfl dX9_order_124 (q := 127) rfl ?_
                      refine vv_iastN (P := PM cI cZ ad (sA (sS S 0 0) 6 (mFz S (tn a) n))) hC hK hW (P1 := PM cI cZ ad (sA (sS S 0 0) 6 (upd (mFz S (tn a) n) (tn (mTxt S (nI (tn a + n)))) (nI (S.1 17))))) 6 (by decide) 0 (g := mFz S (tn a) n) (omI (by decide) rfl) rfl (show tn (mTxt S (nI (tn a + n))) < 300 from (by omega)) (by decide) (fun f h => by rw [← sA_sA (g := mFz S (tn a) n)]; exact om_aI (j := 6) (by decide) rfl _ f h) dX9_order_127 (q := 128) rfl ?_
                      refine vv_iinc hC (i := 6) (v := nI (tn a + n + 1)) (lv' := [(6, .int (nI (tn a + n + 1))), (0, .ref (ad 0)), (1, .int (nI (tn r))), (2, .int (nI (tn a))), (3, .int (nI (tn b)))]) 4 dX9_order_128 rfl (nI_1 (tn a + n)) (by decide) rfl (q := 131) rfl ?_
                      refine vv_goto hC (tgt := 107) dX9_order_131 (by decide) ?_
                      refine vv_lv [1, 2, 3, 4, 0] (lv' := [(0, .ref (ad 0)), (1, .int (nI (tn r))), (2, .int (nI (tn a))), (3, .int (nI (tn b))), (6, .int (nI (tn a + n + 1)))]) rfl ?_
                      exact ih (n + 1) (by omega) (by omega)
                refine vv_lv [3, 4, 5, 6, 0] (lv' := [(0, .ref (ad 0)), (1, .int (nI (tn r))), (2, .int (nI (tn a))), (3, .int (nI (tn b))), (6, .int (nI (tn a)))]) rfl ?_
                refine vv_wq (P1 := PM cI cZ ad (sA (sS S 0 0) 6 (mFz S (tn a) 0))) (fun f h => by rw [show mFz S (tn a) 0 = (sS S 0 0).2 6 from rfl, sA_id]; exact h) ?_
                exact loop107 (tn b + 2) 0 (by omega) (by omega)
              · skip
                exact absurd h79 (by omega)
theorem inwX9_finish_X9 : ∀ w ∈ wsX90, w ∈ wsX9_finish := fun _ h => List.mem_cons_of_mem _ (List.mem_append_right _ h)
theorem hdX9_finish : yX9_finish.cls = RX9 ∧ yX9_finish.cls ≠ "java/lang/invoke/MethodHandle" ∧ yX9_finish.cls ≠ "java/lang/invoke/VarHandle" ∧ (parseMethodDescriptor yX9_finish.desc).map (fun d => d.parameters.length) = some 2 := by decide +kernel
set_option maxRecDepth 100000 in
set_option maxHeartbeats 4000000 in
theorem c9_finish (l : Launch) {D : va_G} {cI cW cZ cL : ClassId} {ad : Nat → Nat} (hJ : injA ad 27) (S : sM) (r u : Int32) (hI : IM S)  : kMi l yX9_finish wsX9_finish ({ frames := 2, cells := 0, slots := 0, locals := 43 }) D vwCl (tyL cI cW cZ cL) ad 27 [.ref (ad 0), .int r, .int u] (PM cI cZ ad S) (if mtFin S r u = 0 then S.2 14 (tn (S.2 15 (tn r))) + S.2 18 (tn r) else 0) (PM cI cZ ad (if mtFin S r u = 0 then msFin S (tn r) u else sS S 0 (mtFin S r u))) := by
  refine vv_enter (cc := cX9_finish) (maxL := 4) (ret := (some .int)) (own := RX9) (lv := [(0, .ref (ad 0)), (1, .int r), (2, .int u)]) (by decide +kernel) rfl rfl hJ (Nat.le_of_ble_eq_true rfl) rfl ?_
  intro p e s m args below meth c hC hK hW hr hlk
  obtain ⟨iW, iR, iV, iI, iC, iK, iD, irow, ianc, iwr, icl, icc, irv⟩ := id hI
  refine vv_aload_n hC 0 dX9_finish_0 rfl rfl (q := 1) rfl ?_
  refine vv_iload_n hC 1 dX9_finish_1 rfl rfl (q := 2) rfl ?_
  refine vv_calli hC hK (fun _ h => h) (As := [.int r]) 0 (by decide) or9 rfl (c9_isReview l hJ S r) (cwV 1 hC.2.2.2.2 gX9_finish_X9_isReview rfl rfl rfl hdX9_isReview ⟨Nat.le_of_ble_eq_true rfl, Nat.le_of_ble_eq_true rfl⟩) rfl rfl (Nat.le_of_ble_eq_true rfl) ⟨Nat.le_of_ble_eq_true rfl, Nat.le_of_ble_eq_true rfl⟩ dX9_finish_2 (q := 5) rfl ?_
  refine vv_istore_n hC (i := 3) (lv' := [(3, .int (bI (inB r 0 (nI (S.1 17) - 1)))), (0, .ref (ad 0)), (1, .int r), (2, .int u)]) dX9_finish_5 rfl (by decide) rfl (q := 6) rfl ?_
  refine vv_aload_n hC 1 dX9_finish_6 rfl rfl (q := 7) rfl ?_
  refine vv_iload_n hC 0 dX9_finish_7 rfl rfl (q := 8) rfl ?_
  refine vv_if_ne hC (tgt := 15) dX9_finish_8 (by decide) (q := 11) rfl (fun h8 => ?_) (fun h8 => ?_)
  · skip
    obtain ⟨hnn, hnl⟩ := inB_m1 (b := S.1 17) (by omega) (bI_1 h8)
    refine vv_eql (lv' := [(3, .int (bI (inB r 0 (nI (S.1 17) - 1)))), (0, .ref (ad 0)), (1, .int (nI (tn r))), (2, .int u)]) (by rw [← hnn]) ?_
    refine vv_iload_n hC 3 dX9_finish_15 rfl rfl (q := 16) rfl ?_
    refine vv_iconst hC (v := nI 0) dX9_finish_16 rfl (q := 17) rfl ?_
    refine vv_bipush hC (v := nI 9) dX9_finish_17 rfl (q := 19) rfl ?_
    refine vv_callsi hC hK (fun _ h => h) (As := [.int u, .int (nI 0), .int (nI 9)]) (c9_in l hJ S u 0 9) (va_cwS 3 hC.2.2.2.2 gX9_finish_X9_in rfl rfl rfl hsX9_in ⟨Nat.le_of_ble_eq_true rfl, Nat.le_of_ble_eq_true rfl⟩) rfl rfl (Nat.le_of_ble_eq_true rfl) ⟨Nat.le_of_ble_eq_true rfl, Nat.le_of_ble_eq_true rfl⟩ dX9_finish_19 (q := 22) rfl ?_
    refine vv_if_ne hC (tgt := 29) dX9_finish_22 (by decide) (q := 25) rfl (fun h22 => ?_) (fun h22 => ?_)
    · skip
      refine vv_aload_n hC 1 dX9_finish_29 rfl rfl (q := 30) rfl ?_
      refine vv_get hC hK (K := RX9) (T := TX9) (N := 35) (ci := 9) inwX9_finish_X9 0 (by decide) (fs := fldM ad S) om0 rfl 19 (by decide) (List.mem_of_getElem? (i := 1) rfl) rfl (v := .ref (ad 16)) rfl dX9_finish_30 (q := 33) rfl ?_
      refine vv_iload_n hC 2 dX9_finish_33 rfl rfl (q := 34) rfl ?_
      refine vv_ialdN (P := PM cI cZ ad S) hC hK 16 (by decide) 0 (g := S.2 16) (omI (by decide) rfl) rfl (show tn r < 30 from (by omega)) (by decide) dX9_finish_34 (q := 35) rfl ?_
      refine vv_if_eq hC (tgt := 42) dX9_finish_35 (by decide) (q := 38) rfl (fun h35 => ?_) (fun h35 => ?_)
      · skip
        refine vv_iconst hC (v := nI 0) dX9_finish_42 rfl (q := 43) rfl ?_
        refine vv_calli hC hK (fun _ h => h) (As := [.int (nI 0)]) 0 (by decide) or9 rfl (c9_goesWell l hJ S 0 (by decide)) (cwV 1 hC.2.2.2.2 gX9_finish_X9_goesWell rfl rfl rfl hdX9_goesWell ⟨Nat.le_of_ble_eq_true rfl, Nat.le_of_ble_eq_true rfl⟩) rfl rfl (Nat.le_of_ble_eq_true rfl) ⟨Nat.le_of_ble_eq_true rfl, Nat.le_of_ble_eq_true rfl⟩ dX9_finish_43 (q := 46) rfl ?_
        refine vv_eqv (st' := [.int (nI 1)]) rfl ?_
        refine vv_if_ne hC (tgt := 51) dX9_finish_46 (by decide) (q := 49) rfl (fun _ => ?_) (fun h => absurd h (by decide))
        refine vv_aload_n hC 1 dX9_finish_51 rfl rfl (q := 52) rfl ?_
        refine vv_get hC hK (K := RX9) (T := TX9) (N := 35) (ci := 9) inwX9_finish_X9 0 (by decide) (fs := fldM ad (sS S 0 0)) om0 rfl 19 (by decide) (List.mem_of_getElem? (i := 1) rfl) rfl (v := .ref (ad 16)) rfl dX9_finish_52 (q := 55) rfl ?_
        refine vv_iload_n hC 2 dX9_finish_55 rfl rfl (q := 56) rfl ?_
        refine vv_iconst hC (v := nI 1) dX9_finish_56 rfl (q := 57) rfl ?_
        refine vv_iastN (P := PM cI cZ ad (sS S 0 0)) hC hK hW (P1 := PM cI cZ ad (sA (sS S 0 0) 16 (upd (S.2 16) (tn r) (nI 1)))) 16 (by decide) 0 (g := S.2 16) (omI (by decide) rfl) rfl (show tn r < 30 from (by omega)) (by decide) (om_aI (j := 16) (by decide) rfl _) dX9_finish_57 (q := 58) rfl ?_
        refine vv_aload_n hC 1 dX9_finish_58 rfl rfl (q := 59) rfl ?_
        refine vv_get hC hK (K := RX9) (T := TX9) (N := 35) (ci := 9) inwX9_finish_X9 0 (by decide) (fs := fldM ad (sA (sS S 0 0) 16 (upd (S.2 16) (tn r) (nI 1)))) om0 rfl 22 (by decide) (List.mem_of_getElem? (i := 2) rfl) rfl (v := .ref (ad 19)) rfl dX9_finish_59 (q := 62) rfl ?_
        refine vv_iload_n hC 2 dX9_finish_62 rfl rfl (q := 63) rfl ?_
        refine vv_iload_n hC 3 dX9_finish_63 rfl rfl (q := 64) rfl ?_
        refine vv_iastN (P := PM cI cZ ad (sA (sS S 0 0) 16 (upd (S.2 16) (tn r) (nI 1)))) hC hK hW (P1 := PM cI cZ ad (sA (sA (sS S 0 0) 16 (upd (S.2 16) (tn r) (nI 1))) 19 (upd (S.2 19) (tn r) u))) 19 (by decide) 0 (g := S.2 19) (omI (by decide) rfl) rfl (show tn r < 30 from (by omega)) (by decide) (om_aI (j := 19) (by decide) rfl _) dX9_finish_64 (q := 65) rfl ?_
        refine vv_aload_n hC 1 dX9_finish_65 rfl rfl (q := 66) rfl ?_
        refine vv_get hC hK (K := RX9) (T := TX9) (N := 35) (ci := 9) inwX9_finish_X9 0 (by decide) (fs := fldM ad (sA (sA (sS S 0 0) 16 (upd (S.2 16) (tn r) (nI 1))) 19 (upd (S.2 19) (tn r) u))) om0 rfl 23 (by decide) (List.mem_of_getElem? (i := 3) rfl) rfl (v := .ref (ad 20)) rfl dX9_finish_66 (q := 69) rfl ?_
        refine vv_iload_n hC 2 dX9_finish_69 rfl rfl (q := 70) rfl ?_
        refine vv_aload_n hC 1 dX9_finish_70 rfl rfl (q := 71) rfl ?_
        refine vv_get hC hK (K := RX9) (T := TX9) (N := 35) (ci := 9) inwX9_finish_X9 0 (by decide) (fs := fldM ad (sA (sA (sS S 0 0) 16 (upd (S.2 16) (tn r) (nI 1))) 19 (upd (S.2 19) (tn r) u))) om0 rfl 24 (by decide) (List.mem_of_getElem? (i := 4) rfl) rfl (v := .int (nI (S.1 24))) rfl dX9_finish_71 (q := 74) rfl ?_
        refine vv_iastN (P := PM cI cZ ad (sA (sA (sS S 0 0) 16 (upd (S.2 16) (tn r) (nI 1))) 19 (upd (S.2 19) (tn r) u))) hC hK hW (P1 := PM cI cZ ad (sA (sA (sA (sS S 0 0) 16 (upd (S.2 16) (tn r) (nI 1))) 19 (upd (S.2 19) (tn r) u)) 20 (upd (S.2 20) (tn r) (nI (S.1 24))))) 20 (by decide) 0 (g := S.2 20) (omI (by decide) rfl) rfl (show tn r < 30 from (by omega)) (by decide) (om_aI (j := 20) (by decide) rfl _) dX9_finish_74 (q := 75) rfl ?_
        refine vv_aload_n hC 1 dX9_finish_75 rfl rfl (q := 76) rfl ?_
        refine vv_dup hC dX9_finish_76 rfl (q := 77) rfl ?_
        refine vv_get hC hK (K := RX9) (T := TX9) (N := 35) (ci := 9) inwX9_finish_X9 0 (by decide) (fs := fldM ad (sA (sA (sA (sS S 0 0) 16 (upd (S.2 16) (tn r) (nI 1))) 19 (upd (S.2 19) (tn r) u)) 20 (upd (S.2 20) (tn r) (nI (S.1 24))))) om0 rfl 24 (by decide) (List.mem_of_getElem? (i := 4) rfl) rfl (v := .int (nI (S.1 24))) rfl dX9_finish_77 (q := 80) rfl ?_
        refine vv_iconst hC (v := nI 1) dX9_finish_80 rfl (q := 81) rfl ?_
        refine vv_iaddN hC dX9_finish_81 (q := 82) rfl ?_
        refine vv_put hC hK hW (P1 := PM cI cZ ad (sS (sA (sA (sA (sS S 0 0) 16 (upd (S.2 16) (tn r) (nI 1))) 19 (upd (S.2 19) (tn r) u)) 20 (upd (S.2 20) (tn r) (nI (S.1 24)))) 24 ((S.1 24) + 1))) (K := RX9) (T := TX9) (N := 35) (ci := 9) inwX9_finish_X9 tyX9 tyX9_ok nmX9 0 (by decide) (fs := fldM ad (sA (sA (sA (sS S 0 0) 16 (upd (S.2 16) (tn r) (nI 1))) 19 (upd (S.2 19) (tn r) u)) 20 (upd (S.2 20) (tn r) (nI (S.1 24))))) om0 rfl (ty := .int) 24 (by decide) (List.mem_of_getElem? (i := 4) rfl) rfl rfl (by decide +kernel) rfl rfl (Nat.le_of_ble_eq_true rfl) (om_s24 _) dX9_finish_82 (q := 85) rfl ?_
        refine vv_aload_n hC 1 dX9_finish_85 rfl rfl (q := 86) rfl ?_
        refine vv_get hC hK (K := RX9) (T := TX9) (N := 35) (ci := 9) inwX9_finish_X9 0 (by decide) (fs := fldM ad (sS (sA (sA (sA (sS S 0 0) 16 (upd (S.2 16) (tn r) (nI 1))) 19 (upd (S.2 19) (tn r) u)) 20 (upd (S.2 20) (tn r) (nI (S.1 24)))) 24 ((S.1 24) + 1))) om0 rfl 16 (by decide) (List.mem_of_getElem? (i := 5) rfl) rfl (v := .ref (ad 14)) rfl dX9_finish_86 (q := 89) rfl ?_
        refine vv_aload_n hC 1 dX9_finish_89 rfl rfl (q := 90) rfl ?_
        refine vv_get hC hK (K := RX9) (T := TX9) (N := 35) (ci := 9) inwX9_finish_X9 0 (by decide) (fs := fldM ad (sS (sA (sA (sA (sS S 0 0) 16 (upd (S.2 16) (tn r) (nI 1))) 19 (upd (S.2 19) (tn r) u)) 20 (upd (S.2 20) (tn r) (nI (S.1 24)))) 24 ((S.1 24) + 1))) om0 rfl 18 (by decide) (List.mem_of_getElem? (i := 6) rfl) rfl (v := .ref (ad 15)) rfl dX9_finish_90 (q := 93) rfl ?_
        refine vv_iload_n hC 2 dX9_finish_93 rfl rfl (q := 94) rfl ?_
        refine vv_ialdN (P := PM cI cZ ad (sS (sA (sA (sA (sS S 0 0) 16 (upd (S.2 16) (tn r) (nI 1))) 19 (upd (S.2 19) (tn r) u)) 20 (upd (S.2 20) (tn r) (nI (S.1 24)))) 24 ((S.1 24) + 1))) hC hK 15 (by decide) 0 (g := S.2 15) (omI (by decide) rfl) rfl (show tn r < 30 from (by omega)) (by decide) dX9_finish_94 (q := 95) rfl ?_
        refine vv_eqv (st' := [.int (nI (tn (S.2 15 (tn r)))), .ref (ad 14)]) (by rw [← (irv (tn r) (by omega)).1]) ?_
        refine vv_dup2 hC dX9_finish_95 rfl rfl (q := 96) rfl ?_
        refine vv_ialdN (P := PM cI cZ ad (sS (sA (sA (sA (sS S 0 0) 16 (upd (S.2 16) (tn r) (nI 1))) 19 (upd (S.2 19) (tn r) u)) 20 (upd (S.2 20) (tn r) (nI (S.1 24)))) 24 ((S.1 24) + 1))) hC hK 14 (by decide) 0 (g := S.2 14) (omI (by decide) rfl) rfl (show tn (S.2 15 (tn r)) < 4 from (by have := (irv (tn r) hnl).2; omega)) (by decide) dX9_finish_96 (q := 97) rfl ?_
        refine vv_aload_n hC 1 dX9_finish_97 rfl rfl (q := 98) rfl ?_
        refine vv_get hC hK (K := RX9) (T := TX9) (N := 35) (ci := 9) inwX9_finish_X9 0 (by decide) (fs := fldM ad (sS (sA (sA (sA (sS S 0 0) 16 (upd (S.2 16) (tn r) (nI 1))) 19 (upd (S.2 19) (tn r) u)) 20 (upd (S.2 20) (tn r) (nI (S.1 24)))) 24 ((S.1 24) + 1))) om0 rfl 21 (by decide) (List.mem_of_getElem? (i := 7) rfl) rfl (v := .ref (ad 18)) rfl dX9_finish_98 (q := 101) rfl ?_
        refine vv_iload_n hC 2 dX9_finish_101 rfl rfl (q := 102) rfl ?_
        refine vv_ialdN (P := PM cI cZ ad (sS (sA (sA (sA (sS S 0 0) 16 (upd (S.2 16) (tn r) (nI 1))) 19 (upd (S.2 19) (tn r) u)) 20 (upd (S.2 20) (tn r) (nI (S.1 24)))) 24 ((S.1 24) + 1))) hC hK 18 (by decide) 0 (g := S.2 18) (omI (by decide) rfl) rfl (show tn r < 30 from (by omega)) (by decide) dX9_finish_102 (q := 103) rfl ?_
        refine vv_iadd hC dX9_finish_103 (q := 104) rfl ?_
        refine vv_iastN (P := PM cI cZ ad (sS (sA (sA (sA (sS S 0 0) 16 (upd (S.2 16) (tn r) (nI 1))) 19 (upd (S.2 19) (tn r) u)) 20 (upd (S.2 20) (tn r) (nI (S.1 24)))) 24 ((S.1 24) + 1))) hC hK hW (P1 := PM cI cZ ad (sA (sS (sA (sA (sA (sS S 0 0) 16 (upd (S.2 16) (tn r) (nI 1))) 19 (upd (S.2 19) (tn r) u)) 20 (upd (S.2 20) (tn r) (nI (S.1 24)))) 24 ((S.1 24) + 1)) 14 (upd (S.2 14) (tn (S.2 15 (tn r))) ((S.2 14 (tn (S.2 15 (tn r)))) + (S.2 18 (tn r)))))) 14 (by decide) 0 (g := S.2 14) (omI (by decide) rfl) rfl (show tn (S.2 15 (tn r)) < 4 from (by have := (irv (tn r) hnl).2; omega)) (by decide) (om_aI (j := 14) (by decide) rfl _) dX9_finish_104 (q := 105) rfl ?_
        refine vv_aload_n hC 1 dX9_finish_105 rfl rfl (q := 106) rfl ?_
        refine vv_get hC hK (K := RX9) (T := TX9) (N := 35) (ci := 9) inwX9_finish_X9 0 (by decide) (fs := fldM ad (sA (sS (sA (sA (sA (sS S 0 0) 16 (upd (S.2 16) (tn r) (nI 1))) 19 (upd (S.2 19) (tn r) u)) 20 (upd (S.2 20) (tn r) (nI (S.1 24)))) 24 ((S.1 24) + 1)) 14 (upd (S.2 14) (tn (S.2 15 (tn r))) ((S.2 14 (tn (S.2 15 (tn r)))) + (S.2 18 (tn r)))))) om0 rfl 16 (by decide) (List.mem_of_getElem? (i := 5) rfl) rfl (v := .ref (ad 14)) rfl dX9_finish_106 (q := 109) rfl ?_
        refine vv_aload_n hC 1 dX9_finish_109 rfl rfl (q := 110) rfl ?_
        refine vv_get hC hK (K := RX9) (T := TX9) (N := 35) (ci := 9) inwX9_finish_X9 0 (by decide) (fs := fldM ad (sA (sS (sA (sA (sA (sS S 0 0) 16 (upd (S.2 16) (tn r) (nI 1))) 19 (upd (S.2 19) (tn r) u)) 20 (upd (S.2 20) (tn r) (nI (S.1 24)))) 24 ((S.1 24) + 1)) 14 (upd (S.2 14) (tn (S.2 15 (tn r))) ((S.2 14 (tn (S.2 15 (tn r)))) + (S.2 18 (tn r)))))) om0 rfl 18 (by decide) (List.mem_of_getElem? (i := 6) rfl) rfl (v := .ref (ad 15)) rfl dX9_finish_110 (q := 113) rfl ?_
        refine vv_iload_n hC 2 dX9_finish_113 rfl rfl (q := 114) rfl ?_
        refine vv_ialdN (P := PM cI cZ ad (sA (sS (sA (sA (sA (sS S 0 0) 16 (upd (S.2 16) (tn r) (nI 1))) 19 (upd (S.2 19) (tn r) u)) 20 (upd (S.2 20) (tn r) (nI (S.1 24)))) 24 ((S.1 24) + 1)) 14 (upd (S.2 14) (tn (S.2 15 (tn r))) ((S.2 14 (tn (S.2 15 (tn r)))) + (S.2 18 (tn r)))))) hC hK 15 (by decide) 0 (g := S.2 15) (omI (by decide) rfl) rfl (show tn r < 30 from (by omega)) (by decide) dX9_finish_114 (q := 115) rfl ?_
        refine vv_eqv (st' := [.int (nI (tn (S.2 15 (tn r)))), .ref (ad 14)]) (by rw [← (irv (tn r) (by omega)).1]) ?_
        refine vv_ialdN (P := PM cI cZ ad (sA (sS (sA (sA (sA (sS S 0 0) 16 (upd (S.2 16) (tn r) (nI 1))) 19 (upd (S.2 19) (tn r) u)) 20 (upd (S.2 20) (tn r) (nI (S.1 24)))) 24 ((S.1 24) + 1)) 14 (upd (S.2 14) (tn (S.2 15 (tn r))) ((S.2 14 (tn (S.2 15 (tn r)))) + (S.2 18 (tn r)))))) hC hK 14 (by decide) 0 (g := upd (S.2 14) (tn (S.2 15 (tn r))) ((S.2 14 (tn (S.2 15 (tn r)))) + (S.2 18 (tn r)))) (omI (by decide) rfl) rfl (show tn (S.2 15 (tn r)) < 4 from (by have := (irv (tn r) hnl).2; omega)) (by decide) dX9_finish_115 (q := 116) rfl ?_
        have hT : mtFin S r u = 0 := by simp only [mtFin, bI_1 h8, bI_1 h22, h35, Bool.false_eq_true, true_and, and_true, false_and, and_false, and_self, not_true, not_false_iff, or_true, true_or, or_false, false_or, if_true, if_false, reduceIte]
        exact vv_iret hC hK hr hlk (by rw [if_pos hT]; simp [upd]) (fun f h => by rw [if_pos hT]; exact h) dX9_finish_116
      · skip
        refine vv_iconst hC (v := nI 3) dX9_finish_38 rfl (q := 39) rfl ?_
        refine vv_goto hC (tgt := 43) dX9_finish_39 (by decide) ?_
        refine vv_calli hC hK (fun _ h => h) (As := [.int (nI 3)]) 0 (by decide) or9 rfl (c9_goesWell l hJ S 3 (by decide)) (cwV 1 hC.2.2.2.2 gX9_finish_X9_goesWell rfl rfl rfl hdX9_goesWell ⟨Nat.le_of_ble_eq_true rfl, Nat.le_of_ble_eq_true rfl⟩) rfl rfl (Nat.le_of_ble_eq_true rfl) ⟨Nat.le_of_ble_eq_true rfl, Nat.le_of_ble_eq_true rfl⟩ dX9_finish_43 (q := 46) rfl ?_
        refine vv_eqv (st' := [.int (nI 0)]) rfl ?_
        refine vv_if_ne hC (tgt := 51) dX9_finish_46 (by decide) (q := 49) rfl (fun h => absurd h (by decide)) (fun _ => ?_)
        refine vv_iconst hC (v := nI 0) dX9_finish_49 rfl (q := 50) rfl ?_
        have hT : mtFin S r u = 3 := by simp only [mtFin, bI_1 h8, bI_1 h22, h35, Bool.false_eq_true, true_and, and_true, false_and, and_false, and_self, not_true, not_false_iff, or_true, true_or, or_false, false_or, if_true, if_false, reduceIte]
        exact vv_iret hC hK hr hlk (by rw [if_neg (by rw [hT]; decide)]; rfl) (fun f h => by rw [if_neg (by rw [hT]; decide)]; rw [hT]; exact h) dX9_finish_50
    · skip
      refine vv_iconst hC (v := nI 2) dX9_finish_25 rfl (q := 26) rfl ?_
      refine vv_goto hC (tgt := 43) dX9_finish_26 (by decide) ?_
      refine vv_calli hC hK (fun _ h => h) (As := [.int (nI 2)]) 0 (by decide) or9 rfl (c9_goesWell l hJ S 2 (by decide)) (cwV 1 hC.2.2.2.2 gX9_finish_X9_goesWell rfl rfl rfl hdX9_goesWell ⟨Nat.le_of_ble_eq_true rfl, Nat.le_of_ble_eq_true rfl⟩) rfl rfl (Nat.le_of_ble_eq_true rfl) ⟨Nat.le_of_ble_eq_true rfl, Nat.le_of_ble_eq_true rfl⟩ dX9_finish_43 (q := 46) rfl ?_
      refine vv_eqv (st' := [.int (nI 0)]) rfl ?_
      refine vv_if_ne hC (tgt := 51) dX9_finish_46 (by decide) (q := 49) rfl (fun h => absurd h (by decide)) (fun _ => ?_)
      refine vv_iconst hC (v := nI 0) dX9_finish_49 rfl (q := 50) rfl ?_
      have hT : mtFin S r u = 2 := by simp only [mtFin, bI_1 h8, bI_0.mp h22, Bool.false_eq_true, true_and, and_true, false_and, and_false, and_self, not_true, not_false_iff, or_true, true_or, or_false, false_or, if_true, if_false, reduceIte]
      exact vv_iret hC hK hr hlk (by rw [if_neg (by rw [hT]; decide)]; rfl) (fun f h => by rw [if_neg (by rw [hT]; decide)]; rw [hT]; exact h) dX9_finish_50
  · skip
    refine vv_iconst hC (v := nI 1) dX9_finish_11 rfl (q := 12) rfl ?_
    refine vv_goto hC (tgt := 43) dX9_finish_12 (by decide) ?_
    refine vv_calli hC hK (fun _ h => h) (As := [.int (nI 1)]) 0 (by decide) or9 rfl (c9_goesWell l hJ S 1 (by decide)) (cwV 1 hC.2.2.2.2 gX9_finish_X9_goesWell rfl rfl rfl hdX9_goesWell ⟨Nat.le_of_ble_eq_true rfl, Nat.le_of_ble_eq_true rfl⟩) rfl rfl (Nat.le_of_ble_eq_true rfl) ⟨Nat.le_of_ble_eq_true rfl, Nat.le_of_ble_eq_true rfl⟩ dX9_finish_43 (q := 46) rfl ?_
    refine vv_eqv (st' := [.int (nI 0)]) rfl ?_
    refine vv_if_ne hC (tgt := 51) dX9_finish_46 (by decide) (q := 49) rfl (fun h => absurd h (by decide)) (fun _ => ?_)
    refine vv_iconst hC (v := nI 0) dX9_finish_49 rfl (q := 50) rfl ?_
    have hT : mtFin S r u = 1 := by simp only [mtFin, bI_0.mp h8, Bool.false_eq_true, true_and, and_true, false_and, and_false, and_self, not_true, not_false_iff, or_true, true_or, or_false, false_or, if_true, if_false, reduceIte]
    exact vv_iret hC hK hr hlk (by rw [if_neg (by rw [hT]; decide)]; rfl) (fun f h => by rw [if_neg (by rw [hT]; decide)]; rw [hT]; exact h) dX9_finish_50
theorem inwX9_thaw_X9 : ∀ w ∈ wsX90, w ∈ wsX9_thaw := fun _ h => List.mem_cons_of_mem _ (List.mem_append_right _ h)
theorem hdX9_thaw : yX9_thaw.cls = RX9 ∧ yX9_thaw.cls ≠ "java/lang/invoke/MethodHandle" ∧ yX9_thaw.cls ≠ "java/lang/invoke/VarHandle" ∧ (parseMethodDescriptor yX9_thaw.desc).map (fun d => d.parameters.length) = some 1 := by decide +kernel
set_option maxRecDepth 100000 in
set_option maxHeartbeats 4000000 in
theorem c9_thaw (l : Launch) {D : va_G} {cI cW cZ cL : ClassId} {ad : Nat → Nat} (hJ : injA ad 27) (S : sM) (r : Int32) (hI : IM S)  : kMv l yX9_thaw wsX9_thaw ({ frames := 0, cells := 0, slots := 0, locals := 0 }) D vwCl (tyL cI cW cZ cL) ad 27 [.ref (ad 0), .int r] (PM cI cZ ad S) (PM cI cZ ad (mThaw S r)) := by
  refine vv_enter (cc := cX9_thaw) (maxL := 3) (ret := none) (own := RX9) (lv := [(0, .ref (ad 0)), (1, .int r)]) (by decide +kernel) rfl rfl hJ (Nat.le_of_ble_eq_true rfl) rfl ?_
  intro p e s m args below meth c hC hK hW hr hlk
  obtain ⟨iW, iR, iV, iI, iC, iK, iD, irow, ianc, iwr, icl, icc, irv⟩ := id hI
  refine vv_iconst hC (v := nI 0) dX9_thaw_0 rfl (q := 1) rfl ?_
  refine vv_istore_n hC (i := 2) (lv' := [(2, .int (nI 0)), (0, .ref (ad 0)), (1, .int r)]) dX9_thaw_1 rfl (by decide) rfl (q := 2) rfl ?_
  have loop2 : ∀ (fu : Nat) (k : Nat), S.1 1 < k + fu → k ≤ S.1 1 → vv p l e (headSpec wsX9_thaw ({ frames := 0, cells := 0, slots := 0, locals := 0 })).room s m args below meth c 3 (RA ad 27) s.heap 0 0 (MQ below (va_Qv (fun (_ : Unit) => True) (fun _ => ws0 D vwCl (tyL cI cW cZ cL) ad 27 (PM cI cZ ad (mThaw S r))) (RA ad 27)) args s 0 0 (RA ad 27)) (wq D vwCl ad 27 (PM cI cZ ad (sA S 6 (mThw (S.2 6) r k)))) 2 [(0, .ref (ad 0)), (1, .int r), (2, .int (nI k))] [] := by
    intro fu
    induction fu with
    | zero =>
      intro k hfu hk
      exact absurd hfu (by omega)
    | succ fu ih =>
      intro k hfu hk
      refine vv_iload_n hC 2 dX9_thaw_2 rfl rfl (q := 3) rfl ?_
      refine vv_aload_n hC 0 dX9_thaw_3 rfl rfl (q := 4) rfl ?_
      refine vv_get hC hK (K := RX9) (T := TX9) (N := 35) (ci := 9) inwX9_thaw_X9 0 (by decide) (fs := fldM ad (sA S 6 (mThw (S.2 6) r k))) om0 rfl 1 (by decide) (List.mem_of_getElem? (i := 1) rfl) rfl (v := .int (nI (S.1 1))) rfl dX9_thaw_4 (q := 7) rfl ?_
      refine vv_icmpN_ge hC (tgt := 42) (by omega) (by omega) dX9_thaw_7 (by decide) (q := 10) rfl (fun h7 => ?_) (fun h7 => ?_)
      · skip
        exact vv_vret hC hK hr hlk (fun f h => by obtain rfl : k = S.1 1 := (by omega); exact h) dX9_thaw_42
      · skip
        refine vv_aload_n hC 0 dX9_thaw_10 rfl rfl (q := 11) rfl ?_
        refine vv_get hC hK (K := RX9) (T := TX9) (N := 35) (ci := 9) inwX9_thaw_X9 0 (by decide) (fs := fldM ad (sA S 6 (mThw (S.2 6) r k))) om0 rfl 7 (by decide) (List.mem_of_getElem? (i := 2) rfl) rfl (v := .ref (ad 6)) rfl dX9_thaw_11 (q := 14) rfl ?_
        refine vv_iload_n hC 2 dX9_thaw_14 rfl rfl (q := 15) rfl ?_
        refine vv_aload_n hC 0 dX9_thaw_15 rfl rfl (q := 16) rfl ?_
        refine vv_get hC hK (K := RX9) (T := TX9) (N := 35) (ci := 9) inwX9_thaw_X9 0 (by decide) (fs := fldM ad (sA S 6 (mThw (S.2 6) r k))) om0 rfl 7 (by decide) (List.mem_of_getElem? (i := 2) rfl) rfl (v := .ref (ad 6)) rfl dX9_thaw_16 (q := 19) rfl ?_
        refine vv_iload_n hC 2 dX9_thaw_19 rfl rfl (q := 20) rfl ?_
        refine vv_ialdN (P := PM cI cZ ad (sA S 6 (mThw (S.2 6) r k))) hC hK 6 (by decide) 0 (g := mThw (S.2 6) r k) (omI (by decide) rfl) rfl (show k < 300 from (by omega)) (by decide) dX9_thaw_20 (q := 21) rfl ?_
        refine vv_eqv (st' := [.int (S.2 6 k), .int (nI k), .ref (ad 6)]) (by rw [mThw_at]) ?_
        refine vv_iload_n hC 1 dX9_thaw_21 rfl rfl (q := 22) rfl ?_
        refine vv_icmp_ne hC (tgt := 29) dX9_thaw_22 (by decide) (q := 25) rfl (fun h22 => ?_) (fun h22 => ?_)
        · skip
          refine vv_aload_n hC 0 dX9_thaw_29 rfl rfl (q := 30) rfl ?_
          refine vv_get hC hK (K := RX9) (T := TX9) (N := 35) (ci := 9) inwX9_thaw_X9 0 (by decide) (fs := fldM ad (sA S 6 (mThw (S.2 6) r k))) om0 rfl 7 (by decide) (List.mem_of_getElem? (i := 2) rfl) rfl (v := .ref (ad 6)) rfl dX9_thaw_30 (q := 33) rfl ?_
          refine vv_iload_n hC 2 dX9_thaw_33 rfl rfl (q := 34) rfl ?_
          refine vv_ialdN (P := PM cI cZ ad (sA S 6 (mThw (S.2 6) r k))) hC hK 6 (by decide) 0 (g := mThw (S.2 6) r k) (omI (by decide) rfl) rfl (show k < 300 from (by omega)) (by decide) dX9_thaw_34 (q := 35) rfl ?_
          refine vv_eqv (st' := [.int (S.2 6 k), .int (nI k), .ref (ad 6)]) (by rw [mThw_at]) ?_
          refine vv_iastN (P := PM cI cZ ad (sA S 6 (mThw (S.2 6) r k))) hC hK hW (P1 := PM cI cZ ad (sA S 6 (upd (mThw (S.2 6) r k) k (S.2 6 k)))) 6 (by decide) 0 (g := mThw (S.2 6) r k) (omI (by decide) rfl) rfl (show k < 300 from (by omega)) (by decide) (fun f h => by rw [← sA_sA (g := mThw (S.2 6) r k)]; exact om_aI (j := 6) (by decide) rfl _ f h) dX9_thaw_35 (q := 36) rfl ?_
          refine vv_iinc hC (i := 2) (v := nI (k + 1)) (lv' := [(2, .int (nI (k + 1))), (0, .ref (ad 0)), (1, .int r)]) 2 dX9_thaw_36 rfl (nI_1 k) (by decide) rfl (q := 39) rfl ?_
          refine vv_goto hC (tgt := 2) dX9_thaw_39 (by decide) ?_
          refine vv_lv [1, 2, 0] (lv' := [(0, .ref (ad 0)), (1, .int r), (2, .int (nI (k + 1)))]) rfl ?_
          refine vv_wq (P1 := PM cI cZ ad (sA S 6 (mThw (S.2 6) r (k + 1)))) (fun f h => by rw [← mThw_2 h22]; exact h) ?_
          exact ih (k + 1) (by omega) (by omega)
        · skip
          refine vv_iconst hC (v := (-1)) dX9_thaw_25 rfl (q := 26) rfl ?_
          refine vv_goto hC (tgt := 35) dX9_thaw_26 (by decide) ?_
          refine vv_iastN (P := PM cI cZ ad (sA S 6 (mThw (S.2 6) r k))) hC hK hW (P1 := PM cI cZ ad (sA S 6 (upd (mThw (S.2 6) r k) k (-1)))) 6 (by decide) 0 (g := mThw (S.2 6) r k) (omI (by decide) rfl) rfl (show k < 300 from (by omega)) (by decide) (fun f h => by rw [← sA_sA (g := mThw (S.2 6) r k)]; exact om_aI (j := 6) (by decide) rfl _ f h) dX9_thaw_35 (q := 36) rfl ?_
          refine vv_iinc hC (i := 2) (v := nI (k + 1)) (lv' := [(2, .int (nI (k + 1))), (0, .ref (ad 0)), (1, .int r)]) 2 dX9_thaw_36 rfl (nI_1 k) (by decide) rfl (q := 39) rfl ?_
          refine vv_goto hC (tgt := 2) dX9_thaw_39 (by decide) ?_
          refine vv_lv [1, 2, 0] (lv' := [(0, .ref (ad 0)), (1, .int r), (2, .int (nI (k + 1)))]) rfl ?_
          refine vv_wq (P1 := PM cI cZ ad (sA S 6 (mThw (S.2 6) r (k + 1)))) (fun f h => by rw [← mThw_1 h22]; exact h) ?_
          exact ih (k + 1) (by omega) (by omega)
  refine vv_lv [1, 2, 0] (lv' := [(0, .ref (ad 0)), (1, .int r), (2, .int (nI 0))]) rfl ?_
  refine vv_wq (P1 := PM cI cZ ad (sA S 6 (mThw (S.2 6) r 0))) (fun f h => by rw [mThw_0, sA_id]; exact h) ?_
  exact loop2 301 0 (by omega) (Nat.zero_le _)
theorem inwX9_cancel_X9 : ∀ w ∈ wsX90, w ∈ wsX9_cancel := fun _ h => List.mem_cons_of_mem _ (List.mem_append_right _ h)
theorem hdX9_cancel : yX9_cancel.cls = RX9 ∧ yX9_cancel.cls ≠ "java/lang/invoke/MethodHandle" ∧ yX9_cancel.cls ≠ "java/lang/invoke/VarHandle" ∧ (parseMethodDescriptor yX9_cancel.desc).map (fun d => d.parameters.length) = some 1 := by decide +kernel
set_option maxRecDepth 100000 in
set_option maxHeartbeats 4000000 in
theorem c9_cancel (l : Launch) {D : va_G} {cI cW cZ cL : ClassId} {ad : Nat → Nat} (hJ : injA ad 27) (S : sM) (r : Int32) (hI : IM S)  : kMi l yX9_cancel wsX9_cancel ({ frames := 2, cells := 0, slots := 0, locals := 43 }) D vwCl (tyL cI cW cZ cL) ad 27 [.ref (ad 0), .int r] (PM cI cZ ad S) (if mtCan S r = 0 then S.2 17 (tn r) else 0) (PM cI cZ ad (if mtCan S r = 0 then msCan S (tn r) else sS S 0 (mtCan S r))) := by
  refine vv_enter (cc := cX9_cancel) (maxL := 3) (ret := (some .int)) (own := RX9) (lv := [(0, .ref (ad 0)), (1, .int r)]) (by decide +kernel) rfl rfl hJ (Nat.le_of_ble_eq_true rfl) rfl ?_
  intro p e s m args below meth c hC hK hW hr hlk
  obtain ⟨iW, iR, iV, iI, iC, iK, iD, irow, ianc, iwr, icl, icc, irv⟩ := id hI
  refine vv_aload_n hC 0 dX9_cancel_0 rfl rfl (q := 1) rfl ?_
  refine vv_iload_n hC 1 dX9_cancel_1 rfl rfl (q := 2) rfl ?_
  refine vv_calli hC hK (fun _ h => h) (As := [.int r]) 0 (by decide) or9 rfl (c9_isReview l hJ S r) (cwV 1 hC.2.2.2.2 gX9_cancel_X9_isReview rfl rfl rfl hdX9_isReview ⟨Nat.le_of_ble_eq_true rfl, Nat.le_of_ble_eq_true rfl⟩) rfl rfl (Nat.le_of_ble_eq_true rfl) ⟨Nat.le_of_ble_eq_true rfl, Nat.le_of_ble_eq_true rfl⟩ dX9_cancel_2 (q := 5) rfl ?_
  refine vv_istore_n hC (i := 2) (lv' := [(2, .int (bI (inB r 0 (nI (S.1 17) - 1)))), (0, .ref (ad 0)), (1, .int r)]) dX9_cancel_5 rfl (by decide) rfl (q := 6) rfl ?_
  refine vv_aload_n hC 1 dX9_cancel_6 rfl rfl (q := 7) rfl ?_
  refine vv_iload_n hC 0 dX9_cancel_7 rfl rfl (q := 8) rfl ?_
  refine vv_if_ne hC (tgt := 15) dX9_cancel_8 (by decide) (q := 11) rfl (fun h8 => ?_) (fun h8 => ?_)
  · skip
    obtain ⟨hnn, hnl⟩ := inB_m1 (b := S.1 17) (by omega) (bI_1 h8)
    refine vv_eql (lv' := [(2, .int (bI (inB r 0 (nI (S.1 17) - 1)))), (0, .ref (ad 0)), (1, .int (nI (tn r)))]) (by rw [← hnn]) ?_
    refine vv_aload_n hC 1 dX9_cancel_15 rfl rfl (q := 16) rfl ?_
    refine vv_get hC hK (K := RX9) (T := TX9) (N := 35) (ci := 9) inwX9_cancel_X9 0 (by decide) (fs := fldM ad S) om0 rfl 19 (by decide) (List.mem_of_getElem? (i := 1) rfl) rfl (v := .ref (ad 16)) rfl dX9_cancel_16 (q := 19) rfl ?_
    refine vv_iload_n hC 2 dX9_cancel_19 rfl rfl (q := 20) rfl ?_
    refine vv_ialdN (P := PM cI cZ ad S) hC hK 16 (by decide) 0 (g := S.2 16) (omI (by decide) rfl) rfl (show tn r < 30 from (by omega)) (by decide) dX9_cancel_20 (q := 21) rfl ?_
    refine vv_if_eq hC (tgt := 28) dX9_cancel_21 (by decide) (q := 24) rfl (fun h21 => ?_) (fun h21 => ?_)
    · skip
      refine vv_iconst hC (v := nI 0) dX9_cancel_28 rfl (q := 29) rfl ?_
      refine vv_calli hC hK (fun _ h => h) (As := [.int (nI 0)]) 0 (by decide) or9 rfl (c9_goesWell l hJ S 0 (by decide)) (cwV 1 hC.2.2.2.2 gX9_cancel_X9_goesWell rfl rfl rfl hdX9_goesWell ⟨Nat.le_of_ble_eq_true rfl, Nat.le_of_ble_eq_true rfl⟩) rfl rfl (Nat.le_of_ble_eq_true rfl) ⟨Nat.le_of_ble_eq_true rfl, Nat.le_of_ble_eq_true rfl⟩ dX9_cancel_29 (q := 32) rfl ?_
      refine vv_eqv (st' := [.int (nI 1)]) rfl ?_
      refine vv_if_ne hC (tgt := 37) dX9_cancel_32 (by decide) (q := 35) rfl (fun _ => ?_) (fun h => absurd h (by decide))
      refine vv_aload_n hC 1 dX9_cancel_37 rfl rfl (q := 38) rfl ?_
      refine vv_get hC hK (K := RX9) (T := TX9) (N := 35) (ci := 9) inwX9_cancel_X9 0 (by decide) (fs := fldM ad (sS S 0 0)) om0 rfl 19 (by decide) (List.mem_of_getElem? (i := 1) rfl) rfl (v := .ref (ad 16)) rfl dX9_cancel_38 (q := 41) rfl ?_
      refine vv_iload_n hC 2 dX9_cancel_41 rfl rfl (q := 42) rfl ?_
      refine vv_iconst hC (v := nI 2) dX9_cancel_42 rfl (q := 43) rfl ?_
      refine vv_iastN (P := PM cI cZ ad (sS S 0 0)) hC hK hW (P1 := PM cI cZ ad (sA (sS S 0 0) 16 (upd (S.2 16) (tn r) (nI 2)))) 16 (by decide) 0 (g := S.2 16) (omI (by decide) rfl) rfl (show tn r < 30 from (by omega)) (by decide) (om_aI (j := 16) (by decide) rfl _) dX9_cancel_43 (q := 44) rfl ?_
      refine vv_aload_n hC 1 dX9_cancel_44 rfl rfl (q := 45) rfl ?_
      refine vv_iload_n hC 2 dX9_cancel_45 rfl rfl (q := 46) rfl ?_
      refine vv_callv hC hK (fun _ h => h) (As := [.int (nI (tn r))]) 0 (by decide) or9 rfl (c9_thaw l hJ (sA (sS S 0 0) 16 (upd (S.2 16) (tn r) (nI 2))) (nI (tn r)) hI) (cwV 1 hC.2.2.2.2 gX9_cancel_X9_thaw rfl rfl rfl hdX9_thaw ⟨Nat.le_of_ble_eq_true rfl, Nat.le_of_ble_eq_true rfl⟩) rfl rfl (Nat.le_of_ble_eq_true rfl) ⟨Nat.le_of_ble_eq_true rfl, Nat.le_of_ble_eq_true rfl⟩ dX9_cancel_46 (q := 49) rfl ?_
      refine vv_aload_n hC 1 dX9_cancel_49 rfl rfl (q := 50) rfl ?_
      refine vv_get hC hK (K := RX9) (T := TX9) (N := 35) (ci := 9) inwX9_cancel_X9 0 (by decide) (fs := fldM ad (mThaw (sA (sS S 0 0) 16 (upd (S.2 16) (tn r) (nI 2))) (nI (tn r)))) om0 rfl 20 (by decide) (List.mem_of_getElem? (i := 2) rfl) rfl (v := .ref (ad 17)) rfl dX9_cancel_50 (q := 53) rfl ?_
      refine vv_iload_n hC 2 dX9_cancel_53 rfl rfl (q := 54) rfl ?_
      refine vv_ialdN (P := PM cI cZ ad (mThaw (sA (sS S 0 0) 16 (upd (S.2 16) (tn r) (nI 2))) (nI (tn r)))) hC hK 17 (by decide) 0 (g := (mThaw (sA (sS S 0 0) 16 (upd (S.2 16) (tn r) (nI 2))) (nI (tn r))).2 17) (omI (by decide) rfl) rfl (show tn r < 30 from (by omega)) (by decide) dX9_cancel_54 (q := 55) rfl ?_
      have hT : mtCan S r = 0 := by simp only [mtCan, bI_1 h8, h21, Bool.false_eq_true, true_and, and_true, false_and, and_false, and_self, not_true, not_false_iff, or_true, true_or, or_false, false_or, if_true, if_false, reduceIte]
      exact vv_iret hC hK hr hlk (by rw [if_pos hT]; rfl) (fun f h => by rw [if_pos hT]; exact h) dX9_cancel_55
    · skip
      refine vv_iconst hC (v := nI 2) dX9_cancel_24 rfl (q := 25) rfl ?_
      refine vv_goto hC (tgt := 29) dX9_cancel_25 (by decide) ?_
      refine vv_calli hC hK (fun _ h => h) (As := [.int (nI 2)]) 0 (by decide) or9 rfl (c9_goesWell l hJ S 2 (by decide)) (cwV 1 hC.2.2.2.2 gX9_cancel_X9_goesWell rfl rfl rfl hdX9_goesWell ⟨Nat.le_of_ble_eq_true rfl, Nat.le_of_ble_eq_true rfl⟩) rfl rfl (Nat.le_of_ble_eq_true rfl) ⟨Nat.le_of_ble_eq_true rfl, Nat.le_of_ble_eq_true rfl⟩ dX9_cancel_29 (q := 32) rfl ?_
      refine vv_eqv (st' := [.int (nI 0)]) rfl ?_
      refine vv_if_ne hC (tgt := 37) dX9_cancel_32 (by decide) (q := 35) rfl (fun h => absurd h (by decide)) (fun _ => ?_)
      refine vv_iconst hC (v := nI 0) dX9_cancel_35 rfl (q := 36) rfl ?_
      have hT : mtCan S r = 2 := by simp only [mtCan, bI_1 h8, h21, Bool.false_eq_true, true_and, and_true, false_and, and_false, and_self, not_true, not_false_iff, or_true, true_or, or_false, false_or, if_true, if_false, reduceIte]
      exact vv_iret hC hK hr hlk (by rw [if_neg (by rw [hT]; decide)]; rfl) (fun f h => by rw [if_neg (by rw [hT]; decide)]; rw [hT]; exact h) dX9_cancel_36
  · skip
    refine vv_iconst hC (v := nI 1) dX9_cancel_11 rfl (q := 12) rfl ?_
    refine vv_goto hC (tgt := 29) dX9_cancel_12 (by decide) ?_
    refine vv_calli hC hK (fun _ h => h) (As := [.int (nI 1)]) 0 (by decide) or9 rfl (c9_goesWell l hJ S 1 (by decide)) (cwV 1 hC.2.2.2.2 gX9_cancel_X9_goesWell rfl rfl rfl hdX9_goesWell ⟨Nat.le_of_ble_eq_true rfl, Nat.le_of_ble_eq_true rfl⟩) rfl rfl (Nat.le_of_ble_eq_true rfl) ⟨Nat.le_of_ble_eq_true rfl, Nat.le_of_ble_eq_true rfl⟩ dX9_cancel_29 (q := 32) rfl ?_
    refine vv_eqv (st' := [.int (nI 0)]) rfl ?_
    refine vv_if_ne hC (tgt := 37) dX9_cancel_32 (by decide) (q := 35) rfl (fun h => absurd h (by decide)) (fun _ => ?_)
    refine vv_iconst hC (v := nI 0) dX9_cancel_35 rfl (q := 36) rfl ?_
    have hT : mtCan S r = 1 := by simp only [mtCan, bI_0.mp h8, Bool.false_eq_true, true_and, and_true, false_and, and_false, and_self, not_true, not_false_iff, or_true, true_or, or_false, false_or, if_true, if_false, reduceIte]
    exact vv_iret hC hK hr hlk (by rw [if_neg (by rw [hT]; decide)]; rfl) (fun f h => by rw [if_neg (by rw [hT]; decide)]; rw [hT]; exact h) dX9_cancel_36
theorem inwX9_stateOf_X9 : ∀ w ∈ wsX90, w ∈ wsX9_stateOf := fun _ h => List.mem_cons_of_mem _ (List.mem_append_right _ h)
theorem hdX9_stateOf : yX9_stateOf.cls = RX9 ∧ yX9_stateOf.cls ≠ "java/lang/invoke/MethodHandle" ∧ yX9_stateOf.cls ≠ "java/lang/invoke/VarHandle" ∧ (parseMethodDescriptor yX9_stateOf.desc).map (fun d => d.parameters.length) = some 1 := by decide +kernel
set_option maxRecDepth 100000 in
set_option maxHeartbeats 4000000 in
theorem c9_stateOf (l : Launch) {D : va_G} {cI cW cZ cL : ClassId} {ad : Nat → Nat} (hJ : injA ad 27) (S : sM) (n : Int32) (hI : IM S)  : kMi l yX9_stateOf wsX9_stateOf ({ frames := 2, cells := 0, slots := 0, locals := 43 }) D vwCl (tyL cI cW cZ cL) ad 27 [.ref (ad 0), .int n] (PM cI cZ ad S) (if mtRv S n = 0 then S.2 16 (tn n) else 0) (PM cI cZ ad (if mtRv S n = 0 then sS S 0 0 else sS S 0 (mtRv S n))) := by
  refine vv_enter (cc := cX9_stateOf) (maxL := 2) (ret := (some .int)) (own := RX9) (lv := [(0, .ref (ad 0)), (1, .int n)]) (by decide +kernel) rfl rfl hJ (Nat.le_of_ble_eq_true rfl) rfl ?_
  intro p e s m args below meth c hC hK hW hr hlk
  obtain ⟨iW, iR, iV, iI, iC, iK, iD, irow, ianc, iwr, icl, icc, irv⟩ := id hI
  refine vv_aload_n hC 0 dX9_stateOf_0 rfl rfl (q := 1) rfl ?_
  refine vv_aload_n hC 0 dX9_stateOf_1 rfl rfl (q := 2) rfl ?_
  refine vv_iload_n hC 1 dX9_stateOf_2 rfl rfl (q := 3) rfl ?_
  refine vv_calli hC hK (fun _ h => h) (As := [.int n]) 0 (by decide) or9 rfl (c9_isReview l hJ S n) (cwV 1 hC.2.2.2.2 gX9_stateOf_X9_isReview rfl rfl rfl hdX9_isReview ⟨Nat.le_of_ble_eq_true rfl, Nat.le_of_ble_eq_true rfl⟩) rfl rfl (Nat.le_of_ble_eq_true rfl) ⟨Nat.le_of_ble_eq_true rfl, Nat.le_of_ble_eq_true rfl⟩ dX9_stateOf_3 (q := 6) rfl ?_
  refine vv_if_eq hC (tgt := 13) dX9_stateOf_6 (by decide) (q := 9) rfl (fun h6 => ?_) (fun h6 => ?_)
  · skip
    refine vv_iconst hC (v := nI 1) dX9_stateOf_13 rfl (q := 14) rfl ?_
    refine vv_calli hC hK (fun _ h => h) (As := [.int (nI 1)]) 0 (by decide) or9 rfl (c9_goesWell l hJ S 1 (by decide)) (cwV 1 hC.2.2.2.2 gX9_stateOf_X9_goesWell rfl rfl rfl hdX9_goesWell ⟨Nat.le_of_ble_eq_true rfl, Nat.le_of_ble_eq_true rfl⟩) rfl rfl (Nat.le_of_ble_eq_true rfl) ⟨Nat.le_of_ble_eq_true rfl, Nat.le_of_ble_eq_true rfl⟩ dX9_stateOf_14 (q := 17) rfl ?_
    refine vv_eqv (st' := [.int (nI 0)]) rfl ?_
    refine vv_if_eq hC (tgt := 29) dX9_stateOf_17 (by decide) (q := 20) rfl (fun _ => ?_) (fun h => absurd h (by decide))
    refine vv_iconst hC (v := nI 0) dX9_stateOf_29 rfl (q := 30) rfl ?_
    have hT : mtRv S n = 1 := by simp only [mtRv, bI_0.mp h6, Bool.false_eq_true, true_and, and_true, false_and, and_false, and_self, not_true, not_false_iff, or_true, true_or, or_false, false_or, if_true, if_false, reduceIte]
    exact vv_iret hC hK hr hlk (by rw [if_neg (by rw [hT]; decide)]; rfl) (fun f h => by rw [if_neg (by rw [hT]; decide)]; rw [hT]; exact h) dX9_stateOf_30
  · skip
    refine vv_iconst hC (v := nI 0) dX9_stateOf_9 rfl (q := 10) rfl ?_
    refine vv_goto hC (tgt := 14) dX9_stateOf_10 (by decide) ?_
    refine vv_calli hC hK (fun _ h => h) (As := [.int (nI 0)]) 0 (by decide) or9 rfl (c9_goesWell l hJ S 0 (by decide)) (cwV 1 hC.2.2.2.2 gX9_stateOf_X9_goesWell rfl rfl rfl hdX9_goesWell ⟨Nat.le_of_ble_eq_true rfl, Nat.le_of_ble_eq_true rfl⟩) rfl rfl (Nat.le_of_ble_eq_true rfl) ⟨Nat.le_of_ble_eq_true rfl, Nat.le_of_ble_eq_true rfl⟩ dX9_stateOf_14 (q := 17) rfl ?_
    refine vv_eqv (st' := [.int (nI 1)]) rfl ?_
    refine vv_if_eq hC (tgt := 29) dX9_stateOf_17 (by decide) (q := 20) rfl (fun h => absurd h (by decide)) (fun _ => ?_)
    obtain ⟨hnn, hnl⟩ := inB_m1 (b := S.1 17) (by omega) (bI_1 h6)
    refine vv_eql (lv' := [(0, .ref (ad 0)), (1, .int (nI (tn n)))]) (by rw [← hnn]) ?_
    refine vv_aload_n hC 0 dX9_stateOf_20 rfl rfl (q := 21) rfl ?_
    refine vv_get hC hK (K := RX9) (T := TX9) (N := 35) (ci := 9) inwX9_stateOf_X9 0 (by decide) (fs := fldM ad (sS S 0 0)) om0 rfl 19 (by decide) (List.mem_of_getElem? (i := 1) rfl) rfl (v := .ref (ad 16)) rfl dX9_stateOf_21 (q := 24) rfl ?_
    refine vv_iload_n hC 1 dX9_stateOf_24 rfl rfl (q := 25) rfl ?_
    refine vv_ialdN (P := PM cI cZ ad (sS S 0 0)) hC hK 16 (by decide) 0 (g := S.2 16) (omI (by decide) rfl) rfl (show tn n < 30 from (by omega)) (by decide) dX9_stateOf_25 (q := 26) rfl ?_
    refine vv_goto hC (tgt := 30) dX9_stateOf_26 (by decide) ?_
    have hT : mtRv S n = 0 := by simp only [mtRv, bI_1 h6, Bool.false_eq_true, true_and, and_true, false_and, and_false, and_self, not_true, not_false_iff, or_true, true_or, or_false, false_or, if_true, if_false, reduceIte]
    exact vv_iret hC hK hr hlk (by rw [if_pos hT]) (fun f h => by rw [if_pos hT]; exact h) dX9_stateOf_30
theorem inwX9_frozenBy_X9 : ∀ w ∈ wsX90, w ∈ wsX9_frozenBy := fun _ h => List.mem_cons_of_mem _ (List.mem_append_right _ h)
theorem hdX9_frozenBy : yX9_frozenBy.cls = RX9 ∧ yX9_frozenBy.cls ≠ "java/lang/invoke/MethodHandle" ∧ yX9_frozenBy.cls ≠ "java/lang/invoke/VarHandle" ∧ (parseMethodDescriptor yX9_frozenBy.desc).map (fun d => d.parameters.length) = some 1 := by decide +kernel
set_option maxRecDepth 100000 in
set_option maxHeartbeats 4000000 in
theorem c9_frozenBy (l : Launch) {D : va_G} {cI cW cZ cL : ClassId} {ad : Nat → Nat} (hJ : injA ad 27) (S : sM) (n : Int32) (hI : IM S)  : kMi l yX9_frozenBy wsX9_frozenBy ({ frames := 2, cells := 0, slots := 0, locals := 43 }) D vwCl (tyL cI cW cZ cL) ad 27 [.ref (ad 0), .int n] (PM cI cZ ad S) (if mtWd S n = 0 then S.2 6 (tn n) else 0) (PM cI cZ ad (if mtWd S n = 0 then sS S 0 0 else sS S 0 (mtWd S n))) := by
  refine vv_enter (cc := cX9_frozenBy) (maxL := 2) (ret := (some .int)) (own := RX9) (lv := [(0, .ref (ad 0)), (1, .int n)]) (by decide +kernel) rfl rfl hJ (Nat.le_of_ble_eq_true rfl) rfl ?_
  intro p e s m args below meth c hC hK hW hr hlk
  obtain ⟨iW, iR, iV, iI, iC, iK, iD, irow, ianc, iwr, icl, icc, irv⟩ := id hI
  refine vv_aload_n hC 0 dX9_frozenBy_0 rfl rfl (q := 1) rfl ?_
  refine vv_aload_n hC 0 dX9_frozenBy_1 rfl rfl (q := 2) rfl ?_
  refine vv_iload_n hC 1 dX9_frozenBy_2 rfl rfl (q := 3) rfl ?_
  refine vv_calli hC hK (fun _ h => h) (As := [.int n]) 0 (by decide) or9 rfl (c9_isWord l hJ S n) (cwV 1 hC.2.2.2.2 gX9_frozenBy_X9_isWord rfl rfl rfl hdX9_isWord ⟨Nat.le_of_ble_eq_true rfl, Nat.le_of_ble_eq_true rfl⟩) rfl rfl (Nat.le_of_ble_eq_true rfl) ⟨Nat.le_of_ble_eq_true rfl, Nat.le_of_ble_eq_true rfl⟩ dX9_frozenBy_3 (q := 6) rfl ?_
  refine vv_if_eq hC (tgt := 13) dX9_frozenBy_6 (by decide) (q := 9) rfl (fun h6 => ?_) (fun h6 => ?_)
  · skip
    refine vv_iconst hC (v := nI 1) dX9_frozenBy_13 rfl (q := 14) rfl ?_
    refine vv_calli hC hK (fun _ h => h) (As := [.int (nI 1)]) 0 (by decide) or9 rfl (c9_goesWell l hJ S 1 (by decide)) (cwV 1 hC.2.2.2.2 gX9_frozenBy_X9_goesWell rfl rfl rfl hdX9_goesWell ⟨Nat.le_of_ble_eq_true rfl, Nat.le_of_ble_eq_true rfl⟩) rfl rfl (Nat.le_of_ble_eq_true rfl) ⟨Nat.le_of_ble_eq_true rfl, Nat.le_of_ble_eq_true rfl⟩ dX9_frozenBy_14 (q := 17) rfl ?_
    refine vv_eqv (st' := [.int (nI 0)]) rfl ?_
    refine vv_if_eq hC (tgt := 29) dX9_frozenBy_17 (by decide) (q := 20) rfl (fun _ => ?_) (fun h => absurd h (by decide))
    refine vv_iconst hC (v := nI 0) dX9_frozenBy_29 rfl (q := 30) rfl ?_
    have hT : mtWd S n = 1 := by simp only [mtWd, bI_0.mp h6, Bool.false_eq_true, true_and, and_true, false_and, and_false, and_self, not_true, not_false_iff, or_true, true_or, or_false, false_or, if_true, if_false, reduceIte]
    exact vv_iret hC hK hr hlk (by rw [if_neg (by rw [hT]; decide)]; rfl) (fun f h => by rw [if_neg (by rw [hT]; decide)]; rw [hT]; exact h) dX9_frozenBy_30
  · skip
    refine vv_iconst hC (v := nI 0) dX9_frozenBy_9 rfl (q := 10) rfl ?_
    refine vv_goto hC (tgt := 14) dX9_frozenBy_10 (by decide) ?_
    refine vv_calli hC hK (fun _ h => h) (As := [.int (nI 0)]) 0 (by decide) or9 rfl (c9_goesWell l hJ S 0 (by decide)) (cwV 1 hC.2.2.2.2 gX9_frozenBy_X9_goesWell rfl rfl rfl hdX9_goesWell ⟨Nat.le_of_ble_eq_true rfl, Nat.le_of_ble_eq_true rfl⟩) rfl rfl (Nat.le_of_ble_eq_true rfl) ⟨Nat.le_of_ble_eq_true rfl, Nat.le_of_ble_eq_true rfl⟩ dX9_frozenBy_14 (q := 17) rfl ?_
    refine vv_eqv (st' := [.int (nI 1)]) rfl ?_
    refine vv_if_eq hC (tgt := 29) dX9_frozenBy_17 (by decide) (q := 20) rfl (fun h => absurd h (by decide)) (fun _ => ?_)
    obtain ⟨hnn, hnl⟩ := inB_m1 (b := S.1 1) (by omega) (bI_1 h6)
    refine vv_eql (lv' := [(0, .ref (ad 0)), (1, .int (nI (tn n)))]) (by rw [← hnn]) ?_
    refine vv_aload_n hC 0 dX9_frozenBy_20 rfl rfl (q := 21) rfl ?_
    refine vv_get hC hK (K := RX9) (T := TX9) (N := 35) (ci := 9) inwX9_frozenBy_X9 0 (by decide) (fs := fldM ad (sS S 0 0)) om0 rfl 7 (by decide) (List.mem_of_getElem? (i := 1) rfl) rfl (v := .ref (ad 6)) rfl dX9_frozenBy_21 (q := 24) rfl ?_
    refine vv_iload_n hC 1 dX9_frozenBy_24 rfl rfl (q := 25) rfl ?_
    refine vv_ialdN (P := PM cI cZ ad (sS S 0 0)) hC hK 6 (by decide) 0 (g := S.2 6) (omI (by decide) rfl) rfl (show tn n < 300 from (by omega)) (by decide) dX9_frozenBy_25 (q := 26) rfl ?_
    refine vv_goto hC (tgt := 30) dX9_frozenBy_26 (by decide) ?_
    have hT : mtWd S n = 0 := by simp only [mtWd, bI_1 h6, Bool.false_eq_true, true_and, and_true, false_and, and_false, and_self, not_true, not_false_iff, or_true, true_or, or_false, false_or, if_true, if_false, reduceIte]
    exact vv_iret hC hK hr hlk (by rw [if_pos hT]) (fun f h => by rw [if_pos hT]; exact h) dX9_frozenBy_30
theorem inwX9_earned_X9 : ∀ w ∈ wsX90, w ∈ wsX9_earned := fun _ h => List.mem_cons_of_mem _ (List.mem_append_right _ h)
theorem hdX9_earned : yX9_earned.cls = RX9 ∧ yX9_earned.cls ≠ "java/lang/invoke/MethodHandle" ∧ yX9_earned.cls ≠ "java/lang/invoke/VarHandle" ∧ (parseMethodDescriptor yX9_earned.desc).map (fun d => d.parameters.length) = some 1 := by decide +kernel
set_option maxRecDepth 100000 in
set_option maxHeartbeats 4000000 in
theorem c9_earned (l : Launch) {D : va_G} {cI cW cZ cL : ClassId} {ad : Nat → Nat} (hJ : injA ad 27) (S : sM) (n : Int32) (hI : IM S)  : kMi l yX9_earned wsX9_earned ({ frames := 2, cells := 0, slots := 0, locals := 42 }) D vwCl (tyL cI cW cZ cL) ad 27 [.ref (ad 0), .int n] (PM cI cZ ad S) (if mtRw n = 0 then S.2 14 (tn n) else 0) (PM cI cZ ad (if mtRw n = 0 then sS S 0 0 else sS S 0 (mtRw n))) := by
  refine vv_enter (cc := cX9_earned) (maxL := 2) (ret := (some .int)) (own := RX9) (lv := [(0, .ref (ad 0)), (1, .int n)]) (by decide +kernel) rfl rfl hJ (Nat.le_of_ble_eq_true rfl) rfl ?_
  intro p e s m args below meth c hC hK hW hr hlk
  refine vv_aload_n hC 0 dX9_earned_0 rfl rfl (q := 1) rfl ?_
  refine vv_iload_n hC 1 dX9_earned_1 rfl rfl (q := 2) rfl ?_
  refine vv_callsi hC hK (fun _ h => h) (As := [.int n]) (c9_isReviewer l hJ S n) (va_cwS 1 hC.2.2.2.2 gX9_earned_X9_isReviewer rfl rfl rfl hsX9_isReviewer ⟨Nat.le_of_ble_eq_true rfl, Nat.le_of_ble_eq_true rfl⟩) rfl rfl (Nat.le_of_ble_eq_true rfl) ⟨Nat.le_of_ble_eq_true rfl, Nat.le_of_ble_eq_true rfl⟩ dX9_earned_2 (q := 5) rfl ?_
  refine vv_if_eq hC (tgt := 12) dX9_earned_5 (by decide) (q := 8) rfl (fun h5 => ?_) (fun h5 => ?_)
  · skip
    refine vv_iconst hC (v := nI 1) dX9_earned_12 rfl (q := 13) rfl ?_
    refine vv_calli hC hK (fun _ h => h) (As := [.int (nI 1)]) 0 (by decide) or9 rfl (c9_goesWell l hJ S 1 (by decide)) (cwV 1 hC.2.2.2.2 gX9_earned_X9_goesWell rfl rfl rfl hdX9_goesWell ⟨Nat.le_of_ble_eq_true rfl, Nat.le_of_ble_eq_true rfl⟩) rfl rfl (Nat.le_of_ble_eq_true rfl) ⟨Nat.le_of_ble_eq_true rfl, Nat.le_of_ble_eq_true rfl⟩ dX9_earned_13 (q := 16) rfl ?_
    refine vv_eqv (st' := [.int (nI 0)]) rfl ?_
    refine vv_if_eq hC (tgt := 28) dX9_earned_16 (by decide) (q := 19) rfl (fun _ => ?_) (fun h => absurd h (by decide))
    refine vv_iconst hC (v := nI 0) dX9_earned_28 rfl (q := 29) rfl ?_
    have hT : mtRw n = 1 := by simp only [mtRw, bI_0.mp h5, Bool.false_eq_true, true_and, and_true, false_and, and_false, and_self, not_true, not_false_iff, or_true, true_or, or_false, false_or, if_true, if_false, reduceIte]
    exact vv_iret hC hK hr hlk (by rw [if_neg (by rw [hT]; decide)]; rfl) (fun f h => by rw [if_neg (by rw [hT]; decide)]; rw [hT]; exact h) dX9_earned_29
  · skip
    refine vv_iconst hC (v := nI 0) dX9_earned_8 rfl (q := 9) rfl ?_
    refine vv_goto hC (tgt := 13) dX9_earned_9 (by decide) ?_
    refine vv_calli hC hK (fun _ h => h) (As := [.int (nI 0)]) 0 (by decide) or9 rfl (c9_goesWell l hJ S 0 (by decide)) (cwV 1 hC.2.2.2.2 gX9_earned_X9_goesWell rfl rfl rfl hdX9_goesWell ⟨Nat.le_of_ble_eq_true rfl, Nat.le_of_ble_eq_true rfl⟩) rfl rfl (Nat.le_of_ble_eq_true rfl) ⟨Nat.le_of_ble_eq_true rfl, Nat.le_of_ble_eq_true rfl⟩ dX9_earned_13 (q := 16) rfl ?_
    refine vv_eqv (st' := [.int (nI 1)]) rfl ?_
    refine vv_if_eq hC (tgt := 28) dX9_earned_16 (by decide) (q := 19) rfl (fun h => absurd h (by decide)) (fun _ => ?_)
    obtain ⟨hnn, hnl⟩ := inB_n (b := 3) (by decide) (bI_1 h5)
    refine vv_eql (lv' := [(0, .ref (ad 0)), (1, .int (nI (tn n)))]) (by rw [← hnn]) ?_
    refine vv_aload_n hC 0 dX9_earned_19 rfl rfl (q := 20) rfl ?_
    refine vv_get hC hK (K := RX9) (T := TX9) (N := 35) (ci := 9) inwX9_earned_X9 0 (by decide) (fs := fldM ad (sS S 0 0)) om0 rfl 16 (by decide) (List.mem_of_getElem? (i := 1) rfl) rfl (v := .ref (ad 14)) rfl dX9_earned_20 (q := 23) rfl ?_
    refine vv_iload_n hC 1 dX9_earned_23 rfl rfl (q := 24) rfl ?_
    refine vv_ialdN (P := PM cI cZ ad (sS S 0 0)) hC hK 14 (by decide) 0 (g := S.2 14) (omI (by decide) rfl) rfl (show tn n < 4 from (by omega)) (by decide) dX9_earned_24 (q := 25) rfl ?_
    refine vv_goto hC (tgt := 29) dX9_earned_25 (by decide) ?_
    have hT : mtRw n = 0 := by simp only [mtRw, bI_1 h5, Bool.false_eq_true, true_and, and_true, false_and, and_false, and_self, not_true, not_false_iff, or_true, true_or, or_false, false_or, if_true, if_false, reduceIte]
    exact vv_iret hC hK hr hlk (by rw [if_pos hT]) (fun f h => by rw [if_pos hT]; exact h) dX9_earned_29
theorem inwX9_addIssue_X9 : ∀ w ∈ wsX90, w ∈ wsX9_addIssue := fun _ h => List.mem_cons_of_mem _ (List.mem_append_right _ h)
theorem hdX9_addIssue : yX9_addIssue.cls = RX9 ∧ yX9_addIssue.cls ≠ "java/lang/invoke/MethodHandle" ∧ yX9_addIssue.cls ≠ "java/lang/invoke/VarHandle" ∧ (parseMethodDescriptor yX9_addIssue.desc).map (fun d => d.parameters.length) = some 2 := by decide +kernel
set_option maxRecDepth 100000 in
set_option maxHeartbeats 4000000 in
theorem c9_addIssue (l : Launch) {D : va_G} {cI cW cZ cL : ClassId} {ad : Nat → Nat} (hJ : injA ad 27) (S : sM) (d z : Int32) (hI : IM S)  : kMi l yX9_addIssue wsX9_addIssue ({ frames := 1, cells := 0, slots := 0, locals := 22 }) D vwCl (tyL cI cW cZ cL) ad 27 [.ref (ad 0), .int d, .int z] (PM cI cZ ad S) (if mtIss S d z = 0 then nI (S.1 25) else 0) (PM cI cZ ad (if mtIss S d z = 0 then msIss S d z else sS S 0 (mtIss S d z))) := by
  refine vv_enter (cc := cX9_addIssue) (maxL := 6) (ret := (some .int)) (own := RX9) (lv := [(0, .ref (ad 0)), (1, .int d), (2, .int z)]) (by decide +kernel) rfl rfl hJ (Nat.le_of_ble_eq_true rfl) rfl ?_
  intro p e s m args below meth c hC hK hW hr hlk
  obtain ⟨iW, iR, iV, iI, iC, iK, iD, irow, ianc, iwr, icl, icc, irv⟩ := id hI
  refine vv_iload_n hC 1 dX9_addIssue_0 rfl rfl (q := 1) rfl ?_
  refine vv_aload_n hC 0 dX9_addIssue_1 rfl rfl (q := 2) rfl ?_
  refine vv_get hC hK (K := RX9) (T := TX9) (N := 35) (ci := 9) inwX9_addIssue_X9 0 (by decide) (fs := fldM ad S) om0 rfl 29 (by decide) (List.mem_of_getElem? (i := 1) rfl) rfl (v := .int (nI (S.1 29))) rfl dX9_addIssue_2 (q := 5) rfl ?_
  refine vv_iconst hC (v := nI 1) dX9_addIssue_5 rfl (q := 6) rfl ?_
  refine vv_iaddN hC dX9_addIssue_6 (q := 7) rfl ?_
  refine vv_sipush hC (v := nI 1000) dX9_addIssue_7 rfl (q := 10) rfl ?_
  refine vv_callsi hC hK (fun _ h => h) (As := [.int d, .int (nI ((S.1 29) + 1)), .int (nI 1000)]) (c9_in l hJ S d (nI ((S.1 29) + 1)) 1000) (va_cwS 3 hC.2.2.2.2 gX9_addIssue_X9_in rfl rfl rfl hsX9_in ⟨Nat.le_of_ble_eq_true rfl, Nat.le_of_ble_eq_true rfl⟩) rfl rfl (Nat.le_of_ble_eq_true rfl) ⟨Nat.le_of_ble_eq_true rfl, Nat.le_of_ble_eq_true rfl⟩ dX9_addIssue_10 (q := 13) rfl ?_
  refine vv_if_eq hC (tgt := 31) dX9_addIssue_13 (by decide) (q := 16) rfl (fun h13 => ?_) (fun h13 => ?_)
  · skip
    refine vv_iconst hC (v := nI 0) dX9_addIssue_31 rfl (q := 32) rfl ?_
    refine vv_istore_n hC (i := 3) (lv' := [(3, .int (nI 0)), (0, .ref (ad 0)), (1, .int d), (2, .int z)]) dX9_addIssue_32 rfl (by decide) rfl (q := 33) rfl ?_
    refine vv_iconst hC (v := nI 0) dX9_addIssue_33 rfl (q := 34) rfl ?_
    refine vv_istore hC (i := 4) (lv' := [(4, .int (nI 0)), (3, .int (nI 0)), (0, .ref (ad 0)), (1, .int d), (2, .int z)]) dX9_addIssue_34 (by decide) rfl (q := 36) rfl ?_
    refine vv_iconst hC (v := nI 0) dX9_addIssue_36 rfl (q := 37) rfl ?_
    refine vv_istore hC (i := 5) (lv' := [(5, .int (nI 0)), (4, .int (nI 0)), (3, .int (nI 0)), (0, .ref (ad 0)), (1, .int d), (2, .int z)]) dX9_addIssue_37 (by decide) rfl (q := 39) rfl ?_
    have loop39 : ∀ (fu : Nat) (k : Nat), S.1 25 < k + fu → k ≤ S.1 25 → vv p l e (headSpec wsX9_addIssue ({ frames := 1, cells := 0, slots := 0, locals := 22 })).room s m args below meth c 6 (RA ad 27) s.heap 0 0 (MQ below (va_Qi (fun r' (_ : Unit) => r' = (if mtIss S d z = 0 then nI (S.1 25) else 0)) (fun _ => ws0 D vwCl (tyL cI cW cZ cL) ad 27 (PM cI cZ ad (if mtIss S d z = 0 then msIss S d z else sS S 0 (mtIss S d z)))) (RA ad 27)) args s 0 0 (RA ad 27)) (wq D vwCl ad 27 (PM cI cZ ad S)) 39 [(0, .ref (ad 0)), (1, .int d), (2, .int z), (3, .int (nI 0)), (4, .int (bI (mTk S d k))), (5, .int (nI k))] [] := by
      intro fu
      induction fu with
      | zero =>
        intro k hfu hk
        exact absurd hfu (by omega)
      | succ fu ih =>
        intro k hfu hk
        refine vv_iload hC 5 dX9_addIssue_39 rfl (q := 41) rfl ?_
        refine vv_aload_n hC 0 dX9_addIssue_41 rfl rfl (q := 42) rfl ?_
        refine vv_get hC hK (K := RX9) (T := TX9) (N := 35) (ci := 9) inwX9_addIssue_X9 0 (by decide) (fs := fldM ad S) om0 rfl 25 (by decide) (List.mem_of_getElem? (i := 2) rfl) rfl (v := .int (nI (S.1 25))) rfl dX9_addIssue_42 (q := 45) rfl ?_
        refine vv_icmpN_ge hC (tgt := 77) (by omega) (by omega) dX9_addIssue_45 (by decide) (q := 48) rfl (fun h45 => ?_) (fun h45 => ?_)
        · skip
          obtain rfl : k = S.1 25 := by omega
          refine vv_aload_n hC 0 dX9_addIssue_77 rfl rfl (q := 78) rfl ?_
          refine vv_iload_n hC 3 dX9_addIssue_78 rfl rfl (q := 79) rfl ?_
          refine vv_if_ne hC (tgt := 86) dX9_addIssue_79 (by decide) (q := 82) rfl (fun h => absurd h (by decide)) (fun _ => ?_)
          refine vv_iconst hC (v := nI 1) dX9_addIssue_82 rfl (q := 83) rfl ?_
          refine vv_goto hC (tgt := 105) dX9_addIssue_83 (by decide) ?_
          refine vv_calli hC hK (fun _ h => h) (As := [.int (nI 1)]) 0 (by decide) or9 rfl (c9_goesWell l hJ S 1 (by decide)) (cwV 1 hC.2.2.2.2 gX9_addIssue_X9_goesWell rfl rfl rfl hdX9_goesWell ⟨Nat.le_of_ble_eq_true rfl, Nat.le_of_ble_eq_true rfl⟩) rfl rfl (Nat.le_of_ble_eq_true rfl) ⟨Nat.le_of_ble_eq_true rfl, Nat.le_of_ble_eq_true rfl⟩ dX9_addIssue_105 (q := 108) rfl ?_
          refine vv_eqv (st' := [.int (nI 0)]) rfl ?_
          refine vv_if_ne hC (tgt := 113) dX9_addIssue_108 (by decide) (q := 111) rfl (fun h => absurd h (by decide)) (fun _ => ?_)
          refine vv_iconst hC (v := nI 0) dX9_addIssue_111 rfl (q := 112) rfl ?_
          have hT : mtIss S d z = 1 := by simp only [mtIss, bI_0.mp h13, h45, Bool.false_eq_true, true_and, and_true, false_and, and_false, and_self, not_true, not_false_iff, or_true, true_or, or_false, false_or, if_true, if_false, reduceIte]
          exact vv_iret hC hK hr hlk (by rw [if_neg (by rw [hT]; decide)]; rfl) (fun f h => by rw [if_neg (by rw [hT]; decide)]; rw [hT]; exact h) dX9_addIssue_112
        · skip
          refine vv_iload hC 4 dX9_addIssue_48 rfl (q := 50) rfl ?_
          refine vv_if_ne hC (tgt := 64) dX9_addIssue_50 (by decide) (q := 53) rfl (fun h50 => ?_) (fun h50 => ?_)
          · skip
            refine vv_iconst hC (v := nI 1) dX9_addIssue_64 rfl (q := 65) rfl ?_
            refine vv_goto hC (tgt := 69) dX9_addIssue_65 (by decide) ?_
            refine vv_istore hC (i := 4) (lv' := [(4, .int (nI 1)), (0, .ref (ad 0)), (1, .int d), (2, .int z), (3, .int (nI 0)), (5, .int (nI k))]) dX9_addIssue_69 (by decide) rfl (q := 71) rfl ?_
            refine vv_iinc hC (i := 5) (v := nI (k + 1)) (lv' := [(5, .int (nI (k + 1))), (4, .int (nI 1)), (0, .ref (ad 0)), (1, .int d), (2, .int z), (3, .int (nI 0))]) 5 dX9_addIssue_71 rfl (nI_1 k) (by decide) rfl (q := 74) rfl ?_
            refine vv_goto hC (tgt := 39) dX9_addIssue_74 (by decide) ?_
            refine vv_lv [2, 3, 4, 5, 1, 0] (lv' := [(0, .ref (ad 0)), (1, .int d), (2, .int z), (3, .int (nI 0)), (4, .int (nI 1)), (5, .int (nI (k + 1)))]) rfl ?_
            exact vv_eql (by rw [mTk, bI_1 h50]; rfl) (ih (k + 1) (by omega) (by omega))
          · skip
            refine vv_aload_n hC 0 dX9_addIssue_53 rfl rfl (q := 54) rfl ?_
            refine vv_get hC hK (K := RX9) (T := TX9) (N := 35) (ci := 9) inwX9_addIssue_X9 0 (by decide) (fs := fldM ad S) om0 rfl 26 (by decide) (List.mem_of_getElem? (i := 3) rfl) rfl (v := .ref (ad 21)) rfl dX9_addIssue_54 (q := 57) rfl ?_
            refine vv_iload hC 5 dX9_addIssue_57 rfl (q := 59) rfl ?_
            refine vv_ialdN (P := PM cI cZ ad S) hC hK 21 (by decide) 0 (g := S.2 21) (omI (by decide) rfl) rfl (show k < 12 from (by omega)) (by decide) dX9_addIssue_59 (q := 60) rfl ?_
            refine vv_iload_n hC 1 dX9_addIssue_60 rfl rfl (q := 61) rfl ?_
            refine vv_icmp_ne hC (tgt := 68) dX9_addIssue_61 (by decide) (q := 64) rfl (fun h61 => ?_) (fun h61 => ?_)
            · skip
              refine vv_iconst hC (v := nI 0) dX9_addIssue_68 rfl (q := 69) rfl ?_
              refine vv_istore hC (i := 4) (lv' := [(4, .int (nI 0)), (0, .ref (ad 0)), (1, .int d), (2, .int z), (3, .int (nI 0)), (5, .int (nI k))]) dX9_addIssue_69 (by decide) rfl (q := 71) rfl ?_
              refine vv_iinc hC (i := 5) (v := nI (k + 1)) (lv' := [(5, .int (nI (k + 1))), (4, .int (nI 0)), (0, .ref (ad 0)), (1, .int d), (2, .int z), (3, .int (nI 0))]) 5 dX9_addIssue_71 rfl (nI_1 k) (by decide) rfl (q := 74) rfl ?_
              refine vv_goto hC (tgt := 39) dX9_addIssue_74 (by decide) ?_
              refine vv_lv [2, 3, 4, 5, 1, 0] (lv' := [(0, .ref (ad 0)), (1, .int d), (2, .int z), (3, .int (nI 0)), (4, .int (nI 0)), (5, .int (nI (k + 1)))]) rfl ?_
              exact vv_eql (by rw [mTk, bI_0.mp h50, decide_eq_false h61]; rfl) (ih (k + 1) (by omega) (by omega))
            · skip
              refine vv_iconst hC (v := nI 1) dX9_addIssue_64 rfl (q := 65) rfl ?_
              refine vv_goto hC (tgt := 69) dX9_addIssue_65 (by decide) ?_
              refine vv_istore hC (i := 4) (lv' := [(4, .int (nI 1)), (0, .ref (ad 0)), (1, .int d), (2, .int z), (3, .int (nI 0)), (5, .int (nI k))]) dX9_addIssue_69 (by decide) rfl (q := 71) rfl ?_
              refine vv_iinc hC (i := 5) (v := nI (k + 1)) (lv' := [(5, .int (nI (k + 1))), (4, .int (nI 1)), (0, .ref (ad 0)), (1, .int d), (2, .int z), (3, .int (nI 0))]) 5 dX9_addIssue_71 rfl (nI_1 k) (by decide) rfl (q := 74) rfl ?_
              refine vv_goto hC (tgt := 39) dX9_addIssue_74 (by decide) ?_
              refine vv_lv [2, 3, 4, 5, 1, 0] (lv' := [(0, .ref (ad 0)), (1, .int d), (2, .int z), (3, .int (nI 0)), (4, .int (nI 1)), (5, .int (nI (k + 1)))]) rfl ?_
              exact vv_eql (by rw [mTk, decide_eq_true h61, Bool.or_true]; rfl) (ih (k + 1) (by omega) (by omega))
    refine vv_lv [3, 4, 5, 2, 1, 0] (lv' := [(0, .ref (ad 0)), (1, .int d), (2, .int z), (3, .int (nI 0)), (4, .int (nI 0)), (5, .int (nI 0))]) rfl ?_
    exact loop39 13 0 (by omega) (Nat.zero_le _)
  · skip
    refine vv_iload_n hC 2 dX9_addIssue_16 rfl rfl (q := 17) rfl ?_
    refine vv_iconst hC (v := nI 1) dX9_addIssue_17 rfl (q := 18) rfl ?_
    refine vv_sipush hC (v := nI 200) dX9_addIssue_18 rfl (q := 21) rfl ?_
    refine vv_callsi hC hK (fun _ h => h) (As := [.int z, .int (nI 1), .int (nI 200)]) (c9_in l hJ S z 1 200) (va_cwS 3 hC.2.2.2.2 gX9_addIssue_X9_in rfl rfl rfl hsX9_in ⟨Nat.le_of_ble_eq_true rfl, Nat.le_of_ble_eq_true rfl⟩) rfl rfl (Nat.le_of_ble_eq_true rfl) ⟨Nat.le_of_ble_eq_true rfl, Nat.le_of_ble_eq_true rfl⟩ dX9_addIssue_21 (q := 24) rfl ?_
    refine vv_if_eq hC (tgt := 31) dX9_addIssue_24 (by decide) (q := 27) rfl (fun h24 => ?_) (fun h24 => ?_)
    · skip
      refine vv_iconst hC (v := nI 0) dX9_addIssue_31 rfl (q := 32) rfl ?_
      refine vv_istore_n hC (i := 3) (lv' := [(3, .int (nI 0)), (0, .ref (ad 0)), (1, .int d), (2, .int z)]) dX9_addIssue_32 rfl (by decide) rfl (q := 33) rfl ?_
      refine vv_iconst hC (v := nI 0) dX9_addIssue_33 rfl (q := 34) rfl ?_
      refine vv_istore hC (i := 4) (lv' := [(4, .int (nI 0)), (3, .int (nI 0)), (0, .ref (ad 0)), (1, .int d), (2, .int z)]) dX9_addIssue_34 (by decide) rfl (q := 36) rfl ?_
      refine vv_iconst hC (v := nI 0) dX9_addIssue_36 rfl (q := 37) rfl ?_
      refine vv_istore hC (i := 5) (lv' := [(5, .int (nI 0)), (4, .int (nI 0)), (3, .int (nI 0)), (0, .ref (ad 0)), (1, .int d), (2, .int z)]) dX9_addIssue_37 (by decide) rfl (q := 39) rfl ?_
      have loop39 : ∀ (fu : Nat) (k : Nat), S.1 25 < k + fu → k ≤ S.1 25 → vv p l e (headSpec wsX9_addIssue ({ frames := 1, cells := 0, slots := 0, locals := 22 })).room s m args below meth c 6 (RA ad 27) s.heap 0 0 (MQ below (va_Qi (fun r' (_ : Unit) => r' = (if mtIss S d z = 0 then nI (S.1 25) else 0)) (fun _ => ws0 D vwCl (tyL cI cW cZ cL) ad 27 (PM cI cZ ad (if mtIss S d z = 0 then msIss S d z else sS S 0 (mtIss S d z)))) (RA ad 27)) args s 0 0 (RA ad 27)) (wq D vwCl ad 27 (PM cI cZ ad S)) 39 [(0, .ref (ad 0)), (1, .int d), (2, .int z), (3, .int (nI 0)), (4, .int (bI (mTk S d k))), (5, .int (nI k))] [] := by
        intro fu
        induction fu with
        | zero =>
          intro k hfu hk
          exact absurd hfu (by omega)
        | succ fu ih =>
          intro k hfu hk
          refine vv_iload hC 5 dX9_addIssue_39 rfl (q := 41) rfl ?_
          refine vv_aload_n hC 0 dX9_addIssue_41 rfl rfl (q := 42) rfl ?_
          refine vv_get hC hK (K := RX9) (T := TX9) (N := 35) (ci := 9) inwX9_addIssue_X9 0 (by decide) (fs := fldM ad S) om0 rfl 25 (by decide) (List.mem_of_getElem? (i := 2) rfl) rfl (v := .int (nI (S.1 25))) rfl dX9_addIssue_42 (q := 45) rfl ?_
          refine vv_icmpN_ge hC (tgt := 77) (by omega) (by omega) dX9_addIssue_45 (by decide) (q := 48) rfl (fun h45 => ?_) (fun h45 => ?_)
          · skip
            obtain rfl : k = S.1 25 := by omega
            refine vv_aload_n hC 0 dX9_addIssue_77 rfl rfl (q := 78) rfl ?_
            refine vv_iload_n hC 3 dX9_addIssue_78 rfl rfl (q := 79) rfl ?_
            refine vv_if_ne hC (tgt := 86) dX9_addIssue_79 (by decide) (q := 82) rfl (fun h => absurd h (by decide)) (fun _ => ?_)
            refine vv_iconst hC (v := nI 1) dX9_addIssue_82 rfl (q := 83) rfl ?_
            refine vv_goto hC (tgt := 105) dX9_addIssue_83 (by decide) ?_
            refine vv_calli hC hK (fun _ h => h) (As := [.int (nI 1)]) 0 (by decide) or9 rfl (c9_goesWell l hJ S 1 (by decide)) (cwV 1 hC.2.2.2.2 gX9_addIssue_X9_goesWell rfl rfl rfl hdX9_goesWell ⟨Nat.le_of_ble_eq_true rfl, Nat.le_of_ble_eq_true rfl⟩) rfl rfl (Nat.le_of_ble_eq_true rfl) ⟨Nat.le_of_ble_eq_true rfl, Nat.le_of_ble_eq_true rfl⟩ dX9_addIssue_105 (q := 108) rfl ?_
            refine vv_eqv (st' := [.int (nI 0)]) rfl ?_
            refine vv_if_ne hC (tgt := 113) dX9_addIssue_108 (by decide) (q := 111) rfl (fun h => absurd h (by decide)) (fun _ => ?_)
            refine vv_iconst hC (v := nI 0) dX9_addIssue_111 rfl (q := 112) rfl ?_
            have hT : mtIss S d z = 1 := by simp only [mtIss, bI_1 h13, bI_0.mp h24, h45, Bool.false_eq_true, true_and, and_true, false_and, and_false, and_self, not_true, not_false_iff, or_true, true_or, or_false, false_or, if_true, if_false, reduceIte]
            exact vv_iret hC hK hr hlk (by rw [if_neg (by rw [hT]; decide)]; rfl) (fun f h => by rw [if_neg (by rw [hT]; decide)]; rw [hT]; exact h) dX9_addIssue_112
          · skip
            refine vv_iload hC 4 dX9_addIssue_48 rfl (q := 50) rfl ?_
            refine vv_if_ne hC (tgt := 64) dX9_addIssue_50 (by decide) (q := 53) rfl (fun h50 => ?_) (fun h50 => ?_)
            · skip
              refine vv_iconst hC (v := nI 1) dX9_addIssue_64 rfl (q := 65) rfl ?_
              refine vv_goto hC (tgt := 69) dX9_addIssue_65 (by decide) ?_
              refine vv_istore hC (i := 4) (lv' := [(4, .int (nI 1)), (0, .ref (ad 0)), (1, .int d), (2, .int z), (3, .int (nI 0)), (5, .int (nI k))]) dX9_addIssue_69 (by decide) rfl (q := 71) rfl ?_
              refine vv_iinc hC (i := 5) (v := nI (k + 1)) (lv' := [(5, .int (nI (k + 1))), (4, .int (nI 1)), (0, .ref (ad 0)), (1, .int d), (2, .int z), (3, .int (nI 0))]) 5 dX9_addIssue_71 rfl (nI_1 k) (by decide) rfl (q := 74) rfl ?_
              refine vv_goto hC (tgt := 39) dX9_addIssue_74 (by decide) ?_
              refine vv_lv [2, 3, 4, 5, 1, 0] (lv' := [(0, .ref (ad 0)), (1, .int d), (2, .int z), (3, .int (nI 0)), (4, .int (nI 1)), (5, .int (nI (k + 1)))]) rfl ?_
              exact vv_eql (by rw [mTk, bI_1 h50]; rfl) (ih (k + 1) (by omega) (by omega))
            · skip
              refine vv_aload_n hC 0 dX9_addIssue_53 rfl rfl (q := 54) rfl ?_
              refine vv_get hC hK (K := RX9) (T := TX9) (N := 35) (ci := 9) inwX9_addIssue_X9 0 (by decide) (fs := fldM ad S) om0 rfl 26 (by decide) (List.mem_of_getElem? (i := 3) rfl) rfl (v := .ref (ad 21)) rfl dX9_addIssue_54 (q := 57) rfl ?_
              refine vv_iload hC 5 dX9_addIssue_57 rfl (q := 59) rfl ?_
              refine vv_ialdN (P := PM cI cZ ad S) hC hK 21 (by decide) 0 (g := S.2 21) (omI (by decide) rfl) rfl (show k < 12 from (by omega)) (by decide) dX9_addIssue_59 (q := 60) rfl ?_
              refine vv_iload_n hC 1 dX9_addIssue_60 rfl rfl (q := 61) rfl ?_
              refine vv_icmp_ne hC (tgt := 68) dX9_addIssue_61 (by decide) (q := 64) rfl (fun h61 => ?_) (fun h61 => ?_)
              · skip
                refine vv_iconst hC (v := nI 0) dX9_addIssue_68 rfl (q := 69) rfl ?_
                refine vv_istore hC (i := 4) (lv' := [(4, .int (nI 0)), (0, .ref (ad 0)), (1, .int d), (2, .int z), (3, .int (nI 0)), (5, .int (nI k))]) dX9_addIssue_69 (by decide) rfl (q := 71) rfl ?_
                refine vv_iinc hC (i := 5) (v := nI (k + 1)) (lv' := [(5, .int (nI (k + 1))), (4, .int (nI 0)), (0, .ref (ad 0)), (1, .int d), (2, .int z), (3, .int (nI 0))]) 5 dX9_addIssue_71 rfl (nI_1 k) (by decide) rfl (q := 74) rfl ?_
                refine vv_goto hC (tgt := 39) dX9_addIssue_74 (by decide) ?_
                refine vv_lv [2, 3, 4, 5, 1, 0] (lv' := [(0, .ref (ad 0)), (1, .int d), (2, .int z), (3, .int (nI 0)), (4, .int (nI 0)), (5, .int (nI (k + 1)))]) rfl ?_
                exact vv_eql (by rw [mTk, bI_0.mp h50, decide_eq_false h61]; rfl) (ih (k + 1) (by omega) (by omega))
              · skip
                refine vv_iconst hC (v := nI 1) dX9_addIssue_64 rfl (q := 65) rfl ?_
                refine vv_goto hC (tgt := 69) dX9_addIssue_65 (by decide) ?_
                refine vv_istore hC (i := 4) (lv' := [(4, .int (nI 1)), (0, .ref (ad 0)), (1, .int d), (2, .int z), (3, .int (nI 0)), (5, .int (nI k))]) dX9_addIssue_69 (by decide) rfl (q := 71) rfl ?_
                refine vv_iinc hC (i := 5) (v := nI (k + 1)) (lv' := [(5, .int (nI (k + 1))), (4, .int (nI 1)), (0, .ref (ad 0)), (1, .int d), (2, .int z), (3, .int (nI 0))]) 5 dX9_addIssue_71 rfl (nI_1 k) (by decide) rfl (q := 74) rfl ?_
                refine vv_goto hC (tgt := 39) dX9_addIssue_74 (by decide) ?_
                refine vv_lv [2, 3, 4, 5, 1, 0] (lv' := [(0, .ref (ad 0)), (1, .int d), (2, .int z), (3, .int (nI 0)), (4, .int (nI 1)), (5, .int (nI (k + 1)))]) rfl ?_
                exact vv_eql (by rw [mTk, decide_eq_true h61, Bool.or_true]; rfl) (ih (k + 1) (by omega) (by omega))
      refine vv_lv [3, 4, 5, 2, 1, 0] (lv' := [(0, .ref (ad 0)), (1, .int d), (2, .int z), (3, .int (nI 0)), (4, .int (nI 0)), (5, .int (nI 0))]) rfl ?_
      exact loop39 13 0 (by omega) (Nat.zero_le _)
    · skip
      refine vv_iconst hC (v := nI 1) dX9_addIssue_27 rfl (q := 28) rfl ?_
      refine vv_goto hC (tgt := 32) dX9_addIssue_28 (by decide) ?_
      refine vv_istore_n hC (i := 3) (lv' := [(3, .int (nI 1)), (0, .ref (ad 0)), (1, .int d), (2, .int z)]) dX9_addIssue_32 rfl (by decide) rfl (q := 33) rfl ?_
      refine vv_iconst hC (v := nI 0) dX9_addIssue_33 rfl (q := 34) rfl ?_
      refine vv_istore hC (i := 4) (lv' := [(4, .int (nI 0)), (3, .int (nI 1)), (0, .ref (ad 0)), (1, .int d), (2, .int z)]) dX9_addIssue_34 (by decide) rfl (q := 36) rfl ?_
      refine vv_iconst hC (v := nI 0) dX9_addIssue_36 rfl (q := 37) rfl ?_
      refine vv_istore hC (i := 5) (lv' := [(5, .int (nI 0)), (4, .int (nI 0)), (3, .int (nI 1)), (0, .ref (ad 0)), (1, .int d), (2, .int z)]) dX9_addIssue_37 (by decide) rfl (q := 39) rfl ?_
      have loop39 : ∀ (fu : Nat) (k : Nat), S.1 25 < k + fu → k ≤ S.1 25 → vv p l e (headSpec wsX9_addIssue ({ frames := 1, cells := 0, slots := 0, locals := 22 })).room s m args below meth c 6 (RA ad 27) s.heap 0 0 (MQ below (va_Qi (fun r' (_ : Unit) => r' = (if mtIss S d z = 0 then nI (S.1 25) else 0)) (fun _ => ws0 D vwCl (tyL cI cW cZ cL) ad 27 (PM cI cZ ad (if mtIss S d z = 0 then msIss S d z else sS S 0 (mtIss S d z)))) (RA ad 27)) args s 0 0 (RA ad 27)) (wq D vwCl ad 27 (PM cI cZ ad S)) 39 [(0, .ref (ad 0)), (1, .int d), (2, .int z), (3, .int (nI 1)), (4, .int (bI (mTk S d k))), (5, .int (nI k))] [] := by
        intro fu
        induction fu with
        | zero =>
          intro k hfu hk
          exact absurd hfu (by omega)
        | succ fu ih =>
          intro k hfu hk
          refine vv_iload hC 5 dX9_addIssue_39 rfl (q := 41) rfl ?_
          refine vv_aload_n hC 0 dX9_addIssue_41 rfl rfl (q := 42) rfl ?_
          refine vv_get hC hK (K := RX9) (T := TX9) (N := 35) (ci := 9) inwX9_addIssue_X9 0 (by decide) (fs := fldM ad S) om0 rfl 25 (by decide) (List.mem_of_getElem? (i := 2) rfl) rfl (v := .int (nI (S.1 25))) rfl dX9_addIssue_42 (q := 45) rfl ?_
          refine vv_icmpN_ge hC (tgt := 77) (by omega) (by omega) dX9_addIssue_45 (by decide) (q := 48) rfl (fun h45 => ?_) (fun h45 => ?_)
          · skip
            obtain rfl : k = S.1 25 := by omega
            refine vv_aload_n hC 0 dX9_addIssue_77 rfl rfl (q := 78) rfl ?_
            refine vv_iload_n hC 3 dX9_addIssue_78 rfl rfl (q := 79) rfl ?_
            refine vv_if_ne hC (tgt := 86) dX9_addIssue_79 (by decide) (q := 82) rfl (fun _ => ?_) (fun h => absurd h (by decide))
            refine vv_aload_n hC 0 dX9_addIssue_86 rfl rfl (q := 87) rfl ?_
            refine vv_get hC hK (K := RX9) (T := TX9) (N := 35) (ci := 9) inwX9_addIssue_X9 0 (by decide) (fs := fldM ad S) om0 rfl 25 (by decide) (List.mem_of_getElem? (i := 2) rfl) rfl (v := .int (nI (S.1 25))) rfl dX9_addIssue_87 (q := 90) rfl ?_
            refine vv_bipush hC (v := nI 12) dX9_addIssue_90 rfl (q := 92) rfl ?_
            refine vv_icmpN_eq hC (tgt := 100) (by omega) (by omega) dX9_addIssue_92 (by decide) (q := 95) rfl (fun h92 => ?_) (fun h92 => ?_)
            · skip
              refine vv_iconst hC (v := nI 2) dX9_addIssue_100 rfl (q := 101) rfl ?_
              refine vv_goto hC (tgt := 105) dX9_addIssue_101 (by decide) ?_
              refine vv_calli hC hK (fun _ h => h) (As := [.int (nI 2)]) 0 (by decide) or9 rfl (c9_goesWell l hJ S 2 (by decide)) (cwV 1 hC.2.2.2.2 gX9_addIssue_X9_goesWell rfl rfl rfl hdX9_goesWell ⟨Nat.le_of_ble_eq_true rfl, Nat.le_of_ble_eq_true rfl⟩) rfl rfl (Nat.le_of_ble_eq_true rfl) ⟨Nat.le_of_ble_eq_true rfl, Nat.le_of_ble_eq_true rfl⟩ dX9_addIssue_105 (q := 108) rfl ?_
              refine vv_eqv (st' := [.int (nI 0)]) rfl ?_
              refine vv_if_ne hC (tgt := 113) dX9_addIssue_108 (by decide) (q := 111) rfl (fun h => absurd h (by decide)) (fun _ => ?_)
              refine vv_iconst hC (v := nI 0) dX9_addIssue_111 rfl (q := 112) rfl ?_
              have hT : mtIss S d z = 2 := by simp only [mtIss, bI_1 h13, bI_1 h24, h45, h92, Bool.false_eq_true, true_and, and_true, false_and, and_false, and_self, not_true, not_false_iff, or_true, true_or, or_false, false_or, if_true, if_false, reduceIte]
              exact vv_iret hC hK hr hlk (by rw [if_neg (by rw [hT]; decide)]; rfl) (fun f h => by rw [if_neg (by rw [hT]; decide)]; rw [hT]; exact h) dX9_addIssue_112
            · skip
              refine vv_iload hC 4 dX9_addIssue_95 rfl (q := 97) rfl ?_
              refine vv_if_eq hC (tgt := 104) dX9_addIssue_97 (by decide) (q := 100) rfl (fun h97 => ?_) (fun h97 => ?_)
              · skip
                refine vv_iconst hC (v := nI 0) dX9_addIssue_104 rfl (q := 105) rfl ?_
                refine vv_calli hC hK (fun _ h => h) (As := [.int (nI 0)]) 0 (by decide) or9 rfl (c9_goesWell l hJ S 0 (by decide)) (cwV 1 hC.2.2.2.2 gX9_addIssue_X9_goesWell rfl rfl rfl hdX9_goesWell ⟨Nat.le_of_ble_eq_true rfl, Nat.le_of_ble_eq_true rfl⟩) rfl rfl (Nat.le_of_ble_eq_true rfl) ⟨Nat.le_of_ble_eq_true rfl, Nat.le_of_ble_eq_true rfl⟩ dX9_addIssue_105 (q := 108) rfl ?_
                refine vv_eqv (st' := [.int (nI 1)]) rfl ?_
                refine vv_if_ne hC (tgt := 113) dX9_addIssue_108 (by decide) (q := 111) rfl (fun _ => ?_) (fun h => absurd h (by decide))
                refine vv_aload_n hC 0 dX9_addIssue_113 rfl rfl (q := 114) rfl ?_
                refine vv_get hC hK (K := RX9) (T := TX9) (N := 35) (ci := 9) inwX9_addIssue_X9 0 (by decide) (fs := fldM ad (sS S 0 0)) om0 rfl 26 (by decide) (List.mem_of_getElem? (i := 3) rfl) rfl (v := .ref (ad 21)) rfl dX9_addIssue_114 (q := 117) rfl ?_
                refine vv_aload_n hC 0 dX9_addIssue_117 rfl rfl (q := 118) rfl ?_
                refine vv_get hC hK (K := RX9) (T := TX9) (N := 35) (ci := 9) inwX9_addIssue_X9 0 (by decide) (fs := fldM ad (sS S 0 0)) om0 rfl 25 (by decide) (List.mem_of_getElem? (i := 2) rfl) rfl (v := .int (nI (S.1 25))) rfl dX9_addIssue_118 (q := 121) rfl ?_
                refine vv_iload_n hC 1 dX9_addIssue_121 rfl rfl (q := 122) rfl ?_
                refine vv_iastN (P := PM cI cZ ad (sS S 0 0)) hC hK hW (P1 := PM cI cZ ad (sA (sS S 0 0) 21 (upd (S.2 21) (S.1 25) d))) 21 (by decide) 0 (g := S.2 21) (omI (by decide) rfl) rfl (show S.1 25 < 12 from (by omega)) (by decide) (om_aI (j := 21) (by decide) rfl _) dX9_addIssue_122 (q := 123) rfl ?_
                refine vv_aload_n hC 0 dX9_addIssue_123 rfl rfl (q := 124) rfl ?_
                refine vv_get hC hK (K := RX9) (T := TX9) (N := 35) (ci := 9) inwX9_addIssue_X9 0 (by decide) (fs := fldM ad (sA (sS S 0 0) 21 (upd (S.2 21) (S.1 25) d))) om0 rfl 27 (by decide) (List.mem_of_getElem? (i := 4) rfl) rfl (v := .ref (ad 22)) rfl dX9_addIssue_124 (q := 127) rfl ?_
                refine vv_aload_n hC 0 dX9_addIssue_127 rfl rfl (q := 128) rfl ?_
                refine vv_get hC hK (K := RX9) (T := TX9) (N := 35) (ci := 9) inwX9_addIssue_X9 0 (by decide) (fs := fldM ad (sA (sS S 0 0) 21 (upd (S.2 21) (S.1 25) d))) om0 rfl 25 (by decide) (List.mem_of_getElem? (i := 2) rfl) rfl (v := .int (nI (S.1 25))) rfl dX9_addIssue_128 (q := 131) rfl ?_
                refine vv_iload_n hC 2 dX9_addIssue_131 rfl rfl (q := 132) rfl ?_
                refine vv_iastN (P := PM cI cZ ad (sA (sS S 0 0) 21 (upd (S.2 21) (S.1 25) d))) hC hK hW (P1 := PM cI cZ ad (sA (sA (sS S 0 0) 21 (upd (S.2 21) (S.1 25) d)) 22 (upd (S.2 22) (S.1 25) z))) 22 (by decide) 0 (g := S.2 22) (omI (by decide) rfl) rfl (show S.1 25 < 12 from (by omega)) (by decide) (om_aI (j := 22) (by decide) rfl _) dX9_addIssue_132 (q := 133) rfl ?_
                refine vv_aload_n hC 0 dX9_addIssue_133 rfl rfl (q := 134) rfl ?_
                refine vv_get hC hK (K := RX9) (T := TX9) (N := 35) (ci := 9) inwX9_addIssue_X9 0 (by decide) (fs := fldM ad (sA (sA (sS S 0 0) 21 (upd (S.2 21) (S.1 25) d)) 22 (upd (S.2 22) (S.1 25) z))) om0 rfl 28 (by decide) (List.mem_of_getElem? (i := 5) rfl) rfl (v := .ref (ad 23)) rfl dX9_addIssue_134 (q := 137) rfl ?_
                refine vv_aload_n hC 0 dX9_addIssue_137 rfl rfl (q := 138) rfl ?_
                refine vv_get hC hK (K := RX9) (T := TX9) (N := 35) (ci := 9) inwX9_addIssue_X9 0 (by decide) (fs := fldM ad (sA (sA (sS S 0 0) 21 (upd (S.2 21) (S.1 25) d)) 22 (upd (S.2 22) (S.1 25) z))) om0 rfl 25 (by decide) (List.mem_of_getElem? (i := 2) rfl) rfl (v := .int (nI (S.1 25))) rfl dX9_addIssue_138 (q := 141) rfl ?_
                refine vv_iconst hC (v := (-1)) dX9_addIssue_141 rfl (q := 142) rfl ?_
                refine vv_iastN (P := PM cI cZ ad (sA (sA (sS S 0 0) 21 (upd (S.2 21) (S.1 25) d)) 22 (upd (S.2 22) (S.1 25) z))) hC hK hW (P1 := PM cI cZ ad (sA (sA (sA (sS S 0 0) 21 (upd (S.2 21) (S.1 25) d)) 22 (upd (S.2 22) (S.1 25) z)) 23 (upd (S.2 23) (S.1 25) (-1)))) 23 (by decide) 0 (g := S.2 23) (omI (by decide) rfl) rfl (show S.1 25 < 12 from (by omega)) (by decide) (om_aI (j := 23) (by decide) rfl _) dX9_addIssue_142 (q := 143) rfl ?_
                refine vv_aload_n hC 0 dX9_addIssue_143 rfl rfl (q := 144) rfl ?_
                refine vv_dup hC dX9_addIssue_144 rfl (q := 145) rfl ?_
                refine vv_get hC hK (K := RX9) (T := TX9) (N := 35) (ci := 9) inwX9_addIssue_X9 0 (by decide) (fs := fldM ad (sA (sA (sA (sS S 0 0) 21 (upd (S.2 21) (S.1 25) d)) 22 (upd (S.2 22) (S.1 25) z)) 23 (upd (S.2 23) (S.1 25) (-1)))) om0 rfl 25 (by decide) (List.mem_of_getElem? (i := 2) rfl) rfl (v := .int (nI (S.1 25))) rfl dX9_addIssue_145 (q := 148) rfl ?_
                refine vv_iconst hC (v := nI 1) dX9_addIssue_148 rfl (q := 149) rfl ?_
                refine vv_iaddN hC dX9_addIssue_149 (q := 150) rfl ?_
                refine vv_put hC hK hW (P1 := PM cI cZ ad (sS (sA (sA (sA (sS S 0 0) 21 (upd (S.2 21) (S.1 25) d)) 22 (upd (S.2 22) (S.1 25) z)) 23 (upd (S.2 23) (S.1 25) (-1))) 25 ((S.1 25) + 1))) (K := RX9) (T := TX9) (N := 35) (ci := 9) inwX9_addIssue_X9 tyX9 tyX9_ok nmX9 0 (by decide) (fs := fldM ad (sA (sA (sA (sS S 0 0) 21 (upd (S.2 21) (S.1 25) d)) 22 (upd (S.2 22) (S.1 25) z)) 23 (upd (S.2 23) (S.1 25) (-1)))) om0 rfl (ty := .int) 25 (by decide) (List.mem_of_getElem? (i := 2) rfl) rfl rfl (by decide +kernel) rfl rfl (Nat.le_of_ble_eq_true rfl) (om_s25 _) dX9_addIssue_150 (q := 153) rfl ?_
                refine vv_aload_n hC 0 dX9_addIssue_153 rfl rfl (q := 154) rfl ?_
                refine vv_get hC hK (K := RX9) (T := TX9) (N := 35) (ci := 9) inwX9_addIssue_X9 0 (by decide) (fs := fldM ad (sS (sA (sA (sA (sS S 0 0) 21 (upd (S.2 21) (S.1 25) d)) 22 (upd (S.2 22) (S.1 25) z)) 23 (upd (S.2 23) (S.1 25) (-1))) 25 ((S.1 25) + 1))) om0 rfl 25 (by decide) (List.mem_of_getElem? (i := 2) rfl) rfl (v := .int (nI ((S.1 25) + 1))) rfl dX9_addIssue_154 (q := 157) rfl ?_
                refine vv_iconst hC (v := nI 1) dX9_addIssue_157 rfl (q := 158) rfl ?_
                refine vv_isubN hC (by omega) dX9_addIssue_158 (q := 159) rfl ?_
                have hT : mtIss S d z = 0 := by simp only [mtIss, bI_1 h13, bI_1 h24, h45, h92, bI_0.mp h97, Bool.false_eq_true, true_and, and_true, false_and, and_false, and_self, not_true, not_false_iff, or_true, true_or, or_false, false_or, if_true, if_false, reduceIte]
                exact vv_iret hC hK hr hlk (by rw [if_pos hT]; rfl) (fun f h => by rw [if_pos hT]; exact h) dX9_addIssue_159
              · skip
                refine vv_iconst hC (v := nI 2) dX9_addIssue_100 rfl (q := 101) rfl ?_
                refine vv_goto hC (tgt := 105) dX9_addIssue_101 (by decide) ?_
                refine vv_calli hC hK (fun _ h => h) (As := [.int (nI 2)]) 0 (by decide) or9 rfl (c9_goesWell l hJ S 2 (by decide)) (cwV 1 hC.2.2.2.2 gX9_addIssue_X9_goesWell rfl rfl rfl hdX9_goesWell ⟨Nat.le_of_ble_eq_true rfl, Nat.le_of_ble_eq_true rfl⟩) rfl rfl (Nat.le_of_ble_eq_true rfl) ⟨Nat.le_of_ble_eq_true rfl, Nat.le_of_ble_eq_true rfl⟩ dX9_addIssue_105 (q := 108) rfl ?_
                refine vv_eqv (st' := [.int (nI 0)]) rfl ?_
                refine vv_if_ne hC (tgt := 113) dX9_addIssue_108 (by decide) (q := 111) rfl (fun h => absurd h (by decide)) (fun _ => ?_)
                refine vv_iconst hC (v := nI 0) dX9_addIssue_111 rfl (q := 112) rfl ?_
                have hT : mtIss S d z = 2 := by simp only [mtIss, bI_1 h13, bI_1 h24, h45, h92, bI_1 h97, Bool.false_eq_true, true_and, and_true, false_and, and_false, and_self, not_true, not_false_iff, or_true, true_or, or_false, false_or, if_true, if_false, reduceIte]
                exact vv_iret hC hK hr hlk (by rw [if_neg (by rw [hT]; decide)]; rfl) (fun f h => by rw [if_neg (by rw [hT]; decide)]; rw [hT]; exact h) dX9_addIssue_112
          · skip
            refine vv_iload hC 4 dX9_addIssue_48 rfl (q := 50) rfl ?_
            refine vv_if_ne hC (tgt := 64) dX9_addIssue_50 (by decide) (q := 53) rfl (fun h50 => ?_) (fun h50 => ?_)
            · skip
              refine vv_iconst hC (v := nI 1) dX9_addIssue_64 rfl (q := 65) rfl ?_
              refine vv_goto hC (tgt := 69) dX9_addIssue_65 (by decide) ?_
              refine vv_istore hC (i := 4) (lv' := [(4, .int (nI 1)), (0, .ref (ad 0)), (1, .int d), (2, .int z), (3, .int (nI 1)), (5, .int (nI k))]) dX9_addIssue_69 (by decide) rfl (q := 71) rfl ?_
              refine vv_iinc hC (i := 5) (v := nI (k + 1)) (lv' := [(5, .int (nI (k + 1))), (4, .int (nI 1)), (0, .ref (ad 0)), (1, .int d), (2, .int z), (3, .int (nI 1))]) 5 dX9_addIssue_71 rfl (nI_1 k) (by decide) rfl (q := 74) rfl ?_
              refine vv_goto hC (tgt := 39) dX9_addIssue_74 (by decide) ?_
              refine vv_lv [2, 3, 4, 5, 1, 0] (lv' := [(0, .ref (ad 0)), (1, .int d), (2, .int z), (3, .int (nI 1)), (4, .int (nI 1)), (5, .int (nI (k + 1)))]) rfl ?_
              exact vv_eql (by rw [mTk, bI_1 h50]; rfl) (ih (k + 1) (by omega) (by omega))
            · skip
              refine vv_aload_n hC 0 dX9_addIssue_53 rfl rfl (q := 54) rfl ?_
              refine vv_get hC hK (K := RX9) (T := TX9) (N := 35) (ci := 9) inwX9_addIssue_X9 0 (by decide) (fs := fldM ad S) om0 rfl 26 (by decide) (List.mem_of_getElem? (i := 3) rfl) rfl (v := .ref (ad 21)) rfl dX9_addIssue_54 (q := 57) rfl ?_
              refine vv_iload hC 5 dX9_addIssue_57 rfl (q := 59) rfl ?_
              refine vv_ialdN (P := PM cI cZ ad S) hC hK 21 (by decide) 0 (g := S.2 21) (omI (by decide) rfl) rfl (show k < 12 from (by omega)) (by decide) dX9_addIssue_59 (q := 60) rfl ?_
              refine vv_iload_n hC 1 dX9_addIssue_60 rfl rfl (q := 61) rfl ?_
              refine vv_icmp_ne hC (tgt := 68) dX9_addIssue_61 (by decide) (q := 64) rfl (fun h61 => ?_) (fun h61 => ?_)
              · skip
                refine vv_iconst hC (v := nI 0) dX9_addIssue_68 rfl (q := 69) rfl ?_
                refine vv_istore hC (i := 4) (lv' := [(4, .int (nI 0)), (0, .ref (ad 0)), (1, .int d), (2, .int z), (3, .int (nI 1)), (5, .int (nI k))]) dX9_addIssue_69 (by decide) rfl (q := 71) rfl ?_
                refine vv_iinc hC (i := 5) (v := nI (k + 1)) (lv' := [(5, .int (nI (k + 1))), (4, .int (nI 0)), (0, .ref (ad 0)), (1, .int d), (2, .int z), (3, .int (nI 1))]) 5 dX9_addIssue_71 rfl (nI_1 k) (by decide) rfl (q := 74) rfl ?_
                refine vv_goto hC (tgt := 39) dX9_addIssue_74 (by decide) ?_
                refine vv_lv [2, 3, 4, 5, 1, 0] (lv' := [(0, .ref (ad 0)), (1, .int d), (2, .int z), (3, .int (nI 1)), (4, .int (nI 0)), (5, .int (nI (k + 1)))]) rfl ?_
                exact vv_eql (by rw [mTk, bI_0.mp h50, decide_eq_false h61]; rfl) (ih (k + 1) (by omega) (by omega))
              · skip
                refine vv_iconst hC (v := nI 1) dX9_addIssue_64 rfl (q := 65) rfl ?_
                refine vv_goto hC (tgt := 69) dX9_addIssue_65 (by decide) ?_
                refine vv_istore hC (i := 4) (lv' := [(4, .int (nI 1)), (0, .ref (ad 0)), (1, .int d), (2, .int z), (3, .int (nI 1)), (5, .int (nI k))]) dX9_addIssue_69 (by decide) rfl (q := 71) rfl ?_
                refine vv_iinc hC (i := 5) (v := nI (k + 1)) (lv' := [(5, .int (nI (k + 1))), (4, .int (nI 1)), (0, .ref (ad 0)), (1, .int d), (2, .int z), (3, .int (nI 1))]) 5 dX9_addIssue_71 rfl (nI_1 k) (by decide) rfl (q := 74) rfl ?_
                refine vv_goto hC (tgt := 39) dX9_addIssue_74 (by decide) ?_
                refine vv_lv [2, 3, 4, 5, 1, 0] (lv' := [(0, .ref (ad 0)), (1, .int d), (2, .int z), (3, .int (nI 1)), (4, .int (nI 1)), (5, .int (nI (k + 1)))]) rfl ?_
                exact vv_eql (by rw [mTk, decide_eq_true h61, Bool.or_true]; rfl) (ih (k + 1) (by omega) (by omega))
      refine vv_lv [3, 4, 5, 2, 1, 0] (lv' := [(0, .ref (ad 0)), (1, .int d), (2, .int z), (3, .int (nI 1)), (4, .int (nI 0)), (5, .int (nI 0))]) rfl ?_
      exact loop39 13 0 (by omega) (Nat.zero_le _)
