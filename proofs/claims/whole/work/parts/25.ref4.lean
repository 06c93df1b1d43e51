/-! the reference: merge, the text -/
theorem inwX9_merge_X9 : ∀ w ∈ wsX90, w ∈ wsX9_merge := fun _ h => List.mem_cons_of_mem _ (List.mem_append_right _ h)
theorem hdX9_merge : yX9_merge.cls = RX9 ∧ yX9_merge.cls ≠ "java/lang/invoke/MethodHandle" ∧ yX9_merge.cls ≠ "java/lang/invoke/VarHandle" ∧ (parseMethodDescriptor yX9_merge.desc).map (fun d => d.parameters.length) = some 1 := by decide +kernel
set_option maxRecDepth 100000 in
set_option maxHeartbeats 4000000 in
theorem c9_merge (l : Launch) {D : va_G} {cI cW cZ cL : ClassId} {ad : Nat → Nat} (hJ : injA ad 27) (S : sM) (w : Int32) (hI : IM S) (hM : inB w 0 5 = true → mOk S (tn w))  : kMi l yX9_merge wsX9_merge ({ frames := 2, cells := 0, slots := 0, locals := 49 }) D vwCl (tyL cI cW cZ cL) ad 27 [.ref (ad 0), .int w] (PM cI cZ ad S) (if mtW w = 0 then nI (mMrg S (tn w) (tn (S.2 10 (tn w)))).2 else 0) (PM cI cZ ad (if mtW w = 0 then msMrg S (tn w) else sS S 0 (mtW w))) := by
  refine vv_enter (cc := cX9_merge) (maxL := 6) (ret := (some .int)) (own := RX9) (lv := [(0, .ref (ad 0)), (1, .int w)]) (by decide +kernel) rfl rfl hJ (Nat.le_of_ble_eq_true rfl) rfl ?_
  intro p e s m args below meth c hC hK hW hr hlk
  obtain ⟨iW, iR, iV, iI, iC, iK, iD, irow, ianc, iwr, icl, icc, irv⟩ := id hI
  refine vv_aload_n hC 0 dX9_merge_0 rfl rfl (q := 1) rfl ?_
  refine vv_iload_n hC 1 dX9_merge_1 rfl rfl (q := 2) rfl ?_
  refine vv_callsi hC hK (fun _ h => h) (As := [.int w]) (c9_isWriter l hJ S w) (va_cwS 1 hC.2.2.2.2 gX9_merge_X9_isWriter rfl rfl rfl hsX9_isWriter ⟨Nat.le_of_ble_eq_true rfl, Nat.le_of_ble_eq_true rfl⟩) rfl rfl (Nat.le_of_ble_eq_true rfl) ⟨Nat.le_of_ble_eq_true rfl, Nat.le_of_ble_eq_true rfl⟩ dX9_merge_2 (q := 5) rfl ?_
  refine vv_if_eq hC (tgt := 12) dX9_merge_5 (by decide) (q := 8) rfl (fun h5 => ?_) (fun h5 => ?_)
  · skip
    refine vv_iconst hC (v := nI 1) dX9_merge_12 rfl (q := 13) rfl ?_
    refine vv_calli hC hK (fun _ h => h) (As := [.int (nI 1)]) 0 (by decide) or9 rfl (c9_goesWell l hJ S 1 (by decide)) (cwV 1 hC.2.2.2.2 gX9_merge_X9_goesWell rfl rfl rfl hdX9_goesWell ⟨Nat.le_of_ble_eq_true rfl, Nat.le_of_ble_eq_true rfl⟩) rfl rfl (Nat.le_of_ble_eq_true rfl) ⟨Nat.le_of_ble_eq_true rfl, Nat.le_of_ble_eq_true rfl⟩ dX9_merge_13 (q := 16) rfl ?_
    refine vv_eqv (st' := [.int (nI 0)]) rfl ?_
    refine vv_if_ne hC (tgt := 21) dX9_merge_16 (by decide) (q := 19) rfl (fun h => absurd h (by decide)) (fun _ => ?_)
    refine vv_iconst hC (v := nI 0) dX9_merge_19 rfl (q := 20) rfl ?_
    have hT : mtW w = 1 := by simp only [mtW, bI_0.mp h5, Bool.false_eq_true, true_and, and_true, false_and, and_false, and_self, not_true, not_false_iff, if_true, if_false, reduceIte]
    exact vv_iret hC hK hr hlk (by rw [if_neg (by rw [hT]; decide)]; rfl) (fun f h => by rw [if_neg (by rw [hT]; decide)]; rw [hT]; exact h) dX9_merge_20
  · skip
    refine vv_iconst hC (v := nI 0) dX9_merge_8 rfl (q := 9) rfl ?_
    refine vv_goto hC (tgt := 13) dX9_merge_9 (by decide) ?_
    refine vv_calli hC hK (fun _ h => h) (As := [.int (nI 0)]) 0 (by decide) or9 rfl (c9_goesWell l hJ S 0 (by decide)) (cwV 1 hC.2.2.2.2 gX9_merge_X9_goesWell rfl rfl rfl hdX9_goesWell ⟨Nat.le_of_ble_eq_true rfl, Nat.le_of_ble_eq_true rfl⟩) rfl rfl (Nat.le_of_ble_eq_true rfl) ⟨Nat.le_of_ble_eq_true rfl, Nat.le_of_ble_eq_true rfl⟩ dX9_merge_13 (q := 16) rfl ?_
    refine vv_eqv (st' := [.int (nI 1)]) rfl ?_
    refine vv_if_ne hC (tgt := 21) dX9_merge_16 (by decide) (q := 19) rfl (fun _ => ?_) (fun h => absurd h (by decide))
    have hM := hM (bI_1 h5)
    obtain ⟨hwn, hw5⟩ := inB_n (b := 5) (by decide) (bI_1 h5)
    refine vv_eql (lv' := [(0, .ref (ad 0)), (1, .int (nI (tn w)))]) (by rw [← hwn]) ?_
    refine vv_iconst hC (v := nI 0) dX9_merge_21 rfl (q := 22) rfl ?_
    refine vv_istore_n hC (i := 2) (lv' := [(2, .int (nI 0)), (0, .ref (ad 0)), (1, .int (nI (tn w)))]) dX9_merge_22 rfl (by decide) rfl (q := 23) rfl ?_
    refine vv_iconst hC (v := nI 0) dX9_merge_23 rfl (q := 24) rfl ?_
    refine vv_istore_n hC (i := 3) (lv' := [(3, .int (nI 0)), (2, .int (nI 0)), (0, .ref (ad 0)), (1, .int (nI (tn w)))]) dX9_merge_24 rfl (by decide) rfl (q := 25) rfl ?_
    have loop25 : ∀ (fu : Nat) (k : Nat), tn (S.2 10 (tn w)) < k + fu → k ≤ tn (S.2 10 (tn w)) → vv p l e (headSpec wsX9_merge ({ frames := 2, cells := 0, slots := 0, locals := 49 })).room s m args below meth c 6 (RA ad 27) s.heap 0 0 (MQ below (va_Qi (fun r' (_ : Unit) => r' = (if mtW w = 0 then nI (mMrg S (tn w) (tn (S.2 10 (tn w)))).2 else 0)) (fun _ => ws0 D vwCl (tyL cI cW cZ cL) ad 27 (PM cI cZ ad (if mtW w = 0 then msMrg S (tn w) else sS S 0 (mtW w)))) (RA ad 27)) args s 0 0 (RA ad 27)) (wq D vwCl ad 27 (PM cI cZ ad ((mMrg S (tn w) k).1))) 25 [(0, .ref (ad 0)), (1, .int (nI (tn w))), (2, .int (nI ((mMrg S (tn w) k).2))), (3, .int (nI k))] [] := by
      intro fu
      induction fu with
      | zero =>
        intro k hfu hk
        exact absurd hfu (by omega)
      | succ fu ih =>
        intro k hfu hk
        have hcc := (icc (tn w) (by omega)).2
        have hkm : (mMrg S (tn w) k).2 ≤ k := mMrg_le S (tn w) k
        refine vv_iload_n hC 3 dX9_merge_25 rfl rfl (q := 26) rfl ?_
        refine vv_aload_n hC 0 dX9_merge_26 rfl rfl (q := 27) rfl ?_
        refine vv_get hC hK (K := RX9) (T := TX9) (N := 35) (ci := 9) inwX9_merge_X9 0 (by decide) (fs := fldM ad ((mMrg S (tn w) k).1)) om0 rfl 12 (by decide) (List.mem_of_getElem? (i := 1) rfl) rfl (v := .ref (ad 10)) rfl dX9_merge_27 (q := 30) rfl ?_
        refine vv_iload_n hC 1 dX9_merge_30 rfl rfl (q := 31) rfl ?_
        refine vv_ialdN (P := PM cI cZ ad ((mMrg S (tn w) k).1)) hC hK 10 (by decide) 0 (g := (mMrg S (tn w) k).1.2 10) (omI (by decide) rfl) rfl (show tn w < 6 from (by omega)) (by decide) dX9_merge_31 (q := 32) rfl ?_
        refine vv_eqv (st' := [.int (nI (tn (S.2 10 (tn w)))), .int (nI k)]) (by rw [show ((mMrg S (tn w) k).1.2 10) (tn w) = S.2 10 (tn w) by rw [(mMrg_11 S (tn w) k).2], ← (icc _ (by omega)).1]) ?_
        refine vv_icmpN_ge hC (tgt := 95) (by omega) (by omega) dX9_merge_32 (by decide) (q := 35) rfl (fun h32 => ?_) (fun h32 => ?_)
        · skip
          obtain rfl : k = tn (S.2 10 (tn w)) := by omega
          have hIT := hM.1 _ (Nat.le_refl _)
          obtain ⟨T, hTe⟩ : ∃ T, T = (mMrg S (tn w) (tn (S.2 10 (tn w)))).1 := ⟨_, rfl⟩
          rw [← hTe] at hIT
          obtain ⟨jW, jR, jV, jI, jC, jK, jD, jrow, janc, jwr, jcl, jcc, jrv⟩ := id hIT
          refine vv_wq (P1 := PM cI cZ ad T) (fun f h => by rw [hTe]; exact h) ?_
          refine vv_aload_n hC 0 dX9_merge_95 rfl rfl (q := 96) rfl ?_
          refine vv_get hC hK (K := RX9) (T := TX9) (N := 35) (ci := 9) inwX9_merge_X9 0 (by decide) (fs := fldM ad T) om0 rfl 12 (by decide) (List.mem_of_getElem? (i := 1) rfl) rfl (v := .ref (ad 10)) rfl dX9_merge_96 (q := 99) rfl ?_
          refine vv_iload_n hC 1 dX9_merge_99 rfl rfl (q := 100) rfl ?_
          refine vv_iconst hC (v := nI 0) dX9_merge_100 rfl (q := 101) rfl ?_
          refine vv_iastN (P := PM cI cZ ad T) hC hK hW (P1 := PM cI cZ ad (sA T 10 (upd (T.2 10) (tn w) (nI 0)))) 10 (by decide) 0 (g := T.2 10) (omI (by decide) rfl) rfl (show tn w < 6 from (by omega)) (by decide) (om_aI (j := 10) (by decide) rfl _) dX9_merge_101 (q := 102) rfl ?_
          refine vv_aload_n hC 0 dX9_merge_102 rfl rfl (q := 103) rfl ?_
          refine vv_get hC hK (K := RX9) (T := TX9) (N := 35) (ci := 9) inwX9_merge_X9 0 (by decide) (fs := fldM ad (sA T 10 (upd (T.2 10) (tn w) (nI 0)))) om0 rfl 10 (by decide) (List.mem_of_getElem? (i := 3) rfl) rfl (v := .ref (ad 8)) rfl dX9_merge_103 (q := 106) rfl ?_
          refine vv_iload_n hC 1 dX9_merge_106 rfl rfl (q := 107) rfl ?_
          refine vv_iconst hC (v := nI 0) dX9_merge_107 rfl (q := 108) rfl ?_
          refine vv_iastN (P := PM cI cZ ad (sA T 10 (upd (T.2 10) (tn w) (nI 0)))) hC hK hW (P1 := PM cI cZ ad (sA (sA T 10 (upd (T.2 10) (tn w) (nI 0))) 8 (upd (T.2 8) (tn w) (nI 0)))) 8 (by decide) 0 (g := T.2 8) (omI (by decide) rfl) rfl (show tn w < 6 from (by omega)) (by decide) (om_aI (j := 8) (by decide) rfl _) dX9_merge_108 (q := 109) rfl ?_
          refine vv_iconst hC (v := nI 0) dX9_merge_109 rfl (q := 110) rfl ?_
          refine vv_istore_n hC (i := 3) (lv' := [(3, .int (nI 0)), (0, .ref (ad 0)), (1, .int (nI (tn w))), (2, .int (nI ((mMrg S (tn w) (tn (S.2 10 (tn w)))).2)))]) dX9_merge_110 rfl (by decide) rfl (q := 111) rfl ?_
          have loop111 : ∀ (fu : Nat) (k2 : Nat), T.1 8 < k2 + fu → k2 ≤ T.1 8 → vv p l e (headSpec wsX9_merge ({ frames := 2, cells := 0, slots := 0, locals := 49 })).room s m args below meth c 6 (RA ad 27) s.heap 0 0 (MQ below (va_Qi (fun r' (_ : Unit) => r' = (if mtW w = 0 then nI (mMrg S (tn w) (tn (S.2 10 (tn w)))).2 else 0)) (fun _ => ws0 D vwCl (tyL cI cW cZ cL) ad 27 (PM cI cZ ad (if mtW w = 0 then msMrg S (tn w) else sS S 0 (mtW w)))) (RA ad 27)) args s 0 0 (RA ad 27)) (wq D vwCl ad 27 (PM cI cZ ad (sA (sA (sA T 10 (upd (T.2 10) (tn w) (nI 0))) 9 ((mCpF T (tn w) k2).1)) 8 (upd (T.2 8) (tn w) (nI (mCpF T (tn w) k2).2))))) 111 [(0, .ref (ad 0)), (1, .int (nI (tn w))), (2, .int (nI ((mMrg S (tn w) (tn (S.2 10 (tn w)))).2))), (3, .int (nI k2))] [] := by
            intro fu
            induction fu with
            | zero =>
              intro k2 hfu hk
              exact absurd hfu (by omega)
            | succ fu ih =>
              intro k2 hfu hk
              refine vv_iload_n hC 3 dX9_merge_111 rfl rfl (q := 112) rfl ?_
              refine vv_aload_n hC 0 dX9_merge_112 rfl rfl (q := 113) rfl ?_
              refine vv_get hC hK (K := RX9) (T := TX9) (N := 35) (ci := 9) inwX9_merge_X9 0 (by decide) (fs := fldM ad (sA (sA (sA T 10 (upd (T.2 10) (tn w) (nI 0))) 9 ((mCpF T (tn w) k2).1)) 8 (upd (T.2 8) (tn w) (nI (mCpF T (tn w) k2).2)))) om0 rfl 8 (by decide) (List.mem_of_getElem? (i := 4) rfl) rfl (v := .int (nI (T.1 8))) rfl dX9_merge_113 (q := 116) rfl ?_
              refine vv_icmpN_ge hC (tgt := 172) (by omega) (by omega) dX9_merge_116 (by decide) (q := 119) rfl (fun h116 => ?_) (fun h116 => ?_)
              · skip
                refine vv_iload_n hC 2 dX9_merge_172 rfl rfl (q := 173) rfl ?_
                have hT : mtW w = 0 := by simp only [mtW, bI_1 h5, h32, h116, Bool.false_eq_true, true_and, and_true, false_and, and_false, and_self, not_true, not_false_iff, if_true, if_false, reduceIte]
                exact vv_iret hC hK hr hlk (by rw [if_pos hT]) (fun f h => by rw [if_pos hT]; rw [msMrg, mFill, ← hTe]; obtain rfl : k2 = T.1 8 := (by omega); exact h) dX9_merge_173
              · skip
                refine vv_aload_n hC 0 dX9_merge_119 rfl rfl (q := 120) rfl ?_
                refine vv_get hC hK (K := RX9) (T := TX9) (N := 35) (ci := 9) inwX9_merge_X9 0 (by decide) (fs := fldM ad (sA (sA (sA T 10 (upd (T.2 10) (tn w) (nI 0))) 9 ((mCpF T (tn w) k2).1)) 8 (upd (T.2 8) (tn w) (nI (mCpF T (tn w) k2).2)))) om0 rfl 6 (by decide) (List.mem_of_getElem? (i := 5) rfl) rfl (v := .ref (ad 5)) rfl dX9_merge_120 (q := 123) rfl ?_
                refine vv_aload_n hC 0 dX9_merge_123 rfl rfl (q := 124) rfl ?_
                refine vv_get hC hK (K := RX9) (T := TX9) (N := 35) (ci := 9) inwX9_merge_X9 0 (by decide) (fs := fldM ad (sA (sA (sA T 10 (upd (T.2 10) (tn w) (nI 0))) 9 ((mCpF T (tn w) k2).1)) 8 (upd (T.2 8) (tn w) (nI (mCpF T (tn w) k2).2)))) om0 rfl 9 (by decide) (List.mem_of_getElem? (i := 6) rfl) rfl (v := .ref (ad 7)) rfl dX9_merge_124 (q := 127) rfl ?_
                refine vv_iload_n hC 3 dX9_merge_127 rfl rfl (q := 128) rfl ?_
                refine vv_ialdN (P := PM cI cZ ad (sA (sA (sA T 10 (upd (T.2 10) (tn w) (nI 0))) 9 ((mCpF T (tn w) k2).1)) 8 (upd (T.2 8) (tn w) (nI (mCpF T (tn w) k2).2)))) hC hK 7 (by decide) 0 (g := T.2 7) (omI (by decide) rfl) rfl (show k2 < 300 from (by omega)) (by decide) dX9_merge_128 (q := 129) rfl ?_
                refine vv_eqv (st' := [.int (nI (tn (T.2 7 k2))), .ref (ad 5)]) (by rw [← (jrow k2 (by omega)).1]) ?_
                refine vv_zaldN (P := PM cI cZ ad (sA (sA (sA T 10 (upd (T.2 10) (tn w) (nI 0))) 9 ((mCpF T (tn w) k2).1)) 8 (upd (T.2 8) (tn w) (nI (mCpF T (tn w) k2).2)))) hC hK 5 (by decide) 2 (g := T.2 5) (omZ (by decide) rfl) rfl (show tn (T.2 7 k2) < 300 from (by have := (jrow k2 (by omega)).2; omega)) (by decide) dX9_merge_129 (q := 130) rfl ?_
                refine vv_if_eq hC (tgt := 166) dX9_merge_130 (by decide) (q := 133) rfl (fun h130 => ?_) (fun h130 => ?_)
                · skip
                  refine vv_iinc hC (i := 3) (v := nI (k2 + 1)) (lv' := [(3, .int (nI (k2 + 1))), (0, .ref (ad 0)), (1, .int (nI (tn w))), (2, .int (nI ((mMrg S (tn w) (tn (S.2 10 (tn w)))).2)))]) 3 dX9_merge_166 rfl (nI_1 k2) (by decide) rfl (q := 169) rfl ?_
                  refine vv_goto hC (tgt := 111) dX9_merge_169 (by decide) ?_
                  refine vv_lv [1, 2, 3, 0] (lv' := [(0, .ref (ad 0)), (1, .int (nI (tn w))), (2, .int (nI ((mMrg S (tn w) (tn (S.2 10 (tn w)))).2))), (3, .int (nI (k2 + 1)))]) rfl ?_
                  refine vv_wq (P1 := PM cI cZ ad (sA (sA (sA T 10 (upd (T.2 10) (tn w) (nI 0))) 9 ((mCpF T (tn w) (k2 + 1)).1)) 8 (upd (T.2 8) (tn w) (nI (mCpF T (tn w) (k2 + 1)).2)))) (fun f h => by rw [mCpF, if_pos h130]; exact h) ?_
                  exact ih (k2 + 1) (by omega) (by omega)
                · skip
                  refine vv_aload_n hC 0 dX9_merge_133 rfl rfl (q := 134) rfl ?_
                  refine vv_get hC hK (K := RX9) (T := TX9) (N := 35) (ci := 9) inwX9_merge_X9 0 (by decide) (fs := fldM ad (sA (sA (sA T 10 (upd (T.2 10) (tn w) (nI 0))) 9 ((mCpF T (tn w) k2).1)) 8 (upd (T.2 8) (tn w) (nI (mCpF T (tn w) k2).2)))) om0 rfl 11 (by decide) (List.mem_of_getElem? (i := 7) rfl) rfl (v := .ref (ad 9)) rfl dX9_merge_134 (q := 137) rfl ?_
                  refine vv_sipush hC (v := nI 300) dX9_merge_137 rfl (q := 140) rfl ?_
                  refine vv_iload_n hC 1 dX9_merge_140 rfl rfl (q := 141) rfl ?_
                  refine vv_imulN hC dX9_merge_141 (q := 142) rfl ?_
                  refine vv_aload_n hC 0 dX9_merge_142 rfl rfl (q := 143) rfl ?_
                  refine vv_get hC hK (K := RX9) (T := TX9) (N := 35) (ci := 9) inwX9_merge_X9 0 (by decide) (fs := fldM ad (sA (sA (sA T 10 (upd (T.2 10) (tn w) (nI 0))) 9 ((mCpF T (tn w) k2).1)) 8 (upd (T.2 8) (tn w) (nI (mCpF T (tn w) k2).2)))) om0 rfl 10 (by decide) (List.mem_of_getElem? (i := 3) rfl) rfl (v := .ref (ad 8)) rfl dX9_merge_143 (q := 146) rfl ?_
                  refine vv_iload_n hC 1 dX9_merge_146 rfl rfl (q := 147) rfl ?_
                  refine vv_ialdN (P := PM cI cZ ad (sA (sA (sA T 10 (upd (T.2 10) (tn w) (nI 0))) 9 ((mCpF T (tn w) k2).1)) 8 (upd (T.2 8) (tn w) (nI (mCpF T (tn w) k2).2)))) hC hK 8 (by decide) 0 (g := upd (T.2 8) (tn w) (nI (mCpF T (tn w) k2).2)) (omI (by decide) rfl) rfl (show tn w < 6 from (by omega)) (by decide) dX9_merge_147 (q := 148) rfl ?_
                  refine vv_eqv (st' := [.int (nI ((mCpF T (tn w) k2).2)), .int (nI (300 * (tn w))), .ref (ad 9)]) (by simp [upd]) ?_
                  refine vv_iaddN hC dX9_merge_148 (q := 149) rfl ?_
                  refine vv_aload_n hC 0 dX9_merge_149 rfl rfl (q := 150) rfl ?_
                  refine vv_get hC hK (K := RX9) (T := TX9) (N := 35) (ci := 9) inwX9_merge_X9 0 (by decide) (fs := fldM ad (sA (sA (sA T 10 (upd (T.2 10) (tn w) (nI 0))) 9 ((mCpF T (tn w) k2).1)) 8 (upd (T.2 8) (tn w) (nI (mCpF T (tn w) k2).2)))) om0 rfl 9 (by decide) (List.mem_of_getElem? (i := 6) rfl) rfl (v := .ref (ad 7)) rfl dX9_merge_150 (q := 153) rfl ?_
                  refine vv_iload_n hC 3 dX9_merge_153 rfl rfl (q := 154) rfl ?_
                  refine vv_ialdN (P := PM cI cZ ad (sA (sA (sA T 10 (upd (T.2 10) (tn w) (nI 0))) 9 ((mCpF T (tn w) k2).1)) 8 (upd (T.2 8) (tn w) (nI (mCpF T (tn w) k2).2)))) hC hK 7 (by decide) 0 (g := T.2 7) (omI (by decide) rfl) rfl (show k2 < 300 from (by omega)) (by decide) dX9_merge_154 (q := 155) rfl ?_
                  refine vv_eqv (st' := [.int (nI (tn (T.2 7 k2))), .int (nI ((300 * (tn w)) + ((mCpF T (tn w) k2).2))), .ref (ad 9)]) (by rw [← (jrow k2 (by omega)).1]) ?_
                  refine vv_iastN (P := PM cI cZ ad (sA (sA (sA T 10 (upd (T.2 10) (tn w) (nI 0))) 9 ((mCpF T (tn w) k2).1)) 8 (upd (T.2 8) (tn w) (nI (mCpF T (tn w) k2).2)))) hC hK hW (P1 := PM cI cZ ad (sA (sA (sA (sA T 10 (upd (T.2 10) (tn w) (nI 0))) 9 ((mCpF T (tn w) k2).1)) 8 (upd (T.2 8) (tn w) (nI (mCpF T (tn w) k2).2))) 9 (upd ((mCpF T (tn w) k2).1) ((300 * (tn w)) + ((mCpF T (tn w) k2).2)) (nI (tn (T.2 7 k2)))))) 9 (by decide) 0 (g := (mCpF T (tn w) k2).1) (omI (by decide) rfl) rfl (show (300 * (tn w)) + ((mCpF T (tn w) k2).2) < 1800 from (by have := mCpF_le T (tn w) k2; omega)) (by decide) (om_aI (j := 9) (by decide) rfl _) dX9_merge_155 (q := 156) rfl ?_
                  refine vv_aload_n hC 0 dX9_merge_156 rfl rfl (q := 157) rfl ?_
                  refine vv_get hC hK (K := RX9) (T := TX9) (N := 35) (ci := 9) inwX9_merge_X9 0 (by decide) (fs := fldM ad (sA (sA (sA (sA T 10 (upd (T.2 10) (tn w) (nI 0))) 9 ((mCpF T (tn w) k2).1)) 8 (upd (T.2 8) (tn w) (nI (mCpF T (tn w) k2).2))) 9 (upd ((mCpF T (tn w) k2).1) ((300 * (tn w)) + ((mCpF T (tn w) k2).2)) (nI (tn (T.2 7 k2)))))) om0 rfl 10 (by decide) (List.mem_of_getElem? (i := 3) rfl) rfl (v := .ref (ad 8)) rfl dX9_merge_157 (q := 160) rfl ?_
                  refine vv_iload_n hC 1 dX9_merge_160 rfl rfl (q := 161) rfl ?_
                  refine vv_dup2 hC dX9_merge_161 rfl rfl (q := 162) rfl ?_
                  refine vv_ialdN (P := PM cI cZ ad (sA (sA (sA (sA T 10 (upd (T.2 10) (tn w) (nI 0))) 9 ((mCpF T (tn w) k2).1)) 8 (upd (T.2 8) (tn w) (nI (mCpF T (tn w) k2).2))) 9 (upd ((mCpF T (tn w) k2).1) ((300 * (tn w)) + ((mCpF T (tn w) k2).2)) (nI (tn (T.2 7 k2)))))) hC hK 8 (by decide) 0 (g := upd (T.2 8) (tn w) (nI (mCpF T (tn w) k2).2)) (omI (by decide) rfl) rfl (show tn w < 6 from (by omega)) (by decide) dX9_merge_162 (q := 163) rfl ?_
                  refine vv_eqv (st' := [.int (nI ((mCpF T (tn w) k2).2)), .int (nI (tn w)), .ref (ad 8)]) (by simp [upd]) ?_
                  refine vv_iconst hC (v := nI 1) dX9_merge_163 rfl (q := 164) rfl ?_
                  refine vv_iaddN hC dX9_merge_164 (q := 165) rfl ?_
                  refine vv_iastN (P := PM cI cZ ad (sA (sA (sA (sA T 10 (upd (T.2 10) (tn w) (nI 0))) 9 ((mCpF T (tn w) k2).1)) 8 (upd (T.2 8) (tn w) (nI (mCpF T (tn w) k2).2))) 9 (upd ((mCpF T (tn w) k2).1) ((300 * (tn w)) + ((mCpF T (tn w) k2).2)) (nI (tn (T.2 7 k2)))))) hC hK hW (P1 := PM cI cZ ad (sA (sA (sA (sA (sA T 10 (upd (T.2 10) (tn w) (nI 0))) 9 ((mCpF T (tn w) k2).1)) 8 (upd (T.2 8) (tn w) (nI (mCpF T (tn w) k2).2))) 9 (upd ((mCpF T (tn w) k2).1) ((300 * (tn w)) + ((mCpF T (tn w) k2).2)) (nI (tn (T.2 7 k2))))) 8 (upd (upd (T.2 8) (tn w) (nI (mCpF T (tn w) k2).2)) (tn w) (nI (((mCpF T (tn w) k2).2) + 1))))) 8 (by decide) 0 (g := upd (T.2 8) (tn w) (nI (mCpF T (tn w) k2).2)) (omI (by decide) rfl) rfl (show tn w < 6 from (by omega)) (by decide) (om_aI (j := 8) (by decide) rfl _) dX9_merge_165 (q := 166) rfl ?_
                  refine vv_iinc hC (i := 3) (v := nI (k2 + 1)) (lv' := [(3, .int (nI (k2 + 1))), (0, .ref (ad 0)), (1, .int (nI (tn w))), (2, .int (nI ((mMrg S (tn w) (tn (S.2 10 (tn w)))).2)))]) 3 dX9_merge_166 rfl (nI_1 k2) (by decide) rfl (q := 169) rfl ?_
                  refine vv_goto hC (tgt := 111) dX9_merge_169 (by decide) ?_
                  refine vv_lv [1, 2, 3, 0] (lv' := [(0, .ref (ad 0)), (1, .int (nI (tn w))), (2, .int (nI ((mMrg S (tn w) (tn (S.2 10 (tn w)))).2))), (3, .int (nI (k2 + 1)))]) rfl ?_
                  refine vv_wq (P1 := PM cI cZ ad (sA (sA (sA T 10 (upd (T.2 10) (tn w) (nI 0))) 9 ((mCpF T (tn w) (k2 + 1)).1)) 8 (upd (T.2 8) (tn w) (nI (mCpF T (tn w) (k2 + 1)).2)))) (fun f h => by rw [mCpF, if_neg h130]; rw [sA4 (by decide), ← (jrow _ (by omega)).1] at h; rw [show upd (T.2 8) (tn w) (nI ((mCpF T (tn w) k2).2 + 1)) = upd (upd (T.2 8) (tn w) (nI (mCpF T (tn w) k2).2)) (tn w) (nI ((mCpF T (tn w) k2).2 + 1)) from (funext fun j => by by_cases e : j = tn w <;> simp [upd, e])]; exact h) ?_
                  exact ih (k2 + 1) (by omega) (by omega)
          refine vv_lv [1, 2, 3, 0] (lv' := [(0, .ref (ad 0)), (1, .int (nI (tn w))), (2, .int (nI ((mMrg S (tn w) (tn (S.2 10 (tn w)))).2))), (3, .int (nI 0))]) rfl ?_
          refine vv_wq (P1 := PM cI cZ ad (sA (sA (sA T 10 (upd (T.2 10) (tn w) (nI 0))) 9 ((mCpF T (tn w) 0).1)) 8 (upd (T.2 8) (tn w) (nI (mCpF T (tn w) 0).2)))) (fun f h => by rw [show (mCpF T (tn w) 0).1 = (sA T 10 (upd (T.2 10) (tn w) (nI 0))).2 9 from rfl, sA_id]; exact h) ?_
          exact loop111 301 0 (by omega) (Nat.zero_le _)
        · skip
          have hkC : k < tn (S.2 10 (tn w)) := by omega
          have hIT := hM.1 k (by omega)
          have hch := hM.2 k hkC
          have e11 := (mMrg_11 S (tn w) k).1
          obtain ⟨T, hTe⟩ : ∃ T, T = (mMrg S (tn w) k).1 := ⟨_, rfl⟩
          rw [← hTe] at hIT hch e11
          rw [← e11] at hch
          refine vv_wq (P1 := PM cI cZ ad T) (fun f h => by rw [hTe]; exact h) ?_
          refine vv_aload_n hC 0 dX9_merge_35 rfl rfl (q := 36) rfl ?_
          refine vv_get hC hK (K := RX9) (T := TX9) (N := 35) (ci := 9) inwX9_merge_X9 0 (by decide) (fs := fldM ad T) om0 rfl 13 (by decide) (List.mem_of_getElem? (i := 2) rfl) rfl (v := .ref (ad 11)) rfl dX9_merge_36 (q := 39) rfl ?_
          refine vv_sipush hC (v := nI 700) dX9_merge_39 rfl (q := 42) rfl ?_
          refine vv_iload_n hC 1 dX9_merge_42 rfl rfl (q := 43) rfl ?_
          refine vv_imulN hC dX9_merge_43 (q := 44) rfl ?_
          refine vv_iload_n hC 3 dX9_merge_44 rfl rfl (q := 45) rfl ?_
          refine vv_iaddN hC dX9_merge_45 (q := 46) rfl ?_
          refine vv_ialdN (P := PM cI cZ ad T) hC hK 11 (by decide) 0 (g := T.2 11) (omI (by decide) rfl) rfl (show (700 * (tn w)) + k < 4200 from (by have := (icc (tn w) (by omega)).2; omega)) (by decide) dX9_merge_46 (q := 47) rfl ?_
          refine vv_istore hC (i := 4) (lv' := [(4, .int (T.2 11 ((700 * (tn w)) + k))), (0, .ref (ad 0)), (1, .int (nI (tn w))), (2, .int (nI ((mMrg S (tn w) k).2))), (3, .int (nI k))]) dX9_merge_47 (by decide) rfl (q := 49) rfl ?_
          refine vv_iload hC 0 dX9_merge_49 rfl (q := 51) rfl ?_
          refine vv_if_le hC (tgt := 65) dX9_merge_51 (by decide) (q := 54) rfl (fun h51 => ?_) (fun h51 => ?_)
          · skip
            refine vv_aload_n hC 1 dX9_merge_65 rfl rfl (q := 66) rfl ?_
            refine vv_iload hC 0 dX9_merge_66 rfl (q := 68) rfl ?_
            refine vv_ineg hC dX9_merge_68 (q := 69) rfl ?_
            refine vv_iconst hC (v := nI 1) dX9_merge_69 rfl (q := 70) rfl ?_
            refine vv_isub hC dX9_merge_70 (q := 71) rfl ?_
            obtain ⟨en, ln⟩ := hch.1 h51
            refine vv_eqv (st' := [.int (nI (tn (-(T.2 11 (700 * tn w + k)) - nI 1))), .ref (ad 0)]) (by rw [← en]) ?_
            refine vv_calli hC hK (fun _ h => h) (As := [.int (nI (tn (-(T.2 11 (700 * tn w + k)) - nI 1)))]) 0 (by decide) or9 rfl (c9_takeOut l hJ T (tn (-(T.2 11 (700 * tn w + k)) - nI 1)) hIT ln) (cwV 1 hC.2.2.2.2 gX9_merge_X9_takeOut rfl rfl rfl hdX9_takeOut ⟨Nat.le_of_ble_eq_true rfl, Nat.le_of_ble_eq_true rfl⟩) rfl rfl (Nat.le_of_ble_eq_true rfl) ⟨Nat.le_of_ble_eq_true rfl, Nat.le_of_ble_eq_true rfl⟩ dX9_merge_71 (q := 74) rfl ?_
            refine vv_istore hC (i := 5) (lv' := [(5, .int (bI (decide (T.2 5 (tn (-(T.2 11 (700 * tn w + k)) - nI 1)) = 0) || decide (T.2 6 (tn (-(T.2 11 (700 * tn w + k)) - nI 1)) = -1)))), (4, .int (T.2 11 ((700 * (tn w)) + k))), (0, .ref (ad 0)), (1, .int (nI (tn w))), (2, .int (nI ((mMrg S (tn w) k).2))), (3, .int (nI k))]) dX9_merge_74 (by decide) rfl (q := 76) rfl ?_
            refine vv_iload_n hC 4 dX9_merge_76 rfl rfl (q := 77) rfl ?_
            refine vv_iload hC 0 dX9_merge_77 rfl (q := 79) rfl ?_
            refine vv_if_eq hC (tgt := 86) dX9_merge_79 (by decide) (q := 82) rfl (fun h79 => ?_) (fun h79 => ?_)
            · skip
              refine vv_iconst hC (v := nI 1) dX9_merge_86 rfl (q := 87) rfl ?_
              refine vv_iaddN hC dX9_merge_87 (q := 88) rfl ?_
              refine vv_istore_n hC (i := 2) (lv' := [(2, .int (nI (((mMrg S (tn w) k).2) + 1))), (5, .int (bI (decide (T.2 5 (tn (-(T.2 11 (700 * tn w + k)) - nI 1)) = 0) || decide (T.2 6 (tn (-(T.2 11 (700 * tn w + k)) - nI 1)) = -1)))), (4, .int (T.2 11 ((700 * (tn w)) + k))), (0, .ref (ad 0)), (1, .int (nI (tn w))), (3, .int (nI k))]) dX9_merge_88 rfl (by decide) rfl (q := 89) rfl ?_
              refine vv_iinc hC (i := 3) (v := nI (k + 1)) (lv' := [(3, .int (nI (k + 1))), (2, .int (nI (((mMrg S (tn w) k).2) + 1))), (5, .int (bI (decide (T.2 5 (tn (-(T.2 11 (700 * tn w + k)) - nI 1)) = 0) || decide (T.2 6 (tn (-(T.2 11 (700 * tn w + k)) - nI 1)) = -1)))), (4, .int (T.2 11 ((700 * (tn w)) + k))), (0, .ref (ad 0)), (1, .int (nI (tn w)))]) 5 dX9_merge_89 rfl (nI_1 k) (by decide) rfl (q := 92) rfl ?_
              refine vv_goto hC (tgt := 25) dX9_merge_92 (by decide) ?_
              refine vv_lv [4, 5, 1, 0] (lv' := [(0, .ref (ad 0)), (1, .int (nI (tn w))), (2, .int (nI (((mMrg S (tn w) k).2) + 1))), (3, .int (nI (k + 1)))]) rfl ?_
              have eB : mStB T (T.2 11 (700 * tn w + k)) = false := by rw [mStB, if_pos h51]; exact bI_0.mp h79
              have e2 : (mMrg S (tn w) (k + 1)).2 = (mMrg S (tn w) k).2 + 1 := by rw [mMrg, ← hTe, ← e11, eB]; rfl
              refine vv_wq (P1 := PM cI cZ ad (mMrg S (tn w) (k + 1)).1) (fun f h => by rw [mMrg, ← hTe, ← e11, mStS, if_pos h51]; exact h) ?_
              exact vv_eql (lv' := [(0, .ref (ad 0)), (1, .int (nI (tn w))), (2, .int (nI (mMrg S (tn w) (k + 1)).2)), (3, .int (nI (k + 1)))]) (by rw [e2]) (ih (k + 1) (by omega) (by omega))
            · skip
              refine vv_iconst hC (v := nI 0) dX9_merge_82 rfl (q := 83) rfl ?_
              refine vv_goto hC (tgt := 87) dX9_merge_83 (by decide) ?_
              refine vv_iaddN hC dX9_merge_87 (q := 88) rfl ?_
              refine vv_istore_n hC (i := 2) (lv' := [(2, .int (nI (((mMrg S (tn w) k).2) + 0))), (5, .int (bI (decide (T.2 5 (tn (-(T.2 11 (700 * tn w + k)) - nI 1)) = 0) || decide (T.2 6 (tn (-(T.2 11 (700 * tn w + k)) - nI 1)) = -1)))), (4, .int (T.2 11 ((700 * (tn w)) + k))), (0, .ref (ad 0)), (1, .int (nI (tn w))), (3, .int (nI k))]) dX9_merge_88 rfl (by decide) rfl (q := 89) rfl ?_
              refine vv_iinc hC (i := 3) (v := nI (k + 1)) (lv' := [(3, .int (nI (k + 1))), (2, .int (nI (((mMrg S (tn w) k).2) + 0))), (5, .int (bI (decide (T.2 5 (tn (-(T.2 11 (700 * tn w + k)) - nI 1)) = 0) || decide (T.2 6 (tn (-(T.2 11 (700 * tn w + k)) - nI 1)) = -1)))), (4, .int (T.2 11 ((700 * (tn w)) + k))), (0, .ref (ad 0)), (1, .int (nI (tn w)))]) 5 dX9_merge_89 rfl (nI_1 k) (by decide) rfl (q := 92) rfl ?_
              refine vv_goto hC (tgt := 25) dX9_merge_92 (by decide) ?_
              refine vv_lv [4, 5, 1, 0] (lv' := [(0, .ref (ad 0)), (1, .int (nI (tn w))), (2, .int (nI (((mMrg S (tn w) k).2) + 0))), (3, .int (nI (k + 1)))]) rfl ?_
              have eB : mStB T (T.2 11 (700 * tn w + k)) = true := by rw [mStB, if_pos h51]; exact bI_1 h79
              have e2 : (mMrg S (tn w) (k + 1)).2 = (mMrg S (tn w) k).2 + 0 := by rw [mMrg, ← hTe, ← e11, eB]; rfl
              refine vv_wq (P1 := PM cI cZ ad (mMrg S (tn w) (k + 1)).1) (fun f h => by rw [mMrg, ← hTe, ← e11, mStS, if_pos h51]; exact h) ?_
              exact vv_eql (lv' := [(0, .ref (ad 0)), (1, .int (nI (tn w))), (2, .int (nI (mMrg S (tn w) (k + 1)).2)), (3, .int (nI (k + 1)))]) (by rw [e2]) (ih (k + 1) (by omega) (by omega))
          · skip
            refine vv_aload_n hC 1 dX9_merge_54 rfl rfl (q := 55) rfl ?_
            refine vv_iload hC 0 dX9_merge_55 rfl (q := 57) rfl ?_
            refine vv_iconst hC (v := nI 1) dX9_merge_57 rfl (q := 58) rfl ?_
            refine vv_isub hC dX9_merge_58 (q := 59) rfl ?_
            obtain ⟨en, ln, lR⟩ := hch.2 h51
            refine vv_eqv (st' := [.int (nI (tn (T.2 11 (700 * tn w + k) - nI 1))), .ref (ad 0)]) (by rw [← en]) ?_
            refine vv_calli hC hK (fun _ h => h) (As := [.int (nI (tn (T.2 11 (700 * tn w + k) - nI 1)))]) 0 (by decide) or9 rfl (c9_comeIn l hJ T (tn (T.2 11 (700 * tn w + k) - nI 1)) hIT ln lR) (cwV 1 hC.2.2.2.2 gX9_merge_X9_comeIn rfl rfl rfl hdX9_comeIn ⟨Nat.le_of_ble_eq_true rfl, Nat.le_of_ble_eq_true rfl⟩) rfl rfl (Nat.le_of_ble_eq_true rfl) ⟨Nat.le_of_ble_eq_true rfl, Nat.le_of_ble_eq_true rfl⟩ dX9_merge_59 (q := 62) rfl ?_
            refine vv_goto hC (tgt := 74) dX9_merge_62 (by decide) ?_
            refine vv_istore hC (i := 5) (lv' := [(5, .int (bI (!mRef T (mAt T (tn (T.2 11 (700 * tn w + k) - nI 1)))))), (4, .int (T.2 11 ((700 * (tn w)) + k))), (0, .ref (ad 0)), (1, .int (nI (tn w))), (2, .int (nI ((mMrg S (tn w) k).2))), (3, .int (nI k))]) dX9_merge_74 (by decide) rfl (q := 76) rfl ?_
            refine vv_iload_n hC 4 dX9_merge_76 rfl rfl (q := 77) rfl ?_
            refine vv_iload hC 0 dX9_merge_77 rfl (q := 79) rfl ?_
            refine vv_if_eq hC (tgt := 86) dX9_merge_79 (by decide) (q := 82) rfl (fun h79 => ?_) (fun h79 => ?_)
            · skip
              refine vv_iconst hC (v := nI 1) dX9_merge_86 rfl (q := 87) rfl ?_
              refine vv_iaddN hC dX9_merge_87 (q := 88) rfl ?_
              refine vv_istore_n hC (i := 2) (lv' := [(2, .int (nI (((mMrg S (tn w) k).2) + 1))), (5, .int (bI (!mRef T (mAt T (tn (T.2 11 (700 * tn w + k) - nI 1)))))), (4, .int (T.2 11 ((700 * (tn w)) + k))), (0, .ref (ad 0)), (1, .int (nI (tn w))), (3, .int (nI k))]) dX9_merge_88 rfl (by decide) rfl (q := 89) rfl ?_
              refine vv_iinc hC (i := 3) (v := nI (k + 1)) (lv' := [(3, .int (nI (k + 1))), (2, .int (nI (((mMrg S (tn w) k).2) + 1))), (5, .int (bI (!mRef T (mAt T (tn (T.2 11 (700 * tn w + k) - nI 1)))))), (4, .int (T.2 11 ((700 * (tn w)) + k))), (0, .ref (ad 0)), (1, .int (nI (tn w)))]) 5 dX9_merge_89 rfl (nI_1 k) (by decide) rfl (q := 92) rfl ?_
              refine vv_goto hC (tgt := 25) dX9_merge_92 (by decide) ?_
              refine vv_lv [4, 5, 1, 0] (lv' := [(0, .ref (ad 0)), (1, .int (nI (tn w))), (2, .int (nI (((mMrg S (tn w) k).2) + 1))), (3, .int (nI (k + 1)))]) rfl ?_
              have eB : mStB T (T.2 11 (700 * tn w + k)) = false := by rw [mStB, if_neg h51]; exact bI_0.mp h79
              have e2 : (mMrg S (tn w) (k + 1)).2 = (mMrg S (tn w) k).2 + 1 := by rw [mMrg, ← hTe, ← e11, eB]; rfl
              refine vv_wq (P1 := PM cI cZ ad (mMrg S (tn w) (k + 1)).1) (fun f h => by rw [mMrg, ← hTe, ← e11, mStS, if_neg h51]; exact h) ?_
              exact vv_eql (lv' := [(0, .ref (ad 0)), (1, .int (nI (tn w))), (2, .int (nI (mMrg S (tn w) (k + 1)).2)), (3, .int (nI (k + 1)))]) (by rw [e2]) (ih (k + 1) (by omega) (by omega))
            · skip
              refine vv_iconst hC (v := nI 0) dX9_merge_82 rfl (q := 83) rfl ?_
              refine vv_goto hC (tgt := 87) dX9_merge_83 (by decide) ?_
              refine vv_iaddN hC dX9_merge_87 (q := 88) rfl ?_
              refine vv_istore_n hC (i := 2) (lv' := [(2, .int (nI (((mMrg S (tn w) k).2) + 0))), (5, .int (bI (!mRef T (mAt T (tn (T.2 11 (700 * tn w + k) - nI 1)))))), (4, .int (T.2 11 ((700 * (tn w)) + k))), (0, .ref (ad 0)), (1, .int (nI (tn w))), (3, .int (nI k))]) dX9_merge_88 rfl (by decide) rfl (q := 89) rfl ?_
              refine vv_iinc hC (i := 3) (v := nI (k + 1)) (lv' := [(3, .int (nI (k + 1))), (2, .int (nI (((mMrg S (tn w) k).2) + 0))), (5, .int (bI (!mRef T (mAt T (tn (T.2 11 (700 * tn w + k) - nI 1)))))), (4, .int (T.2 11 ((700 * (tn w)) + k))), (0, .ref (ad 0)), (1, .int (nI (tn w)))]) 5 dX9_merge_89 rfl (nI_1 k) (by decide) rfl (q := 92) rfl ?_
              refine vv_goto hC (tgt := 25) dX9_merge_92 (by decide) ?_
              refine vv_lv [4, 5, 1, 0] (lv' := [(0, .ref (ad 0)), (1, .int (nI (tn w))), (2, .int (nI (((mMrg S (tn w) k).2) + 0))), (3, .int (nI (k + 1)))]) rfl ?_
              have eB : mStB T (T.2 11 (700 * tn w + k)) = true := by rw [mStB, if_neg h51]; exact bI_1 h79
              have e2 : (mMrg S (tn w) (k + 1)).2 = (mMrg S (tn w) k).2 + 0 := by rw [mMrg, ← hTe, ← e11, eB]; rfl
              refine vv_wq (P1 := PM cI cZ ad (mMrg S (tn w) (k + 1)).1) (fun f h => by rw [mMrg, ← hTe, ← e11, mStS, if_neg h51]; exact h) ?_
              exact vv_eql (lv' := [(0, .ref (ad 0)), (1, .int (nI (tn w))), (2, .int (nI (mMrg S (tn w) (k + 1)).2)), (3, .int (nI (k + 1)))]) (by rw [e2]) (ih (k + 1) (by omega) (by omega))
    refine vv_lv [2, 3, 1, 0] (lv' := [(0, .ref (ad 0)), (1, .int (nI (tn w))), (2, .int (nI 0)), (3, .int (nI 0))]) rfl ?_
    exact loop25 (tn (S.2 10 (tn w)) + 1) 0 (by omega) (Nat.zero_le _)
theorem inwX9_textLength_X9 : ∀ w ∈ wsX90, w ∈ wsX9_textLength := fun _ h => List.mem_cons_of_mem _ (List.mem_append_right _ h)
theorem hdX9_textLength : yX9_textLength.cls = RX9 ∧ yX9_textLength.cls ≠ "java/lang/invoke/MethodHandle" ∧ yX9_textLength.cls ≠ "java/lang/invoke/VarHandle" ∧ (parseMethodDescriptor yX9_textLength.desc).map (fun d => d.parameters.length) = some 0 := by decide +kernel
set_option maxRecDepth 100000 in
set_option maxHeartbeats 4000000 in
theorem c9_textLength (l : Launch) {D : va_G} {cI cW cZ cL : ClassId} {ad : Nat → Nat} (hJ : injA ad 27) (S : sM) (hI : IM S)  : kMi l yX9_textLength wsX9_textLength ({ frames := 0, cells := 0, slots := 0, locals := 0 }) D vwCl (tyL cI cW cZ cL) ad 27 [.ref (ad 0)] (PM cI cZ ad S) (nI (mCnt S (S.1 8))) (PM cI cZ ad S) := by
  refine vv_enter (cc := cX9_textLength) (maxL := 3) (ret := (some .int)) (own := RX9) (lv := [(0, .ref (ad 0))]) (by decide +kernel) rfl rfl hJ (Nat.le_of_ble_eq_true rfl) rfl ?_
  intro p e s m args below meth c hC hK hW hr hlk
  obtain ⟨iW, iR, iV, iI, iC, iK, iD, irow, ianc, iwr, icl, icc, irv⟩ := id hI
  refine vv_iconst hC (v := nI 0) dX9_textLength_0 rfl (q := 1) rfl ?_
  refine vv_istore_n hC (i := 1) (lv' := [(1, .int (nI 0)), (0, .ref (ad 0))]) dX9_textLength_1 rfl (by decide) rfl (q := 2) rfl ?_
  refine vv_iconst hC (v := nI 0) dX9_textLength_2 rfl (q := 3) rfl ?_
  refine vv_istore_n hC (i := 2) (lv' := [(2, .int (nI 0)), (1, .int (nI 0)), (0, .ref (ad 0))]) dX9_textLength_3 rfl (by decide) rfl (q := 4) rfl ?_
  have loop4 : ∀ (fu : Nat) (k : Nat), S.1 8 < k + fu → k ≤ S.1 8 → vv p l e (headSpec wsX9_textLength ({ frames := 0, cells := 0, slots := 0, locals := 0 })).room s m args below meth c 3 (RA ad 27) s.heap 0 0 (MQ below (va_Qi (fun r' (_ : Unit) => r' = (nI (mCnt S (S.1 8)))) (fun _ => ws0 D vwCl (tyL cI cW cZ cL) ad 27 (PM cI cZ ad S)) (RA ad 27)) args s 0 0 (RA ad 27)) (wq D vwCl ad 27 (PM cI cZ ad S)) 4 [(0, .ref (ad 0)), (1, .int (nI (mCnt S k))), (2, .int (nI k))] [] := by
    intro fu
    induction fu with
    | zero =>
      intro k hfu hk
      exact absurd hfu (by omega)
    | succ fu ih =>
      intro k hfu hk
      refine vv_iload_n hC 2 dX9_textLength_4 rfl rfl (q := 5) rfl ?_
      refine vv_aload_n hC 0 dX9_textLength_5 rfl rfl (q := 6) rfl ?_
      refine vv_get hC hK (K := RX9) (T := TX9) (N := 35) (ci := 9) inwX9_textLength_X9 0 (by decide) (fs := fldM ad S) om0 rfl 8 (by decide) (List.mem_of_getElem? (i := 1) rfl) rfl (v := .int (nI (S.1 8))) rfl dX9_textLength_6 (q := 9) rfl ?_
      refine vv_icmpN_ge hC (tgt := 40) (by omega) (by omega) dX9_textLength_9 (by decide) (q := 12) rfl (fun h9 => ?_) (fun h9 => ?_)
      · skip
        refine vv_iload_n hC 1 dX9_textLength_40 rfl rfl (q := 41) rfl ?_
        exact vv_iret hC hK hr hlk (by obtain rfl : k = S.1 8 := (by omega); rfl) (fun _ h => h) dX9_textLength_41
      · skip
        refine vv_iload_n hC 1 dX9_textLength_12 rfl rfl (q := 13) rfl ?_
        refine vv_aload_n hC 0 dX9_textLength_13 rfl rfl (q := 14) rfl ?_
        refine vv_get hC hK (K := RX9) (T := TX9) (N := 35) (ci := 9) inwX9_textLength_X9 0 (by decide) (fs := fldM ad S) om0 rfl 6 (by decide) (List.mem_of_getElem? (i := 2) rfl) rfl (v := .ref (ad 5)) rfl dX9_textLength_14 (q := 17) rfl ?_
        refine vv_aload_n hC 0 dX9_textLength_17 rfl rfl (q := 18) rfl ?_
        refine vv_get hC hK (K := RX9) (T := TX9) (N := 35) (ci := 9) inwX9_textLength_X9 0 (by decide) (fs := fldM ad S) om0 rfl 9 (by decide) (List.mem_of_getElem? (i := 3) rfl) rfl (v := .ref (ad 7)) rfl dX9_textLength_18 (q := 21) rfl ?_
        refine vv_iload_n hC 2 dX9_textLength_21 rfl rfl (q := 22) rfl ?_
        refine vv_ialdN (P := PM cI cZ ad S) hC hK 7 (by decide) 0 (g := S.2 7) (omI (by decide) rfl) rfl (show k < 300 from (by omega)) (by decide) dX9_textLength_22 (q := 23) rfl ?_
        refine vv_eqv (st' := [.int (nI (tn (S.2 7 k))), .ref (ad 5), .int (nI (mCnt S k))]) (by rw [← (irow k (by omega)).1]) ?_
        refine vv_zaldN (P := PM cI cZ ad S) hC hK 5 (by decide) 2 (g := S.2 5) (omZ (by decide) rfl) rfl (show tn (S.2 7 k) < 300 from (by have := (irow k (by omega)).2; omega)) (by decide) dX9_textLength_23 (q := 24) rfl ?_
        refine vv_if_eq hC (tgt := 31) dX9_textLength_24 (by decide) (q := 27) rfl (fun h24 => ?_) (fun h24 => ?_)
        · skip
          refine vv_iconst hC (v := nI 0) dX9_textLength_31 rfl (q := 32) rfl ?_
          refine vv_iaddN hC dX9_textLength_32 (q := 33) rfl ?_
          refine vv_istore_n hC (i := 1) (lv' := [(1, .int (nI ((mCnt S k) + 0))), (0, .ref (ad 0)), (2, .int (nI k))]) dX9_textLength_33 rfl (by decide) rfl (q := 34) rfl ?_
          refine vv_iinc hC (i := 2) (v := nI (k + 1)) (lv' := [(2, .int (nI (k + 1))), (1, .int (nI ((mCnt S k) + 0))), (0, .ref (ad 0))]) 2 dX9_textLength_34 rfl (nI_1 k) (by decide) rfl (q := 37) rfl ?_
          refine vv_goto hC (tgt := 4) dX9_textLength_37 (by decide) ?_
          refine vv_lv [2, 1, 0] (lv' := [(0, .ref (ad 0)), (1, .int (nI ((mCnt S k) + 0))), (2, .int (nI (k + 1)))]) rfl ?_
          exact vv_eql (by rw [mCnt_s, if_pos h24]; rfl) (ih (k + 1) (by omega) (by omega))
        · skip
          refine vv_iconst hC (v := nI 1) dX9_textLength_27 rfl (q := 28) rfl ?_
          refine vv_goto hC (tgt := 32) dX9_textLength_28 (by decide) ?_
          refine vv_iaddN hC dX9_textLength_32 (q := 33) rfl ?_
          refine vv_istore_n hC (i := 1) (lv' := [(1, .int (nI ((mCnt S k) + 1))), (0, .ref (ad 0)), (2, .int (nI k))]) dX9_textLength_33 rfl (by decide) rfl (q := 34) rfl ?_
          refine vv_iinc hC (i := 2) (v := nI (k + 1)) (lv' := [(2, .int (nI (k + 1))), (1, .int (nI ((mCnt S k) + 1))), (0, .ref (ad 0))]) 2 dX9_textLength_34 rfl (nI_1 k) (by decide) rfl (q := 37) rfl ?_
          refine vv_goto hC (tgt := 4) dX9_textLength_37 (by decide) ?_
          refine vv_lv [2, 1, 0] (lv' := [(0, .ref (ad 0)), (1, .int (nI ((mCnt S k) + 1))), (2, .int (nI (k + 1)))]) rfl ?_
          exact vv_eql (by rw [mCnt_s, if_neg h24]) (ih (k + 1) (by omega) (by omega))
  refine vv_lv [2, 1, 0] (lv' := [(0, .ref (ad 0)), (1, .int (nI 0)), (2, .int (nI 0))]) rfl ?_
  exact loop4 301 0 (by omega) (Nat.zero_le _)
theorem inwX9_countAhead_X9 : ∀ w ∈ wsX90, w ∈ wsX9_countAhead := fun _ h => List.mem_cons_of_mem _ (List.mem_append_right _ h)
theorem hdX9_countAhead : yX9_countAhead.cls = RX9 ∧ yX9_countAhead.cls ≠ "java/lang/invoke/MethodHandle" ∧ yX9_countAhead.cls ≠ "java/lang/invoke/VarHandle" ∧ (parseMethodDescriptor yX9_countAhead.desc).map (fun d => d.parameters.length) = some 1 := by decide +kernel
set_option maxRecDepth 100000 in
set_option maxHeartbeats 4000000 in
theorem c9_countAhead (l : Launch) {D : va_G} {cI cW cZ cL : ClassId} {ad : Nat → Nat} (hJ : injA ad 27) (S : sM) (m0 : Nat) (hm : m0 ≤ S.1 8) (hI : IM S)  : kMi l yX9_countAhead wsX9_countAhead ({ frames := 0, cells := 0, slots := 0, locals := 0 }) D vwCl (tyL cI cW cZ cL) ad 27 [.ref (ad 0), .int (nI m0)] (PM cI cZ ad S) (nI (mCnt S m0)) (PM cI cZ ad S) := by
  refine vv_enter (cc := cX9_countAhead) (maxL := 4) (ret := (some .int)) (own := RX9) (lv := [(0, .ref (ad 0)), (1, .int (nI m0))]) (by decide +kernel) rfl rfl hJ (Nat.le_of_ble_eq_true rfl) rfl ?_
  intro p e s m args below meth c hC hK hW hr hlk
  obtain ⟨iW, iR, iV, iI, iC, iK, iD, irow, ianc, iwr, icl, icc, irv⟩ := id hI
  refine vv_iconst hC (v := nI 0) dX9_countAhead_0 rfl (q := 1) rfl ?_
  refine vv_istore_n hC (i := 2) (lv' := [(2, .int (nI 0)), (0, .ref (ad 0)), (1, .int (nI m0))]) dX9_countAhead_1 rfl (by decide) rfl (q := 2) rfl ?_
  refine vv_iconst hC (v := nI 0) dX9_countAhead_2 rfl (q := 3) rfl ?_
  refine vv_istore_n hC (i := 3) (lv' := [(3, .int (nI 0)), (2, .int (nI 0)), (0, .ref (ad 0)), (1, .int (nI m0))]) dX9_countAhead_3 rfl (by decide) rfl (q := 4) rfl ?_
  have loop4 : ∀ (fu : Nat) (k : Nat), m0 < k + fu → k ≤ m0 → vv p l e (headSpec wsX9_countAhead ({ frames := 0, cells := 0, slots := 0, locals := 0 })).room s m args below meth c 4 (RA ad 27) s.heap 0 0 (MQ below (va_Qi (fun r' (_ : Unit) => r' = (nI (mCnt S m0))) (fun _ => ws0 D vwCl (tyL cI cW cZ cL) ad 27 (PM cI cZ ad S)) (RA ad 27)) args s 0 0 (RA ad 27)) (wq D vwCl ad 27 (PM cI cZ ad S)) 4 [(0, .ref (ad 0)), (1, .int (nI m0)), (2, .int (nI (mCnt S k))), (3, .int (nI k))] [] := by
    intro fu
    induction fu with
    | zero =>
      intro k hfu hk
      exact absurd hfu (by omega)
    | succ fu ih =>
      intro k hfu hk
      refine vv_iload_n hC 3 dX9_countAhead_4 rfl rfl (q := 5) rfl ?_
      refine vv_iload_n hC 1 dX9_countAhead_5 rfl rfl (q := 6) rfl ?_
      refine vv_icmpN_ge hC (tgt := 37) (by omega) (by omega) dX9_countAhead_6 (by decide) (q := 9) rfl (fun h6 => ?_) (fun h6 => ?_)
      · skip
        refine vv_iload_n hC 2 dX9_countAhead_37 rfl rfl (q := 38) rfl ?_
        exact vv_iret hC hK hr hlk (by obtain rfl : k = m0 := (by omega); rfl) (fun _ h => h) dX9_countAhead_38
      · skip
        refine vv_iload_n hC 2 dX9_countAhead_9 rfl rfl (q := 10) rfl ?_
        refine vv_aload_n hC 0 dX9_countAhead_10 rfl rfl (q := 11) rfl ?_
        refine vv_get hC hK (K := RX9) (T := TX9) (N := 35) (ci := 9) inwX9_countAhead_X9 0 (by decide) (fs := fldM ad S) om0 rfl 6 (by decide) (List.mem_of_getElem? (i := 1) rfl) rfl (v := .ref (ad 5)) rfl dX9_countAhead_11 (q := 14) rfl ?_
        refine vv_aload_n hC 0 dX9_countAhead_14 rfl rfl (q := 15) rfl ?_
        refine vv_get hC hK (K := RX9) (T := TX9) (N := 35) (ci := 9) inwX9_countAhead_X9 0 (by decide) (fs := fldM ad S) om0 rfl 9 (by decide) (List.mem_of_getElem? (i := 2) rfl) rfl (v := .ref (ad 7)) rfl dX9_countAhead_15 (q := 18) rfl ?_
        refine vv_iload_n hC 3 dX9_countAhead_18 rfl rfl (q := 19) rfl ?_
        refine vv_ialdN (P := PM cI cZ ad S) hC hK 7 (by decide) 0 (g := S.2 7) (omI (by decide) rfl) rfl (show k < 300 from (by omega)) (by decide) dX9_countAhead_19 (q := 20) rfl ?_
        refine vv_eqv (st' := [.int (nI (tn (S.2 7 k))), .ref (ad 5), .int (nI (mCnt S k))]) (by rw [← (irow k (by omega)).1]) ?_
        refine vv_zaldN (P := PM cI cZ ad S) hC hK 5 (by decide) 2 (g := S.2 5) (omZ (by decide) rfl) rfl (show tn (S.2 7 k) < 300 from (by have := (irow k (by omega)).2; omega)) (by decide) dX9_countAhead_20 (q := 21) rfl ?_
        refine vv_if_eq hC (tgt := 28) dX9_countAhead_21 (by decide) (q := 24) rfl (fun h21 => ?_) (fun h21 => ?_)
        · skip
          refine vv_iconst hC (v := nI 0) dX9_countAhead_28 rfl (q := 29) rfl ?_
          refine vv_iaddN hC dX9_countAhead_29 (q := 30) rfl ?_
          refine vv_istore_n hC (i := 2) (lv' := [(2, .int (nI ((mCnt S k) + 0))), (0, .ref (ad 0)), (1, .int (nI m0)), (3, .int (nI k))]) dX9_countAhead_30 rfl (by decide) rfl (q := 31) rfl ?_
          refine vv_iinc hC (i := 3) (v := nI (k + 1)) (lv' := [(3, .int (nI (k + 1))), (2, .int (nI ((mCnt S k) + 0))), (0, .ref (ad 0)), (1, .int (nI m0))]) 3 dX9_countAhead_31 rfl (nI_1 k) (by decide) rfl (q := 34) rfl ?_
          refine vv_goto hC (tgt := 4) dX9_countAhead_34 (by decide) ?_
          refine vv_lv [2, 3, 1, 0] (lv' := [(0, .ref (ad 0)), (1, .int (nI m0)), (2, .int (nI ((mCnt S k) + 0))), (3, .int (nI (k + 1)))]) rfl ?_
          exact vv_eql (by rw [mCnt_s, if_pos h21]; rfl) (ih (k + 1) (by omega) (by omega))
        · skip
          refine vv_iconst hC (v := nI 1) dX9_countAhead_24 rfl (q := 25) rfl ?_
          refine vv_goto hC (tgt := 29) dX9_countAhead_25 (by decide) ?_
          refine vv_iaddN hC dX9_countAhead_29 (q := 30) rfl ?_
          refine vv_istore_n hC (i := 2) (lv' := [(2, .int (nI ((mCnt S k) + 1))), (0, .ref (ad 0)), (1, .int (nI m0)), (3, .int (nI k))]) dX9_countAhead_30 rfl (by decide) rfl (q := 31) rfl ?_
          refine vv_iinc hC (i := 3) (v := nI (k + 1)) (lv' := [(3, .int (nI (k + 1))), (2, .int (nI ((mCnt S k) + 1))), (0, .ref (ad 0)), (1, .int (nI m0))]) 3 dX9_countAhead_31 rfl (nI_1 k) (by decide) rfl (q := 34) rfl ?_
          refine vv_goto hC (tgt := 4) dX9_countAhead_34 (by decide) ?_
          refine vv_lv [2, 3, 1, 0] (lv' := [(0, .ref (ad 0)), (1, .int (nI m0)), (2, .int (nI ((mCnt S k) + 1))), (3, .int (nI (k + 1)))]) rfl ?_
          exact vv_eql (by rw [mCnt_s, if_neg h21]) (ih (k + 1) (by omega) (by omega))
  refine vv_lv [2, 3, 1, 0] (lv' := [(0, .ref (ad 0)), (1, .int (nI m0)), (2, .int (nI 0)), (3, .int (nI 0))]) rfl ?_
  exact loop4 301 0 (by omega) (Nat.zero_le _)
set_option maxRecDepth 100000 in
set_option maxHeartbeats 4000000 in
theorem c9_countAheadM (l : Launch) {D : va_G} {cI cW cZ cL : ClassId} {ad : Nat → Nat} (hJ : injA ad 27) (S : sM) (hI : IM S)  : kMi l yX9_countAhead wsX9_countAhead ({ frames := 0, cells := 0, slots := 0, locals := 0 }) D vwCl (tyL cI cW cZ cL) ad 27 [.ref (ad 0), .int (-1)] (PM cI cZ ad S) 0 (PM cI cZ ad S) := by
  refine vv_enter (cc := cX9_countAhead) (maxL := 4) (ret := (some .int)) (own := RX9) (lv := [(0, .ref (ad 0)), (1, .int (-1))]) (by decide +kernel) rfl rfl hJ (Nat.le_of_ble_eq_true rfl) rfl ?_
  intro p e s m args below meth c hC hK hW hr hlk
  obtain ⟨iW, iR, iV, iI, iC, iK, iD, irow, ianc, iwr, icl, icc, irv⟩ := id hI
  refine vv_iconst hC (v := nI 0) dX9_countAhead_0 rfl (q := 1) rfl ?_
  refine vv_istore_n hC (i := 2) (lv' := [(2, .int (nI 0)), (0, .ref (ad 0)), (1, .int (-1))]) dX9_countAhead_1 rfl (by decide) rfl (q := 2) rfl ?_
  refine vv_iconst hC (v := nI 0) dX9_countAhead_2 rfl (q := 3) rfl ?_
  refine vv_istore_n hC (i := 3) (lv' := [(3, .int (nI 0)), (2, .int (nI 0)), (0, .ref (ad 0)), (1, .int (-1))]) dX9_countAhead_3 rfl (by decide) rfl (q := 4) rfl ?_
  refine vv_iload_n hC 0 dX9_countAhead_4 rfl rfl (q := 5) rfl ?_
  refine vv_iload_n hC 3 dX9_countAhead_5 rfl rfl (q := 6) rfl ?_
  refine vv_icmp_ge hC (tgt := 37) dX9_countAhead_6 (by decide) (q := 9) rfl (fun h6 => ?_) (fun h6 => ?_)
  · skip
    refine vv_iload_n hC 1 dX9_countAhead_37 rfl rfl (q := 38) rfl ?_
    exact vv_iret hC hK hr hlk rfl (fun _ h => h) dX9_countAhead_38
  · skip
    exact absurd (show (-1 : Int32) ≤ nI 0 by decide) h6
theorem inwX9_textAt_X9 : ∀ w ∈ wsX90, w ∈ wsX9_textAt := fun _ h => List.mem_cons_of_mem _ (List.mem_append_right _ h)
theorem hdX9_textAt : yX9_textAt.cls = RX9 ∧ yX9_textAt.cls ≠ "java/lang/invoke/MethodHandle" ∧ yX9_textAt.cls ≠ "java/lang/invoke/VarHandle" ∧ (parseMethodDescriptor yX9_textAt.desc).map (fun d => d.parameters.length) = some 1 := by decide +kernel
set_option maxRecDepth 100000 in
set_option maxHeartbeats 4000000 in
theorem c9_textAt0 (l : Launch) {D : va_G} {cI cW cZ cL : ClassId} {ad : Nat → Nat} (hJ : injA ad 27) (S : sM) (x : Int32) (hx : x < 0) (hI : IM S)  : kMi l yX9_textAt wsX9_textAt ({ frames := 0, cells := 0, slots := 0, locals := 0 }) D vwCl (tyL cI cW cZ cL) ad 27 [.ref (ad 0), .int x] (PM cI cZ ad S) (mTxt S x) (PM cI cZ ad S) := by
  refine vv_enter (cc := cX9_textAt) (maxL := 4) (ret := (some .int)) (own := RX9) (lv := [(0, .ref (ad 0)), (1, .int x)]) (by decide +kernel) rfl rfl hJ (Nat.le_of_ble_eq_true rfl) rfl ?_
  intro p e s m args below meth c hC hK hW hr hlk
  obtain ⟨iW, iR, iV, iI, iC, iK, iD, irow, ianc, iwr, icl, icc, irv⟩ := id hI
  refine vv_iload_n hC 1 dX9_textAt_0 rfl rfl (q := 1) rfl ?_
  refine vv_istore_n hC (i := 2) (lv' := [(2, .int x), (0, .ref (ad 0)), (1, .int x)]) dX9_textAt_1 rfl (by decide) rfl (q := 2) rfl ?_
  refine vv_iconst hC (v := nI 0) dX9_textAt_2 rfl (q := 3) rfl ?_
  refine vv_istore_n hC (i := 3) (lv' := [(3, .int (nI 0)), (2, .int x), (0, .ref (ad 0)), (1, .int x)]) dX9_textAt_3 rfl (by decide) rfl (q := 4) rfl ?_
  refine vv_iload_n hC 0 dX9_textAt_4 rfl rfl (q := 5) rfl ?_
  refine vv_aload_n hC 2 dX9_textAt_5 rfl rfl (q := 6) rfl ?_
  refine vv_get hC hK (K := RX9) (T := TX9) (N := 35) (ci := 9) inwX9_textAt_X9 0 (by decide) (fs := fldM ad S) om0 rfl 8 (by decide) (List.mem_of_getElem? (i := 1) rfl) rfl (v := .int (nI (S.1 8))) rfl dX9_textAt_6 (q := 9) rfl ?_
  refine vv_icmpN_ge hC (tgt := 50) (by omega) (by omega) dX9_textAt_9 (by decide) (q := 12) rfl (fun h9 => ?_) (fun h9 => ?_)
  · skip
    refine vv_iconst hC (v := (-1)) dX9_textAt_50 rfl (q := 51) rfl ?_
    exact vv_iret hC hK hr hlk (by rw [mTxt, if_pos hx]) (fun _ h => h) dX9_textAt_51
  · skip
    refine vv_iload_n hC 3 dX9_textAt_12 rfl rfl (q := 13) rfl ?_
    refine vv_if_lt hC (tgt := 50) dX9_textAt_13 (by decide) (q := 16) rfl (fun h13 => ?_) (fun h13 => ?_)
    · skip
      refine vv_iconst hC (v := (-1)) dX9_textAt_50 rfl (q := 51) rfl ?_
      exact vv_iret hC hK hr hlk (by rw [mTxt, if_pos hx]) (fun _ h => h) dX9_textAt_51
    · skip
      exact absurd hx h13
set_option maxRecDepth 100000 in
set_option maxHeartbeats 4000000 in
theorem c9_textAtN (l : Launch) {D : va_G} {cI cW cZ cL : ClassId} {ad : Nat → Nat} (hJ : injA ad 27) (S : sM) (n : Nat) (hn : n < 2 ^ 31) (hI : IM S)  : kMi l yX9_textAt wsX9_textAt ({ frames := 0, cells := 0, slots := 0, locals := 0 }) D vwCl (tyL cI cW cZ cL) ad 27 [.ref (ad 0), .int (nI n)] (PM cI cZ ad S) (mTxt S (nI n)) (PM cI cZ ad S) := by
  refine vv_enter (cc := cX9_textAt) (maxL := 4) (ret := (some .int)) (own := RX9) (lv := [(0, .ref (ad 0)), (1, .int (nI n))]) (by decide +kernel) rfl rfl hJ (Nat.le_of_ble_eq_true rfl) rfl ?_
  intro p e s m args below meth c hC hK hW hr hlk
  obtain ⟨iW, iR, iV, iI, iC, iK, iD, irow, ianc, iwr, icl, icc, irv⟩ := id hI
  have e0 : mTxt S (nI n) = txF S (S.1 8 + 1) 0 n := by rw [mTxt, if_neg (nI_pos hn), tn_n hn]
  refine vv_iload_n hC 1 dX9_textAt_0 rfl rfl (q := 1) rfl ?_
  refine vv_istore_n hC (i := 2) (lv' := [(2, .int (nI n)), (0, .ref (ad 0)), (1, .int (nI n))]) dX9_textAt_1 rfl (by decide) rfl (q := 2) rfl ?_
  refine vv_iconst hC (v := nI 0) dX9_textAt_2 rfl (q := 3) rfl ?_
  refine vv_istore_n hC (i := 3) (lv' := [(3, .int (nI 0)), (2, .int (nI n)), (0, .ref (ad 0)), (1, .int (nI n))]) dX9_textAt_3 rfl (by decide) rfl (q := 4) rfl ?_
  have loop4 : ∀ (fu : Nat) (k : Nat) (lf : Nat) (r : Nat), r < fu → S.1 8 < k + r → k ≤ S.1 8 → lf < 2 ^ 31 → txF S r k lf = txF S (S.1 8 + 1) 0 n → vv p l e (headSpec wsX9_textAt ({ frames := 0, cells := 0, slots := 0, locals := 0 })).room s m args below meth c 4 (RA ad 27) s.heap 0 0 (MQ below (va_Qi (fun r' (_ : Unit) => r' = (mTxt S (nI n))) (fun _ => ws0 D vwCl (tyL cI cW cZ cL) ad 27 (PM cI cZ ad S)) (RA ad 27)) args s 0 0 (RA ad 27)) (wq D vwCl ad 27 (PM cI cZ ad S)) 4 [(0, .ref (ad 0)), (1, .int (nI n)), (2, .int (nI lf)), (3, .int (nI k))] [] := by
    intro fu
    induction fu with
    | zero =>
      intro k lf r hfu hrr hk hlf hres
      exact absurd hfu (Nat.not_lt_zero _)
    | succ fu ih =>
      intro k lf r hfu hrr hk hlf hres
      refine vv_iload_n hC 3 dX9_textAt_4 rfl rfl (q := 5) rfl ?_
      refine vv_aload_n hC 0 dX9_textAt_5 rfl rfl (q := 6) rfl ?_
      refine vv_get hC hK (K := RX9) (T := TX9) (N := 35) (ci := 9) inwX9_textAt_X9 0 (by decide) (fs := fldM ad S) om0 rfl 8 (by decide) (List.mem_of_getElem? (i := 1) rfl) rfl (v := .int (nI (S.1 8))) rfl dX9_textAt_6 (q := 9) rfl ?_
      refine vv_icmpN_ge hC (tgt := 50) (by omega) (by omega) dX9_textAt_9 (by decide) (q := 12) rfl (fun h9 => ?_) (fun h9 => ?_)
      · skip
        refine vv_iconst hC (v := (-1)) dX9_textAt_50 rfl (q := 51) rfl ?_
        exact vv_iret hC hK hr hlk (by rw [e0, ← hres]; cases r with | zero => rfl | succ r => rw [txF_s, if_neg (by omega)]) (fun _ h => h) dX9_textAt_51
      · skip
        have h9 : k < S.1 8 := by omega
        obtain ⟨r, rfl⟩ : ∃ r2, r = r2 + 1 := ⟨r - 1, by omega⟩
        refine vv_iload_n hC 1 dX9_textAt_12 rfl rfl (q := 13) rfl ?_
        refine vv_ifN_lt hC (tgt := 50) (by omega) dX9_textAt_13 (by decide) (q := 16) rfl ?_
        refine vv_aload_n hC 0 dX9_textAt_16 rfl rfl (q := 17) rfl ?_
        refine vv_get hC hK (K := RX9) (T := TX9) (N := 35) (ci := 9) inwX9_textAt_X9 0 (by decide) (fs := fldM ad S) om0 rfl 6 (by decide) (List.mem_of_getElem? (i := 2) rfl) rfl (v := .ref (ad 5)) rfl dX9_textAt_17 (q := 20) rfl ?_
        refine vv_aload_n hC 0 dX9_textAt_20 rfl rfl (q := 21) rfl ?_
        refine vv_get hC hK (K := RX9) (T := TX9) (N := 35) (ci := 9) inwX9_textAt_X9 0 (by decide) (fs := fldM ad S) om0 rfl 9 (by decide) (List.mem_of_getElem? (i := 3) rfl) rfl (v := .ref (ad 7)) rfl dX9_textAt_21 (q := 24) rfl ?_
        refine vv_iload_n hC 3 dX9_textAt_24 rfl rfl (q := 25) rfl ?_
        refine vv_ialdN (P := PM cI cZ ad S) hC hK 7 (by decide) 0 (g := S.2 7) (omI (by decide) rfl) rfl (show k < 300 from (by omega)) (by decide) dX9_textAt_25 (q := 26) rfl ?_
        refine vv_eqv (st' := [.int (nI (tn (S.2 7 k))), .ref (ad 5)]) (by rw [← (irow k (by omega)).1]) ?_
        refine vv_zaldN (P := PM cI cZ ad S) hC hK 5 (by decide) 2 (g := S.2 5) (omZ (by decide) rfl) rfl (show tn (S.2 7 k) < 300 from (by have := (irow k (by omega)).2; omega)) (by decide) dX9_textAt_26 (q := 27) rfl ?_
        refine vv_if_eq hC (tgt := 44) dX9_textAt_27 (by decide) (q := 30) rfl (fun h27 => ?_) (fun h27 => ?_)
        · skip
          refine vv_iinc hC (i := 3) (v := nI (k + 1)) (lv' := [(3, .int (nI (k + 1))), (0, .ref (ad 0)), (1, .int (nI n)), (2, .int (nI lf))]) 3 dX9_textAt_44 rfl (nI_1 k) (by decide) rfl (q := 47) rfl ?_
          refine vv_goto hC (tgt := 4) dX9_textAt_47 (by decide) ?_
          refine vv_lv [1, 2, 3, 0] (lv' := [(0, .ref (ad 0)), (1, .int (nI n)), (2, .int (nI lf)), (3, .int (nI (k + 1)))]) rfl ?_
          exact ih (k + 1) lf r (by omega) (by omega) (by omega) (by omega) (by rw [← hres, txF_s, if_pos h9, if_pos h27])
        · skip
          refine vv_iload_n hC 2 dX9_textAt_30 rfl rfl (q := 31) rfl ?_
          refine vv_ifN_ne hC (tgt := 41) (by omega) dX9_textAt_31 (by decide) (q := 34) rfl (fun h31 => ?_) (fun h31 => ?_)
          · skip
            refine vv_iinc hC (i := 2) (v := nI (lf - 1)) (lv' := [(2, .int (nI (lf - 1))), (0, .ref (ad 0)), (1, .int (nI n)), (3, .int (nI k))]) 2 dX9_textAt_41 rfl (nI_decN (by omega)) (by decide) rfl (q := 44) rfl ?_
            refine vv_iinc hC (i := 3) (v := nI (k + 1)) (lv' := [(3, .int (nI (k + 1))), (2, .int (nI (lf - 1))), (0, .ref (ad 0)), (1, .int (nI n))]) 3 dX9_textAt_44 rfl (nI_1 k) (by decide) rfl (q := 47) rfl ?_
            refine vv_goto hC (tgt := 4) dX9_textAt_47 (by decide) ?_
            refine vv_lv [2, 3, 1, 0] (lv' := [(0, .ref (ad 0)), (1, .int (nI n)), (2, .int (nI (lf - 1))), (3, .int (nI (k + 1)))]) rfl ?_
            exact ih (k + 1) (lf - 1) r (by omega) (by omega) (by omega) (by omega) (by rw [← hres, txF_s, if_pos h9, if_neg h27, if_neg h31])
          · skip
            refine vv_aload_n hC 0 dX9_textAt_34 rfl rfl (q := 35) rfl ?_
            refine vv_get hC hK (K := RX9) (T := TX9) (N := 35) (ci := 9) inwX9_textAt_X9 0 (by decide) (fs := fldM ad S) om0 rfl 9 (by decide) (List.mem_of_getElem? (i := 3) rfl) rfl (v := .ref (ad 7)) rfl dX9_textAt_35 (q := 38) rfl ?_
            refine vv_iload_n hC 3 dX9_textAt_38 rfl rfl (q := 39) rfl ?_
            refine vv_ialdN (P := PM cI cZ ad S) hC hK 7 (by decide) 0 (g := S.2 7) (omI (by decide) rfl) rfl (show k < 300 from (by omega)) (by decide) dX9_textAt_39 (q := 40) rfl ?_
            refine vv_eqv (st' := [.int (nI (tn (S.2 7 k)))]) (by rw [← (irow k (by omega)).1]) ?_
            exact vv_iret hC hK hr hlk (by rw [e0, ← hres, txF_s, if_pos h9, if_neg h27, if_pos h31, ← (irow _ h9).1]) (fun _ h => h) dX9_textAt_40
  refine vv_lv [2, 3, 1, 0] (lv' := [(0, .ref (ad 0)), (1, .int (nI n)), (2, .int (nI n)), (3, .int (nI 0))]) rfl ?_
  exact loop4 302 0 n (S.1 8 + 1) (by omega) (by omega) (Nat.zero_le _) hn rfl
theorem c9_textAt (l : Launch) {D : va_G} {cI cW cZ cL : ClassId} {ad : Nat → Nat} (hJ : injA ad 27) (S : sM) (x : Int32) (hI : IM S) : kMi l yX9_textAt wsX9_textAt ({ frames := 0, cells := 0, slots := 0, locals := 0 }) D vwCl (tyL cI cW cZ cL) ad 27 [.ref (ad 0), .int x] (PM cI cZ ad S) (mTxt S x) (PM cI cZ ad S) := by
  by_cases hx : x < 0
  · exact c9_textAt0 l hJ S x hx hI
  · obtain ⟨n, hn, rfl⟩ := nI_of hx
    exact c9_textAtN l hJ S n hn hI
