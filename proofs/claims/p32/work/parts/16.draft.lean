/-! the draft and the writers: a contract a method -/
theorem inwX2_words_X2 : ∀ w ∈ wsX20, w ∈ wsX2_words := fun _ h => List.mem_cons_of_mem _ (List.mem_append_right _ h)
theorem hdX2_words : yX2_words.cls = RX2 ∧ yX2_words.cls ≠ "java/lang/invoke/MethodHandle" ∧ yX2_words.cls ≠ "java/lang/invoke/VarHandle" ∧ (parseMethodDescriptor yX2_words.desc).map (fun d => d.parameters.length) = some 0 := by decide +kernel
set_option maxRecDepth 100000 in
set_option maxHeartbeats 4000000 in
theorem c2_words (l : Launch) {D : va_G} {cI cW cZ cL : ClassId} {ad : Nat → Nat} (hJ : injA ad 90) (S : sC)  : kMr l yX2_words wsX2_words ({ frames := 0, cells := 0, slots := 0, locals := 0 }) D vwCl (tyL cI cW cZ cL) ad 90 [.ref (ad 1)] (PC cI cW ad S) (ad 2) (PC cI cW ad S) := by
  refine vv_enter (cc := cX2_words) (maxL := 1) (ret := (some (.object "DraftCommon$Words"))) (own := RX2) (lv := [(0, .ref (ad 1))]) (by decide +kernel) rfl rfl hJ (Nat.le_of_ble_eq_true rfl) rfl ?_
  intro p e s m args below meth c hC hK hW hr hlk
  refine vv_aload_n hC 0 dX2_words_0 rfl rfl (q := 1) rfl ?_
  refine vv_get hC hK (K := RX2) (T := TX2) (N := 4) (ci := 2) inwX2_words_X2 1 (kl2 (by decide +kernel)) (oc2 (by decide +kernel)) rfl 0 (by decide) (List.mem_of_getElem? (i := 1) rfl) rfl (v := .ref (ad 2)) rfl dX2_words_1 (q := 4) rfl ?_
  exact vv_aret hC hK hr hlk rfl (fun _ h => h) dX2_words_4
theorem inwX2_text_X2 : ∀ w ∈ wsX20, w ∈ wsX2_text := fun _ h => List.mem_cons_of_mem _ (List.mem_append_right _ h)
theorem hdX2_text : yX2_text.cls = RX2 ∧ yX2_text.cls ≠ "java/lang/invoke/MethodHandle" ∧ yX2_text.cls ≠ "java/lang/invoke/VarHandle" ∧ (parseMethodDescriptor yX2_text.desc).map (fun d => d.parameters.length) = some 0 := by decide +kernel
set_option maxRecDepth 100000 in
set_option maxHeartbeats 4000000 in
theorem c2_text (l : Launch) {D : va_G} {cI cW cZ cL : ClassId} {ad : Nat → Nat} (hJ : injA ad 90) (S : sC)  : kMr l yX2_text wsX2_text ({ frames := 0, cells := 0, slots := 0, locals := 0 }) D vwCl (tyL cI cW cZ cL) ad 90 [.ref (ad 1)] (PC cI cW ad S) (ad 17) (PC cI cW ad S) := by
  refine vv_enter (cc := cX2_text) (maxL := 1) (ret := (some (.object "DraftCommon$Row"))) (own := RX2) (lv := [(0, .ref (ad 1))]) (by decide +kernel) rfl rfl hJ (Nat.le_of_ble_eq_true rfl) rfl ?_
  intro p e s m args below meth c hC hK hW hr hlk
  refine vv_aload_n hC 0 dX2_text_0 rfl rfl (q := 1) rfl ?_
  refine vv_get hC hK (K := RX2) (T := TX2) (N := 4) (ci := 2) inwX2_text_X2 1 (kl2 (by decide +kernel)) (oc2 (by decide +kernel)) rfl 2 (by decide) (List.mem_of_getElem? (i := 1) rfl) rfl (v := .ref (ad 17)) rfl dX2_text_1 (q := 4) rfl ?_
  exact vv_aret hC hK hr hlk rfl (fun _ h => h) dX2_text_4
theorem inwX2_anchorInRow_X2 : ∀ w ∈ wsX20, w ∈ wsX2_anchorInRow := fun _ h => List.mem_cons_of_mem _ (List.mem_append_left _ (List.mem_append_left _ (List.mem_append_right _ h)))
theorem inwX2_anchorInRow_X6 : ∀ w ∈ wsX60, w ∈ wsX2_anchorInRow := fun _ h => List.mem_cons_of_mem _ (List.mem_append_left _ (List.mem_append_right _ h))
theorem inwX2_anchorInRow_X5 : ∀ w ∈ wsX50, w ∈ wsX2_anchorInRow := fun _ h => List.mem_cons_of_mem _ (List.mem_append_right _ h)
theorem hdX2_anchorInRow : yX2_anchorInRow.cls = RX2 ∧ yX2_anchorInRow.cls ≠ "java/lang/invoke/MethodHandle" ∧ yX2_anchorInRow.cls ≠ "java/lang/invoke/VarHandle" ∧ (parseMethodDescriptor yX2_anchorInRow.desc).map (fun d => d.parameters.length) = some 1 := by decide +kernel
set_option maxRecDepth 100000 in
set_option maxHeartbeats 4000000 in
theorem c2_anchorInRow (l : Launch) {D : va_G} {cI cW cZ cL : ClassId} {ad : Nat → Nat} (hJ : injA ad 90) (S : sC) (n : Int32) : kMi l yX2_anchorInRow wsX2_anchorInRow ({ frames := 3, cells := 0, slots := 0, locals := 63 }) D vwCl (tyL cI cW cZ cL) ad 90 [.ref (ad 1), .int n] (PC cI cW ad S) (anc S n) (PC cI cW ad S) := by
  refine vv_enter (cc := cX2_anchorInRow) (maxL := 4) (ret := (some .int)) (own := RX2) (lv := [(0, .ref (ad 1)), (1, .int n)]) (by decide +kernel) rfl rfl hJ (Nat.le_of_ble_eq_true rfl) rfl ?_
  intro p e s m args below meth c hC hK hW hr hlk
  refine vv_aload_n hC 0 dX2_anchorInRow_0 rfl rfl (q := 1) rfl ?_
  refine vv_get hC hK (K := RX2) (T := TX2) (N := 4) (ci := 2) inwX2_anchorInRow_X2 1 (kl2 (by decide +kernel)) (oc2 (by decide +kernel)) rfl 0 (by decide) (List.mem_of_getElem? (i := 1) rfl) rfl (v := .ref (ad 2)) rfl dX2_anchorInRow_1 (q := 4) rfl ?_
  refine vv_iload_n hC 1 dX2_anchorInRow_4 rfl rfl (q := 5) rfl ?_
  refine vv_calli hC hK (fun _ h => h) (As := [.int n]) 2 (kl6 (by decide +kernel)) (or6 (by decide +kernel)) rfl (c6_anchorOf l hJ S n) (cwV 1 hC.2.2.2.2 gX2_anchorInRow_X6_anchorOf rfl rfl rfl hdX6_anchorOf ⟨Nat.le_of_ble_eq_true rfl, Nat.le_of_ble_eq_true rfl⟩) rfl rfl (Nat.le_of_ble_eq_true rfl) ⟨Nat.le_of_ble_eq_true rfl, Nat.le_of_ble_eq_true rfl⟩ dX2_anchorInRow_5 (q := 8) rfl ?_
  refine vv_istore_n hC (i := 2) (lv' := [(2, .int (rAt (S.1 7) n)), (0, .ref (ad 1)), (1, .int n)]) dX2_anchorInRow_8 rfl (by decide) rfl (q := 9) rfl ?_
  refine vv_iconst hC (v := 0) dX2_anchorInRow_9 rfl (q := 10) rfl ?_
  refine vv_istore_n hC (i := 3) (lv' := [(3, .int 0), (2, .int (rAt (S.1 7) n)), (0, .ref (ad 1)), (1, .int n)]) dX2_anchorInRow_10 rfl (by decide) rfl (q := 11) rfl ?_
  have loop11 : ∀ (fu : Nat) (i : Nat) (r : Nat) (a : Int32), r < fu → i + r = 300 → ancF S r a = anc S n → vv p l e (headSpec wsX2_anchorInRow ({ frames := 3, cells := 0, slots := 0, locals := 63 })).room s m args below meth c 4 (RA ad 90) s.heap 0 0 (MQ below (va_Qi (fun r' (_ : Unit) => r' = (anc S n)) (fun _ => ws0 D vwCl (tyL cI cW cZ cL) ad 90 (PC cI cW ad S)) (RA ad 90)) args s 0 0 (RA ad 90)) (wq D vwCl ad 90 (PC cI cW ad S)) 11 [(0, .ref (ad 1)), (1, .int n), (2, .int a), (3, .int (nI i))] [] := by
    intro fu
    induction fu with
    | zero =>
      intro i r a hfu hi hres
      exact absurd hfu (Nat.not_lt_zero _)
    | succ fu ih =>
      intro i r a hfu hi hres
      refine vv_iload_n hC 3 dX2_anchorInRow_11 rfl rfl (q := 12) rfl ?_
      refine vv_sipush hC (v := nI 300) dX2_anchorInRow_12 rfl (q := 15) rfl ?_
      refine vv_icmp_ge hC (tgt := 49) dX2_anchorInRow_15 (by decide) (q := 18) rfl (fun h15 => ?_) (fun h15 => ?_)
      · skip
        refine vv_iload_n hC 2 dX2_anchorInRow_49 rfl rfl (q := 50) rfl ?_
        exact vv_iret hC hK hr hlk (by rw [nI_leI (by omega) (by omega)] at h15; obtain rfl : r = 0 := (by omega); exact hres) (fun _ h => h) dX2_anchorInRow_50
      · skip
        obtain ⟨r2, rfl⟩ : ∃ r2, r = r2 + 1 := ⟨r - 1, by rw [nI_leI (by omega) (by omega)] at h15; omega⟩
        refine vv_iload_n hC 2 dX2_anchorInRow_18 rfl rfl (q := 19) rfl ?_
        refine vv_iconst hC (v := (-1)) dX2_anchorInRow_19 rfl (q := 20) rfl ?_
        refine vv_icmp_eq hC (tgt := 49) dX2_anchorInRow_20 (by decide) (q := 23) rfl (fun h20 => ?_) (fun h20 => ?_)
        · skip
          refine vv_iload_n hC 2 dX2_anchorInRow_49 rfl rfl (q := 50) rfl ?_
          exact vv_iret hC hK hr hlk (by rw [← hres, ancF, if_pos h20]) (fun _ h => h) dX2_anchorInRow_50
        · skip
          refine vv_aload_n hC 0 dX2_anchorInRow_23 rfl rfl (q := 24) rfl ?_
          refine vv_get hC hK (K := RX2) (T := TX2) (N := 4) (ci := 2) inwX2_anchorInRow_X2 1 (kl2 (by decide +kernel)) (oc2 (by decide +kernel)) rfl 0 (by decide) (List.mem_of_getElem? (i := 1) rfl) rfl (v := .ref (ad 2)) rfl dX2_anchorInRow_24 (q := 27) rfl ?_
          refine vv_iload_n hC 2 dX2_anchorInRow_27 rfl rfl (q := 28) rfl ?_
          refine vv_calli hC hK (fun _ h => h) (As := [.int a]) 2 (kl6 (by decide +kernel)) (or6 (by decide +kernel)) rfl (c6_cameIn l hJ S a) (cwV 1 hC.2.2.2.2 gX2_anchorInRow_X6_cameIn rfl rfl rfl hdX6_cameIn ⟨Nat.le_of_ble_eq_true rfl, Nat.le_of_ble_eq_true rfl⟩) rfl rfl (Nat.le_of_ble_eq_true rfl) ⟨Nat.le_of_ble_eq_true rfl, Nat.le_of_ble_eq_true rfl⟩ dX2_anchorInRow_28 (q := 31) rfl ?_
          refine vv_if_ne hC (tgt := 49) dX2_anchorInRow_31 (by decide) (q := 34) rfl (fun h31 => ?_) (fun h31 => ?_)
          · skip
            refine vv_iload_n hC 2 dX2_anchorInRow_49 rfl rfl (q := 50) rfl ?_
            exact vv_iret hC hK hr hlk (by rw [← hres, ancF, if_neg h20, if_pos (bI_1 h31)]) (fun _ h => h) dX2_anchorInRow_50
          · skip
            refine vv_aload_n hC 0 dX2_anchorInRow_34 rfl rfl (q := 35) rfl ?_
            refine vv_get hC hK (K := RX2) (T := TX2) (N := 4) (ci := 2) inwX2_anchorInRow_X2 1 (kl2 (by decide +kernel)) (oc2 (by decide +kernel)) rfl 0 (by decide) (List.mem_of_getElem? (i := 1) rfl) rfl (v := .ref (ad 2)) rfl dX2_anchorInRow_35 (q := 38) rfl ?_
            refine vv_iload_n hC 2 dX2_anchorInRow_38 rfl rfl (q := 39) rfl ?_
            refine vv_calli hC hK (fun _ h => h) (As := [.int a]) 2 (kl6 (by decide +kernel)) (or6 (by decide +kernel)) rfl (c6_anchorOf l hJ S a) (cwV 1 hC.2.2.2.2 gX2_anchorInRow_X6_anchorOf rfl rfl rfl hdX6_anchorOf ⟨Nat.le_of_ble_eq_true rfl, Nat.le_of_ble_eq_true rfl⟩) rfl rfl (Nat.le_of_ble_eq_true rfl) ⟨Nat.le_of_ble_eq_true rfl, Nat.le_of_ble_eq_true rfl⟩ dX2_anchorInRow_39 (q := 42) rfl ?_
            refine vv_istore_n hC (i := 2) (lv' := [(2, .int (rAt (S.1 7) a)), (0, .ref (ad 1)), (1, .int n), (3, .int (nI i))]) dX2_anchorInRow_42 rfl (by decide) rfl (q := 43) rfl ?_
            refine vv_iinc hC (i := 3) (v := nI (i + 1)) (lv' := [(3, .int (nI (i + 1))), (2, .int (rAt (S.1 7) a)), (0, .ref (ad 1)), (1, .int n)]) 3 dX2_anchorInRow_43 rfl (nI_1 i) (by decide) rfl (q := 46) rfl ?_
            refine vv_goto hC (tgt := 11) dX2_anchorInRow_46 (by decide) ?_
            exact vv_lv [2, 3, 1, 0] rfl (ih (i + 1) r2 _ (by omega) (by omega) (by rw [← hres, ancF, if_neg h20, bI_0.mp h31, if_neg Bool.false_ne_true]))
  exact vv_lv [2, 3, 1, 0] rfl (loop11 301 0 300 _ (by omega) rfl rfl)
theorem inwX2_partsReview_X2 : ∀ w ∈ wsX20, w ∈ wsX2_partsReview := fun _ h => List.mem_cons_of_mem _ (List.mem_append_left _ (List.mem_append_left _ (List.mem_append_right _ h)))
theorem inwX2_partsReview_X5 : ∀ w ∈ wsX50, w ∈ wsX2_partsReview := fun _ h => List.mem_cons_of_mem _ (List.mem_append_left _ (List.mem_append_right _ h))
theorem inwX2_partsReview_X6 : ∀ w ∈ wsX60, w ∈ wsX2_partsReview := fun _ h => List.mem_cons_of_mem _ (List.mem_append_right _ h)
theorem hdX2_partsReview : yX2_partsReview.cls = RX2 ∧ yX2_partsReview.cls ≠ "java/lang/invoke/MethodHandle" ∧ yX2_partsReview.cls ≠ "java/lang/invoke/VarHandle" ∧ (parseMethodDescriptor yX2_partsReview.desc).map (fun d => d.parameters.length) = some 1 := by decide +kernel
set_option maxRecDepth 100000 in
set_option maxHeartbeats 4000000 in
theorem c2_partsReview (l : Launch) {D : va_G} {cI cW cZ cL : ClassId} {ad : Nat → Nat} (hJ : injA ad 90) (S : sC) (n : Nat) (hn : n ≤ (S.1 15).length) : kMi l yX2_partsReview wsX2_partsReview ({ frames := 3, cells := 0, slots := 0, locals := 63 }) D vwCl (tyL cI cW cZ cL) ad 90 [.ref (ad 1), .int (nI n)] (PC cI cW ad S) (bI (parts S n)) (PC cI cW ad S) := by
  refine vv_enter (cc := cX2_partsReview) (maxL := 5) (ret := (some .boolean)) (own := RX2) (lv := [(0, .ref (ad 1)), (1, .int (nI n))]) (by decide +kernel) rfl rfl hJ (Nat.le_of_ble_eq_true rfl) rfl ?_
  intro p e s m args below meth c hC hK hW hr hlk
  refine vv_pure (P := wfC S) (fun H hB => by obtain ⟨f, hf, -⟩ := hB; exact oc_wf f hf) (fun hwf => ?_)
  have hw := hwf 15 rfl
  have hc := cap_le 15
  have join69 : vv p l e (headSpec wsX2_partsReview ({ frames := 3, cells := 0, slots := 0, locals := 63 })).room s m args below meth c 5 (RA ad 90) s.heap 0 0 (MQ below (va_Qi (fun r' (_ : Unit) => r' = (bI (parts S n))) (fun _ => ws0 D vwCl (tyL cI cW cZ cL) ad 90 (PC cI cW ad S)) (RA ad 90)) args s 0 0 (RA ad 90)) (wq D vwCl ad 90 (PC cI cW ad S)) 69 [(0, .ref (ad 1)), (1, .int (nI n)), (2, .int (nI (aheadF S n) - 1)), (3, .int (nI (behF S ((S.1 15).length + 1) n)))] [] := by
    refine vv_aload_n hC 0 dX2_partsReview_69 rfl rfl (q := 70) rfl ?_
    refine vv_get hC hK (K := RX2) (T := TX2) (N := 4) (ci := 2) inwX2_partsReview_X2 1 (kl2 (by decide +kernel)) (oc2 (by decide +kernel)) rfl 0 (by decide) (List.mem_of_getElem? (i := 1) rfl) rfl (v := .ref (ad 2)) rfl dX2_partsReview_70 (q := 73) rfl ?_
    refine vv_aload_n hC 0 dX2_partsReview_73 rfl rfl (q := 74) rfl ?_
    refine vv_get hC hK (K := RX2) (T := TX2) (N := 4) (ci := 2) inwX2_partsReview_X2 1 (kl2 (by decide +kernel)) (oc2 (by decide +kernel)) rfl 1 (by decide) (List.mem_of_getElem? (i := 2) rfl) rfl (v := .ref (ad 15)) rfl dX2_partsReview_74 (q := 77) rfl ?_
    refine vv_iload_n hC 2 dX2_partsReview_77 rfl rfl (q := 78) rfl ?_
    refine vv_calli hC hK (fun _ h => h) (As := [.int (nI (aheadF S n) - 1)]) 15 (kl5 (by decide +kernel)) (or5 (by decide +kernel)) rfl (c5_at l hJ S 15 (by decide +kernel) (nI (aheadF S n) - 1)) (cwV 1 hC.2.2.2.2 gX2_partsReview_X5_at rfl rfl rfl hdX5_at ⟨Nat.le_of_ble_eq_true rfl, Nat.le_of_ble_eq_true rfl⟩) rfl rfl (Nat.le_of_ble_eq_true rfl) ⟨Nat.le_of_ble_eq_true rfl, Nat.le_of_ble_eq_true rfl⟩ dX2_partsReview_78 (q := 81) rfl ?_
    refine vv_calli hC hK (fun _ h => h) (As := [.int (rAt (S.1 15) (nI (aheadF S n) - 1))]) 2 (kl6 (by decide +kernel)) (or6 (by decide +kernel)) rfl (c6_reviewOf l hJ S (rAt (S.1 15) (nI (aheadF S n) - 1))) (cwV 1 hC.2.2.2.2 gX2_partsReview_X6_reviewOf rfl rfl rfl hdX6_reviewOf ⟨Nat.le_of_ble_eq_true rfl, Nat.le_of_ble_eq_true rfl⟩) rfl rfl (Nat.le_of_ble_eq_true rfl) ⟨Nat.le_of_ble_eq_true rfl, Nat.le_of_ble_eq_true rfl⟩ dX2_partsReview_81 (q := 84) rfl ?_
    refine vv_istore hC (i := 4) (lv' := [(4, .int (rAt (S.1 11) (rAt (S.1 15) (nI (aheadF S n) - 1)))), (0, .ref (ad 1)), (1, .int (nI n)), (2, .int (nI (aheadF S n) - 1)), (3, .int (nI (behF S ((S.1 15).length + 1) n)))]) dX2_partsReview_84 (by decide) rfl (q := 86) rfl ?_
    refine vv_iload hC 0 dX2_partsReview_86 rfl (q := 88) rfl ?_
    refine vv_iconst hC (v := (-1)) dX2_partsReview_88 rfl (q := 89) rfl ?_
    refine vv_icmp_eq hC (tgt := 116) dX2_partsReview_89 (by decide) (q := 92) rfl (fun h89 => ?_) (fun h89 => ?_)
    · skip
      refine vv_iconst hC (v := 0) dX2_partsReview_116 rfl (q := 117) rfl ?_
      exact vv_zret hC hK hr hlk rfl (by simp [parts, bI, h89]) (fun _ h => h) dX2_partsReview_117
    · skip
      refine vv_iload hC 0 dX2_partsReview_92 rfl (q := 94) rfl ?_
      refine vv_aload_n hC 1 dX2_partsReview_94 rfl rfl (q := 95) rfl ?_
      refine vv_get hC hK (K := RX2) (T := TX2) (N := 4) (ci := 2) inwX2_partsReview_X2 1 (kl2 (by decide +kernel)) (oc2 (by decide +kernel)) rfl 0 (by decide) (List.mem_of_getElem? (i := 1) rfl) rfl (v := .ref (ad 2)) rfl dX2_partsReview_95 (q := 98) rfl ?_
      refine vv_aload_n hC 1 dX2_partsReview_98 rfl rfl (q := 99) rfl ?_
      refine vv_get hC hK (K := RX2) (T := TX2) (N := 4) (ci := 2) inwX2_partsReview_X2 1 (kl2 (by decide +kernel)) (oc2 (by decide +kernel)) rfl 1 (by decide) (List.mem_of_getElem? (i := 2) rfl) rfl (v := .ref (ad 15)) rfl dX2_partsReview_99 (q := 102) rfl ?_
      refine vv_iload_n hC 4 dX2_partsReview_102 rfl rfl (q := 103) rfl ?_
      refine vv_calli hC hK (fun _ h => h) (As := [.int (nI (behF S ((S.1 15).length + 1) n))]) 15 (kl5 (by decide +kernel)) (or5 (by decide +kernel)) rfl (c5_at l hJ S 15 (by decide +kernel) (nI (behF S ((S.1 15).length + 1) n))) (cwV 1 hC.2.2.2.2 gX2_partsReview_X5_at rfl rfl rfl hdX5_at ⟨Nat.le_of_ble_eq_true rfl, Nat.le_of_ble_eq_true rfl⟩) rfl rfl (Nat.le_of_ble_eq_true rfl) ⟨Nat.le_of_ble_eq_true rfl, Nat.le_of_ble_eq_true rfl⟩ dX2_partsReview_103 (q := 106) rfl ?_
      refine vv_calli hC hK (fun _ h => h) (As := [.int (rAt (S.1 15) (nI (behF S ((S.1 15).length + 1) n)))]) 2 (kl6 (by decide +kernel)) (or6 (by decide +kernel)) rfl (c6_reviewOf l hJ S (rAt (S.1 15) (nI (behF S ((S.1 15).length + 1) n)))) (cwV 1 hC.2.2.2.2 gX2_partsReview_X6_reviewOf rfl rfl rfl hdX6_reviewOf ⟨Nat.le_of_ble_eq_true rfl, Nat.le_of_ble_eq_true rfl⟩) rfl rfl (Nat.le_of_ble_eq_true rfl) ⟨Nat.le_of_ble_eq_true rfl, Nat.le_of_ble_eq_true rfl⟩ dX2_partsReview_106 (q := 109) rfl ?_
      refine vv_icmp_ne hC (tgt := 116) dX2_partsReview_109 (by decide) (q := 112) rfl (fun h109 => ?_) (fun h109 => ?_)
      · skip
        refine vv_iconst hC (v := 0) dX2_partsReview_116 rfl (q := 117) rfl ?_
        exact vv_zret hC hK hr hlk rfl (by simp [parts, bI, h109]) (fun _ h => h) dX2_partsReview_117
      · skip
        refine vv_iconst hC (v := 1) dX2_partsReview_112 rfl (q := 113) rfl ?_
        refine vv_goto hC (tgt := 117) dX2_partsReview_113 (by decide) ?_
        exact vv_zret hC hK hr hlk rfl (by rw [parts, ← h109]; simp [bI, h89]) (fun _ h => h) dX2_partsReview_117
  have join32 : vv p l e (headSpec wsX2_partsReview ({ frames := 3, cells := 0, slots := 0, locals := 63 })).room s m args below meth c 5 (RA ad 90) s.heap 0 0 (MQ below (va_Qi (fun r' (_ : Unit) => r' = (bI (parts S n))) (fun _ => ws0 D vwCl (tyL cI cW cZ cL) ad 90 (PC cI cW ad S)) (RA ad 90)) args s 0 0 (RA ad 90)) (wq D vwCl ad 90 (PC cI cW ad S)) 32 [(0, .ref (ad 1)), (1, .int (nI n)), (2, .int (nI (aheadF S n) - 1))] [] := by
    refine vv_iload_n hC 1 dX2_partsReview_32 rfl rfl (q := 33) rfl ?_
    refine vv_istore_n hC (i := 3) (lv' := [(3, .int (nI n)), (0, .ref (ad 1)), (1, .int (nI n)), (2, .int (nI (aheadF S n) - 1))]) dX2_partsReview_33 rfl (by decide) rfl (q := 34) rfl ?_
    have loop34 : ∀ (fu : Nat) (b : Nat), (S.1 15).length < b + fu → b ≤ (S.1 15).length → behF S fu b = behF S ((S.1 15).length + 1) n → vv p l e (headSpec wsX2_partsReview ({ frames := 3, cells := 0, slots := 0, locals := 63 })).room s m args below meth c 5 (RA ad 90) s.heap 0 0 (MQ below (va_Qi (fun r' (_ : Unit) => r' = (bI (parts S n))) (fun _ => ws0 D vwCl (tyL cI cW cZ cL) ad 90 (PC cI cW ad S)) (RA ad 90)) args s 0 0 (RA ad 90)) (wq D vwCl ad 90 (PC cI cW ad S)) 34 [(0, .ref (ad 1)), (1, .int (nI n)), (2, .int (nI (aheadF S n) - 1)), (3, .int (nI b))] [] := by
      intro fu
      induction fu with
      | zero =>
        intro b hfu hb hres2
        exact absurd hfu (by omega)
      | succ fu ih =>
        intro b hfu hb hres2
        refine vv_iload_n hC 3 dX2_partsReview_34 rfl rfl (q := 35) rfl ?_
        refine vv_aload_n hC 0 dX2_partsReview_35 rfl rfl (q := 36) rfl ?_
        refine vv_get hC hK (K := RX2) (T := TX2) (N := 4) (ci := 2) inwX2_partsReview_X2 1 (kl2 (by decide +kernel)) (oc2 (by decide +kernel)) rfl 1 (by decide) (List.mem_of_getElem? (i := 2) rfl) rfl (v := .ref (ad 15)) rfl dX2_partsReview_36 (q := 39) rfl ?_
        refine vv_calli hC hK (fun _ h => h) (As := []) 15 (kl5 (by decide +kernel)) (or5 (by decide +kernel)) rfl (c5_size l hJ S 15 (by decide +kernel)) (cwV 0 hC.2.2.2.2 gX2_partsReview_X5_size rfl rfl rfl hdX5_size ⟨Nat.le_of_ble_eq_true rfl, Nat.le_of_ble_eq_true rfl⟩) rfl rfl (Nat.le_of_ble_eq_true rfl) ⟨Nat.le_of_ble_eq_true rfl, Nat.le_of_ble_eq_true rfl⟩ dX2_partsReview_39 (q := 42) rfl ?_
        refine vv_icmp_ge hC (tgt := 69) dX2_partsReview_42 (by decide) (q := 45) rfl (fun h42 => ?_) (fun h42 => ?_)
        · skip
          refine vv_lv [0, 1, 2, 3] (lv' := [(0, .ref (ad 1)), (1, .int (nI n)), (2, .int (nI (aheadF S n) - 1)), (3, .int (nI b))]) rfl ?_
          exact vv_eql (lv' := [(0, .ref (ad 1)), (1, .int (nI n)), (2, .int (nI (aheadF S n) - 1)), (3, .int (nI (behF S ((S.1 15).length + 1) n)))]) (by rw [← hres2, behF, if_neg (by rw [nI_leI (by omega) (by omega)] at h42; omega)]) join69
        · skip
          refine vv_aload_n hC 0 dX2_partsReview_45 rfl rfl (q := 46) rfl ?_
          refine vv_get hC hK (K := RX2) (T := TX2) (N := 4) (ci := 2) inwX2_partsReview_X2 1 (kl2 (by decide +kernel)) (oc2 (by decide +kernel)) rfl 0 (by decide) (List.mem_of_getElem? (i := 1) rfl) rfl (v := .ref (ad 2)) rfl dX2_partsReview_46 (q := 49) rfl ?_
          refine vv_aload_n hC 0 dX2_partsReview_49 rfl rfl (q := 50) rfl ?_
          refine vv_get hC hK (K := RX2) (T := TX2) (N := 4) (ci := 2) inwX2_partsReview_X2 1 (kl2 (by decide +kernel)) (oc2 (by decide +kernel)) rfl 1 (by decide) (List.mem_of_getElem? (i := 2) rfl) rfl (v := .ref (ad 15)) rfl dX2_partsReview_50 (q := 53) rfl ?_
          refine vv_iload_n hC 3 dX2_partsReview_53 rfl rfl (q := 54) rfl ?_
          refine vv_calli hC hK (fun _ h => h) (As := [.int (nI b)]) 15 (kl5 (by decide +kernel)) (or5 (by decide +kernel)) rfl (c5_at l hJ S 15 (by decide +kernel) (nI b)) (cwV 1 hC.2.2.2.2 gX2_partsReview_X5_at rfl rfl rfl hdX5_at ⟨Nat.le_of_ble_eq_true rfl, Nat.le_of_ble_eq_true rfl⟩) rfl rfl (Nat.le_of_ble_eq_true rfl) ⟨Nat.le_of_ble_eq_true rfl, Nat.le_of_ble_eq_true rfl⟩ dX2_partsReview_54 (q := 57) rfl ?_
          refine vv_calli hC hK (fun _ h => h) (As := [.int (rAt (S.1 15) (nI b))]) 2 (kl6 (by decide +kernel)) (or6 (by decide +kernel)) rfl (c6_isThere l hJ S (rAt (S.1 15) (nI b))) (cwV 1 hC.2.2.2.2 gX2_partsReview_X6_isThere rfl rfl rfl hdX6_isThere ⟨Nat.le_of_ble_eq_true rfl, Nat.le_of_ble_eq_true rfl⟩) rfl rfl (Nat.le_of_ble_eq_true rfl) ⟨Nat.le_of_ble_eq_true rfl, Nat.le_of_ble_eq_true rfl⟩ dX2_partsReview_57 (q := 60) rfl ?_
          refine vv_if_ne hC (tgt := 69) dX2_partsReview_60 (by decide) (q := 63) rfl (fun h60 => ?_) (fun h60 => ?_)
          · skip
            refine vv_lv [0, 1, 2, 3] (lv' := [(0, .ref (ad 1)), (1, .int (nI n)), (2, .int (nI (aheadF S n) - 1)), (3, .int (nI b))]) rfl ?_
            exact vv_eql (lv' := [(0, .ref (ad 1)), (1, .int (nI n)), (2, .int (nI (aheadF S n) - 1)), (3, .int (nI (behF S ((S.1 15).length + 1) n)))]) (by rw [← hres2, behF, if_pos (by rw [nI_leI (by omega) (by omega)] at h42; omega), if_pos (bI_1 h60)]) join69
          · skip
            refine vv_iinc hC (i := 3) (v := nI (b + 1)) (lv' := [(3, .int (nI (b + 1))), (0, .ref (ad 1)), (1, .int (nI n)), (2, .int (nI (aheadF S n) - 1))]) 3 dX2_partsReview_63 rfl (nI_1 b) (by decide) rfl (q := 66) rfl ?_
            refine vv_goto hC (tgt := 34) dX2_partsReview_66 (by decide) ?_
            exact vv_lv [1, 2, 3, 0] rfl (ih (b + 1) (by omega) (by rw [nI_leI (by omega) (by omega)] at h42; omega) (by rw [← hres2, behF, if_pos (by rw [nI_leI (by omega) (by omega)] at h42; omega), bI_0.mp h60, if_neg Bool.false_ne_true]))
    exact vv_lv [1, 2, 3, 0] rfl (loop34 _ n (by omega) hn rfl)
  refine vv_iload_n hC 1 dX2_partsReview_0 rfl rfl (q := 1) rfl ?_
  refine vv_iconst hC (v := 1) dX2_partsReview_1 rfl (q := 2) rfl ?_
  refine vv_isub hC dX2_partsReview_2 (q := 3) rfl ?_
  refine vv_istore_n hC (i := 2) (lv' := [(2, .int ((nI n) - 1)), (0, .ref (ad 1)), (1, .int (nI n))]) dX2_partsReview_3 rfl (by decide) rfl (q := 4) rfl ?_
  have loop4 : ∀ (fu : Nat) (k : Nat), k < fu → k ≤ n → aheadF S k = aheadF S n → vv p l e (headSpec wsX2_partsReview ({ frames := 3, cells := 0, slots := 0, locals := 63 })).room s m args below meth c 5 (RA ad 90) s.heap 0 0 (MQ below (va_Qi (fun r' (_ : Unit) => r' = (bI (parts S n))) (fun _ => ws0 D vwCl (tyL cI cW cZ cL) ad 90 (PC cI cW ad S)) (RA ad 90)) args s 0 0 (RA ad 90)) (wq D vwCl ad 90 (PC cI cW ad S)) 4 [(0, .ref (ad 1)), (1, .int (nI n)), (2, .int (nI k - 1))] [] := by
    intro fu
    induction fu with
    | zero =>
      intro k hfu hk hres
      exact absurd hfu (Nat.not_lt_zero _)
    | succ fu ih =>
      intro k hfu hk hres
      refine vv_iload_n hC 2 dX2_partsReview_4 rfl rfl (q := 5) rfl ?_
      refine vv_if_lt hC (tgt := 32) dX2_partsReview_5 (by decide) (q := 8) rfl (fun h5 => ?_) (fun h5 => ?_)
      · skip
        refine vv_lv [0, 1, 2] (lv' := [(0, .ref (ad 1)), (1, .int (nI n)), (2, .int (nI k - 1))]) rfl ?_
        exact vv_eql (lv' := [(0, .ref (ad 1)), (1, .int (nI n)), (2, .int (nI (aheadF S n) - 1))]) (by obtain rfl := nI_m1_s (by omega) h5; rw [← hres]; rfl) join32
      · skip
        obtain ⟨k2, rfl⟩ := nI_m1_0 h5
        refine vv_eql (lv' := [(0, .ref (ad 1)), (1, .int (nI n)), (2, .int (nI k2))]) (by rw [nI_pred]) ?_
        refine vv_aload_n hC 0 dX2_partsReview_8 rfl rfl (q := 9) rfl ?_
        refine vv_get hC hK (K := RX2) (T := TX2) (N := 4) (ci := 2) inwX2_partsReview_X2 1 (kl2 (by decide +kernel)) (oc2 (by decide +kernel)) rfl 0 (by decide) (List.mem_of_getElem? (i := 1) rfl) rfl (v := .ref (ad 2)) rfl dX2_partsReview_9 (q := 12) rfl ?_
        refine vv_aload_n hC 0 dX2_partsReview_12 rfl rfl (q := 13) rfl ?_
        refine vv_get hC hK (K := RX2) (T := TX2) (N := 4) (ci := 2) inwX2_partsReview_X2 1 (kl2 (by decide +kernel)) (oc2 (by decide +kernel)) rfl 1 (by decide) (List.mem_of_getElem? (i := 2) rfl) rfl (v := .ref (ad 15)) rfl dX2_partsReview_13 (q := 16) rfl ?_
        refine vv_iload_n hC 2 dX2_partsReview_16 rfl rfl (q := 17) rfl ?_
        refine vv_calli hC hK (fun _ h => h) (As := [.int (nI k2)]) 15 (kl5 (by decide +kernel)) (or5 (by decide +kernel)) rfl (c5_at l hJ S 15 (by decide +kernel) (nI k2)) (cwV 1 hC.2.2.2.2 gX2_partsReview_X5_at rfl rfl rfl hdX5_at ⟨Nat.le_of_ble_eq_true rfl, Nat.le_of_ble_eq_true rfl⟩) rfl rfl (Nat.le_of_ble_eq_true rfl) ⟨Nat.le_of_ble_eq_true rfl, Nat.le_of_ble_eq_true rfl⟩ dX2_partsReview_17 (q := 20) rfl ?_
        refine vv_calli hC hK (fun _ h => h) (As := [.int (rAt (S.1 15) (nI k2))]) 2 (kl6 (by decide +kernel)) (or6 (by decide +kernel)) rfl (c6_isThere l hJ S (rAt (S.1 15) (nI k2))) (cwV 1 hC.2.2.2.2 gX2_partsReview_X6_isThere rfl rfl rfl hdX6_isThere ⟨Nat.le_of_ble_eq_true rfl, Nat.le_of_ble_eq_true rfl⟩) rfl rfl (Nat.le_of_ble_eq_true rfl) ⟨Nat.le_of_ble_eq_true rfl, Nat.le_of_ble_eq_true rfl⟩ dX2_partsReview_20 (q := 23) rfl ?_
        refine vv_if_ne hC (tgt := 32) dX2_partsReview_23 (by decide) (q := 26) rfl (fun h23 => ?_) (fun h23 => ?_)
        · skip
          refine vv_lv [0, 1, 2] (lv' := [(0, .ref (ad 1)), (1, .int (nI n)), (2, .int (nI k2))]) rfl ?_
          exact vv_eql (lv' := [(0, .ref (ad 1)), (1, .int (nI n)), (2, .int (nI (aheadF S n) - 1))]) (by rw [← hres, aheadF, if_pos (bI_1 h23), nI_pred]) join32
        · skip
          refine vv_iinc hC (i := 2) (v := nI k2 - 1) (lv' := [(2, .int (nI k2 - 1)), (0, .ref (ad 1)), (1, .int (nI n))]) 2 dX2_partsReview_26 rfl (nI_dec k2) (by decide) rfl (q := 29) rfl ?_
          refine vv_goto hC (tgt := 4) dX2_partsReview_29 (by decide) ?_
          exact vv_lv [1, 2, 0] rfl (ih k2 (by omega) (by omega) (by rw [← hres, aheadF, bI_0.mp h23, if_neg Bool.false_ne_true]))
  exact vv_lv [1, 2, 0] rfl (loop4 (n + 1) n (by omega) (by omega) rfl)
theorem inwX2_putIn_X2 : ∀ w ∈ wsX20, w ∈ wsX2_putIn := fun _ h => List.mem_cons_of_mem _ (List.mem_append_left _ (List.mem_append_left _ (List.mem_append_left _ (List.mem_append_right _ h))))
theorem inwX2_putIn_X6 : ∀ w ∈ wsX60, w ∈ wsX2_putIn := fun _ h => List.mem_cons_of_mem _ (List.mem_append_left _ (List.mem_append_left _ (List.mem_append_right _ h)))
theorem inwX2_putIn_X5 : ∀ w ∈ wsX50, w ∈ wsX2_putIn := fun _ h => List.mem_cons_of_mem _ (List.mem_append_left _ (List.mem_append_right _ h))
theorem inwX2_putIn_X0 : ∀ w ∈ wsX00, w ∈ wsX2_putIn := fun _ h => List.mem_cons_of_mem _ (List.mem_append_right _ h)
theorem hdX2_putIn : yX2_putIn.cls = RX2 ∧ yX2_putIn.cls ≠ "java/lang/invoke/MethodHandle" ∧ yX2_putIn.cls ≠ "java/lang/invoke/VarHandle" ∧ (parseMethodDescriptor yX2_putIn.desc).map (fun d => d.parameters.length) = some 1 := by decide +kernel
set_option maxRecDepth 100000 in
set_option maxHeartbeats 4000000 in
theorem c2_putIn (l : Launch) {D : va_G} {cI cW cZ cL : ClassId} {ad : Nat → Nat} (hJ : injA ad 90) (S : sC) (n : Int32) : kMi l yX2_putIn wsX2_putIn ({ frames := 4, cells := 0, slots := 0, locals := 104 }) D vwCl (tyL cI cW cZ cL) ad 90 [.ref (ad 1), .int n] (PC cI cW ad S) (bI (putIn S n).1) (PC cI cW ad ((putIn S n).2)) := by
  refine vv_enter (cc := cX2_putIn) (maxL := 4) (ret := (some .boolean)) (own := RX2) (lv := [(0, .ref (ad 1)), (1, .int n)]) (by decide +kernel) rfl rfl hJ (Nat.le_of_ble_eq_true rfl) rfl ?_
  intro p e s m args below meth c hC hK hW hr hlk
  refine vv_pure (P := wfC S) (fun H hB => by obtain ⟨f, hf, -⟩ := hB; exact oc_wf f hf) (fun hwf => ?_)
  have hw := hwf 15 rfl
  have hc := cap_le 15
  refine vv_aload_n hC 0 dX2_putIn_0 rfl rfl (q := 1) rfl ?_
  refine vv_iload_n hC 1 dX2_putIn_1 rfl rfl (q := 2) rfl ?_
  refine vv_calli hC hK (fun _ h => h) (As := [.int n]) 1 (kl2 (by decide +kernel)) (or2 (by decide +kernel)) rfl (c2_anchorInRow l hJ S n) (cwV 1 hC.2.2.2.2 gX2_putIn_X2_anchorInRow rfl rfl rfl hdX2_anchorInRow ⟨Nat.le_of_ble_eq_true rfl, Nat.le_of_ble_eq_true rfl⟩) rfl rfl (Nat.le_of_ble_eq_true rfl) ⟨Nat.le_of_ble_eq_true rfl, Nat.le_of_ble_eq_true rfl⟩ dX2_putIn_2 (q := 5) rfl ?_
  refine vv_istore_n hC (i := 2) (lv' := [(2, .int (anc S n)), (0, .ref (ad 1)), (1, .int n)]) dX2_putIn_5 rfl (by decide) rfl (q := 6) rfl ?_
  have join25 : vv p l e (headSpec wsX2_putIn ({ frames := 4, cells := 0, slots := 0, locals := 104 })).room s m args below meth c 4 (RA ad 90) s.heap 0 0 (MQ below (va_Qi (fun r' (_ : Unit) => r' = (bI (putIn S n).1)) (fun _ => ws0 D vwCl (tyL cI cW cZ cL) ad 90 (PC cI cW ad ((putIn S n).2))) (RA ad 90)) args s 0 0 (RA ad 90)) (wq D vwCl ad 90 (PC cI cW ad S)) 25 [(0, .ref (ad 1)), (1, .int n), (2, .int (anc S n))] [.int (nI (pIdx (S.1 15) (anc S n)))] := by
    refine vv_istore_n hC (i := 3) (lv' := [(3, .int (nI (pIdx (S.1 15) (anc S n)))), (0, .ref (ad 1)), (1, .int n), (2, .int (anc S n))]) dX2_putIn_25 rfl (by decide) rfl (q := 26) rfl ?_
    refine vv_aload_n hC 1 dX2_putIn_26 rfl rfl (q := 27) rfl ?_
    refine vv_iload_n hC 0 dX2_putIn_27 rfl rfl (q := 28) rfl ?_
    refine vv_calli hC hK (fun _ h => h) (As := [.int (nI (pIdx (S.1 15) (anc S n)))]) 1 (kl2 (by decide +kernel)) (or2 (by decide +kernel)) rfl (c2_partsReview l hJ S (pIdx (S.1 15) (anc S n)) (pIdx_le _ (by omega))) (cwV 1 hC.2.2.2.2 gX2_putIn_X2_partsReview rfl rfl rfl hdX2_partsReview ⟨Nat.le_of_ble_eq_true rfl, Nat.le_of_ble_eq_true rfl⟩) rfl rfl (Nat.le_of_ble_eq_true rfl) ⟨Nat.le_of_ble_eq_true rfl, Nat.le_of_ble_eq_true rfl⟩ dX2_putIn_28 (q := 31) rfl ?_
    refine vv_if_eq hC (tgt := 36) dX2_putIn_31 (by decide) (q := 34) rfl (fun h31 => ?_) (fun h31 => ?_)
    · skip
      refine vv_aload_n hC 1 dX2_putIn_36 rfl rfl (q := 37) rfl ?_
      refine vv_get hC hK (K := RX2) (T := TX2) (N := 4) (ci := 2) inwX2_putIn_X2 1 (kl2 (by decide +kernel)) (oc2 (by decide +kernel)) rfl 1 (by decide) (List.mem_of_getElem? (i := 1) rfl) rfl (v := .ref (ad 15)) rfl dX2_putIn_37 (q := 40) rfl ?_
      refine vv_iload_n hC 0 dX2_putIn_40 rfl rfl (q := 41) rfl ?_
      refine vv_iload_n hC 2 dX2_putIn_41 rfl rfl (q := 42) rfl ?_
      refine vv_callv hC hK (fun _ h => h) (As := [.int (nI (pIdx (S.1 15) (anc S n))), .int n]) 15 (kl5 (by decide +kernel)) (or5 (by decide +kernel)) rfl (c5_insert l hJ S 15 (by decide +kernel) (nI (pIdx (S.1 15) (anc S n))) n) (cwV 2 hC.2.2.2.2 gX2_putIn_X5_insert rfl rfl rfl hdX5_insert ⟨Nat.le_of_ble_eq_true rfl, Nat.le_of_ble_eq_true rfl⟩) rfl rfl (Nat.le_of_ble_eq_true rfl) ⟨Nat.le_of_ble_eq_true rfl, Nat.le_of_ble_eq_true rfl⟩ dX2_putIn_42 (q := 45) rfl ?_
      refine vv_aload_n hC 1 dX2_putIn_45 rfl rfl (q := 46) rfl ?_
      refine vv_get hC hK (K := RX2) (T := TX2) (N := 4) (ci := 2) inwX2_putIn_X2 1 (kl2 (by decide +kernel)) (oc2 (by decide +kernel)) rfl 0 (by decide) (List.mem_of_getElem? (i := 2) rfl) rfl (v := .ref (ad 2)) rfl dX2_putIn_46 (q := 49) rfl ?_
      refine vv_iload_n hC 2 dX2_putIn_49 rfl rfl (q := 50) rfl ?_
      refine vv_callv hC hK (fun _ h => h) (As := [.int n]) 2 (kl6 (by decide +kernel)) (or6 (by decide +kernel)) rfl (c6_setThere l hJ (sSet S 15 (rIns (S.1 15) (cap 15) (nI (pIdx (S.1 15) (anc S n))) n)) n) (cwV 1 hC.2.2.2.2 gX2_putIn_X6_setThere rfl rfl rfl hdX6_setThere ⟨Nat.le_of_ble_eq_true rfl, Nat.le_of_ble_eq_true rfl⟩) rfl rfl (Nat.le_of_ble_eq_true rfl) ⟨Nat.le_of_ble_eq_true rfl, Nat.le_of_ble_eq_true rfl⟩ dX2_putIn_50 (q := 53) rfl ?_
      refine vv_aload_n hC 1 dX2_putIn_53 rfl rfl (q := 54) rfl ?_
      refine vv_get hC hK (K := RX2) (T := TX2) (N := 4) (ci := 2) inwX2_putIn_X2 1 (kl2 (by decide +kernel)) (oc2 (by decide +kernel)) rfl 3 (by decide) (List.mem_of_getElem? (i := 3) rfl) rfl (v := .ref (ad 19)) rfl dX2_putIn_54 (q := 57) rfl ?_
      refine vv_iload_n hC 2 dX2_putIn_57 rfl rfl (q := 58) rfl ?_
      refine vv_callv hC hK (fun _ h => h) (As := [.int n]) 19 (kl0 (by decide +kernel)) (or0 (by decide +kernel)) rfl (c0_addTyped l hJ (sSet (sSet S 15 (rIns (S.1 15) (cap 15) (nI (pIdx (S.1 15) (anc S n))) n)) 9 (rSet ((sSet S 15 (rIns (S.1 15) (cap 15) (nI (pIdx (S.1 15) (anc S n))) n)).1 9) n 1)) 19 (by decide +kernel) n) (cwV 1 hC.2.2.2.2 gX2_putIn_X0_addTyped rfl rfl rfl hdX0_addTyped ⟨Nat.le_of_ble_eq_true rfl, Nat.le_of_ble_eq_true rfl⟩) rfl rfl (Nat.le_of_ble_eq_true rfl) ⟨Nat.le_of_ble_eq_true rfl, Nat.le_of_ble_eq_true rfl⟩ dX2_putIn_58 (q := 61) rfl ?_
      refine vv_iconst hC (v := 1) dX2_putIn_61 rfl (q := 62) rfl ?_
      exact vv_zret hC hK hr hlk rfl (by rw [putIn, bI_0.mp h31, if_neg Bool.false_ne_true]; rfl) (fun f h => by rw [putIn, bI_0.mp h31, if_neg Bool.false_ne_true]; exact h) dX2_putIn_62
    · skip
      refine vv_iconst hC (v := 0) dX2_putIn_34 rfl (q := 35) rfl ?_
      exact vv_zret hC hK hr hlk rfl (by rw [putIn, if_pos (bI_1 h31)]; rfl) (fun f h => by rw [putIn, if_pos (bI_1 h31)]; exact h) dX2_putIn_35
  refine vv_iload_n hC 0 dX2_putIn_6 rfl rfl (q := 7) rfl ?_
  refine vv_iconst hC (v := (-1)) dX2_putIn_7 rfl (q := 8) rfl ?_
  refine vv_icmp_ne hC (tgt := 15) dX2_putIn_8 (by decide) (q := 11) rfl (fun h8 => ?_) (fun h8 => ?_)
  · skip
    refine vv_aload_n hC 1 dX2_putIn_15 rfl rfl (q := 16) rfl ?_
    refine vv_get hC hK (K := RX2) (T := TX2) (N := 4) (ci := 2) inwX2_putIn_X2 1 (kl2 (by decide +kernel)) (oc2 (by decide +kernel)) rfl 1 (by decide) (List.mem_of_getElem? (i := 1) rfl) rfl (v := .ref (ad 15)) rfl dX2_putIn_16 (q := 19) rfl ?_
    refine vv_iload_n hC 0 dX2_putIn_19 rfl rfl (q := 20) rfl ?_
    refine vv_calli hC hK (fun _ h => h) (As := [.int (anc S n)]) 15 (kl5 (by decide +kernel)) (or5 (by decide +kernel)) rfl (c5_indexOf l hJ S 15 (by decide +kernel) (anc S n)) (cwV 1 hC.2.2.2.2 gX2_putIn_X5_indexOf rfl rfl rfl hdX5_indexOf ⟨Nat.le_of_ble_eq_true rfl, Nat.le_of_ble_eq_true rfl⟩) rfl rfl (Nat.le_of_ble_eq_true rfl) ⟨Nat.le_of_ble_eq_true rfl, Nat.le_of_ble_eq_true rfl⟩ dX2_putIn_20 (q := 23) rfl ?_
    refine vv_iconst hC (v := 1) dX2_putIn_23 rfl (q := 24) rfl ?_
    refine vv_iadd hC dX2_putIn_24 (q := 25) rfl ?_
    exact vv_eqv (st' := [.int (nI (pIdx (S.1 15) (anc S n)))]) (by rw [rp_1 _ (by omega), pIdx, if_neg h8]) (vv_lv [1, 2, 0] rfl join25)
  · skip
    refine vv_iconst hC (v := 0) dX2_putIn_11 rfl (q := 12) rfl ?_
    refine vv_goto hC (tgt := 25) dX2_putIn_12 (by decide) ?_
    exact vv_eqv (st' := [.int (nI (pIdx (S.1 15) (anc S n)))]) (by rw [pIdx, if_pos h8]; rfl) (vv_lv [1, 2, 0] rfl join25)
theorem inwX2_takeOut_X2 : ∀ w ∈ wsX20, w ∈ wsX2_takeOut := fun _ h => List.mem_cons_of_mem _ (List.mem_append_left _ (List.mem_append_left _ (List.mem_append_left _ (List.mem_append_right _ h))))
theorem inwX2_takeOut_X6 : ∀ w ∈ wsX60, w ∈ wsX2_takeOut := fun _ h => List.mem_cons_of_mem _ (List.mem_append_left _ (List.mem_append_left _ (List.mem_append_right _ h)))
theorem inwX2_takeOut_X5 : ∀ w ∈ wsX50, w ∈ wsX2_takeOut := fun _ h => List.mem_cons_of_mem _ (List.mem_append_left _ (List.mem_append_right _ h))
theorem inwX2_takeOut_X0 : ∀ w ∈ wsX00, w ∈ wsX2_takeOut := fun _ h => List.mem_cons_of_mem _ (List.mem_append_right _ h)
theorem hdX2_takeOut : yX2_takeOut.cls = RX2 ∧ yX2_takeOut.cls ≠ "java/lang/invoke/MethodHandle" ∧ yX2_takeOut.cls ≠ "java/lang/invoke/VarHandle" ∧ (parseMethodDescriptor yX2_takeOut.desc).map (fun d => d.parameters.length) = some 1 := by decide +kernel
set_option maxRecDepth 100000 in
set_option maxHeartbeats 4000000 in
theorem c2_takeOut (l : Launch) {D : va_G} {cI cW cZ cL : ClassId} {ad : Nat → Nat} (hJ : injA ad 90) (S : sC) (n : Int32) : kMi l yX2_takeOut wsX2_takeOut ({ frames := 4, cells := 0, slots := 0, locals := 104 }) D vwCl (tyL cI cW cZ cL) ad 90 [.ref (ad 1), .int n] (PC cI cW ad S) (bI (takeOut S n).1) (PC cI cW ad ((takeOut S n).2)) := by
  refine vv_enter (cc := cX2_takeOut) (maxL := 2) (ret := (some .boolean)) (own := RX2) (lv := [(0, .ref (ad 1)), (1, .int n)]) (by decide +kernel) rfl rfl hJ (Nat.le_of_ble_eq_true rfl) rfl ?_
  intro p e s m args below meth c hC hK hW hr hlk
  refine vv_aload_n hC 0 dX2_takeOut_0 rfl rfl (q := 1) rfl ?_
  refine vv_get hC hK (K := RX2) (T := TX2) (N := 4) (ci := 2) inwX2_takeOut_X2 1 (kl2 (by decide +kernel)) (oc2 (by decide +kernel)) rfl 0 (by decide) (List.mem_of_getElem? (i := 1) rfl) rfl (v := .ref (ad 2)) rfl dX2_takeOut_1 (q := 4) rfl ?_
  refine vv_iload_n hC 1 dX2_takeOut_4 rfl rfl (q := 5) rfl ?_
  refine vv_calli hC hK (fun _ h => h) (As := [.int n]) 2 (kl6 (by decide +kernel)) (or6 (by decide +kernel)) rfl (c6_isThere l hJ S n) (cwV 1 hC.2.2.2.2 gX2_takeOut_X6_isThere rfl rfl rfl hdX6_isThere ⟨Nat.le_of_ble_eq_true rfl, Nat.le_of_ble_eq_true rfl⟩) rfl rfl (Nat.le_of_ble_eq_true rfl) ⟨Nat.le_of_ble_eq_true rfl, Nat.le_of_ble_eq_true rfl⟩ dX2_takeOut_5 (q := 8) rfl ?_
  refine vv_if_ne hC (tgt := 13) dX2_takeOut_8 (by decide) (q := 11) rfl (fun h8 => ?_) (fun h8 => ?_)
  · skip
    refine vv_aload_n hC 0 dX2_takeOut_13 rfl rfl (q := 14) rfl ?_
    refine vv_get hC hK (K := RX2) (T := TX2) (N := 4) (ci := 2) inwX2_takeOut_X2 1 (kl2 (by decide +kernel)) (oc2 (by decide +kernel)) rfl 0 (by decide) (List.mem_of_getElem? (i := 1) rfl) rfl (v := .ref (ad 2)) rfl dX2_takeOut_14 (q := 17) rfl ?_
    refine vv_iload_n hC 1 dX2_takeOut_17 rfl rfl (q := 18) rfl ?_
    refine vv_calli hC hK (fun _ h => h) (As := [.int n]) 2 (kl6 (by decide +kernel)) (or6 (by decide +kernel)) rfl (c6_isFrozen l hJ S n) (cwV 1 hC.2.2.2.2 gX2_takeOut_X6_isFrozen rfl rfl rfl hdX6_isFrozen ⟨Nat.le_of_ble_eq_true rfl, Nat.le_of_ble_eq_true rfl⟩) rfl rfl (Nat.le_of_ble_eq_true rfl) ⟨Nat.le_of_ble_eq_true rfl, Nat.le_of_ble_eq_true rfl⟩ dX2_takeOut_18 (q := 21) rfl ?_
    refine vv_if_eq hC (tgt := 26) dX2_takeOut_21 (by decide) (q := 24) rfl (fun h21 => ?_) (fun h21 => ?_)
    · skip
      refine vv_aload_n hC 0 dX2_takeOut_26 rfl rfl (q := 27) rfl ?_
      refine vv_get hC hK (K := RX2) (T := TX2) (N := 4) (ci := 2) inwX2_takeOut_X2 1 (kl2 (by decide +kernel)) (oc2 (by decide +kernel)) rfl 0 (by decide) (List.mem_of_getElem? (i := 1) rfl) rfl (v := .ref (ad 2)) rfl dX2_takeOut_27 (q := 30) rfl ?_
      refine vv_iload_n hC 1 dX2_takeOut_30 rfl rfl (q := 31) rfl ?_
      refine vv_callv hC hK (fun _ h => h) (As := [.int n]) 2 (kl6 (by decide +kernel)) (or6 (by decide +kernel)) rfl (c6_setDeleted l hJ S n) (cwV 1 hC.2.2.2.2 gX2_takeOut_X6_setDeleted rfl rfl rfl hdX6_setDeleted ⟨Nat.le_of_ble_eq_true rfl, Nat.le_of_ble_eq_true rfl⟩) rfl rfl (Nat.le_of_ble_eq_true rfl) ⟨Nat.le_of_ble_eq_true rfl, Nat.le_of_ble_eq_true rfl⟩ dX2_takeOut_31 (q := 34) rfl ?_
      refine vv_aload_n hC 0 dX2_takeOut_34 rfl rfl (q := 35) rfl ?_
      refine vv_get hC hK (K := RX2) (T := TX2) (N := 4) (ci := 2) inwX2_takeOut_X2 1 (kl2 (by decide +kernel)) (oc2 (by decide +kernel)) rfl 3 (by decide) (List.mem_of_getElem? (i := 2) rfl) rfl (v := .ref (ad 19)) rfl dX2_takeOut_35 (q := 38) rfl ?_
      refine vv_iload_n hC 1 dX2_takeOut_38 rfl rfl (q := 39) rfl ?_
      refine vv_callv hC hK (fun _ h => h) (As := [.int n]) 19 (kl0 (by decide +kernel)) (or0 (by decide +kernel)) rfl (c0_addDeleted l hJ (sSet S 9 (rSet (S.1 9) n 2)) 19 (by decide +kernel) n) (cwV 1 hC.2.2.2.2 gX2_takeOut_X0_addDeleted rfl rfl rfl hdX0_addDeleted ⟨Nat.le_of_ble_eq_true rfl, Nat.le_of_ble_eq_true rfl⟩) rfl rfl (Nat.le_of_ble_eq_true rfl) ⟨Nat.le_of_ble_eq_true rfl, Nat.le_of_ble_eq_true rfl⟩ dX2_takeOut_39 (q := 42) rfl ?_
      refine vv_iconst hC (v := 1) dX2_takeOut_42 rfl (q := 43) rfl ?_
      exact vv_zret hC hK hr hlk rfl (by rw [takeOut, if_pos (bI_1 h8), bI_0.mp h21, if_neg Bool.false_ne_true]; rfl) (fun f h => by rw [takeOut, if_pos (bI_1 h8), bI_0.mp h21, if_neg Bool.false_ne_true]; exact h) dX2_takeOut_43
    · skip
      refine vv_iconst hC (v := 0) dX2_takeOut_24 rfl (q := 25) rfl ?_
      exact vv_zret hC hK hr hlk rfl (by rw [takeOut, if_pos (bI_1 h8), if_pos (bI_1 h21)]; rfl) (fun f h => by rw [takeOut, if_pos (bI_1 h8), if_pos (bI_1 h21)]; exact h) dX2_takeOut_25
  · skip
    refine vv_iconst hC (v := 1) dX2_takeOut_11 rfl (q := 12) rfl ?_
    exact vv_zret hC hK hr hlk rfl (by rw [takeOut, bI_0.mp h8, if_neg Bool.false_ne_true]; rfl) (fun f h => by rw [takeOut, bI_0.mp h8, if_neg Bool.false_ne_true]; exact h) dX2_takeOut_12
theorem inwX2_renewText_X2 : ∀ w ∈ wsX20, w ∈ wsX2_renewText := fun _ h => List.mem_cons_of_mem _ (List.mem_append_left _ (List.mem_append_left _ (List.mem_append_right _ h)))
theorem inwX2_renewText_X5 : ∀ w ∈ wsX50, w ∈ wsX2_renewText := fun _ h => List.mem_cons_of_mem _ (List.mem_append_left _ (List.mem_append_right _ h))
theorem inwX2_renewText_X6 : ∀ w ∈ wsX60, w ∈ wsX2_renewText := fun _ h => List.mem_cons_of_mem _ (List.mem_append_right _ h)
theorem hdX2_renewText : yX2_renewText.cls = RX2 ∧ yX2_renewText.cls ≠ "java/lang/invoke/MethodHandle" ∧ yX2_renewText.cls ≠ "java/lang/invoke/VarHandle" ∧ (parseMethodDescriptor yX2_renewText.desc).map (fun d => d.parameters.length) = some 0 := by decide +kernel
set_option maxRecDepth 100000 in
set_option maxHeartbeats 4000000 in
theorem c2_renewText (l : Launch) {D : va_G} {cI cW cZ cL : ClassId} {ad : Nat → Nat} (hJ : injA ad 90) (S : sC)  : kMv l yX2_renewText wsX2_renewText ({ frames := 3, cells := 0, slots := 0, locals := 83 }) D vwCl (tyL cI cW cZ cL) ad 90 [.ref (ad 1)] (PC cI cW ad S) (PC cI cW ad (renew S)) := by
  refine vv_enter (cc := cX2_renewText) (maxL := 2) (ret := none) (own := RX2) (lv := [(0, .ref (ad 1))]) (by decide +kernel) rfl rfl hJ (Nat.le_of_ble_eq_true rfl) rfl ?_
  intro p e s m args below meth c hC hK hW hr hlk
  refine vv_pure (P := wfC S) (fun H hB => by obtain ⟨f, hf, -⟩ := hB; exact oc_wf f hf) (fun hwf => ?_)
  have hw := hwf 15 rfl
  have hc := cap_le 15
  refine vv_aload_n hC 0 dX2_renewText_0 rfl rfl (q := 1) rfl ?_
  refine vv_get hC hK (K := RX2) (T := TX2) (N := 4) (ci := 2) inwX2_renewText_X2 1 (kl2 (by decide +kernel)) (oc2 (by decide +kernel)) rfl 2 (by decide) (List.mem_of_getElem? (i := 1) rfl) rfl (v := .ref (ad 17)) rfl dX2_renewText_1 (q := 4) rfl ?_
  refine vv_callv hC hK (fun _ h => h) (As := []) 17 (kl5 (by decide +kernel)) (or5 (by decide +kernel)) rfl (c5_clear l hJ S 17 (by decide +kernel)) (cwV 0 hC.2.2.2.2 gX2_renewText_X5_clear rfl rfl rfl hdX5_clear ⟨Nat.le_of_ble_eq_true rfl, Nat.le_of_ble_eq_true rfl⟩) rfl rfl (Nat.le_of_ble_eq_true rfl) ⟨Nat.le_of_ble_eq_true rfl, Nat.le_of_ble_eq_true rfl⟩ dX2_renewText_4 (q := 7) rfl ?_
  refine vv_iconst hC (v := 0) dX2_renewText_7 rfl (q := 8) rfl ?_
  refine vv_istore_n hC (i := 1) (lv' := [(1, .int 0), (0, .ref (ad 1))]) dX2_renewText_8 rfl (by decide) rfl (q := 9) rfl ?_
  have loop9 : ∀ (fu : Nat) (n : Nat) (x : List Int32), (S.1 15).length < n + fu → n ≤ (S.1 15).length → renF S fu n x = renF S ((S.1 15).length + 1) 0 [] → vv p l e (headSpec wsX2_renewText ({ frames := 3, cells := 0, slots := 0, locals := 83 })).room s m args below meth c 2 (RA ad 90) s.heap 0 0 (MQ below (va_Qv (fun (_ : Unit) => True) (fun _ => ws0 D vwCl (tyL cI cW cZ cL) ad 90 (PC cI cW ad (renew S))) (RA ad 90)) args s 0 0 (RA ad 90)) (wq D vwCl ad 90 (PC cI cW ad (sSet S 17 x))) 9 [(0, .ref (ad 1)), (1, .int (nI n))] [] := by
    intro fu
    induction fu with
    | zero =>
      intro n x hfu hn hres
      exact absurd hfu (by omega)
    | succ fu ih =>
      intro n x hfu hn hres
      refine vv_iload_n hC 1 dX2_renewText_9 rfl rfl (q := 10) rfl ?_
      refine vv_aload_n hC 0 dX2_renewText_10 rfl rfl (q := 11) rfl ?_
      refine vv_get hC hK (K := RX2) (T := TX2) (N := 4) (ci := 2) inwX2_renewText_X2 1 (kl2 (by decide +kernel)) (oc2 (by decide +kernel)) rfl 1 (by decide) (List.mem_of_getElem? (i := 2) rfl) rfl (v := .ref (ad 15)) rfl dX2_renewText_11 (q := 14) rfl ?_
      refine vv_calli hC hK (fun _ h => h) (As := []) 15 (kl5 (by decide +kernel)) (or5 (by decide +kernel)) rfl (c5_size l hJ (sSet S 17 x) 15 (by decide +kernel)) (cwV 0 hC.2.2.2.2 gX2_renewText_X5_size rfl rfl rfl hdX5_size ⟨Nat.le_of_ble_eq_true rfl, Nat.le_of_ble_eq_true rfl⟩) rfl rfl (Nat.le_of_ble_eq_true rfl) ⟨Nat.le_of_ble_eq_true rfl, Nat.le_of_ble_eq_true rfl⟩ dX2_renewText_14 (q := 17) rfl ?_
      refine vv_icmp_ge hC (tgt := 59) dX2_renewText_17 (by decide) (q := 20) rfl (fun h17 => ?_) (fun h17 => ?_)
      · skip
        exact vv_vret hC hK hr hlk (fun f h => by rw [renew, ← hres, renF, if_neg (by have h0 : nI (S.1 15).length ≤ nI n := h17; rw [nI_leI (by omega) (by omega)] at h0; omega)]; exact h) dX2_renewText_59
      · skip
        refine vv_aload_n hC 0 dX2_renewText_20 rfl rfl (q := 21) rfl ?_
        refine vv_get hC hK (K := RX2) (T := TX2) (N := 4) (ci := 2) inwX2_renewText_X2 1 (kl2 (by decide +kernel)) (oc2 (by decide +kernel)) rfl 0 (by decide) (List.mem_of_getElem? (i := 3) rfl) rfl (v := .ref (ad 2)) rfl dX2_renewText_21 (q := 24) rfl ?_
        refine vv_aload_n hC 0 dX2_renewText_24 rfl rfl (q := 25) rfl ?_
        refine vv_get hC hK (K := RX2) (T := TX2) (N := 4) (ci := 2) inwX2_renewText_X2 1 (kl2 (by decide +kernel)) (oc2 (by decide +kernel)) rfl 1 (by decide) (List.mem_of_getElem? (i := 2) rfl) rfl (v := .ref (ad 15)) rfl dX2_renewText_25 (q := 28) rfl ?_
        refine vv_iload_n hC 1 dX2_renewText_28 rfl rfl (q := 29) rfl ?_
        refine vv_calli hC hK (fun _ h => h) (As := [.int (nI n)]) 15 (kl5 (by decide +kernel)) (or5 (by decide +kernel)) rfl (c5_at l hJ (sSet S 17 x) 15 (by decide +kernel) (nI n)) (cwV 1 hC.2.2.2.2 gX2_renewText_X5_at rfl rfl rfl hdX5_at ⟨Nat.le_of_ble_eq_true rfl, Nat.le_of_ble_eq_true rfl⟩) rfl rfl (Nat.le_of_ble_eq_true rfl) ⟨Nat.le_of_ble_eq_true rfl, Nat.le_of_ble_eq_true rfl⟩ dX2_renewText_29 (q := 32) rfl ?_
        refine vv_calli hC hK (fun _ h => h) (As := [.int (rAt ((sSet S 17 x).1 15) (nI n))]) 2 (kl6 (by decide +kernel)) (or6 (by decide +kernel)) rfl (c6_isThere l hJ (sSet S 17 x) (rAt ((sSet S 17 x).1 15) (nI n))) (cwV 1 hC.2.2.2.2 gX2_renewText_X6_isThere rfl rfl rfl hdX6_isThere ⟨Nat.le_of_ble_eq_true rfl, Nat.le_of_ble_eq_true rfl⟩) rfl rfl (Nat.le_of_ble_eq_true rfl) ⟨Nat.le_of_ble_eq_true rfl, Nat.le_of_ble_eq_true rfl⟩ dX2_renewText_32 (q := 35) rfl ?_
        refine vv_if_eq hC (tgt := 53) dX2_renewText_35 (by decide) (q := 38) rfl (fun h35 => ?_) (fun h35 => ?_)
        · skip
          refine vv_iinc hC (i := 1) (v := nI (n + 1)) (lv' := [(1, .int (nI (n + 1))), (0, .ref (ad 1))]) 1 dX2_renewText_53 rfl (nI_1 n) (by decide) rfl (q := 56) rfl ?_
          refine vv_goto hC (tgt := 9) dX2_renewText_56 (by decide) ?_
          exact vv_lv [1, 0] rfl (ih (n + 1) x (by omega) (by have h0 : ¬ nI (S.1 15).length ≤ nI n := h17; rw [nI_leI (by omega) (by omega)] at h0; omega) (by rw [← hres, renF, if_pos (by have h0 : ¬ nI (S.1 15).length ≤ nI n := h17; rw [nI_leI (by omega) (by omega)] at h0; omega), show wThere S (rAt (S.1 15) (nI n)) = false from bI_0.mp h35, if_neg Bool.false_ne_true]))
        · skip
          refine vv_aload_n hC 0 dX2_renewText_38 rfl rfl (q := 39) rfl ?_
          refine vv_get hC hK (K := RX2) (T := TX2) (N := 4) (ci := 2) inwX2_renewText_X2 1 (kl2 (by decide +kernel)) (oc2 (by decide +kernel)) rfl 2 (by decide) (List.mem_of_getElem? (i := 1) rfl) rfl (v := .ref (ad 17)) rfl dX2_renewText_39 (q := 42) rfl ?_
          refine vv_aload_n hC 0 dX2_renewText_42 rfl rfl (q := 43) rfl ?_
          refine vv_get hC hK (K := RX2) (T := TX2) (N := 4) (ci := 2) inwX2_renewText_X2 1 (kl2 (by decide +kernel)) (oc2 (by decide +kernel)) rfl 1 (by decide) (List.mem_of_getElem? (i := 2) rfl) rfl (v := .ref (ad 15)) rfl dX2_renewText_43 (q := 46) rfl ?_
          refine vv_iload_n hC 1 dX2_renewText_46 rfl rfl (q := 47) rfl ?_
          refine vv_calli hC hK (fun _ h => h) (As := [.int (nI n)]) 15 (kl5 (by decide +kernel)) (or5 (by decide +kernel)) rfl (c5_at l hJ (sSet S 17 x) 15 (by decide +kernel) (nI n)) (cwV 1 hC.2.2.2.2 gX2_renewText_X5_at rfl rfl rfl hdX5_at ⟨Nat.le_of_ble_eq_true rfl, Nat.le_of_ble_eq_true rfl⟩) rfl rfl (Nat.le_of_ble_eq_true rfl) ⟨Nat.le_of_ble_eq_true rfl, Nat.le_of_ble_eq_true rfl⟩ dX2_renewText_47 (q := 50) rfl ?_
          refine vv_callv hC hK (fun _ h => h) (As := [.int (rAt ((sSet S 17 x).1 15) (nI n))]) 17 (kl5 (by decide +kernel)) (or5 (by decide +kernel)) rfl (c5_add l hJ (sSet S 17 x) 17 (by decide +kernel) (rAt ((sSet S 17 x).1 15) (nI n))) (cwV 1 hC.2.2.2.2 gX2_renewText_X5_add rfl rfl rfl hdX5_add ⟨Nat.le_of_ble_eq_true rfl, Nat.le_of_ble_eq_true rfl⟩) rfl rfl (Nat.le_of_ble_eq_true rfl) ⟨Nat.le_of_ble_eq_true rfl, Nat.le_of_ble_eq_true rfl⟩ dX2_renewText_50 (q := 53) rfl ?_
          refine vv_iinc hC (i := 1) (v := nI (n + 1)) (lv' := [(1, .int (nI (n + 1))), (0, .ref (ad 1))]) 1 dX2_renewText_53 rfl (nI_1 n) (by decide) rfl (q := 56) rfl ?_
          refine vv_goto hC (tgt := 9) dX2_renewText_56 (by decide) ?_
          refine vv_wq (P1 := PC cI cW ad (sSet S 17 (rAdd x (cap 17) (rAt (S.1 15) (nI n))))) (fun f h => by rw [sSet_twice, sSet_1] at h; exact h) ?_
          exact vv_lv [1, 0] rfl (ih (n + 1) _ (by omega) (by have h0 : ¬ nI (S.1 15).length ≤ nI n := h17; rw [nI_leI (by omega) (by omega)] at h0; omega) (by rw [← hres, renF, if_pos (by have h0 : ¬ nI (S.1 15).length ≤ nI n := h17; rw [nI_leI (by omega) (by omega)] at h0; omega), if_pos (show wThere S (rAt (S.1 15) (nI n)) = true from bI_1 h35)]))
  exact vv_lv [1, 0] rfl (loop9 _ 0 [] (by omega) (Nat.zero_le _) rfl)
theorem inwX2_countBy_X2 : ∀ w ∈ wsX20, w ∈ wsX2_countBy := fun _ h => List.mem_cons_of_mem _ (List.mem_append_left _ (List.mem_append_left _ (List.mem_append_right _ h)))
theorem inwX2_countBy_X5 : ∀ w ∈ wsX50, w ∈ wsX2_countBy := fun _ h => List.mem_cons_of_mem _ (List.mem_append_left _ (List.mem_append_right _ h))
theorem inwX2_countBy_X6 : ∀ w ∈ wsX60, w ∈ wsX2_countBy := fun _ h => List.mem_cons_of_mem _ (List.mem_append_right _ h)
theorem hdX2_countBy : yX2_countBy.cls = RX2 ∧ yX2_countBy.cls ≠ "java/lang/invoke/MethodHandle" ∧ yX2_countBy.cls ≠ "java/lang/invoke/VarHandle" ∧ (parseMethodDescriptor yX2_countBy.desc).map (fun d => d.parameters.length) = some 1 := by decide +kernel
set_option maxRecDepth 100000 in
set_option maxHeartbeats 4000000 in
theorem c2_countBy (l : Launch) {D : va_G} {cI cW cZ cL : ClassId} {ad : Nat → Nat} (hJ : injA ad 90) (S : sC) (w : Int32) : kMi l yX2_countBy wsX2_countBy ({ frames := 3, cells := 0, slots := 0, locals := 63 }) D vwCl (tyL cI cW cZ cL) ad 90 [.ref (ad 1), .int w] (PC cI cW ad S) (nI (cntBy S w)) (PC cI cW ad S) := by
  refine vv_enter (cc := cX2_countBy) (maxL := 4) (ret := (some .int)) (own := RX2) (lv := [(0, .ref (ad 1)), (1, .int w)]) (by decide +kernel) rfl rfl hJ (Nat.le_of_ble_eq_true rfl) rfl ?_
  intro p e s m args below meth c hC hK hW hr hlk
  refine vv_pure (P := wfC S) (fun H hB => by obtain ⟨f, hf, -⟩ := hB; exact oc_wf f hf) (fun hwf => ?_)
  have hw := hwf 17 rfl
  have hc := cap_le 17
  refine vv_iconst hC (v := 0) dX2_countBy_0 rfl (q := 1) rfl ?_
  refine vv_istore_n hC (i := 2) (lv' := [(2, .int 0), (0, .ref (ad 1)), (1, .int w)]) dX2_countBy_1 rfl (by decide) rfl (q := 2) rfl ?_
  refine vv_iconst hC (v := 0) dX2_countBy_2 rfl (q := 3) rfl ?_
  refine vv_istore_n hC (i := 3) (lv' := [(3, .int 0), (2, .int 0), (0, .ref (ad 1)), (1, .int w)]) dX2_countBy_3 rfl (by decide) rfl (q := 4) rfl ?_
  have loop4 : ∀ (fu : Nat) (n : Nat) (k : Nat), (S.1 17).length < n + fu → n ≤ (S.1 17).length → cntF S w fu n k = cntBy S w → vv p l e (headSpec wsX2_countBy ({ frames := 3, cells := 0, slots := 0, locals := 63 })).room s m args below meth c 4 (RA ad 90) s.heap 0 0 (MQ below (va_Qi (fun r' (_ : Unit) => r' = (nI (cntBy S w))) (fun _ => ws0 D vwCl (tyL cI cW cZ cL) ad 90 (PC cI cW ad S)) (RA ad 90)) args s 0 0 (RA ad 90)) (wq D vwCl ad 90 (PC cI cW ad S)) 4 [(0, .ref (ad 1)), (1, .int w), (2, .int (nI k)), (3, .int (nI n))] [] := by
    intro fu
    induction fu with
    | zero =>
      intro n k hfu hn hres
      exact absurd hfu (by omega)
    | succ fu ih =>
      intro n k hfu hn hres
      refine vv_iload_n hC 3 dX2_countBy_4 rfl rfl (q := 5) rfl ?_
      refine vv_aload_n hC 0 dX2_countBy_5 rfl rfl (q := 6) rfl ?_
      refine vv_get hC hK (K := RX2) (T := TX2) (N := 4) (ci := 2) inwX2_countBy_X2 1 (kl2 (by decide +kernel)) (oc2 (by decide +kernel)) rfl 2 (by decide) (List.mem_of_getElem? (i := 1) rfl) rfl (v := .ref (ad 17)) rfl dX2_countBy_6 (q := 9) rfl ?_
      refine vv_calli hC hK (fun _ h => h) (As := []) 17 (kl5 (by decide +kernel)) (or5 (by decide +kernel)) rfl (c5_size l hJ S 17 (by decide +kernel)) (cwV 0 hC.2.2.2.2 gX2_countBy_X5_size rfl rfl rfl hdX5_size ⟨Nat.le_of_ble_eq_true rfl, Nat.le_of_ble_eq_true rfl⟩) rfl rfl (Nat.le_of_ble_eq_true rfl) ⟨Nat.le_of_ble_eq_true rfl, Nat.le_of_ble_eq_true rfl⟩ dX2_countBy_9 (q := 12) rfl ?_
      refine vv_icmp_ge hC (tgt := 43) dX2_countBy_12 (by decide) (q := 15) rfl (fun h12 => ?_) (fun h12 => ?_)
      · skip
        refine vv_iload_n hC 2 dX2_countBy_43 rfl rfl (q := 44) rfl ?_
        exact vv_iret hC hK hr hlk (by rw [← hres, cntF, if_neg (by rw [nI_leI (by omega) (by omega)] at h12; omega)]) (fun _ h => h) dX2_countBy_44
      · skip
        refine vv_aload_n hC 0 dX2_countBy_15 rfl rfl (q := 16) rfl ?_
        refine vv_get hC hK (K := RX2) (T := TX2) (N := 4) (ci := 2) inwX2_countBy_X2 1 (kl2 (by decide +kernel)) (oc2 (by decide +kernel)) rfl 0 (by decide) (List.mem_of_getElem? (i := 2) rfl) rfl (v := .ref (ad 2)) rfl dX2_countBy_16 (q := 19) rfl ?_
        refine vv_aload_n hC 0 dX2_countBy_19 rfl rfl (q := 20) rfl ?_
        refine vv_get hC hK (K := RX2) (T := TX2) (N := 4) (ci := 2) inwX2_countBy_X2 1 (kl2 (by decide +kernel)) (oc2 (by decide +kernel)) rfl 2 (by decide) (List.mem_of_getElem? (i := 1) rfl) rfl (v := .ref (ad 17)) rfl dX2_countBy_20 (q := 23) rfl ?_
        refine vv_iload_n hC 3 dX2_countBy_23 rfl rfl (q := 24) rfl ?_
        refine vv_calli hC hK (fun _ h => h) (As := [.int (nI n)]) 17 (kl5 (by decide +kernel)) (or5 (by decide +kernel)) rfl (c5_at l hJ S 17 (by decide +kernel) (nI n)) (cwV 1 hC.2.2.2.2 gX2_countBy_X5_at rfl rfl rfl hdX5_at ⟨Nat.le_of_ble_eq_true rfl, Nat.le_of_ble_eq_true rfl⟩) rfl rfl (Nat.le_of_ble_eq_true rfl) ⟨Nat.le_of_ble_eq_true rfl, Nat.le_of_ble_eq_true rfl⟩ dX2_countBy_24 (q := 27) rfl ?_
        refine vv_calli hC hK (fun _ h => h) (As := [.int (rAt (S.1 17) (nI n))]) 2 (kl6 (by decide +kernel)) (or6 (by decide +kernel)) rfl (c6_writerOf l hJ S (rAt (S.1 17) (nI n))) (cwV 1 hC.2.2.2.2 gX2_countBy_X6_writerOf rfl rfl rfl hdX6_writerOf ⟨Nat.le_of_ble_eq_true rfl, Nat.le_of_ble_eq_true rfl⟩) rfl rfl (Nat.le_of_ble_eq_true rfl) ⟨Nat.le_of_ble_eq_true rfl, Nat.le_of_ble_eq_true rfl⟩ dX2_countBy_27 (q := 30) rfl ?_
        refine vv_iload_n hC 1 dX2_countBy_30 rfl rfl (q := 31) rfl ?_
        refine vv_icmp_ne hC (tgt := 37) dX2_countBy_31 (by decide) (q := 34) rfl (fun h31 => ?_) (fun h31 => ?_)
        · skip
          refine vv_iinc hC (i := 3) (v := nI (n + 1)) (lv' := [(3, .int (nI (n + 1))), (0, .ref (ad 1)), (1, .int w), (2, .int (nI k))]) 3 dX2_countBy_37 rfl (nI_1 n) (by decide) rfl (q := 40) rfl ?_
          refine vv_goto hC (tgt := 4) dX2_countBy_40 (by decide) ?_
          exact vv_lv [1, 2, 3, 0] rfl (ih (n + 1) k (by omega) (by rw [nI_leI (by omega) (by omega)] at h12; omega) (by rw [← hres, cntF, if_pos (by rw [nI_leI (by omega) (by omega)] at h12; omega), if_neg h31]))
        · skip
          refine vv_iinc hC (i := 2) (v := nI (k + 1)) (lv' := [(2, .int (nI (k + 1))), (0, .ref (ad 1)), (1, .int w), (3, .int (nI n))]) 2 dX2_countBy_34 rfl (nI_1 k) (by decide) rfl (q := 37) rfl ?_
          refine vv_iinc hC (i := 3) (v := nI (n + 1)) (lv' := [(3, .int (nI (n + 1))), (2, .int (nI (k + 1))), (0, .ref (ad 1)), (1, .int w)]) 3 dX2_countBy_37 rfl (nI_1 n) (by decide) rfl (q := 40) rfl ?_
          refine vv_goto hC (tgt := 4) dX2_countBy_40 (by decide) ?_
          exact vv_lv [2, 3, 1, 0] rfl (ih (n + 1) (k + 1) (by omega) (by rw [nI_leI (by omega) (by omega)] at h12; omega) (by rw [← hres, cntF, if_pos (by rw [nI_leI (by omega) (by omega)] at h12; omega), if_pos h31]))
  exact vv_lv [2, 3, 1, 0] rfl (loop4 _ 0 0 (by omega) (Nat.zero_le _) rfl)
theorem inwX2_countAnewBy_X2 : ∀ w ∈ wsX20, w ∈ wsX2_countAnewBy := fun _ h => List.mem_cons_of_mem _ (List.mem_append_left _ (List.mem_append_left _ (List.mem_append_left _ (List.mem_append_right _ h))))
theorem inwX2_countAnewBy_X0 : ∀ w ∈ wsX00, w ∈ wsX2_countAnewBy := fun _ h => List.mem_cons_of_mem _ (List.mem_append_left _ (List.mem_append_left _ (List.mem_append_right _ h)))
theorem inwX2_countAnewBy_X5 : ∀ w ∈ wsX50, w ∈ wsX2_countAnewBy := fun _ h => List.mem_cons_of_mem _ (List.mem_append_left _ (List.mem_append_right _ h))
theorem inwX2_countAnewBy_X6 : ∀ w ∈ wsX60, w ∈ wsX2_countAnewBy := fun _ h => List.mem_cons_of_mem _ (List.mem_append_right _ h)
theorem hdX2_countAnewBy : yX2_countAnewBy.cls = RX2 ∧ yX2_countAnewBy.cls ≠ "java/lang/invoke/MethodHandle" ∧ yX2_countAnewBy.cls ≠ "java/lang/invoke/VarHandle" ∧ (parseMethodDescriptor yX2_countAnewBy.desc).map (fun d => d.parameters.length) = some 1 := by decide +kernel
set_option maxRecDepth 100000 in
set_option maxHeartbeats 4000000 in
theorem c2_countAnewBy (l : Launch) {D : va_G} {cI cW cZ cL : ClassId} {ad : Nat → Nat} (hJ : injA ad 90) (S : sC) (w : Int32) : kMi l yX2_countAnewBy wsX2_countAnewBy ({ frames := 4, cells := 0, slots := 0, locals := 84 }) D vwCl (tyL cI cW cZ cL) ad 90 [.ref (ad 1), .int w] (PC cI cW ad S) (anewBy S w) (PC cI cW ad S) := by
  refine vv_enter (cc := cX2_countAnewBy) (maxL := 4) (ret := (some .int)) (own := RX2) (lv := [(0, .ref (ad 1)), (1, .int w)]) (by decide +kernel) rfl rfl hJ (Nat.le_of_ble_eq_true rfl) rfl ?_
  intro p e s m args below meth c hC hK hW hr hlk
  refine vv_pure (P := wfC S) (fun H hB => by obtain ⟨f, hf, -⟩ := hB; exact oc_wf f hf) (fun hwf => ?_)
  have hw := hwf 20 rfl
  have hc := cap_le 20
  refine vv_iconst hC (v := 0) dX2_countAnewBy_0 rfl (q := 1) rfl ?_
  refine vv_istore_n hC (i := 2) (lv' := [(2, .int 0), (0, .ref (ad 1)), (1, .int w)]) dX2_countAnewBy_1 rfl (by decide) rfl (q := 2) rfl ?_
  refine vv_iconst hC (v := 0) dX2_countAnewBy_2 rfl (q := 3) rfl ?_
  refine vv_istore_n hC (i := 3) (lv' := [(3, .int 0), (2, .int 0), (0, .ref (ad 1)), (1, .int w)]) dX2_countAnewBy_3 rfl (by decide) rfl (q := 4) rfl ?_
  have loop4 : ∀ (fu : Nat) (n : Nat) (k : Int32), (S.1 20).length < n + fu → n ≤ (S.1 20).length → anewF S w fu n k = anewBy S w → vv p l e (headSpec wsX2_countAnewBy ({ frames := 4, cells := 0, slots := 0, locals := 84 })).room s m args below meth c 4 (RA ad 90) s.heap 0 0 (MQ below (va_Qi (fun r' (_ : Unit) => r' = (anewBy S w)) (fun _ => ws0 D vwCl (tyL cI cW cZ cL) ad 90 (PC cI cW ad S)) (RA ad 90)) args s 0 0 (RA ad 90)) (wq D vwCl ad 90 (PC cI cW ad S)) 4 [(0, .ref (ad 1)), (1, .int w), (2, .int k), (3, .int (nI n))] [] := by
    intro fu
    induction fu with
    | zero =>
      intro n k hfu hn hres
      exact absurd hfu (by omega)
    | succ fu ih =>
      intro n k hfu hn hres
      refine vv_iload_n hC 3 dX2_countAnewBy_4 rfl rfl (q := 5) rfl ?_
      refine vv_aload_n hC 0 dX2_countAnewBy_5 rfl rfl (q := 6) rfl ?_
      refine vv_get hC hK (K := RX2) (T := TX2) (N := 4) (ci := 2) inwX2_countAnewBy_X2 1 (kl2 (by decide +kernel)) (oc2 (by decide +kernel)) rfl 3 (by decide) (List.mem_of_getElem? (i := 1) rfl) rfl (v := .ref (ad 19)) rfl dX2_countAnewBy_6 (q := 9) rfl ?_
      refine vv_calli hC hK (fun _ h => h) (As := []) 19 (kl0 (by decide +kernel)) (or0 (by decide +kernel)) rfl (c0_count l hJ S 19 (by decide +kernel)) (cwV 0 hC.2.2.2.2 gX2_countAnewBy_X0_count rfl rfl rfl hdX0_count ⟨Nat.le_of_ble_eq_true rfl, Nat.le_of_ble_eq_true rfl⟩) rfl rfl (Nat.le_of_ble_eq_true rfl) ⟨Nat.le_of_ble_eq_true rfl, Nat.le_of_ble_eq_true rfl⟩ dX2_countAnewBy_9 (q := 12) rfl ?_
      refine vv_icmp_ge hC (tgt := 59) dX2_countAnewBy_12 (by decide) (q := 15) rfl (fun h12 => ?_) (fun h12 => ?_)
      · skip
        refine vv_iload_n hC 2 dX2_countAnewBy_59 rfl rfl (q := 60) rfl ?_
        exact vv_iret hC hK hr hlk (by rw [← hres, anewF, if_neg (by have h0 : nI (S.1 20).length ≤ nI n := h12; rw [nI_leI (by omega) (by omega)] at h0; omega)]) (fun _ h => h) dX2_countAnewBy_60
      · skip
        refine vv_aload_n hC 0 dX2_countAnewBy_15 rfl rfl (q := 16) rfl ?_
        refine vv_get hC hK (K := RX2) (T := TX2) (N := 4) (ci := 2) inwX2_countAnewBy_X2 1 (kl2 (by decide +kernel)) (oc2 (by decide +kernel)) rfl 0 (by decide) (List.mem_of_getElem? (i := 2) rfl) rfl (v := .ref (ad 2)) rfl dX2_countAnewBy_16 (q := 19) rfl ?_
        refine vv_aload_n hC 0 dX2_countAnewBy_19 rfl rfl (q := 20) rfl ?_
        refine vv_get hC hK (K := RX2) (T := TX2) (N := 4) (ci := 2) inwX2_countAnewBy_X2 1 (kl2 (by decide +kernel)) (oc2 (by decide +kernel)) rfl 3 (by decide) (List.mem_of_getElem? (i := 1) rfl) rfl (v := .ref (ad 19)) rfl dX2_countAnewBy_20 (q := 23) rfl ?_
        refine vv_iload_n hC 3 dX2_countAnewBy_23 rfl rfl (q := 24) rfl ?_
        refine vv_calli hC hK (fun _ h => h) (As := [.int (nI n)]) 19 (kl0 (by decide +kernel)) (or0 (by decide +kernel)) rfl (c0_numberAt l hJ S 19 (by decide +kernel) (nI n)) (cwV 1 hC.2.2.2.2 gX2_countAnewBy_X0_numberAt rfl rfl rfl hdX0_numberAt ⟨Nat.le_of_ble_eq_true rfl, Nat.le_of_ble_eq_true rfl⟩) rfl rfl (Nat.le_of_ble_eq_true rfl) ⟨Nat.le_of_ble_eq_true rfl, Nat.le_of_ble_eq_true rfl⟩ dX2_countAnewBy_24 (q := 27) rfl ?_
        refine vv_calli hC hK (fun _ h => h) (As := [.int (cNum (S.1 20) (nI n))]) 2 (kl6 (by decide +kernel)) (or6 (by decide +kernel)) rfl (c6_writerOf l hJ S (cNum (S.1 20) (nI n))) (cwV 1 hC.2.2.2.2 gX2_countAnewBy_X6_writerOf rfl rfl rfl hdX6_writerOf ⟨Nat.le_of_ble_eq_true rfl, Nat.le_of_ble_eq_true rfl⟩) rfl rfl (Nat.le_of_ble_eq_true rfl) ⟨Nat.le_of_ble_eq_true rfl, Nat.le_of_ble_eq_true rfl⟩ dX2_countAnewBy_27 (q := 30) rfl ?_
        refine vv_iload_n hC 1 dX2_countAnewBy_30 rfl rfl (q := 31) rfl ?_
        refine vv_icmp_ne hC (tgt := 53) dX2_countAnewBy_31 (by decide) (q := 34) rfl (fun h31 => ?_) (fun h31 => ?_)
        · skip
          refine vv_iinc hC (i := 3) (v := nI (n + 1)) (lv' := [(3, .int (nI (n + 1))), (0, .ref (ad 1)), (1, .int w), (2, .int k)]) 3 dX2_countAnewBy_53 rfl (nI_1 n) (by decide) rfl (q := 56) rfl ?_
          refine vv_goto hC (tgt := 4) dX2_countAnewBy_56 (by decide) ?_
          exact vv_lv [1, 2, 3, 0] rfl (ih (n + 1) k (by omega) (by have h0 : ¬ nI (S.1 20).length ≤ nI n := h12; rw [nI_leI (by omega) (by omega)] at h0; omega) (by rw [← hres, anewF, if_pos (by have h0 : ¬ nI (S.1 20).length ≤ nI n := h12; rw [nI_leI (by omega) (by omega)] at h0; omega), if_neg h31]))
        · skip
          refine vv_iload_n hC 2 dX2_countAnewBy_34 rfl rfl (q := 35) rfl ?_
          refine vv_aload_n hC 0 dX2_countAnewBy_35 rfl rfl (q := 36) rfl ?_
          refine vv_get hC hK (K := RX2) (T := TX2) (N := 4) (ci := 2) inwX2_countAnewBy_X2 1 (kl2 (by decide +kernel)) (oc2 (by decide +kernel)) rfl 3 (by decide) (List.mem_of_getElem? (i := 1) rfl) rfl (v := .ref (ad 19)) rfl dX2_countAnewBy_36 (q := 39) rfl ?_
          refine vv_iload_n hC 3 dX2_countAnewBy_39 rfl rfl (q := 40) rfl ?_
          refine vv_calli hC hK (fun _ h => h) (As := [.int (nI n)]) 19 (kl0 (by decide +kernel)) (or0 (by decide +kernel)) rfl (c0_isTyped l hJ S 19 (by decide +kernel) (nI n)) (cwV 1 hC.2.2.2.2 gX2_countAnewBy_X0_isTyped rfl rfl rfl hdX0_isTyped ⟨Nat.le_of_ble_eq_true rfl, Nat.le_of_ble_eq_true rfl⟩) rfl rfl (Nat.le_of_ble_eq_true rfl) ⟨Nat.le_of_ble_eq_true rfl, Nat.le_of_ble_eq_true rfl⟩ dX2_countAnewBy_40 (q := 43) rfl ?_
          refine vv_if_eq hC (tgt := 50) dX2_countAnewBy_43 (by decide) (q := 46) rfl (fun h43 => ?_) (fun h43 => ?_)
          · skip
            refine vv_iconst hC (v := (-1)) dX2_countAnewBy_50 rfl (q := 51) rfl ?_
            refine vv_iadd hC dX2_countAnewBy_51 (q := 52) rfl ?_
            refine vv_istore_n hC (i := 2) (lv' := [(2, .int (k + (-1))), (0, .ref (ad 1)), (1, .int w), (3, .int (nI n))]) dX2_countAnewBy_52 rfl (by decide) rfl (q := 53) rfl ?_
            refine vv_iinc hC (i := 3) (v := nI (n + 1)) (lv' := [(3, .int (nI (n + 1))), (2, .int (k + (-1))), (0, .ref (ad 1)), (1, .int w)]) 3 dX2_countAnewBy_53 rfl (nI_1 n) (by decide) rfl (q := 56) rfl ?_
            refine vv_goto hC (tgt := 4) dX2_countAnewBy_56 (by decide) ?_
            exact vv_lv [2, 3, 1, 0] rfl (ih (n + 1) _ (by omega) (by have h0 : ¬ nI (S.1 20).length ≤ nI n := h12; rw [nI_leI (by omega) (by omega)] at h0; omega) (by rw [← hres, anewF, if_pos (by have h0 : ¬ nI (S.1 20).length ≤ nI n := h12; rw [nI_leI (by omega) (by omega)] at h0; omega), if_pos h31, bI_0.mp h43, if_neg Bool.false_ne_true]))
          · skip
            refine vv_iconst hC (v := 1) dX2_countAnewBy_46 rfl (q := 47) rfl ?_
            refine vv_goto hC (tgt := 51) dX2_countAnewBy_47 (by decide) ?_
            refine vv_iadd hC dX2_countAnewBy_51 (q := 52) rfl ?_
            refine vv_istore_n hC (i := 2) (lv' := [(2, .int (k + 1)), (0, .ref (ad 1)), (1, .int w), (3, .int (nI n))]) dX2_countAnewBy_52 rfl (by decide) rfl (q := 53) rfl ?_
            refine vv_iinc hC (i := 3) (v := nI (n + 1)) (lv' := [(3, .int (nI (n + 1))), (2, .int (k + 1)), (0, .ref (ad 1)), (1, .int w)]) 3 dX2_countAnewBy_53 rfl (nI_1 n) (by decide) rfl (q := 56) rfl ?_
            refine vv_goto hC (tgt := 4) dX2_countAnewBy_56 (by decide) ?_
            exact vv_lv [2, 3, 1, 0] rfl (ih (n + 1) _ (by omega) (by have h0 : ¬ nI (S.1 20).length ≤ nI n := h12; rw [nI_leI (by omega) (by omega)] at h0; omega) (by rw [← hres, anewF, if_pos (by have h0 : ¬ nI (S.1 20).length ≤ nI n := h12; rw [nI_leI (by omega) (by omega)] at h0; omega), if_pos h31, if_pos (bI_1 h43)]))
  exact vv_lv [2, 3, 1, 0] rfl (loop4 _ 0 0 (by omega) (Nat.zero_le _) rfl)
theorem inwX2_hasFrozen_X2 : ∀ w ∈ wsX20, w ∈ wsX2_hasFrozen := fun _ h => List.mem_cons_of_mem _ (List.mem_append_left _ (List.mem_append_left _ (List.mem_append_right _ h)))
theorem inwX2_hasFrozen_X5 : ∀ w ∈ wsX50, w ∈ wsX2_hasFrozen := fun _ h => List.mem_cons_of_mem _ (List.mem_append_left _ (List.mem_append_right _ h))
theorem inwX2_hasFrozen_X6 : ∀ w ∈ wsX60, w ∈ wsX2_hasFrozen := fun _ h => List.mem_cons_of_mem _ (List.mem_append_right _ h)
theorem hdX2_hasFrozen : yX2_hasFrozen.cls = RX2 ∧ yX2_hasFrozen.cls ≠ "java/lang/invoke/MethodHandle" ∧ yX2_hasFrozen.cls ≠ "java/lang/invoke/VarHandle" ∧ (parseMethodDescriptor yX2_hasFrozen.desc).map (fun d => d.parameters.length) = some 2 := by decide +kernel
set_option maxRecDepth 100000 in
set_option maxHeartbeats 4000000 in
theorem c2_hasFrozen (l : Launch) {D : va_G} {cI cW cZ cL : ClassId} {ad : Nat → Nat} (hJ : injA ad 90) (S : sC) (a : Nat) (b : Int32) (ha : a ≤ (S.1 17).length) : kMi l yX2_hasFrozen wsX2_hasFrozen ({ frames := 4, cells := 0, slots := 0, locals := 84 }) D vwCl (tyL cI cW cZ cL) ad 90 [.ref (ad 1), .int (nI a), .int b] (PC cI cW ad S) (bI (hasFrz S a b)) (PC cI cW ad S) := by
  refine vv_enter (cc := cX2_hasFrozen) (maxL := 4) (ret := (some .boolean)) (own := RX2) (lv := [(0, .ref (ad 1)), (1, .int (nI a)), (2, .int b)]) (by decide +kernel) rfl rfl hJ (Nat.le_of_ble_eq_true rfl) rfl ?_
  intro p e s m args below meth c hC hK hW hr hlk
  refine vv_pure (P := wfC S) (fun H hB => by obtain ⟨f, hf, -⟩ := hB; exact oc_wf f hf) (fun hwf => ?_)
  have hw := hwf 17 rfl
  have hc := cap_le 17
  refine vv_iload_n hC 1 dX2_hasFrozen_0 rfl rfl (q := 1) rfl ?_
  refine vv_istore_n hC (i := 3) (lv' := [(3, .int (nI a)), (0, .ref (ad 1)), (1, .int (nI a)), (2, .int b)]) dX2_hasFrozen_1 rfl (by decide) rfl (q := 2) rfl ?_
  have loop2 : ∀ (fu : Nat) (n : Nat), (S.1 17).length < n + fu → n ≤ (S.1 17).length → hasFF S b fu n = hasFrz S a b → vv p l e (headSpec wsX2_hasFrozen ({ frames := 4, cells := 0, slots := 0, locals := 84 })).room s m args below meth c 4 (RA ad 90) s.heap 0 0 (MQ below (va_Qi (fun r' (_ : Unit) => r' = (bI (hasFrz S a b))) (fun _ => ws0 D vwCl (tyL cI cW cZ cL) ad 90 (PC cI cW ad S)) (RA ad 90)) args s 0 0 (RA ad 90)) (wq D vwCl ad 90 (PC cI cW ad S)) 2 [(0, .ref (ad 1)), (1, .int (nI a)), (2, .int b), (3, .int (nI n))] [] := by
    intro fu
    induction fu with
    | zero =>
      intro n hfu hn hres
      exact absurd hfu (by omega)
    | succ fu ih =>
      intro n hfu hn hres
      refine vv_iload_n hC 3 dX2_hasFrozen_2 rfl rfl (q := 3) rfl ?_
      refine vv_iload_n hC 2 dX2_hasFrozen_3 rfl rfl (q := 4) rfl ?_
      refine vv_icmp_gt hC (tgt := 44) dX2_hasFrozen_4 (by decide) (q := 7) rfl (fun h4 => ?_) (fun h4 => ?_)
      · skip
        refine vv_iconst hC (v := 0) dX2_hasFrozen_44 rfl (q := 45) rfl ?_
        exact vv_zret hC hK hr hlk rfl (by rw [← hres, hasFF, if_neg (fun hh => hh.1 h4)]; rfl) (fun _ h => h) dX2_hasFrozen_45
      · skip
        refine vv_iload_n hC 3 dX2_hasFrozen_7 rfl rfl (q := 8) rfl ?_
        refine vv_aload_n hC 0 dX2_hasFrozen_8 rfl rfl (q := 9) rfl ?_
        refine vv_get hC hK (K := RX2) (T := TX2) (N := 4) (ci := 2) inwX2_hasFrozen_X2 1 (kl2 (by decide +kernel)) (oc2 (by decide +kernel)) rfl 2 (by decide) (List.mem_of_getElem? (i := 1) rfl) rfl (v := .ref (ad 17)) rfl dX2_hasFrozen_9 (q := 12) rfl ?_
        refine vv_calli hC hK (fun _ h => h) (As := []) 17 (kl5 (by decide +kernel)) (or5 (by decide +kernel)) rfl (c5_size l hJ S 17 (by decide +kernel)) (cwV 0 hC.2.2.2.2 gX2_hasFrozen_X5_size rfl rfl rfl hdX5_size ⟨Nat.le_of_ble_eq_true rfl, Nat.le_of_ble_eq_true rfl⟩) rfl rfl (Nat.le_of_ble_eq_true rfl) ⟨Nat.le_of_ble_eq_true rfl, Nat.le_of_ble_eq_true rfl⟩ dX2_hasFrozen_12 (q := 15) rfl ?_
        refine vv_icmp_ge hC (tgt := 44) dX2_hasFrozen_15 (by decide) (q := 18) rfl (fun h15 => ?_) (fun h15 => ?_)
        · skip
          refine vv_iconst hC (v := 0) dX2_hasFrozen_44 rfl (q := 45) rfl ?_
          exact vv_zret hC hK hr hlk rfl (by rw [← hres, hasFF, if_neg (fun hh => by have h0 := hh.2; rw [nI_leI (by omega) (by omega)] at h15; omega)]; rfl) (fun _ h => h) dX2_hasFrozen_45
        · skip
          refine vv_aload_n hC 0 dX2_hasFrozen_18 rfl rfl (q := 19) rfl ?_
          refine vv_get hC hK (K := RX2) (T := TX2) (N := 4) (ci := 2) inwX2_hasFrozen_X2 1 (kl2 (by decide +kernel)) (oc2 (by decide +kernel)) rfl 0 (by decide) (List.mem_of_getElem? (i := 2) rfl) rfl (v := .ref (ad 2)) rfl dX2_hasFrozen_19 (q := 22) rfl ?_
          refine vv_aload_n hC 0 dX2_hasFrozen_22 rfl rfl (q := 23) rfl ?_
          refine vv_get hC hK (K := RX2) (T := TX2) (N := 4) (ci := 2) inwX2_hasFrozen_X2 1 (kl2 (by decide +kernel)) (oc2 (by decide +kernel)) rfl 2 (by decide) (List.mem_of_getElem? (i := 1) rfl) rfl (v := .ref (ad 17)) rfl dX2_hasFrozen_23 (q := 26) rfl ?_
          refine vv_iload_n hC 3 dX2_hasFrozen_26 rfl rfl (q := 27) rfl ?_
          refine vv_calli hC hK (fun _ h => h) (As := [.int (nI n)]) 17 (kl5 (by decide +kernel)) (or5 (by decide +kernel)) rfl (c5_at l hJ S 17 (by decide +kernel) (nI n)) (cwV 1 hC.2.2.2.2 gX2_hasFrozen_X5_at rfl rfl rfl hdX5_at ⟨Nat.le_of_ble_eq_true rfl, Nat.le_of_ble_eq_true rfl⟩) rfl rfl (Nat.le_of_ble_eq_true rfl) ⟨Nat.le_of_ble_eq_true rfl, Nat.le_of_ble_eq_true rfl⟩ dX2_hasFrozen_27 (q := 30) rfl ?_
          refine vv_calli hC hK (fun _ h => h) (As := [.int (rAt (S.1 17) (nI n))]) 2 (kl6 (by decide +kernel)) (or6 (by decide +kernel)) rfl (c6_isFrozen l hJ S (rAt (S.1 17) (nI n))) (cwV 1 hC.2.2.2.2 gX2_hasFrozen_X6_isFrozen rfl rfl rfl hdX6_isFrozen ⟨Nat.le_of_ble_eq_true rfl, Nat.le_of_ble_eq_true rfl⟩) rfl rfl (Nat.le_of_ble_eq_true rfl) ⟨Nat.le_of_ble_eq_true rfl, Nat.le_of_ble_eq_true rfl⟩ dX2_hasFrozen_30 (q := 33) rfl ?_
          refine vv_if_eq hC (tgt := 38) dX2_hasFrozen_33 (by decide) (q := 36) rfl (fun h33 => ?_) (fun h33 => ?_)
          · skip
            refine vv_iinc hC (i := 3) (v := nI (n + 1)) (lv' := [(3, .int (nI (n + 1))), (0, .ref (ad 1)), (1, .int (nI a)), (2, .int b)]) 3 dX2_hasFrozen_38 rfl (nI_1 n) (by decide) rfl (q := 41) rfl ?_
            refine vv_goto hC (tgt := 2) dX2_hasFrozen_41 (by decide) ?_
            exact vv_lv [1, 2, 3, 0] rfl (ih (n + 1) (by omega) (by rw [nI_leI (by omega) (by omega)] at h15; omega) (by rw [← hres, hasFF, if_pos ⟨h4, (by rw [nI_leI (by omega) (by omega)] at h15; omega)⟩, bI_0.mp h33, if_neg Bool.false_ne_true]))
          · skip
            refine vv_iconst hC (v := 1) dX2_hasFrozen_36 rfl (q := 37) rfl ?_
            exact vv_zret hC hK hr hlk rfl (by rw [← hres, hasFF, if_pos ⟨h4, (by rw [nI_leI (by omega) (by omega)] at h15; omega)⟩, if_pos (bI_1 h33)]; rfl) (fun _ h => h) dX2_hasFrozen_37
  exact vv_lv [1, 2, 3, 0] rfl (loop2 _ a (by omega) ha rfl)
theorem inwX2_freeze_X2 : ∀ w ∈ wsX20, w ∈ wsX2_freeze := fun _ h => List.mem_cons_of_mem _ (List.mem_append_left _ (List.mem_append_left _ (List.mem_append_right _ h)))
theorem inwX2_freeze_X5 : ∀ w ∈ wsX50, w ∈ wsX2_freeze := fun _ h => List.mem_cons_of_mem _ (List.mem_append_left _ (List.mem_append_right _ h))
theorem inwX2_freeze_X6 : ∀ w ∈ wsX60, w ∈ wsX2_freeze := fun _ h => List.mem_cons_of_mem _ (List.mem_append_right _ h)
theorem hdX2_freeze : yX2_freeze.cls = RX2 ∧ yX2_freeze.cls ≠ "java/lang/invoke/MethodHandle" ∧ yX2_freeze.cls ≠ "java/lang/invoke/VarHandle" ∧ (parseMethodDescriptor yX2_freeze.desc).map (fun d => d.parameters.length) = some 3 := by decide +kernel
set_option maxRecDepth 100000 in
set_option maxHeartbeats 4000000 in
theorem c2_freeze (l : Launch) {D : va_G} {cI cW cZ cL : ClassId} {ad : Nat → Nat} (hJ : injA ad 90) (S : sC) (a : Nat) (b r : Int32) (ha : a ≤ (S.1 17).length) : kMv l yX2_freeze wsX2_freeze ({ frames := 3, cells := 0, slots := 0, locals := 65 }) D vwCl (tyL cI cW cZ cL) ad 90 [.ref (ad 1), .int (nI a), .int b, .int r] (PC cI cW ad S) (PC cI cW ad (frz S a b r)) := by
  refine vv_enter (cc := cX2_freeze) (maxL := 5) (ret := none) (own := RX2) (lv := [(0, .ref (ad 1)), (1, .int (nI a)), (2, .int b), (3, .int r)]) (by decide +kernel) rfl rfl hJ (Nat.le_of_ble_eq_true rfl) rfl ?_
  intro p e s m args below meth c hC hK hW hr hlk
  refine vv_iload_n hC 1 dX2_freeze_0 rfl rfl (q := 1) rfl ?_
  refine vv_istore hC (i := 4) (lv' := [(4, .int (nI a)), (0, .ref (ad 1)), (1, .int (nI a)), (2, .int b), (3, .int r)]) dX2_freeze_1 (by decide) rfl (q := 3) rfl ?_
  have loop3 : ∀ (fu : Nat) (n : Nat) (T : sC), (T.1 17).length < n + fu → n ≤ (T.1 17).length → frzF b r fu n T = frz S a b r → vv p l e (headSpec wsX2_freeze ({ frames := 3, cells := 0, slots := 0, locals := 65 })).room s m args below meth c 5 (RA ad 90) s.heap 0 0 (MQ below (va_Qv (fun (_ : Unit) => True) (fun _ => ws0 D vwCl (tyL cI cW cZ cL) ad 90 (PC cI cW ad (frz S a b r))) (RA ad 90)) args s 0 0 (RA ad 90)) (wq D vwCl ad 90 (PC cI cW ad T)) 3 [(0, .ref (ad 1)), (1, .int (nI a)), (2, .int b), (3, .int r), (4, .int (nI n))] [] := by
    intro fu
    induction fu with
    | zero =>
      intro n T hfu hn hres
      exact absurd hfu (by omega)
    | succ fu ih =>
      intro n T hfu hn hres
      refine vv_pure (P := wfC T) (fun H hB => by obtain ⟨f, hf, -⟩ := hB; exact oc_wf f hf) (fun hwf => ?_)
      have hw := hwf 17 rfl
      have hc := cap_le 17
      refine vv_iload hC 4 dX2_freeze_3 rfl (q := 5) rfl ?_
      refine vv_iload_n hC 2 dX2_freeze_5 rfl rfl (q := 6) rfl ?_
      refine vv_icmp_gt hC (tgt := 44) dX2_freeze_6 (by decide) (q := 9) rfl (fun h6 => ?_) (fun h6 => ?_)
      · skip
        exact vv_vret hC hK hr hlk (fun f h => by rw [← hres, frzF, if_neg (fun hh => hh.1 h6)]; exact h) dX2_freeze_44
      · skip
        refine vv_iload hC 4 dX2_freeze_9 rfl (q := 11) rfl ?_
        refine vv_aload_n hC 0 dX2_freeze_11 rfl rfl (q := 12) rfl ?_
        refine vv_get hC hK (K := RX2) (T := TX2) (N := 4) (ci := 2) inwX2_freeze_X2 1 (kl2 (by decide +kernel)) (oc2 (by decide +kernel)) rfl 2 (by decide) (List.mem_of_getElem? (i := 1) rfl) rfl (v := .ref (ad 17)) rfl dX2_freeze_12 (q := 15) rfl ?_
        refine vv_calli hC hK (fun _ h => h) (As := []) 17 (kl5 (by decide +kernel)) (or5 (by decide +kernel)) rfl (c5_size l hJ T 17 (by decide +kernel)) (cwV 0 hC.2.2.2.2 gX2_freeze_X5_size rfl rfl rfl hdX5_size ⟨Nat.le_of_ble_eq_true rfl, Nat.le_of_ble_eq_true rfl⟩) rfl rfl (Nat.le_of_ble_eq_true rfl) ⟨Nat.le_of_ble_eq_true rfl, Nat.le_of_ble_eq_true rfl⟩ dX2_freeze_15 (q := 18) rfl ?_
        refine vv_icmp_ge hC (tgt := 44) dX2_freeze_18 (by decide) (q := 21) rfl (fun h18 => ?_) (fun h18 => ?_)
        · skip
          exact vv_vret hC hK hr hlk (fun f h => by rw [← hres, frzF, if_neg (fun hh => by have h0 := hh.2; rw [nI_leI (by omega) (by omega)] at h18; omega)]; exact h) dX2_freeze_44
        · skip
          refine vv_aload_n hC 0 dX2_freeze_21 rfl rfl (q := 22) rfl ?_
          refine vv_get hC hK (K := RX2) (T := TX2) (N := 4) (ci := 2) inwX2_freeze_X2 1 (kl2 (by decide +kernel)) (oc2 (by decide +kernel)) rfl 0 (by decide) (List.mem_of_getElem? (i := 2) rfl) rfl (v := .ref (ad 2)) rfl dX2_freeze_22 (q := 25) rfl ?_
          refine vv_aload_n hC 0 dX2_freeze_25 rfl rfl (q := 26) rfl ?_
          refine vv_get hC hK (K := RX2) (T := TX2) (N := 4) (ci := 2) inwX2_freeze_X2 1 (kl2 (by decide +kernel)) (oc2 (by decide +kernel)) rfl 2 (by decide) (List.mem_of_getElem? (i := 1) rfl) rfl (v := .ref (ad 17)) rfl dX2_freeze_26 (q := 29) rfl ?_
          refine vv_iload hC 4 dX2_freeze_29 rfl (q := 31) rfl ?_
          refine vv_calli hC hK (fun _ h => h) (As := [.int (nI n)]) 17 (kl5 (by decide +kernel)) (or5 (by decide +kernel)) rfl (c5_at l hJ T 17 (by decide +kernel) (nI n)) (cwV 1 hC.2.2.2.2 gX2_freeze_X5_at rfl rfl rfl hdX5_at ⟨Nat.le_of_ble_eq_true rfl, Nat.le_of_ble_eq_true rfl⟩) rfl rfl (Nat.le_of_ble_eq_true rfl) ⟨Nat.le_of_ble_eq_true rfl, Nat.le_of_ble_eq_true rfl⟩ dX2_freeze_31 (q := 34) rfl ?_
          refine vv_iload_n hC 3 dX2_freeze_34 rfl rfl (q := 35) rfl ?_
          refine vv_callv hC hK (fun _ h => h) (As := [.int (rAt (T.1 17) (nI n)), .int r]) 2 (kl6 (by decide +kernel)) (or6 (by decide +kernel)) rfl (c6_setFrozen l hJ T (rAt (T.1 17) (nI n)) r) (cwV 2 hC.2.2.2.2 gX2_freeze_X6_setFrozen rfl rfl rfl hdX6_setFrozen ⟨Nat.le_of_ble_eq_true rfl, Nat.le_of_ble_eq_true rfl⟩) rfl rfl (Nat.le_of_ble_eq_true rfl) ⟨Nat.le_of_ble_eq_true rfl, Nat.le_of_ble_eq_true rfl⟩ dX2_freeze_35 (q := 38) rfl ?_
          refine vv_iinc hC (i := 4) (v := nI (n + 1)) (lv' := [(4, .int (nI (n + 1))), (0, .ref (ad 1)), (1, .int (nI a)), (2, .int b), (3, .int r)]) 4 dX2_freeze_38 rfl (nI_1 n) (by decide) rfl (q := 41) rfl ?_
          refine vv_goto hC (tgt := 3) dX2_freeze_41 (by decide) ?_
          exact vv_lv [1, 2, 3, 4, 0] rfl (ih (n + 1) _ (by show (T.1 17).length < _; omega) (by show n + 1 ≤ (T.1 17).length; rw [nI_leI (by omega) (by omega)] at h18; omega) (by rw [← hres, frzF, if_pos ⟨h6, (by rw [nI_leI (by omega) (by omega)] at h18; omega)⟩]))
  exact vv_lv [1, 2, 3, 4, 0] rfl (loop3 _ a S (by omega) ha rfl)
theorem inwX2_firstBetween_X2 : ∀ w ∈ wsX20, w ∈ wsX2_firstBetween := fun _ h => List.mem_cons_of_mem _ (List.mem_append_left _ (List.mem_append_left _ (List.mem_append_right _ h)))
theorem inwX2_firstBetween_X5 : ∀ w ∈ wsX50, w ∈ wsX2_firstBetween := fun _ h => List.mem_cons_of_mem _ (List.mem_append_left _ (List.mem_append_right _ h))
theorem inwX2_firstBetween_X6 : ∀ w ∈ wsX60, w ∈ wsX2_firstBetween := fun _ h => List.mem_cons_of_mem _ (List.mem_append_right _ h)
theorem hdX2_firstBetween : yX2_firstBetween.cls = RX2 ∧ yX2_firstBetween.cls ≠ "java/lang/invoke/MethodHandle" ∧ yX2_firstBetween.cls ≠ "java/lang/invoke/VarHandle" ∧ (parseMethodDescriptor yX2_firstBetween.desc).map (fun d => d.parameters.length) = some 2 := by decide +kernel
set_option maxRecDepth 100000 in
set_option maxHeartbeats 4000000 in
theorem c2_firstBetween (l : Launch) {D : va_G} {cI cW cZ cL : ClassId} {ad : Nat → Nat} (hJ : injA ad 90) (S : sC) (a b : Int32) : kMi l yX2_firstBetween wsX2_firstBetween ({ frames := 3, cells := 0, slots := 0, locals := 64 }) D vwCl (tyL cI cW cZ cL) ad 90 [.ref (ad 1), .int a, .int b] (PC cI cW ad S) (firstB S a b) (PC cI cW ad S) := by
  refine vv_enter (cc := cX2_firstBetween) (maxL := 5) (ret := (some .int)) (own := RX2) (lv := [(0, .ref (ad 1)), (1, .int a), (2, .int b)]) (by decide +kernel) rfl rfl hJ (Nat.le_of_ble_eq_true rfl) rfl ?_
  intro p e s m args below meth c hC hK hW hr hlk
  refine vv_pure (P := wfC S) (fun H hB => by obtain ⟨f, hf, -⟩ := hB; exact oc_wf f hf) (fun hwf => ?_)
  have hw := hwf 15 rfl
  have hc := cap_le 15
  obtain ⟨eb, lb⟩ := rp_spec (x := S.1 15) b (by omega)
  obtain ⟨ea, la⟩ := rp_spec (x := S.1 15) a (by omega)
  refine vv_aload_n hC 0 dX2_firstBetween_0 rfl rfl (q := 1) rfl ?_
  refine vv_get hC hK (K := RX2) (T := TX2) (N := 4) (ci := 2) inwX2_firstBetween_X2 1 (kl2 (by decide +kernel)) (oc2 (by decide +kernel)) rfl 1 (by decide) (List.mem_of_getElem? (i := 1) rfl) rfl (v := .ref (ad 15)) rfl dX2_firstBetween_1 (q := 4) rfl ?_
  refine vv_iload_n hC 2 dX2_firstBetween_4 rfl rfl (q := 5) rfl ?_
  refine vv_calli hC hK (fun _ h => h) (As := [.int b]) 15 (kl5 (by decide +kernel)) (or5 (by decide +kernel)) rfl (c5_indexOf l hJ S 15 (by decide +kernel) b) (cwV 1 hC.2.2.2.2 gX2_firstBetween_X5_indexOf rfl rfl rfl hdX5_indexOf ⟨Nat.le_of_ble_eq_true rfl, Nat.le_of_ble_eq_true rfl⟩) rfl rfl (Nat.le_of_ble_eq_true rfl) ⟨Nat.le_of_ble_eq_true rfl, Nat.le_of_ble_eq_true rfl⟩ dX2_firstBetween_5 (q := 8) rfl ?_
  refine vv_istore_n hC (i := 3) (lv' := [(3, .int (rIdx (S.1 15) b)), (0, .ref (ad 1)), (1, .int a), (2, .int b)]) dX2_firstBetween_8 rfl (by decide) rfl (q := 9) rfl ?_
  refine vv_aload_n hC 1 dX2_firstBetween_9 rfl rfl (q := 10) rfl ?_
  refine vv_get hC hK (K := RX2) (T := TX2) (N := 4) (ci := 2) inwX2_firstBetween_X2 1 (kl2 (by decide +kernel)) (oc2 (by decide +kernel)) rfl 1 (by decide) (List.mem_of_getElem? (i := 1) rfl) rfl (v := .ref (ad 15)) rfl dX2_firstBetween_10 (q := 13) rfl ?_
  refine vv_iload_n hC 2 dX2_firstBetween_13 rfl rfl (q := 14) rfl ?_
  refine vv_calli hC hK (fun _ h => h) (As := [.int a]) 15 (kl5 (by decide +kernel)) (or5 (by decide +kernel)) rfl (c5_indexOf l hJ S 15 (by decide +kernel) a) (cwV 1 hC.2.2.2.2 gX2_firstBetween_X5_indexOf rfl rfl rfl hdX5_indexOf ⟨Nat.le_of_ble_eq_true rfl, Nat.le_of_ble_eq_true rfl⟩) rfl rfl (Nat.le_of_ble_eq_true rfl) ⟨Nat.le_of_ble_eq_true rfl, Nat.le_of_ble_eq_true rfl⟩ dX2_firstBetween_14 (q := 17) rfl ?_
  refine vv_istore hC (i := 4) (lv' := [(4, .int (rIdx (S.1 15) a)), (3, .int (rIdx (S.1 15) b)), (0, .ref (ad 1)), (1, .int a), (2, .int b)]) dX2_firstBetween_17 (by decide) rfl (q := 19) rfl ?_
  have loop19 : ∀ (fu : Nat) (n : Nat) (r : Nat), r < fu → (rp (S.1 15) b) < n + r → n ≤ (S.1 15).length + 1 → fbF S (rp (S.1 15) b) r n = firstB S a b → vv p l e (headSpec wsX2_firstBetween ({ frames := 3, cells := 0, slots := 0, locals := 64 })).room s m args below meth c 5 (RA ad 90) s.heap 0 0 (MQ below (va_Qi (fun r' (_ : Unit) => r' = (firstB S a b)) (fun _ => ws0 D vwCl (tyL cI cW cZ cL) ad 90 (PC cI cW ad S)) (RA ad 90)) args s 0 0 (RA ad 90)) (wq D vwCl ad 90 (PC cI cW ad S)) 19 [(0, .ref (ad 1)), (1, .int a), (2, .int b), (3, .int (nI (rp (S.1 15) b) - 1)), (4, .int (nI n - 1))] [] := by
    intro fu
    induction fu with
    | zero =>
      intro n r hfu hrr hn hres
      exact absurd hfu (Nat.not_lt_zero _)
    | succ fu ih =>
      intro n r hfu hrr hn hres
      refine vv_iload hC 4 dX2_firstBetween_19 rfl (q := 21) rfl ?_
      refine vv_iload_n hC 3 dX2_firstBetween_21 rfl rfl (q := 22) rfl ?_
      refine vv_icmp_gt hC (tgt := 60) dX2_firstBetween_22 (by decide) (q := 25) rfl (fun h22 => ?_) (fun h22 => ?_)
      · skip
        refine vv_iconst hC (v := (-1)) dX2_firstBetween_60 rfl (q := 61) rfl ?_
        exact vv_iret hC hK hr hlk (by rcases r with _ | r <;> rw [← hres, fbF]; rw [if_pos (by rw [nI_m1_lt (by omega) (by omega)] at h22; exact h22)]) (fun _ h => h) dX2_firstBetween_61
      · skip
        obtain ⟨r, rfl⟩ : ∃ r2, r = r2 + 1 := ⟨r - 1, by rw [nI_m1_lt (by omega) (by omega)] at h22; omega⟩
        refine vv_aload_n hC 0 dX2_firstBetween_25 rfl rfl (q := 26) rfl ?_
        refine vv_get hC hK (K := RX2) (T := TX2) (N := 4) (ci := 2) inwX2_firstBetween_X2 1 (kl2 (by decide +kernel)) (oc2 (by decide +kernel)) rfl 0 (by decide) (List.mem_of_getElem? (i := 2) rfl) rfl (v := .ref (ad 2)) rfl dX2_firstBetween_26 (q := 29) rfl ?_
        refine vv_aload_n hC 0 dX2_firstBetween_29 rfl rfl (q := 30) rfl ?_
        refine vv_get hC hK (K := RX2) (T := TX2) (N := 4) (ci := 2) inwX2_firstBetween_X2 1 (kl2 (by decide +kernel)) (oc2 (by decide +kernel)) rfl 1 (by decide) (List.mem_of_getElem? (i := 1) rfl) rfl (v := .ref (ad 15)) rfl dX2_firstBetween_30 (q := 33) rfl ?_
        refine vv_iload hC 4 dX2_firstBetween_33 rfl (q := 35) rfl ?_
        refine vv_calli hC hK (fun _ h => h) (As := [.int (nI n - 1)]) 15 (kl5 (by decide +kernel)) (or5 (by decide +kernel)) rfl (c5_at l hJ S 15 (by decide +kernel) (nI n - 1)) (cwV 1 hC.2.2.2.2 gX2_firstBetween_X5_at rfl rfl rfl hdX5_at ⟨Nat.le_of_ble_eq_true rfl, Nat.le_of_ble_eq_true rfl⟩) rfl rfl (Nat.le_of_ble_eq_true rfl) ⟨Nat.le_of_ble_eq_true rfl, Nat.le_of_ble_eq_true rfl⟩ dX2_firstBetween_35 (q := 38) rfl ?_
        refine vv_calli hC hK (fun _ h => h) (As := [.int (rAt (S.1 15) (nI n - 1))]) 2 (kl6 (by decide +kernel)) (or6 (by decide +kernel)) rfl (c6_isThere l hJ S (rAt (S.1 15) (nI n - 1))) (cwV 1 hC.2.2.2.2 gX2_firstBetween_X6_isThere rfl rfl rfl hdX6_isThere ⟨Nat.le_of_ble_eq_true rfl, Nat.le_of_ble_eq_true rfl⟩) rfl rfl (Nat.le_of_ble_eq_true rfl) ⟨Nat.le_of_ble_eq_true rfl, Nat.le_of_ble_eq_true rfl⟩ dX2_firstBetween_38 (q := 41) rfl ?_
        refine vv_if_eq hC (tgt := 54) dX2_firstBetween_41 (by decide) (q := 44) rfl (fun h41 => ?_) (fun h41 => ?_)
        · skip
          refine vv_iinc hC (i := 4) (v := nI (n + 1) - 1) (lv' := [(4, .int (nI (n + 1) - 1)), (0, .ref (ad 1)), (1, .int a), (2, .int b), (3, .int (nI (rp (S.1 15) b) - 1))]) 4 dX2_firstBetween_54 rfl (nI_m1_i n) (by decide) rfl (q := 57) rfl ?_
          refine vv_goto hC (tgt := 19) dX2_firstBetween_57 (by decide) ?_
          exact vv_lv [1, 2, 3, 4, 0] rfl (ih (n + 1) r (by omega) (by omega) (by rw [nI_m1_lt (by omega) (by omega)] at h22; omega) (by rw [← hres, fbF, if_neg (by rw [nI_m1_lt (by omega) (by omega)] at h22; exact h22), bI_0.mp h41, if_neg Bool.false_ne_true]))
        · skip
          refine vv_aload_n hC 0 dX2_firstBetween_44 rfl rfl (q := 45) rfl ?_
          refine vv_get hC hK (K := RX2) (T := TX2) (N := 4) (ci := 2) inwX2_firstBetween_X2 1 (kl2 (by decide +kernel)) (oc2 (by decide +kernel)) rfl 1 (by decide) (List.mem_of_getElem? (i := 1) rfl) rfl (v := .ref (ad 15)) rfl dX2_firstBetween_45 (q := 48) rfl ?_
          refine vv_iload hC 4 dX2_firstBetween_48 rfl (q := 50) rfl ?_
          refine vv_calli hC hK (fun _ h => h) (As := [.int (nI n - 1)]) 15 (kl5 (by decide +kernel)) (or5 (by decide +kernel)) rfl (c5_at l hJ S 15 (by decide +kernel) (nI n - 1)) (cwV 1 hC.2.2.2.2 gX2_firstBetween_X5_at rfl rfl rfl hdX5_at ⟨Nat.le_of_ble_eq_true rfl, Nat.le_of_ble_eq_true rfl⟩) rfl rfl (Nat.le_of_ble_eq_true rfl) ⟨Nat.le_of_ble_eq_true rfl, Nat.le_of_ble_eq_true rfl⟩ dX2_firstBetween_50 (q := 53) rfl ?_
          exact vv_iret hC hK hr hlk (by rw [← hres, fbF, if_neg (by rw [nI_m1_lt (by omega) (by omega)] at h22; exact h22), if_pos (bI_1 h41)]) (fun _ h => h) dX2_firstBetween_53
  refine vv_lv [2, 3, 4, 1, 0] (lv' := [(0, .ref (ad 1)), (1, .int a), (2, .int b), (3, .int (rIdx (S.1 15) b)), (4, .int (rIdx (S.1 15) a))]) rfl ?_
  exact vv_eql (by rw [eb, ea]) (loop19 _ (rp (S.1 15) a) ((rp (S.1 15) b) + 1) (Nat.lt_succ_self _) (by omega) (by omega) rfl)
theorem inwX2_countBetween_X2 : ∀ w ∈ wsX20, w ∈ wsX2_countBetween := fun _ h => List.mem_cons_of_mem _ (List.mem_append_left _ (List.mem_append_left _ (List.mem_append_right _ h)))
theorem inwX2_countBetween_X5 : ∀ w ∈ wsX50, w ∈ wsX2_countBetween := fun _ h => List.mem_cons_of_mem _ (List.mem_append_left _ (List.mem_append_right _ h))
theorem inwX2_countBetween_X6 : ∀ w ∈ wsX60, w ∈ wsX2_countBetween := fun _ h => List.mem_cons_of_mem _ (List.mem_append_right _ h)
theorem hdX2_countBetween : yX2_countBetween.cls = RX2 ∧ yX2_countBetween.cls ≠ "java/lang/invoke/MethodHandle" ∧ yX2_countBetween.cls ≠ "java/lang/invoke/VarHandle" ∧ (parseMethodDescriptor yX2_countBetween.desc).map (fun d => d.parameters.length) = some 2 := by decide +kernel
set_option maxRecDepth 100000 in
set_option maxHeartbeats 4000000 in
theorem c2_countBetween (l : Launch) {D : va_G} {cI cW cZ cL : ClassId} {ad : Nat → Nat} (hJ : injA ad 90) (S : sC) (a b : Int32) : kMi l yX2_countBetween wsX2_countBetween ({ frames := 3, cells := 0, slots := 0, locals := 64 }) D vwCl (tyL cI cW cZ cL) ad 90 [.ref (ad 1), .int a, .int b] (PC cI cW ad S) (nI (countB S a b)) (PC cI cW ad S) := by
  refine vv_enter (cc := cX2_countBetween) (maxL := 6) (ret := (some .int)) (own := RX2) (lv := [(0, .ref (ad 1)), (1, .int a), (2, .int b)]) (by decide +kernel) rfl rfl hJ (Nat.le_of_ble_eq_true rfl) rfl ?_
  intro p e s m args below meth c hC hK hW hr hlk
  refine vv_pure (P := wfC S) (fun H hB => by obtain ⟨f, hf, -⟩ := hB; exact oc_wf f hf) (fun hwf => ?_)
  have hw := hwf 15 rfl
  have hc := cap_le 15
  obtain ⟨eb, lb⟩ := rp_spec (x := S.1 15) b (by omega)
  obtain ⟨ea, la⟩ := rp_spec (x := S.1 15) a (by omega)
  refine vv_iconst hC (v := 0) dX2_countBetween_0 rfl (q := 1) rfl ?_
  refine vv_istore_n hC (i := 3) (lv' := [(3, .int 0), (0, .ref (ad 1)), (1, .int a), (2, .int b)]) dX2_countBetween_1 rfl (by decide) rfl (q := 2) rfl ?_
  refine vv_aload_n hC 1 dX2_countBetween_2 rfl rfl (q := 3) rfl ?_
  refine vv_get hC hK (K := RX2) (T := TX2) (N := 4) (ci := 2) inwX2_countBetween_X2 1 (kl2 (by decide +kernel)) (oc2 (by decide +kernel)) rfl 1 (by decide) (List.mem_of_getElem? (i := 1) rfl) rfl (v := .ref (ad 15)) rfl dX2_countBetween_3 (q := 6) rfl ?_
  refine vv_iload_n hC 3 dX2_countBetween_6 rfl rfl (q := 7) rfl ?_
  refine vv_calli hC hK (fun _ h => h) (As := [.int b]) 15 (kl5 (by decide +kernel)) (or5 (by decide +kernel)) rfl (c5_indexOf l hJ S 15 (by decide +kernel) b) (cwV 1 hC.2.2.2.2 gX2_countBetween_X5_indexOf rfl rfl rfl hdX5_indexOf ⟨Nat.le_of_ble_eq_true rfl, Nat.le_of_ble_eq_true rfl⟩) rfl rfl (Nat.le_of_ble_eq_true rfl) ⟨Nat.le_of_ble_eq_true rfl, Nat.le_of_ble_eq_true rfl⟩ dX2_countBetween_7 (q := 10) rfl ?_
  refine vv_istore hC (i := 4) (lv' := [(4, .int (rIdx (S.1 15) b)), (3, .int 0), (0, .ref (ad 1)), (1, .int a), (2, .int b)]) dX2_countBetween_10 (by decide) rfl (q := 12) rfl ?_
  refine vv_aload_n hC 2 dX2_countBetween_12 rfl rfl (q := 13) rfl ?_
  refine vv_get hC hK (K := RX2) (T := TX2) (N := 4) (ci := 2) inwX2_countBetween_X2 1 (kl2 (by decide +kernel)) (oc2 (by decide +kernel)) rfl 1 (by decide) (List.mem_of_getElem? (i := 1) rfl) rfl (v := .ref (ad 15)) rfl dX2_countBetween_13 (q := 16) rfl ?_
  refine vv_iload_n hC 3 dX2_countBetween_16 rfl rfl (q := 17) rfl ?_
  refine vv_calli hC hK (fun _ h => h) (As := [.int a]) 15 (kl5 (by decide +kernel)) (or5 (by decide +kernel)) rfl (c5_indexOf l hJ S 15 (by decide +kernel) a) (cwV 1 hC.2.2.2.2 gX2_countBetween_X5_indexOf rfl rfl rfl hdX5_indexOf ⟨Nat.le_of_ble_eq_true rfl, Nat.le_of_ble_eq_true rfl⟩) rfl rfl (Nat.le_of_ble_eq_true rfl) ⟨Nat.le_of_ble_eq_true rfl, Nat.le_of_ble_eq_true rfl⟩ dX2_countBetween_17 (q := 20) rfl ?_
  refine vv_istore hC (i := 5) (lv' := [(5, .int (rIdx (S.1 15) a)), (4, .int (rIdx (S.1 15) b)), (3, .int 0), (0, .ref (ad 1)), (1, .int a), (2, .int b)]) dX2_countBetween_20 (by decide) rfl (q := 22) rfl ?_
  have loop22 : ∀ (fu : Nat) (n : Nat) (r : Nat) (k : Nat), r < fu → (rp (S.1 15) b) < n + r → n ≤ (S.1 15).length + 1 → cbF S (rp (S.1 15) b) r n k = countB S a b → vv p l e (headSpec wsX2_countBetween ({ frames := 3, cells := 0, slots := 0, locals := 64 })).room s m args below meth c 6 (RA ad 90) s.heap 0 0 (MQ below (va_Qi (fun r' (_ : Unit) => r' = (nI (countB S a b))) (fun _ => ws0 D vwCl (tyL cI cW cZ cL) ad 90 (PC cI cW ad S)) (RA ad 90)) args s 0 0 (RA ad 90)) (wq D vwCl ad 90 (PC cI cW ad S)) 22 [(0, .ref (ad 1)), (1, .int a), (2, .int b), (3, .int (nI k)), (4, .int (nI (rp (S.1 15) b) - 1)), (5, .int (nI n - 1))] [] := by
    intro fu
    induction fu with
    | zero =>
      intro n r k hfu hrr hn hres
      exact absurd hfu (Nat.not_lt_zero _)
    | succ fu ih =>
      intro n r k hfu hrr hn hres
      refine vv_iload hC 5 dX2_countBetween_22 rfl (q := 24) rfl ?_
      refine vv_iload hC 4 dX2_countBetween_24 rfl (q := 26) rfl ?_
      refine vv_icmp_gt hC (tgt := 57) dX2_countBetween_26 (by decide) (q := 29) rfl (fun h26 => ?_) (fun h26 => ?_)
      · skip
        refine vv_iload_n hC 3 dX2_countBetween_57 rfl rfl (q := 58) rfl ?_
        exact vv_iret hC hK hr hlk (by rcases r with _ | r <;> rw [← hres, cbF]; rw [if_pos (by rw [nI_m1_lt (by omega) (by omega)] at h26; exact h26)]) (fun _ h => h) dX2_countBetween_58
      · skip
        obtain ⟨r, rfl⟩ : ∃ r2, r = r2 + 1 := ⟨r - 1, by rw [nI_m1_lt (by omega) (by omega)] at h26; omega⟩
        refine vv_aload_n hC 0 dX2_countBetween_29 rfl rfl (q := 30) rfl ?_
        refine vv_get hC hK (K := RX2) (T := TX2) (N := 4) (ci := 2) inwX2_countBetween_X2 1 (kl2 (by decide +kernel)) (oc2 (by decide +kernel)) rfl 0 (by decide) (List.mem_of_getElem? (i := 2) rfl) rfl (v := .ref (ad 2)) rfl dX2_countBetween_30 (q := 33) rfl ?_
        refine vv_aload_n hC 0 dX2_countBetween_33 rfl rfl (q := 34) rfl ?_
        refine vv_get hC hK (K := RX2) (T := TX2) (N := 4) (ci := 2) inwX2_countBetween_X2 1 (kl2 (by decide +kernel)) (oc2 (by decide +kernel)) rfl 1 (by decide) (List.mem_of_getElem? (i := 1) rfl) rfl (v := .ref (ad 15)) rfl dX2_countBetween_34 (q := 37) rfl ?_
        refine vv_iload hC 5 dX2_countBetween_37 rfl (q := 39) rfl ?_
        refine vv_calli hC hK (fun _ h => h) (As := [.int (nI n - 1)]) 15 (kl5 (by decide +kernel)) (or5 (by decide +kernel)) rfl (c5_at l hJ S 15 (by decide +kernel) (nI n - 1)) (cwV 1 hC.2.2.2.2 gX2_countBetween_X5_at rfl rfl rfl hdX5_at ⟨Nat.le_of_ble_eq_true rfl, Nat.le_of_ble_eq_true rfl⟩) rfl rfl (Nat.le_of_ble_eq_true rfl) ⟨Nat.le_of_ble_eq_true rfl, Nat.le_of_ble_eq_true rfl⟩ dX2_countBetween_39 (q := 42) rfl ?_
        refine vv_calli hC hK (fun _ h => h) (As := [.int (rAt (S.1 15) (nI n - 1))]) 2 (kl6 (by decide +kernel)) (or6 (by decide +kernel)) rfl (c6_isThere l hJ S (rAt (S.1 15) (nI n - 1))) (cwV 1 hC.2.2.2.2 gX2_countBetween_X6_isThere rfl rfl rfl hdX6_isThere ⟨Nat.le_of_ble_eq_true rfl, Nat.le_of_ble_eq_true rfl⟩) rfl rfl (Nat.le_of_ble_eq_true rfl) ⟨Nat.le_of_ble_eq_true rfl, Nat.le_of_ble_eq_true rfl⟩ dX2_countBetween_42 (q := 45) rfl ?_
        refine vv_if_eq hC (tgt := 51) dX2_countBetween_45 (by decide) (q := 48) rfl (fun h45 => ?_) (fun h45 => ?_)
        · skip
          refine vv_iinc hC (i := 5) (v := nI (n + 1) - 1) (lv' := [(5, .int (nI (n + 1) - 1)), (0, .ref (ad 1)), (1, .int a), (2, .int b), (3, .int (nI k)), (4, .int (nI (rp (S.1 15) b) - 1))]) 5 dX2_countBetween_51 rfl (nI_m1_i n) (by decide) rfl (q := 54) rfl ?_
          refine vv_goto hC (tgt := 22) dX2_countBetween_54 (by decide) ?_
          exact vv_lv [1, 2, 3, 4, 5, 0] rfl (ih (n + 1) r k (by omega) (by omega) (by rw [nI_m1_lt (by omega) (by omega)] at h26; omega) (by rw [← hres, cbF, if_neg (by rw [nI_m1_lt (by omega) (by omega)] at h26; exact h26), bI_0.mp h45, if_neg Bool.false_ne_true]))
        · skip
          refine vv_iinc hC (i := 3) (v := nI (k + 1)) (lv' := [(3, .int (nI (k + 1))), (0, .ref (ad 1)), (1, .int a), (2, .int b), (4, .int (nI (rp (S.1 15) b) - 1)), (5, .int (nI n - 1))]) 3 dX2_countBetween_48 rfl (nI_1 k) (by decide) rfl (q := 51) rfl ?_
          refine vv_iinc hC (i := 5) (v := nI (n + 1) - 1) (lv' := [(5, .int (nI (n + 1) - 1)), (3, .int (nI (k + 1))), (0, .ref (ad 1)), (1, .int a), (2, .int b), (4, .int (nI (rp (S.1 15) b) - 1))]) 5 dX2_countBetween_51 rfl (nI_m1_i n) (by decide) rfl (q := 54) rfl ?_
          refine vv_goto hC (tgt := 22) dX2_countBetween_54 (by decide) ?_
          exact vv_lv [2, 3, 4, 1, 5, 0] rfl (ih (n + 1) r (k + 1) (by omega) (by omega) (by rw [nI_m1_lt (by omega) (by omega)] at h26; omega) (by rw [← hres, cbF, if_neg (by rw [nI_m1_lt (by omega) (by omega)] at h26; exact h26), if_pos (bI_1 h45)]))
  refine vv_lv [3, 4, 5, 2, 1, 0] (lv' := [(0, .ref (ad 1)), (1, .int a), (2, .int b), (3, .int 0), (4, .int (rIdx (S.1 15) b)), (5, .int (rIdx (S.1 15) a))]) rfl ?_
  exact vv_eql (by rw [eb, ea]; rfl) (loop22 _ (rp (S.1 15) a) ((rp (S.1 15) b) + 1) 0 (Nat.lt_succ_self _) (by omega) (by omega) rfl)
theorem inwX7_copied_X7 : ∀ w ∈ wsX70, w ∈ wsX7_copied := fun _ h => List.mem_cons_of_mem _ (List.mem_append_right _ h)
theorem hdX7_copied : yX7_copied.cls = RX7 ∧ yX7_copied.cls ≠ "java/lang/invoke/MethodHandle" ∧ yX7_copied.cls ≠ "java/lang/invoke/VarHandle" ∧ (parseMethodDescriptor yX7_copied.desc).map (fun d => d.parameters.length) = some 0 := by decide +kernel
set_option maxRecDepth 100000 in
set_option maxHeartbeats 4000000 in
theorem c7_copied (l : Launch) {D : va_G} {cI cW cZ cL : ClassId} {ad : Nat → Nat} (hJ : injA ad 90) (S : sC) (j : Nat) (hk : kd j = 7)  : kMr l yX7_copied wsX7_copied ({ frames := 0, cells := 0, slots := 0, locals := 0 }) D vwCl (tyL cI cW cZ cL) ad 90 [.ref (ad j)] (PC cI cW ad S) (ad (j + 1)) (PC cI cW ad S) := by
  refine vv_enter (cc := cX7_copied) (maxL := 1) (ret := (some (.object "DraftCommon$Row"))) (own := RX7) (lv := [(0, .ref (ad j))]) (by decide +kernel) rfl rfl hJ (Nat.le_of_ble_eq_true rfl) rfl ?_
  intro p e s m args below meth c hC hK hW hr hlk
  refine vv_aload_n hC 0 dX7_copied_0 rfl rfl (q := 1) rfl ?_
  refine vv_get hC hK (K := RX7) (T := TX7) (N := 2) (ci := 7) inwX7_copied_X7 j (kl7 hk) (oc7 hk) rfl 0 (by decide) (List.mem_of_getElem? (i := 1) rfl) rfl (v := .ref (ad (j + 1))) rfl dX7_copied_1 (q := 4) rfl ?_
  exact vv_aret hC hK hr hlk rfl (fun _ h => h) dX7_copied_4
theorem inwX7_unmerged_X7 : ∀ w ∈ wsX70, w ∈ wsX7_unmerged := fun _ h => List.mem_cons_of_mem _ (List.mem_append_left _ (List.mem_append_left _ (List.mem_append_right _ h)))
theorem inwX7_unmerged_X0 : ∀ w ∈ wsX00, w ∈ wsX7_unmerged := fun _ h => List.mem_cons_of_mem _ (List.mem_append_left _ (List.mem_append_right _ h))
theorem inwX7_unmerged_X5 : ∀ w ∈ wsX50, w ∈ wsX7_unmerged := fun _ h => List.mem_cons_of_mem _ (List.mem_append_right _ h)
theorem hdX7_unmerged : yX7_unmerged.cls = RX7 ∧ yX7_unmerged.cls ≠ "java/lang/invoke/MethodHandle" ∧ yX7_unmerged.cls ≠ "java/lang/invoke/VarHandle" ∧ (parseMethodDescriptor yX7_unmerged.desc).map (fun d => d.parameters.length) = some 0 := by decide +kernel
set_option maxRecDepth 100000 in
set_option maxHeartbeats 4000000 in
theorem c7_unmerged (l : Launch) {D : va_G} {cI cW cZ cL : ClassId} {ad : Nat → Nat} (hJ : injA ad 90) (S : sC) (j : Nat) (hk : kd j = 7)  : kMi l yX7_unmerged wsX7_unmerged ({ frames := 2, cells := 0, slots := 0, locals := 40 }) D vwCl (tyL cI cW cZ cL) ad 90 [.ref (ad j)] (PC cI cW ad S) (nI (S.1 (j + 4)).length) (PC cI cW ad S) := by
  refine vv_enter (cc := cX7_unmerged) (maxL := 1) (ret := (some .int)) (own := RX7) (lv := [(0, .ref (ad j))]) (by decide +kernel) rfl rfl hJ (Nat.le_of_ble_eq_true rfl) rfl ?_
  intro p e s m args below meth c hC hK hW hr hlk
  refine vv_aload_n hC 0 dX7_unmerged_0 rfl rfl (q := 1) rfl ?_
  refine vv_get hC hK (K := RX7) (T := TX7) (N := 2) (ci := 7) inwX7_unmerged_X7 j (kl7 hk) (oc7 hk) rfl 1 (by decide) (List.mem_of_getElem? (i := 1) rfl) rfl (v := .ref (ad (j + 3))) rfl dX7_unmerged_1 (q := 4) rfl ?_
  refine vv_calli hC hK (fun _ h => h) (As := []) (j + 3) (kl0 (kd7 j (kl7 hk) hk).2.2.1) (or0 (kd7 j (kl7 hk) hk).2.2.1) rfl (c0_count l hJ S (j + 3) (kd7 j (kl7 hk) hk).2.2.1) (cwV 0 hC.2.2.2.2 gX7_unmerged_X0_count rfl rfl rfl hdX0_count ⟨Nat.le_of_ble_eq_true rfl, Nat.le_of_ble_eq_true rfl⟩) rfl rfl (Nat.le_of_ble_eq_true rfl) ⟨Nat.le_of_ble_eq_true rfl, Nat.le_of_ble_eq_true rfl⟩ dX7_unmerged_4 (q := 7) rfl ?_
  exact vv_iret hC hK hr hlk rfl (fun _ h => h) dX7_unmerged_7
theorem inwX7_putIn_X7 : ∀ w ∈ wsX70, w ∈ wsX7_putIn := fun _ h => List.mem_cons_of_mem _ (List.mem_append_left _ (List.mem_append_left _ (List.mem_append_right _ h)))
theorem inwX7_putIn_X5 : ∀ w ∈ wsX50, w ∈ wsX7_putIn := fun _ h => List.mem_cons_of_mem _ (List.mem_append_left _ (List.mem_append_right _ h))
theorem inwX7_putIn_X0 : ∀ w ∈ wsX00, w ∈ wsX7_putIn := fun _ h => List.mem_cons_of_mem _ (List.mem_append_right _ h)
theorem hdX7_putIn : yX7_putIn.cls = RX7 ∧ yX7_putIn.cls ≠ "java/lang/invoke/MethodHandle" ∧ yX7_putIn.cls ≠ "java/lang/invoke/VarHandle" ∧ (parseMethodDescriptor yX7_putIn.desc).map (fun d => d.parameters.length) = some 2 := by decide +kernel
set_option maxRecDepth 100000 in
set_option maxHeartbeats 4000000 in
theorem c7_putIn (l : Launch) {D : va_G} {cI cW cZ cL : ClassId} {ad : Nat → Nat} (hJ : injA ad 90) (S : sC) (j : Nat) (hk : kd j = 7) (i n : Int32) : kMv l yX7_putIn wsX7_putIn ({ frames := 4, cells := 0, slots := 0, locals := 104 }) D vwCl (tyL cI cW cZ cL) ad 90 [.ref (ad j), .int i, .int n] (PC cI cW ad S) (PC cI cW ad (sSet (sSet S (j + 1) (rIns (S.1 (j + 1)) (cap (j + 1)) i n)) (j + 4) (rAdd (S.1 (j + 4)) (cap (j + 4)) n))) := by
  refine vv_enter (cc := cX7_putIn) (maxL := 3) (ret := none) (own := RX7) (lv := [(0, .ref (ad j)), (1, .int i), (2, .int n)]) (by decide +kernel) rfl rfl hJ (Nat.le_of_ble_eq_true rfl) rfl ?_
  intro p e s m args below meth c hC hK hW hr hlk
  refine vv_aload_n hC 0 dX7_putIn_0 rfl rfl (q := 1) rfl ?_
  refine vv_get hC hK (K := RX7) (T := TX7) (N := 2) (ci := 7) inwX7_putIn_X7 j (kl7 hk) (oc7 hk) rfl 0 (by decide) (List.mem_of_getElem? (i := 1) rfl) rfl (v := .ref (ad (j + 1))) rfl dX7_putIn_1 (q := 4) rfl ?_
  refine vv_iload_n hC 1 dX7_putIn_4 rfl rfl (q := 5) rfl ?_
  refine vv_iload_n hC 2 dX7_putIn_5 rfl rfl (q := 6) rfl ?_
  refine vv_callv hC hK (fun _ h => h) (As := [.int i, .int n]) (j + 1) (kl5 (kd7 j (kl7 hk) hk).1) (or5 (kd7 j (kl7 hk) hk).1) rfl (c5_insert l hJ S (j + 1) (kd7 j (kl7 hk) hk).1 i n) (cwV 2 hC.2.2.2.2 gX7_putIn_X5_insert rfl rfl rfl hdX5_insert ⟨Nat.le_of_ble_eq_true rfl, Nat.le_of_ble_eq_true rfl⟩) rfl rfl (Nat.le_of_ble_eq_true rfl) ⟨Nat.le_of_ble_eq_true rfl, Nat.le_of_ble_eq_true rfl⟩ dX7_putIn_6 (q := 9) rfl ?_
  refine vv_aload_n hC 0 dX7_putIn_9 rfl rfl (q := 10) rfl ?_
  refine vv_get hC hK (K := RX7) (T := TX7) (N := 2) (ci := 7) inwX7_putIn_X7 j (kl7 hk) (oc7 hk) rfl 1 (by decide) (List.mem_of_getElem? (i := 2) rfl) rfl (v := .ref (ad (j + 3))) rfl dX7_putIn_10 (q := 13) rfl ?_
  refine vv_iload_n hC 2 dX7_putIn_13 rfl rfl (q := 14) rfl ?_
  refine vv_callv hC hK (fun _ h => h) (As := [.int n]) (j + 3) (kl0 (kd7 j (kl7 hk) hk).2.2.1) (or0 (kd7 j (kl7 hk) hk).2.2.1) rfl (c0_addTyped l hJ (sSet S (j + 1) (rIns (S.1 (j + 1)) (cap (j + 1)) i n)) (j + 3) (kd7 j (kl7 hk) hk).2.2.1 n) (cwV 1 hC.2.2.2.2 gX7_putIn_X0_addTyped rfl rfl rfl hdX0_addTyped ⟨Nat.le_of_ble_eq_true rfl, Nat.le_of_ble_eq_true rfl⟩) rfl rfl (Nat.le_of_ble_eq_true rfl) ⟨Nat.le_of_ble_eq_true rfl, Nat.le_of_ble_eq_true rfl⟩ dX7_putIn_14 (q := 17) rfl ?_
  exact vv_vret hC hK hr hlk (fun f h => by have h0 := h; rw [show j + 3 + 1 = j + 4 from rfl, sSet_o (show j + 4 ≠ j + 1 by omega)] at h0; exact h0) dX7_putIn_17
theorem inwX7_takeOut_X7 : ∀ w ∈ wsX70, w ∈ wsX7_takeOut := fun _ h => List.mem_cons_of_mem _ (List.mem_append_left _ (List.mem_append_left _ (List.mem_append_right _ h)))
theorem inwX7_takeOut_X5 : ∀ w ∈ wsX50, w ∈ wsX7_takeOut := fun _ h => List.mem_cons_of_mem _ (List.mem_append_left _ (List.mem_append_right _ h))
theorem inwX7_takeOut_X0 : ∀ w ∈ wsX00, w ∈ wsX7_takeOut := fun _ h => List.mem_cons_of_mem _ (List.mem_append_right _ h)
theorem hdX7_takeOut : yX7_takeOut.cls = RX7 ∧ yX7_takeOut.cls ≠ "java/lang/invoke/MethodHandle" ∧ yX7_takeOut.cls ≠ "java/lang/invoke/VarHandle" ∧ (parseMethodDescriptor yX7_takeOut.desc).map (fun d => d.parameters.length) = some 1 := by decide +kernel
set_option maxRecDepth 100000 in
set_option maxHeartbeats 4000000 in
theorem c7_takeOut (l : Launch) {D : va_G} {cI cW cZ cL : ClassId} {ad : Nat → Nat} (hJ : injA ad 90) (S : sC) (j : Nat) (hk : kd j = 7) (i : Int32) : kMi l yX7_takeOut wsX7_takeOut ({ frames := 4, cells := 0, slots := 0, locals := 104 }) D vwCl (tyL cI cW cZ cL) ad 90 [.ref (ad j), .int i] (PC cI cW ad S) (rAt (S.1 (j + 1)) i) (PC cI cW ad (sSet (sSet S (j + 1) (rRem (S.1 (j + 1)) i)) (j + 4) (rAdd (S.1 (j + 4)) (cap (j + 4)) (300 + rAt (S.1 (j + 1)) i)))) := by
  refine vv_enter (cc := cX7_takeOut) (maxL := 3) (ret := (some .int)) (own := RX7) (lv := [(0, .ref (ad j)), (1, .int i)]) (by decide +kernel) rfl rfl hJ (Nat.le_of_ble_eq_true rfl) rfl ?_
  intro p e s m args below meth c hC hK hW hr hlk
  refine vv_aload_n hC 0 dX7_takeOut_0 rfl rfl (q := 1) rfl ?_
  refine vv_get hC hK (K := RX7) (T := TX7) (N := 2) (ci := 7) inwX7_takeOut_X7 j (kl7 hk) (oc7 hk) rfl 0 (by decide) (List.mem_of_getElem? (i := 1) rfl) rfl (v := .ref (ad (j + 1))) rfl dX7_takeOut_1 (q := 4) rfl ?_
  refine vv_iload_n hC 1 dX7_takeOut_4 rfl rfl (q := 5) rfl ?_
  refine vv_calli hC hK (fun _ h => h) (As := [.int i]) (j + 1) (kl5 (kd7 j (kl7 hk) hk).1) (or5 (kd7 j (kl7 hk) hk).1) rfl (c5_remove l hJ S (j + 1) (kd7 j (kl7 hk) hk).1 i) (cwV 1 hC.2.2.2.2 gX7_takeOut_X5_remove rfl rfl rfl hdX5_remove ⟨Nat.le_of_ble_eq_true rfl, Nat.le_of_ble_eq_true rfl⟩) rfl rfl (Nat.le_of_ble_eq_true rfl) ⟨Nat.le_of_ble_eq_true rfl, Nat.le_of_ble_eq_true rfl⟩ dX7_takeOut_5 (q := 8) rfl ?_
  refine vv_istore_n hC (i := 2) (lv' := [(2, .int (rAt (S.1 (j + 1)) i)), (0, .ref (ad j)), (1, .int i)]) dX7_takeOut_8 rfl (by decide) rfl (q := 9) rfl ?_
  refine vv_aload_n hC 1 dX7_takeOut_9 rfl rfl (q := 10) rfl ?_
  refine vv_get hC hK (K := RX7) (T := TX7) (N := 2) (ci := 7) inwX7_takeOut_X7 j (kl7 hk) (oc7 hk) rfl 1 (by decide) (List.mem_of_getElem? (i := 2) rfl) rfl (v := .ref (ad (j + 3))) rfl dX7_takeOut_10 (q := 13) rfl ?_
  refine vv_iload_n hC 0 dX7_takeOut_13 rfl rfl (q := 14) rfl ?_
  refine vv_callv hC hK (fun _ h => h) (As := [.int (rAt (S.1 (j + 1)) i)]) (j + 3) (kl0 (kd7 j (kl7 hk) hk).2.2.1) (or0 (kd7 j (kl7 hk) hk).2.2.1) rfl (c0_addDeleted l hJ (sSet S (j + 1) (rRem (S.1 (j + 1)) i)) (j + 3) (kd7 j (kl7 hk) hk).2.2.1 (rAt (S.1 (j + 1)) i)) (cwV 1 hC.2.2.2.2 gX7_takeOut_X0_addDeleted rfl rfl rfl hdX0_addDeleted ⟨Nat.le_of_ble_eq_true rfl, Nat.le_of_ble_eq_true rfl⟩) rfl rfl (Nat.le_of_ble_eq_true rfl) ⟨Nat.le_of_ble_eq_true rfl, Nat.le_of_ble_eq_true rfl⟩ dX7_takeOut_14 (q := 17) rfl ?_
  refine vv_iload_n hC 0 dX7_takeOut_17 rfl rfl (q := 18) rfl ?_
  exact vv_iret hC hK hr hlk rfl (fun f h => by have h0 := h; rw [show j + 3 + 1 = j + 4 from rfl, sSet_o (show j + 4 ≠ j + 1 by omega)] at h0; exact h0) dX7_takeOut_18
theorem inwX7_mergeInto_X7 : ∀ w ∈ wsX70, w ∈ wsX7_mergeInto := fun _ h => List.mem_cons_of_mem _ (List.mem_append_left _ (List.mem_append_left _ (List.mem_append_left _ (List.mem_append_left _ (List.mem_append_right _ h)))))
theorem inwX7_mergeInto_X0 : ∀ w ∈ wsX00, w ∈ wsX7_mergeInto := fun _ h => List.mem_cons_of_mem _ (List.mem_append_left _ (List.mem_append_left _ (List.mem_append_left _ (List.mem_append_right _ h))))
theorem inwX7_mergeInto_X5 : ∀ w ∈ wsX50, w ∈ wsX7_mergeInto := fun _ h => List.mem_cons_of_mem _ (List.mem_append_left _ (List.mem_append_left _ (List.mem_append_right _ h)))
theorem inwX7_mergeInto_X2 : ∀ w ∈ wsX20, w ∈ wsX7_mergeInto := fun _ h => List.mem_cons_of_mem _ (List.mem_append_left _ (List.mem_append_right _ h))
theorem inwX7_mergeInto_X6 : ∀ w ∈ wsX60, w ∈ wsX7_mergeInto := fun _ h => List.mem_cons_of_mem _ (List.mem_append_right _ h)
theorem hdX7_mergeInto : yX7_mergeInto.cls = RX7 ∧ yX7_mergeInto.cls ≠ "java/lang/invoke/MethodHandle" ∧ yX7_mergeInto.cls ≠ "java/lang/invoke/VarHandle" ∧ (parseMethodDescriptor yX7_mergeInto.desc).map (fun d => d.parameters.length) = some 1 := by decide +kernel
set_option maxRecDepth 100000 in
set_option maxHeartbeats 4000000 in
theorem c7_mergeInto (l : Launch) {D : va_G} {cI cW cZ cL : ClassId} {ad : Nat → Nat} (hJ : injA ad 90) (S : sC) (j : Nat) (hk : kd j = 7)  : kMi l yX7_mergeInto wsX7_mergeInto ({ frames := 5, cells := 0, slots := 0, locals := 127 }) D vwCl (tyL cI cW cZ cL) ad 90 [.ref (ad j), .ref (ad 1)] (PC cI cW ad S) (nI (mrg S j).1) (PC cI cW ad (mrgEnd (mrg S j).2 j)) := by
  refine vv_enter (cc := cX7_mergeInto) (maxL := 6) (ret := (some .int)) (own := RX7) (lv := [(0, .ref (ad j)), (1, .ref (ad 1))]) (by decide +kernel) rfl rfl hJ (Nat.le_of_ble_eq_true rfl) rfl ?_
  intro p e s m args below meth c hC hK hW hr hlk
  have hj23 := kd7ge j (kl7 hk) hk
  refine vv_iconst hC (v := 0) dX7_mergeInto_0 rfl (q := 1) rfl ?_
  refine vv_istore_n hC (i := 2) (lv' := [(2, .int 0), (0, .ref (ad j)), (1, .ref (ad 1))]) dX7_mergeInto_1 rfl (by decide) rfl (q := 2) rfl ?_
  refine vv_iconst hC (v := 0) dX7_mergeInto_2 rfl (q := 3) rfl ?_
  refine vv_istore_n hC (i := 3) (lv' := [(3, .int 0), (2, .int 0), (0, .ref (ad j)), (1, .ref (ad 1))]) dX7_mergeInto_3 rfl (by decide) rfl (q := 4) rfl ?_
  have loop4 : ∀ (fu : Nat) (n : Nat) (k : Nat) (T : sC), (T.1 (j + 4)).length < n + fu → n ≤ (T.1 (j + 4)).length → mrgF (j + 4) fu n k T = mrg S j → vv p l e (headSpec wsX7_mergeInto ({ frames := 5, cells := 0, slots := 0, locals := 127 })).room s m args below meth c 6 (RA ad 90) s.heap 0 0 (MQ below (va_Qi (fun r' (_ : Unit) => r' = (nI (mrg S j).1)) (fun _ => ws0 D vwCl (tyL cI cW cZ cL) ad 90 (PC cI cW ad (mrgEnd (mrg S j).2 j))) (RA ad 90)) args s 0 0 (RA ad 90)) (wq D vwCl ad 90 (PC cI cW ad T)) 4 [(0, .ref (ad j)), (1, .ref (ad 1)), (2, .int (nI k)), (3, .int (nI n))] [] := by
    intro fu
    induction fu with
    | zero =>
      intro n k T hfu hn hres
      exact absurd hfu (by omega)
    | succ fu ih =>
      intro n k T hfu hn hres
      refine vv_pure (P := wfC T) (fun H hB => by obtain ⟨f, hf, -⟩ := hB; exact oc_wf f hf) (fun hwf => ?_)
      have hw := hwf (j + 4) (kd7 j (kl7 hk) hk).2.2.2
      have hc := cap_le (j + 4)
      refine vv_iload_n hC 3 dX7_mergeInto_4 rfl rfl (q := 5) rfl ?_
      refine vv_aload_n hC 0 dX7_mergeInto_5 rfl rfl (q := 6) rfl ?_
      refine vv_get hC hK (K := RX7) (T := TX7) (N := 2) (ci := 7) inwX7_mergeInto_X7 j (kl7 hk) (oc7 hk) rfl 1 (by decide) (List.mem_of_getElem? (i := 1) rfl) rfl (v := .ref (ad (j + 3))) rfl dX7_mergeInto_6 (q := 9) rfl ?_
      refine vv_calli hC hK (fun _ h => h) (As := []) (j + 3) (kl0 (kd7 j (kl7 hk) hk).2.2.1) (or0 (kd7 j (kl7 hk) hk).2.2.1) rfl (c0_count l hJ T (j + 3) (kd7 j (kl7 hk) hk).2.2.1) (cwV 0 hC.2.2.2.2 gX7_mergeInto_X0_count rfl rfl rfl hdX0_count ⟨Nat.le_of_ble_eq_true rfl, Nat.le_of_ble_eq_true rfl⟩) rfl rfl (Nat.le_of_ble_eq_true rfl) ⟨Nat.le_of_ble_eq_true rfl, Nat.le_of_ble_eq_true rfl⟩ dX7_mergeInto_9 (q := 12) rfl ?_
      refine vv_icmp_ge hC (tgt := 67) dX7_mergeInto_12 (by decide) (q := 15) rfl (fun h12 => ?_) (fun h12 => ?_)
      · skip
        refine vv_aload_n hC 0 dX7_mergeInto_67 rfl rfl (q := 68) rfl ?_
        refine vv_get hC hK (K := RX7) (T := TX7) (N := 2) (ci := 7) inwX7_mergeInto_X7 j (kl7 hk) (oc7 hk) rfl 1 (by decide) (List.mem_of_getElem? (i := 1) rfl) rfl (v := .ref (ad (j + 3))) rfl dX7_mergeInto_68 (q := 71) rfl ?_
        refine vv_callv hC hK (fun _ h => h) (As := []) (j + 3) (kl0 (kd7 j (kl7 hk) hk).2.2.1) (or0 (kd7 j (kl7 hk) hk).2.2.1) rfl (c0_clear l hJ T (j + 3) (kd7 j (kl7 hk) hk).2.2.1) (cwV 0 hC.2.2.2.2 gX7_mergeInto_X0_clear rfl rfl rfl hdX0_clear ⟨Nat.le_of_ble_eq_true rfl, Nat.le_of_ble_eq_true rfl⟩) rfl rfl (Nat.le_of_ble_eq_true rfl) ⟨Nat.le_of_ble_eq_true rfl, Nat.le_of_ble_eq_true rfl⟩ dX7_mergeInto_71 (q := 74) rfl ?_
        refine vv_aload_n hC 1 dX7_mergeInto_74 rfl rfl (q := 75) rfl ?_
        refine vv_callv hC hK (fun _ h => h) (As := []) 1 (kl2 (by decide +kernel)) (or2 (by decide +kernel)) rfl (c2_renewText l hJ (sSet T (j + 4) [])) (cwV 0 hC.2.2.2.2 gX7_mergeInto_X2_renewText rfl rfl rfl hdX2_renewText ⟨Nat.le_of_ble_eq_true rfl, Nat.le_of_ble_eq_true rfl⟩) rfl rfl (Nat.le_of_ble_eq_true rfl) ⟨Nat.le_of_ble_eq_true rfl, Nat.le_of_ble_eq_true rfl⟩ dX7_mergeInto_75 (q := 78) rfl ?_
        refine vv_aload_n hC 0 dX7_mergeInto_78 rfl rfl (q := 79) rfl ?_
        refine vv_get hC hK (K := RX7) (T := TX7) (N := 2) (ci := 7) inwX7_mergeInto_X7 j (kl7 hk) (oc7 hk) rfl 0 (by decide) (List.mem_of_getElem? (i := 2) rfl) rfl (v := .ref (ad (j + 1))) rfl dX7_mergeInto_79 (q := 82) rfl ?_
        refine vv_aload_n hC 1 dX7_mergeInto_82 rfl rfl (q := 83) rfl ?_
        refine vv_callr hC hK (fun _ h => h) (As := []) 1 (kl2 (by decide +kernel)) (or2 (by decide +kernel)) rfl (c2_text l hJ (renew (sSet T (j + 4) []))) (cwV 0 hC.2.2.2.2 gX7_mergeInto_X2_text rfl rfl rfl hdX2_text ⟨Nat.le_of_ble_eq_true rfl, Nat.le_of_ble_eq_true rfl⟩) rfl rfl (Nat.le_of_ble_eq_true rfl) ⟨Nat.le_of_ble_eq_true rfl, Nat.le_of_ble_eq_true rfl⟩ dX7_mergeInto_83 (q := 86) rfl ?_
        refine vv_callv hC hK (fun _ h => h) (As := [.ref (ad 17)]) (j + 1) (kl5 (kd7 j (kl7 hk) hk).1) (or5 (kd7 j (kl7 hk) hk).1) rfl (c5_become l hJ (renew (sSet T (j + 4) [])) (j + 1) (kd7 j (kl7 hk) hk).1 17 (by decide +kernel) (fun e => by omega) (by rw [(kd7 j (kl7 hk) hk).2.1]; decide +kernel)) (cwV 1 hC.2.2.2.2 gX7_mergeInto_X5_become rfl rfl rfl hdX5_become ⟨Nat.le_of_ble_eq_true rfl, Nat.le_of_ble_eq_true rfl⟩) rfl rfl (Nat.le_of_ble_eq_true rfl) ⟨Nat.le_of_ble_eq_true rfl, Nat.le_of_ble_eq_true rfl⟩ dX7_mergeInto_86 (q := 89) rfl ?_
        refine vv_iload_n hC 2 dX7_mergeInto_89 rfl rfl (q := 90) rfl ?_
        exact vv_iret hC hK hr hlk (by rw [← hres, mrgF, if_neg (by have h0 : nI (T.1 (j + 4)).length ≤ nI n := h12; rw [nI_leI (by omega) (by omega)] at h0; omega)]) (fun f h => by rw [← hres, mrgF, if_neg (by have h0 : nI (T.1 (j + 4)).length ≤ nI n := h12; rw [nI_leI (by omega) (by omega)] at h0; omega)]; exact h) dX7_mergeInto_90
      · skip
        refine vv_aload_n hC 0 dX7_mergeInto_15 rfl rfl (q := 16) rfl ?_
        refine vv_get hC hK (K := RX7) (T := TX7) (N := 2) (ci := 7) inwX7_mergeInto_X7 j (kl7 hk) (oc7 hk) rfl 1 (by decide) (List.mem_of_getElem? (i := 1) rfl) rfl (v := .ref (ad (j + 3))) rfl dX7_mergeInto_16 (q := 19) rfl ?_
        refine vv_iload_n hC 3 dX7_mergeInto_19 rfl rfl (q := 20) rfl ?_
        refine vv_calli hC hK (fun _ h => h) (As := [.int (nI n)]) (j + 3) (kl0 (kd7 j (kl7 hk) hk).2.2.1) (or0 (kd7 j (kl7 hk) hk).2.2.1) rfl (c0_numberAt l hJ T (j + 3) (kd7 j (kl7 hk) hk).2.2.1 (nI n)) (cwV 1 hC.2.2.2.2 gX7_mergeInto_X0_numberAt rfl rfl rfl hdX0_numberAt ⟨Nat.le_of_ble_eq_true rfl, Nat.le_of_ble_eq_true rfl⟩) rfl rfl (Nat.le_of_ble_eq_true rfl) ⟨Nat.le_of_ble_eq_true rfl, Nat.le_of_ble_eq_true rfl⟩ dX7_mergeInto_20 (q := 23) rfl ?_
        refine vv_istore hC (i := 4) (lv' := [(4, .int (cNum (T.1 (j + 4)) (nI n))), (0, .ref (ad j)), (1, .ref (ad 1)), (2, .int (nI k)), (3, .int (nI n))]) dX7_mergeInto_23 (by decide) rfl (q := 25) rfl ?_
        refine vv_aload_n hC 1 dX7_mergeInto_25 rfl rfl (q := 26) rfl ?_
        refine vv_get hC hK (K := RX7) (T := TX7) (N := 2) (ci := 7) inwX7_mergeInto_X7 j (kl7 hk) (oc7 hk) rfl 1 (by decide) (List.mem_of_getElem? (i := 1) rfl) rfl (v := .ref (ad (j + 3))) rfl dX7_mergeInto_26 (q := 29) rfl ?_
        refine vv_iload_n hC 4 dX7_mergeInto_29 rfl rfl (q := 30) rfl ?_
        refine vv_calli hC hK (fun _ h => h) (As := [.int (nI n)]) (j + 3) (kl0 (kd7 j (kl7 hk) hk).2.2.1) (or0 (kd7 j (kl7 hk) hk).2.2.1) rfl (c0_isTyped l hJ T (j + 3) (kd7 j (kl7 hk) hk).2.2.1 (nI n)) (cwV 1 hC.2.2.2.2 gX7_mergeInto_X0_isTyped rfl rfl rfl hdX0_isTyped ⟨Nat.le_of_ble_eq_true rfl, Nat.le_of_ble_eq_true rfl⟩) rfl rfl (Nat.le_of_ble_eq_true rfl) ⟨Nat.le_of_ble_eq_true rfl, Nat.le_of_ble_eq_true rfl⟩ dX7_mergeInto_30 (q := 33) rfl ?_
        refine vv_if_eq hC (tgt := 45) dX7_mergeInto_33 (by decide) (q := 36) rfl (fun h33 => ?_) (fun h33 => ?_)
        · skip
          refine vv_aload_n hC 2 dX7_mergeInto_45 rfl rfl (q := 46) rfl ?_
          refine vv_iload hC 0 dX7_mergeInto_46 rfl (q := 48) rfl ?_
          refine vv_calli hC hK (fun _ h => h) (As := [.int (cNum (T.1 (j + 4)) (nI n))]) 1 (kl2 (by decide +kernel)) (or2 (by decide +kernel)) rfl (c2_takeOut l hJ T (cNum (T.1 (j + 4)) (nI n))) (cwV 1 hC.2.2.2.2 gX7_mergeInto_X2_takeOut rfl rfl rfl hdX2_takeOut ⟨Nat.le_of_ble_eq_true rfl, Nat.le_of_ble_eq_true rfl⟩) rfl rfl (Nat.le_of_ble_eq_true rfl) ⟨Nat.le_of_ble_eq_true rfl, Nat.le_of_ble_eq_true rfl⟩ dX7_mergeInto_48 (q := 51) rfl ?_
          refine vv_istore hC (i := 5) (lv' := [(5, .int (bI (takeOut T (cNum (T.1 (j + 4)) (nI n))).1)), (4, .int (cNum (T.1 (j + 4)) (nI n))), (0, .ref (ad j)), (1, .ref (ad 1)), (2, .int (nI k)), (3, .int (nI n))]) dX7_mergeInto_51 (by decide) rfl (q := 53) rfl ?_
          refine vv_iload hC 0 dX7_mergeInto_53 rfl (q := 55) rfl ?_
          refine vv_if_ne hC (tgt := 61) dX7_mergeInto_55 (by decide) (q := 58) rfl (fun h55 => ?_) (fun h55 => ?_)
          · skip
            refine vv_iinc hC (i := 3) (v := nI (n + 1)) (lv' := [(3, .int (nI (n + 1))), (5, .int (bI (takeOut T (cNum (T.1 (j + 4)) (nI n))).1)), (4, .int (cNum (T.1 (j + 4)) (nI n))), (0, .ref (ad j)), (1, .ref (ad 1)), (2, .int (nI k))]) 5 dX7_mergeInto_61 rfl (nI_1 n) (by decide) rfl (q := 64) rfl ?_
            refine vv_goto hC (tgt := 4) dX7_mergeInto_64 (by decide) ?_
            exact vv_lv [3, 4, 5, 0] rfl (ih (n + 1) k (takeOut T (cNum (T.1 (j + 4)) (nI n))).2 (by rw [takeOut_o (by omega)]; omega) (by rw [takeOut_o (by omega)]; exact (by have h0 : ¬ nI (T.1 (j + 4)).length ≤ nI n := h12; rw [nI_leI (by omega) (by omega)] at h0; omega)) (by rw [← hres, mrgF, if_pos (by have h0 : ¬ nI (T.1 (j + 4)).length ≤ nI n := h12; rw [nI_leI (by omega) (by omega)] at h0; omega), show cTyped (T.1 (j + 4)) (nI n) = false from bI_0.mp h33, if_neg Bool.false_ne_true, if_pos (show (takeOut T (cNum (T.1 (j + 4)) (nI n))).1 = true from bI_1 h55)]))
          · skip
            refine vv_iinc hC (i := 2) (v := nI (k + 1)) (lv' := [(2, .int (nI (k + 1))), (5, .int (bI (takeOut T (cNum (T.1 (j + 4)) (nI n))).1)), (4, .int (cNum (T.1 (j + 4)) (nI n))), (0, .ref (ad j)), (1, .ref (ad 1)), (3, .int (nI n))]) 4 dX7_mergeInto_58 rfl (nI_1 k) (by decide) rfl (q := 61) rfl ?_
            refine vv_iinc hC (i := 3) (v := nI (n + 1)) (lv' := [(3, .int (nI (n + 1))), (2, .int (nI (k + 1))), (5, .int (bI (takeOut T (cNum (T.1 (j + 4)) (nI n))).1)), (4, .int (cNum (T.1 (j + 4)) (nI n))), (0, .ref (ad j)), (1, .ref (ad 1))]) 5 dX7_mergeInto_61 rfl (nI_1 n) (by decide) rfl (q := 64) rfl ?_
            refine vv_goto hC (tgt := 4) dX7_mergeInto_64 (by decide) ?_
            exact vv_lv [4, 5, 1, 0] rfl (ih (n + 1) (k + 1) (takeOut T (cNum (T.1 (j + 4)) (nI n))).2 (by rw [takeOut_o (by omega)]; omega) (by rw [takeOut_o (by omega)]; exact (by have h0 : ¬ nI (T.1 (j + 4)).length ≤ nI n := h12; rw [nI_leI (by omega) (by omega)] at h0; omega)) (by rw [← hres, mrgF, if_pos (by have h0 : ¬ nI (T.1 (j + 4)).length ≤ nI n := h12; rw [nI_leI (by omega) (by omega)] at h0; omega), show cTyped (T.1 (j + 4)) (nI n) = false from bI_0.mp h33, if_neg Bool.false_ne_true, show (takeOut T (cNum (T.1 (j + 4)) (nI n))).1 = false from bI_0.mp h55, if_neg Bool.false_ne_true]))
        · skip
          refine vv_aload_n hC 2 dX7_mergeInto_36 rfl rfl (q := 37) rfl ?_
          refine vv_iload hC 0 dX7_mergeInto_37 rfl (q := 39) rfl ?_
          refine vv_calli hC hK (fun _ h => h) (As := [.int (cNum (T.1 (j + 4)) (nI n))]) 1 (kl2 (by decide +kernel)) (or2 (by decide +kernel)) rfl (c2_putIn l hJ T (cNum (T.1 (j + 4)) (nI n))) (cwV 1 hC.2.2.2.2 gX7_mergeInto_X2_putIn rfl rfl rfl hdX2_putIn ⟨Nat.le_of_ble_eq_true rfl, Nat.le_of_ble_eq_true rfl⟩) rfl rfl (Nat.le_of_ble_eq_true rfl) ⟨Nat.le_of_ble_eq_true rfl, Nat.le_of_ble_eq_true rfl⟩ dX7_mergeInto_39 (q := 42) rfl ?_
          refine vv_goto hC (tgt := 51) dX7_mergeInto_42 (by decide) ?_
          refine vv_istore hC (i := 5) (lv' := [(5, .int (bI (putIn T (cNum (T.1 (j + 4)) (nI n))).1)), (4, .int (cNum (T.1 (j + 4)) (nI n))), (0, .ref (ad j)), (1, .ref (ad 1)), (2, .int (nI k)), (3, .int (nI n))]) dX7_mergeInto_51 (by decide) rfl (q := 53) rfl ?_
          refine vv_iload hC 0 dX7_mergeInto_53 rfl (q := 55) rfl ?_
          refine vv_if_ne hC (tgt := 61) dX7_mergeInto_55 (by decide) (q := 58) rfl (fun h55 => ?_) (fun h55 => ?_)
          · skip
            refine vv_iinc hC (i := 3) (v := nI (n + 1)) (lv' := [(3, .int (nI (n + 1))), (5, .int (bI (putIn T (cNum (T.1 (j + 4)) (nI n))).1)), (4, .int (cNum (T.1 (j + 4)) (nI n))), (0, .ref (ad j)), (1, .ref (ad 1)), (2, .int (nI k))]) 5 dX7_mergeInto_61 rfl (nI_1 n) (by decide) rfl (q := 64) rfl ?_
            refine vv_goto hC (tgt := 4) dX7_mergeInto_64 (by decide) ?_
            exact vv_lv [3, 4, 5, 0] rfl (ih (n + 1) k (putIn T (cNum (T.1 (j + 4)) (nI n))).2 (by rw [putIn_o (by omega)]; omega) (by rw [putIn_o (by omega)]; exact (by have h0 : ¬ nI (T.1 (j + 4)).length ≤ nI n := h12; rw [nI_leI (by omega) (by omega)] at h0; omega)) (by rw [← hres, mrgF, if_pos (by have h0 : ¬ nI (T.1 (j + 4)).length ≤ nI n := h12; rw [nI_leI (by omega) (by omega)] at h0; omega), if_pos (show cTyped (T.1 (j + 4)) (nI n) = true from bI_1 h33), if_pos (show (putIn T (cNum (T.1 (j + 4)) (nI n))).1 = true from bI_1 h55)]))
          · skip
            refine vv_iinc hC (i := 2) (v := nI (k + 1)) (lv' := [(2, .int (nI (k + 1))), (5, .int (bI (putIn T (cNum (T.1 (j + 4)) (nI n))).1)), (4, .int (cNum (T.1 (j + 4)) (nI n))), (0, .ref (ad j)), (1, .ref (ad 1)), (3, .int (nI n))]) 4 dX7_mergeInto_58 rfl (nI_1 k) (by decide) rfl (q := 61) rfl ?_
            refine vv_iinc hC (i := 3) (v := nI (n + 1)) (lv' := [(3, .int (nI (n + 1))), (2, .int (nI (k + 1))), (5, .int (bI (putIn T (cNum (T.1 (j + 4)) (nI n))).1)), (4, .int (cNum (T.1 (j + 4)) (nI n))), (0, .ref (ad j)), (1, .ref (ad 1))]) 5 dX7_mergeInto_61 rfl (nI_1 n) (by decide) rfl (q := 64) rfl ?_
            refine vv_goto hC (tgt := 4) dX7_mergeInto_64 (by decide) ?_
            exact vv_lv [4, 5, 1, 0] rfl (ih (n + 1) (k + 1) (putIn T (cNum (T.1 (j + 4)) (nI n))).2 (by rw [putIn_o (by omega)]; omega) (by rw [putIn_o (by omega)]; exact (by have h0 : ¬ nI (T.1 (j + 4)).length ≤ nI n := h12; rw [nI_leI (by omega) (by omega)] at h0; omega)) (by rw [← hres, mrgF, if_pos (by have h0 : ¬ nI (T.1 (j + 4)).length ≤ nI n := h12; rw [nI_leI (by omega) (by omega)] at h0; omega), if_pos (show cTyped (T.1 (j + 4)) (nI n) = true from bI_1 h33), show (putIn T (cNum (T.1 (j + 4)) (nI n))).1 = false from bI_0.mp h55, if_neg Bool.false_ne_true]))
  exact vv_lv [2, 3, 1, 0] rfl (loop4 _ 0 0 S (by omega) (Nat.zero_le _) rfl)
