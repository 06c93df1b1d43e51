/-! the reference: copies, the row -/
theorem inwX9_addChange_X9 : ∀ w ∈ wsX90, w ∈ wsX9_addChange := fun _ h => List.mem_cons_of_mem _ (List.mem_append_right _ h)
theorem hdX9_addChange : yX9_addChange.cls = RX9 ∧ yX9_addChange.cls ≠ "java/lang/invoke/MethodHandle" ∧ yX9_addChange.cls ≠ "java/lang/invoke/VarHandle" ∧ (parseMethodDescriptor yX9_addChange.desc).map (fun d => d.parameters.length) = some 2 := by decide +kernel
set_option maxRecDepth 100000 in
set_option maxHeartbeats 4000000 in
theorem c9_addChange (l : Launch) {D : va_G} {cI cW cZ cL : ClassId} {ad : Nat → Nat} (hJ : injA ad 27) (S : sM) (w : Nat) (x : Int32) (hw : w < 6) (hc : S.2 10 w = nI (tn (S.2 10 w)) ∧ tn (S.2 10 w) < 700)  : kMv l yX9_addChange wsX9_addChange ({ frames := 0, cells := 0, slots := 0, locals := 0 }) D vwCl (tyL cI cW cZ cL) ad 27 [.ref (ad 0), .int (nI w), .int x] (PM cI cZ ad S) (PM cI cZ ad (mChg S w x)) := by
  refine vv_enter (cc := cX9_addChange) (maxL := 3) (ret := none) (own := RX9) (lv := [(0, .ref (ad 0)), (1, .int (nI w)), (2, .int x)]) (by decide +kernel) rfl rfl hJ (Nat.le_of_ble_eq_true rfl) rfl ?_
  intro p e s m args below meth c hC hK hW hr hlk
  refine vv_aload_n hC 0 dX9_addChange_0 rfl rfl (q := 1) rfl ?_
  refine vv_get hC hK (K := RX9) (T := TX9) (N := 35) (ci := 9) inwX9_addChange_X9 0 (by decide) (fs := fldM ad S) om0 rfl 13 (by decide) (List.mem_of_getElem? (i := 1) rfl) rfl (v := .ref (ad 11)) rfl dX9_addChange_1 (q := 4) rfl ?_
  refine vv_sipush hC (v := nI 700) dX9_addChange_4 rfl (q := 7) rfl ?_
  refine vv_iload_n hC 1 dX9_addChange_7 rfl rfl (q := 8) rfl ?_
  refine vv_imulN hC dX9_addChange_8 (q := 9) rfl ?_
  refine vv_aload_n hC 0 dX9_addChange_9 rfl rfl (q := 10) rfl ?_
  refine vv_get hC hK (K := RX9) (T := TX9) (N := 35) (ci := 9) inwX9_addChange_X9 0 (by decide) (fs := fldM ad S) om0 rfl 12 (by decide) (List.mem_of_getElem? (i := 2) rfl) rfl (v := .ref (ad 10)) rfl dX9_addChange_10 (q := 13) rfl ?_
  refine vv_iload_n hC 1 dX9_addChange_13 rfl rfl (q := 14) rfl ?_
  refine vv_ialdN (P := PM cI cZ ad S) hC hK 10 (by decide) 0 (g := S.2 10) (omI (by decide) rfl) rfl (show w < 6 from (by omega)) (by decide) dX9_addChange_14 (q := 15) rfl ?_
  refine vv_eqv (st' := [.int (nI (tn (S.2 10 w))), .int (nI (700 * w)), .ref (ad 11)]) (by rw [← hc.1]) ?_
  refine vv_iaddN hC dX9_addChange_15 (q := 16) rfl ?_
  refine vv_iload_n hC 2 dX9_addChange_16 rfl rfl (q := 17) rfl ?_
  refine vv_iastN (P := PM cI cZ ad S) hC hK hW (P1 := PM cI cZ ad (sA S 11 (upd (S.2 11) ((700 * w) + (tn (S.2 10 w))) x))) 11 (by decide) 0 (g := S.2 11) (omI (by decide) rfl) rfl (show (700 * w) + (tn (S.2 10 w)) < 4200 from (by omega)) (by decide) (om_aI (j := 11) (by decide) rfl _) dX9_addChange_17 (q := 18) rfl ?_
  refine vv_aload_n hC 0 dX9_addChange_18 rfl rfl (q := 19) rfl ?_
  refine vv_get hC hK (K := RX9) (T := TX9) (N := 35) (ci := 9) inwX9_addChange_X9 0 (by decide) (fs := fldM ad (sA S 11 (upd (S.2 11) ((700 * w) + (tn (S.2 10 w))) x))) om0 rfl 12 (by decide) (List.mem_of_getElem? (i := 2) rfl) rfl (v := .ref (ad 10)) rfl dX9_addChange_19 (q := 22) rfl ?_
  refine vv_iload_n hC 1 dX9_addChange_22 rfl rfl (q := 23) rfl ?_
  refine vv_dup2 hC dX9_addChange_23 rfl rfl (q := 24) rfl ?_
  refine vv_ialdN (P := PM cI cZ ad (sA S 11 (upd (S.2 11) ((700 * w) + (tn (S.2 10 w))) x))) hC hK 10 (by decide) 0 (g := S.2 10) (omI (by decide) rfl) rfl (show w < 6 from (by omega)) (by decide) dX9_addChange_24 (q := 25) rfl ?_
  refine vv_eqv (st' := [.int (nI (tn (S.2 10 w))), .int (nI w), .ref (ad 10)]) (by rw [← hc.1]) ?_
  refine vv_iconst hC (v := nI 1) dX9_addChange_25 rfl (q := 26) rfl ?_
  refine vv_iaddN hC dX9_addChange_26 (q := 27) rfl ?_
  refine vv_iastN (P := PM cI cZ ad (sA S 11 (upd (S.2 11) ((700 * w) + (tn (S.2 10 w))) x))) hC hK hW (P1 := PM cI cZ ad (sA (sA S 11 (upd (S.2 11) ((700 * w) + (tn (S.2 10 w))) x)) 10 (upd (S.2 10) w (nI ((tn (S.2 10 w)) + 1))))) 10 (by decide) 0 (g := S.2 10) (omI (by decide) rfl) rfl (show w < 6 from (by omega)) (by decide) (om_aI (j := 10) (by decide) rfl _) dX9_addChange_27 (q := 28) rfl ?_
  exact vv_vret hC hK hr hlk (fun _ h => h) dX9_addChange_28
theorem inwX9_type_X9 : ∀ w ∈ wsX90, w ∈ wsX9_type := fun _ h => List.mem_cons_of_mem _ (List.mem_append_right _ h)
theorem hdX9_type : yX9_type.cls = RX9 ∧ yX9_type.cls ≠ "java/lang/invoke/MethodHandle" ∧ yX9_type.cls ≠ "java/lang/invoke/VarHandle" ∧ (parseMethodDescriptor yX9_type.desc).map (fun d => d.parameters.length) = some 3 := by decide +kernel
set_option maxRecDepth 100000 in
set_option maxHeartbeats 4000000 in
theorem c9_type (l : Launch) {D : va_G} {cI cW cZ cL : ClassId} {ad : Nat → Nat} (hJ : injA ad 27) (S : sM) (w pp x : Int32) (hI : IM S)  : kMi l yX9_type wsX9_type ({ frames := 2, cells := 0, slots := 0, locals := 42 }) D vwCl (tyL cI cW cZ cL) ad 27 [.ref (ad 0), .int w, .int pp, .int x] (PM cI cZ ad S) (if mtType S w pp x = 0 then nI (S.1 1) else 0) (PM cI cZ ad (if mtType S w pp x = 0 then msType S (tn w) (tn pp) x else sS S 0 (mtType S w pp x))) := by
  refine vv_enter (cc := cX9_type) (maxL := 6) (ret := (some .int)) (own := RX9) (lv := [(0, .ref (ad 0)), (1, .int w), (2, .int pp), (3, .int x)]) (by decide +kernel) rfl rfl hJ (Nat.le_of_ble_eq_true rfl) rfl ?_
  intro p e s m args below meth c hC hK hW hr hlk
  obtain ⟨iW, iR, iV, iI, iC, iK, iD, irow, ianc, iwr, icl, icc, irv⟩ := id hI
  refine vv_iload_n hC 1 dX9_type_0 rfl rfl (q := 1) rfl ?_
  refine vv_callsi hC hK (fun _ h => h) (As := [.int w]) (c9_isWriter l hJ S w) (va_cwS 1 hC.2.2.2.2 gX9_type_X9_isWriter rfl rfl rfl hsX9_isWriter ⟨Nat.le_of_ble_eq_true rfl, Nat.le_of_ble_eq_true rfl⟩) rfl rfl (Nat.le_of_ble_eq_true rfl) ⟨Nat.le_of_ble_eq_true rfl, Nat.le_of_ble_eq_true rfl⟩ dX9_type_1 (q := 4) rfl ?_
  refine vv_if_eq hC (tgt := 36) dX9_type_4 (by decide) (q := 7) rfl (fun h4 => ?_) (fun h4 => ?_)
  · skip
    refine vv_iconst hC (v := nI 0) dX9_type_36 rfl (q := 37) rfl ?_
    refine vv_istore hC (i := 4) (lv' := [(4, .int (nI 0)), (0, .ref (ad 0)), (1, .int w), (2, .int pp), (3, .int x)]) dX9_type_37 (by decide) rfl (q := 39) rfl ?_
    refine vv_aload_n hC 1 dX9_type_39 rfl rfl (q := 40) rfl ?_
    refine vv_iload hC 0 dX9_type_40 rfl (q := 42) rfl ?_
    refine vv_if_ne hC (tgt := 49) dX9_type_42 (by decide) (q := 45) rfl (fun h => absurd h (by decide)) (fun _ => ?_)
    refine vv_iconst hC (v := nI 1) dX9_type_45 rfl (q := 46) rfl ?_
    refine vv_goto hC (tgt := 79) dX9_type_46 (by decide) ?_
    refine vv_calli hC hK (fun _ h => h) (As := [.int (nI 1)]) 0 (by decide) or9 rfl (c9_goesWell l hJ S 1 (by decide)) (cwV 1 hC.2.2.2.2 gX9_type_X9_goesWell rfl rfl rfl hdX9_goesWell ⟨Nat.le_of_ble_eq_true rfl, Nat.le_of_ble_eq_true rfl⟩) rfl rfl (Nat.le_of_ble_eq_true rfl) ⟨Nat.le_of_ble_eq_true rfl, Nat.le_of_ble_eq_true rfl⟩ dX9_type_79 (q := 82) rfl ?_
    refine vv_eqv (st' := [.int (nI 0)]) rfl ?_
    refine vv_if_ne hC (tgt := 87) dX9_type_82 (by decide) (q := 85) rfl (fun h => absurd h (by decide)) (fun _ => ?_)
    refine vv_iconst hC (v := nI 0) dX9_type_85 rfl (q := 86) rfl ?_
    have hT : mtType S w pp x = 1 := by simp only [mtType, bI_0.mp h4, Bool.false_eq_true, true_and, and_true, false_and, and_false, and_self, not_true, not_false_iff, if_true, if_false, reduceIte]
    exact vv_iret hC hK hr hlk (by rw [if_neg (by rw [hT]; decide)]; rfl) (fun f h => by rw [if_neg (by rw [hT]; decide)]; rw [hT]; exact h) dX9_type_86
  · skip
    obtain ⟨hwn, hw5⟩ := inB_n (b := 5) (by decide) (bI_1 h4)
    refine vv_eql (lv' := [(0, .ref (ad 0)), (1, .int (nI (tn w))), (2, .int pp), (3, .int x)]) (by rw [← hwn]) ?_
    refine vv_iload_n hC 2 dX9_type_7 rfl rfl (q := 8) rfl ?_
    refine vv_iconst hC (v := nI 0) dX9_type_8 rfl (q := 9) rfl ?_
    refine vv_aload_n hC 0 dX9_type_9 rfl rfl (q := 10) rfl ?_
    refine vv_get hC hK (K := RX9) (T := TX9) (N := 35) (ci := 9) inwX9_type_X9 0 (by decide) (fs := fldM ad S) om0 rfl 10 (by decide) (List.mem_of_getElem? (i := 1) rfl) rfl (v := .ref (ad 8)) rfl dX9_type_10 (q := 13) rfl ?_
    refine vv_iload_n hC 1 dX9_type_13 rfl rfl (q := 14) rfl ?_
    refine vv_callsi hC hK (fun _ h => h) (As := [.int (nI (tn w))]) (c9_isWriter l hJ S (nI (tn w))) (va_cwS 1 hC.2.2.2.2 gX9_type_X9_isWriter rfl rfl rfl hsX9_isWriter ⟨Nat.le_of_ble_eq_true rfl, Nat.le_of_ble_eq_true rfl⟩) rfl rfl (Nat.le_of_ble_eq_true rfl) ⟨Nat.le_of_ble_eq_true rfl, Nat.le_of_ble_eq_true rfl⟩ dX9_type_14 (q := 17) rfl ?_
    refine vv_if_eq hC (tgt := 24) dX9_type_17 (by decide) (q := 20) rfl (fun h17 => ?_) (fun h17 => ?_)
    · skip
      exact absurd (by rw [← hwn] at h17; exact h17) h4
    · skip
      refine vv_iload_n hC 1 dX9_type_20 rfl rfl (q := 21) rfl ?_
      refine vv_goto hC (tgt := 25) dX9_type_21 (by decide) ?_
      refine vv_ialdN (P := PM cI cZ ad S) hC hK 8 (by decide) 0 (g := S.2 8) (omI (by decide) rfl) rfl (show tn w < 6 from (by omega)) (by decide) dX9_type_25 (q := 26) rfl ?_
      refine vv_callsi hC hK (fun _ h => h) (As := [.int pp, .int (nI 0), .int (S.2 8 (tn w))]) (c9_in l hJ S pp 0 (S.2 8 (tn w))) (va_cwS 3 hC.2.2.2.2 gX9_type_X9_in rfl rfl rfl hsX9_in ⟨Nat.le_of_ble_eq_true rfl, Nat.le_of_ble_eq_true rfl⟩) rfl rfl (Nat.le_of_ble_eq_true rfl) ⟨Nat.le_of_ble_eq_true rfl, Nat.le_of_ble_eq_true rfl⟩ dX9_type_26 (q := 29) rfl ?_
      refine vv_if_eq hC (tgt := 36) dX9_type_29 (by decide) (q := 32) rfl (fun h29 => ?_) (fun h29 => ?_)
      · skip
        refine vv_iconst hC (v := nI 0) dX9_type_36 rfl (q := 37) rfl ?_
        refine vv_istore hC (i := 4) (lv' := [(4, .int (nI 0)), (0, .ref (ad 0)), (1, .int (nI (tn w))), (2, .int pp), (3, .int x)]) dX9_type_37 (by decide) rfl (q := 39) rfl ?_
        refine vv_aload_n hC 1 dX9_type_39 rfl rfl (q := 40) rfl ?_
        refine vv_iload hC 0 dX9_type_40 rfl (q := 42) rfl ?_
        refine vv_if_ne hC (tgt := 49) dX9_type_42 (by decide) (q := 45) rfl (fun h => absurd h (by decide)) (fun _ => ?_)
        refine vv_iconst hC (v := nI 1) dX9_type_45 rfl (q := 46) rfl ?_
        refine vv_goto hC (tgt := 79) dX9_type_46 (by decide) ?_
        refine vv_calli hC hK (fun _ h => h) (As := [.int (nI 1)]) 0 (by decide) or9 rfl (c9_goesWell l hJ S 1 (by decide)) (cwV 1 hC.2.2.2.2 gX9_type_X9_goesWell rfl rfl rfl hdX9_goesWell ⟨Nat.le_of_ble_eq_true rfl, Nat.le_of_ble_eq_true rfl⟩) rfl rfl (Nat.le_of_ble_eq_true rfl) ⟨Nat.le_of_ble_eq_true rfl, Nat.le_of_ble_eq_true rfl⟩ dX9_type_79 (q := 82) rfl ?_
        refine vv_eqv (st' := [.int (nI 0)]) rfl ?_
        refine vv_if_ne hC (tgt := 87) dX9_type_82 (by decide) (q := 85) rfl (fun h => absurd h (by decide)) (fun _ => ?_)
        refine vv_iconst hC (v := nI 0) dX9_type_85 rfl (q := 86) rfl ?_
        have hT : mtType S w pp x = 1 := by simp only [mtType, bI_1 h4, bI_1 h17, bI_0.mp h29, Bool.false_eq_true, true_and, and_true, false_and, and_false, and_self, not_true, not_false_iff, if_true, if_false, reduceIte]
        exact vv_iret hC hK hr hlk (by rw [if_neg (by rw [hT]; decide)]; rfl) (fun f h => by rw [if_neg (by rw [hT]; decide)]; rw [hT]; exact h) dX9_type_86
      · skip
        refine vv_iconst hC (v := nI 1) dX9_type_32 rfl (q := 33) rfl ?_
        refine vv_goto hC (tgt := 37) dX9_type_33 (by decide) ?_
        refine vv_istore hC (i := 4) (lv' := [(4, .int (nI 1)), (0, .ref (ad 0)), (1, .int (nI (tn w))), (2, .int pp), (3, .int x)]) dX9_type_37 (by decide) rfl (q := 39) rfl ?_
        refine vv_aload_n hC 1 dX9_type_39 rfl rfl (q := 40) rfl ?_
        refine vv_iload hC 0 dX9_type_40 rfl (q := 42) rfl ?_
        refine vv_if_ne hC (tgt := 49) dX9_type_42 (by decide) (q := 45) rfl (fun _ => ?_) (fun h => absurd h (by decide))
        refine vv_iload_n hC 4 dX9_type_49 rfl rfl (q := 50) rfl ?_
        refine vv_iconst hC (v := nI 0) dX9_type_50 rfl (q := 51) rfl ?_
        refine vv_sipush hC (v := nI 999) dX9_type_51 rfl (q := 54) rfl ?_
        refine vv_callsi hC hK (fun _ h => h) (As := [.int x, .int (nI 0), .int (nI 999)]) (c9_in l hJ S x 0 999) (va_cwS 3 hC.2.2.2.2 gX9_type_X9_in rfl rfl rfl hsX9_in ⟨Nat.le_of_ble_eq_true rfl, Nat.le_of_ble_eq_true rfl⟩) rfl rfl (Nat.le_of_ble_eq_true rfl) ⟨Nat.le_of_ble_eq_true rfl, Nat.le_of_ble_eq_true rfl⟩ dX9_type_54 (q := 57) rfl ?_
        refine vv_if_ne hC (tgt := 64) dX9_type_57 (by decide) (q := 60) rfl (fun h57 => ?_) (fun h57 => ?_)
        · skip
          refine vv_aload_n hC 1 dX9_type_64 rfl rfl (q := 65) rfl ?_
          refine vv_get hC hK (K := RX9) (T := TX9) (N := 35) (ci := 9) inwX9_type_X9 0 (by decide) (fs := fldM ad S) om0 rfl 1 (by decide) (List.mem_of_getElem? (i := 2) rfl) rfl (v := .int (nI (S.1 1))) rfl dX9_type_65 (q := 68) rfl ?_
          refine vv_sipush hC (v := nI 300) dX9_type_68 rfl (q := 71) rfl ?_
          refine vv_icmpN_ne hC (tgt := 78) (by omega) (by omega) dX9_type_71 (by decide) (q := 74) rfl (fun h71 => ?_) (fun h71 => ?_)
          · skip
            refine vv_iconst hC (v := nI 0) dX9_type_78 rfl (q := 79) rfl ?_
            refine vv_calli hC hK (fun _ h => h) (As := [.int (nI 0)]) 0 (by decide) or9 rfl (c9_goesWell l hJ S 0 (by decide)) (cwV 1 hC.2.2.2.2 gX9_type_X9_goesWell rfl rfl rfl hdX9_goesWell ⟨Nat.le_of_ble_eq_true rfl, Nat.le_of_ble_eq_true rfl⟩) rfl rfl (Nat.le_of_ble_eq_true rfl) ⟨Nat.le_of_ble_eq_true rfl, Nat.le_of_ble_eq_true rfl⟩ dX9_type_79 (q := 82) rfl ?_
            refine vv_eqv (st' := [.int (nI 1)]) rfl ?_
            refine vv_if_ne hC (tgt := 87) dX9_type_82 (by decide) (q := 85) rfl (fun _ => ?_) (fun h => absurd h (by decide))
            obtain ⟨hpn, hpl⟩ := inB_n (b := tn (S.2 8 (tn w))) (by have := (icl _ (show tn w < 6 by omega)).2; omega) (by rw [← (icl _ (show tn w < 6 by omega)).1]; exact bI_1 h29)
            have hcl := (icl (tn w) (by omega)).2
            refine vv_eql (lv' := [(4, .int (nI 1)), (0, .ref (ad 0)), (1, .int (nI (tn w))), (2, .int (nI (tn pp))), (3, .int x)]) (by rw [← hpn]) ?_
            refine vv_aload_n hC 1 dX9_type_87 rfl rfl (q := 88) rfl ?_
            refine vv_get hC hK (K := RX9) (T := TX9) (N := 35) (ci := 9) inwX9_type_X9 0 (by decide) (fs := fldM ad (sS S 0 0)) om0 rfl 2 (by decide) (List.mem_of_getElem? (i := 3) rfl) rfl (v := .ref (ad 1)) rfl dX9_type_88 (q := 91) rfl ?_
            refine vv_aload_n hC 1 dX9_type_91 rfl rfl (q := 92) rfl ?_
            refine vv_get hC hK (K := RX9) (T := TX9) (N := 35) (ci := 9) inwX9_type_X9 0 (by decide) (fs := fldM ad (sS S 0 0)) om0 rfl 1 (by decide) (List.mem_of_getElem? (i := 2) rfl) rfl (v := .int (nI (S.1 1))) rfl dX9_type_92 (q := 95) rfl ?_
            refine vv_iload_n hC 4 dX9_type_95 rfl rfl (q := 96) rfl ?_
            refine vv_iastN (P := PM cI cZ ad (sS S 0 0)) hC hK hW (P1 := PM cI cZ ad (sA (sS S 0 0) 1 (upd (S.2 1) (S.1 1) x))) 1 (by decide) 0 (g := S.2 1) (omI (by decide) rfl) rfl (show S.1 1 < 300 from (by omega)) (by decide) (om_aI (j := 1) (by decide) rfl _) dX9_type_96 (q := 97) rfl ?_
            refine vv_aload_n hC 1 dX9_type_97 rfl rfl (q := 98) rfl ?_
            refine vv_get hC hK (K := RX9) (T := TX9) (N := 35) (ci := 9) inwX9_type_X9 0 (by decide) (fs := fldM ad (sA (sS S 0 0) 1 (upd (S.2 1) (S.1 1) x))) om0 rfl 3 (by decide) (List.mem_of_getElem? (i := 4) rfl) rfl (v := .ref (ad 2)) rfl dX9_type_98 (q := 101) rfl ?_
            refine vv_aload_n hC 1 dX9_type_101 rfl rfl (q := 102) rfl ?_
            refine vv_get hC hK (K := RX9) (T := TX9) (N := 35) (ci := 9) inwX9_type_X9 0 (by decide) (fs := fldM ad (sA (sS S 0 0) 1 (upd (S.2 1) (S.1 1) x))) om0 rfl 1 (by decide) (List.mem_of_getElem? (i := 2) rfl) rfl (v := .int (nI (S.1 1))) rfl dX9_type_102 (q := 105) rfl ?_
            refine vv_iload_n hC 2 dX9_type_105 rfl rfl (q := 106) rfl ?_
            refine vv_iastN (P := PM cI cZ ad (sA (sS S 0 0) 1 (upd (S.2 1) (S.1 1) x))) hC hK hW (P1 := PM cI cZ ad (sA (sA (sS S 0 0) 1 (upd (S.2 1) (S.1 1) x)) 2 (upd (S.2 2) (S.1 1) (nI (tn w))))) 2 (by decide) 0 (g := S.2 2) (omI (by decide) rfl) rfl (show S.1 1 < 300 from (by omega)) (by decide) (om_aI (j := 2) (by decide) rfl _) dX9_type_106 (q := 107) rfl ?_
            refine vv_aload_n hC 1 dX9_type_107 rfl rfl (q := 108) rfl ?_
            refine vv_get hC hK (K := RX9) (T := TX9) (N := 35) (ci := 9) inwX9_type_X9 0 (by decide) (fs := fldM ad (sA (sA (sS S 0 0) 1 (upd (S.2 1) (S.1 1) x)) 2 (upd (S.2 2) (S.1 1) (nI (tn w))))) om0 rfl 7 (by decide) (List.mem_of_getElem? (i := 5) rfl) rfl (v := .ref (ad 6)) rfl dX9_type_108 (q := 111) rfl ?_
            refine vv_aload_n hC 1 dX9_type_111 rfl rfl (q := 112) rfl ?_
            refine vv_get hC hK (K := RX9) (T := TX9) (N := 35) (ci := 9) inwX9_type_X9 0 (by decide) (fs := fldM ad (sA (sA (sS S 0 0) 1 (upd (S.2 1) (S.1 1) x)) 2 (upd (S.2 2) (S.1 1) (nI (tn w))))) om0 rfl 1 (by decide) (List.mem_of_getElem? (i := 2) rfl) rfl (v := .int (nI (S.1 1))) rfl dX9_type_112 (q := 115) rfl ?_
            refine vv_iconst hC (v := (-1)) dX9_type_115 rfl (q := 116) rfl ?_
            refine vv_iastN (P := PM cI cZ ad (sA (sA (sS S 0 0) 1 (upd (S.2 1) (S.1 1) x)) 2 (upd (S.2 2) (S.1 1) (nI (tn w))))) hC hK hW (P1 := PM cI cZ ad (sA (sA (sA (sS S 0 0) 1 (upd (S.2 1) (S.1 1) x)) 2 (upd (S.2 2) (S.1 1) (nI (tn w)))) 6 (upd (S.2 6) (S.1 1) (-1)))) 6 (by decide) 0 (g := S.2 6) (omI (by decide) rfl) rfl (show S.1 1 < 300 from (by omega)) (by decide) (om_aI (j := 6) (by decide) rfl _) dX9_type_116 (q := 117) rfl ?_
            refine vv_aload_n hC 1 dX9_type_117 rfl rfl (q := 118) rfl ?_
            refine vv_get hC hK (K := RX9) (T := TX9) (N := 35) (ci := 9) inwX9_type_X9 0 (by decide) (fs := fldM ad (sA (sA (sA (sS S 0 0) 1 (upd (S.2 1) (S.1 1) x)) 2 (upd (S.2 2) (S.1 1) (nI (tn w)))) 6 (upd (S.2 6) (S.1 1) (-1)))) om0 rfl 4 (by decide) (List.mem_of_getElem? (i := 6) rfl) rfl (v := .ref (ad 3)) rfl dX9_type_118 (q := 121) rfl ?_
            refine vv_aload_n hC 1 dX9_type_121 rfl rfl (q := 122) rfl ?_
            refine vv_get hC hK (K := RX9) (T := TX9) (N := 35) (ci := 9) inwX9_type_X9 0 (by decide) (fs := fldM ad (sA (sA (sA (sS S 0 0) 1 (upd (S.2 1) (S.1 1) x)) 2 (upd (S.2 2) (S.1 1) (nI (tn w)))) 6 (upd (S.2 6) (S.1 1) (-1)))) om0 rfl 1 (by decide) (List.mem_of_getElem? (i := 2) rfl) rfl (v := .int (nI (S.1 1))) rfl dX9_type_122 (q := 125) rfl ?_
            have join147 : vv p l e (headSpec wsX9_type ({ frames := 2, cells := 0, slots := 0, locals := 42 })).room s m args below meth c 6 (RA ad 27) s.heap 0 0 (MQ below (va_Qi (fun r' (_ : Unit) => r' = (if mtType S w pp x = 0 then nI (S.1 1) else 0)) (fun _ => ws0 D vwCl (tyL cI cW cZ cL) ad 27 (PM cI cZ ad (if mtType S w pp x = 0 then msType S (tn w) (tn pp) x else sS S 0 (mtType S w pp x)))) (RA ad 27)) args s 0 0 (RA ad 27)) (wq D vwCl ad 27 (PM cI cZ ad (sA (sA (sA (sS S 0 0) 1 (upd (S.2 1) (S.1 1) x)) 2 (upd (S.2 2) (S.1 1) (nI (tn w)))) 6 (upd (S.2 6) (S.1 1) (-1))))) 147 [(0, .ref (ad 0)), (1, .int (nI (tn w))), (2, .int (nI (tn pp))), (3, .int x)] [.int (if tn pp = 0 then -1 else S.2 9 (300 * tn w + tn pp - 1)), .int (nI (S.1 1)), .ref (ad 3)] := by
              refine vv_iastN (P := PM cI cZ ad (sA (sA (sA (sS S 0 0) 1 (upd (S.2 1) (S.1 1) x)) 2 (upd (S.2 2) (S.1 1) (nI (tn w)))) 6 (upd (S.2 6) (S.1 1) (-1)))) hC hK hW (P1 := PM cI cZ ad (sA (sA (sA (sA (sS S 0 0) 1 (upd (S.2 1) (S.1 1) x)) 2 (upd (S.2 2) (S.1 1) (nI (tn w)))) 6 (upd (S.2 6) (S.1 1) (-1))) 3 (upd (S.2 3) (S.1 1) (if tn pp = 0 then -1 else S.2 9 (300 * tn w + tn pp - 1))))) 3 (by decide) 0 (g := S.2 3) (omI (by decide) rfl) rfl (show S.1 1 < 300 from (by omega)) (by decide) (om_aI (j := 3) (by decide) rfl _) dX9_type_147 (q := 148) rfl ?_
              refine vv_aload_n hC 0 dX9_type_148 rfl rfl (q := 149) rfl ?_
              refine vv_get hC hK (K := RX9) (T := TX9) (N := 35) (ci := 9) inwX9_type_X9 0 (by decide) (fs := fldM ad (sA (sA (sA (sA (sS S 0 0) 1 (upd (S.2 1) (S.1 1) x)) 2 (upd (S.2 2) (S.1 1) (nI (tn w)))) 6 (upd (S.2 6) (S.1 1) (-1))) 3 (upd (S.2 3) (S.1 1) (if tn pp = 0 then -1 else S.2 9 (300 * tn w + tn pp - 1))))) om0 rfl 10 (by decide) (List.mem_of_getElem? (i := 1) rfl) rfl (v := .ref (ad 8)) rfl dX9_type_149 (q := 152) rfl ?_
              refine vv_iload_n hC 1 dX9_type_152 rfl rfl (q := 153) rfl ?_
              refine vv_ialdN (P := PM cI cZ ad (sA (sA (sA (sA (sS S 0 0) 1 (upd (S.2 1) (S.1 1) x)) 2 (upd (S.2 2) (S.1 1) (nI (tn w)))) 6 (upd (S.2 6) (S.1 1) (-1))) 3 (upd (S.2 3) (S.1 1) (if tn pp = 0 then -1 else S.2 9 (300 * tn w + tn pp - 1))))) hC hK 8 (by decide) 0 (g := S.2 8) (omI (by decide) rfl) rfl (show tn w < 6 from (by omega)) (by decide) dX9_type_153 (q := 154) rfl ?_
              refine vv_eqv (st' := [.int (nI (tn (S.2 8 (tn w))))]) (by rw [← (icl (tn w) (by omega)).1]) ?_
              refine vv_istore hC (i := 5) (lv' := [(5, .int (nI (tn (S.2 8 (tn w))))), (0, .ref (ad 0)), (1, .int (nI (tn w))), (2, .int (nI (tn pp))), (3, .int x)]) dX9_type_154 (by decide) rfl (q := 156) rfl ?_
              have loop156 : ∀ (fu : Nat) (k : Nat), k < fu → tn pp ≤ k → k ≤ tn (S.2 8 (tn w)) → vv p l e (headSpec wsX9_type ({ frames := 2, cells := 0, slots := 0, locals := 42 })).room s m args below meth c 6 (RA ad 27) s.heap 0 0 (MQ below (va_Qi (fun r' (_ : Unit) => r' = (if mtType S w pp x = 0 then nI (S.1 1) else 0)) (fun _ => ws0 D vwCl (tyL cI cW cZ cL) ad 27 (PM cI cZ ad (if mtType S w pp x = 0 then msType S (tn w) (tn pp) x else sS S 0 (mtType S w pp x)))) (RA ad 27)) args s 0 0 (RA ad 27)) (wq D vwCl ad 27 (PM cI cZ ad (sA (sA (sA (sA (sA (sS S 0 0) 1 (upd (S.2 1) (S.1 1) x)) 2 (upd (S.2 2) (S.1 1) (nI (tn w)))) 6 (upd (S.2 6) (S.1 1) (-1))) 3 (upd (S.2 3) (S.1 1) (if tn pp = 0 then -1 else S.2 9 (300 * tn w + tn pp - 1)))) 9 (shf (S.2 9) (300 * tn w + k) (300 * tn w + tn (S.2 8 (tn w))))))) 156 [(0, .ref (ad 0)), (1, .int (nI (tn w))), (2, .int (nI (tn pp))), (3, .int x), (5, .int (nI k))] [] := by
                intro fu
                induction fu with
                | zero =>
                  intro k hfu hk1 hk2
                  exact absurd hfu (Nat.not_lt_zero _)
                | succ fu ih =>
                  intro k hfu hk1 hk2
                  refine vv_iload hC 4 dX9_type_156 rfl (q := 158) rfl ?_
                  refine vv_iload_n hC 2 dX9_type_158 rfl rfl (q := 159) rfl ?_
                  refine vv_icmpN_le hC (tgt := 196) (by omega) (by omega) dX9_type_159 (by decide) (q := 162) rfl (fun h159 => ?_) (fun h159 => ?_)
                  · skip
                    obtain rfl : k = tn pp := by omega
                    refine vv_aload_n hC 0 dX9_type_196 rfl rfl (q := 197) rfl ?_
                    refine vv_get hC hK (K := RX9) (T := TX9) (N := 35) (ci := 9) inwX9_type_X9 0 (by decide) (fs := fldM ad (sA (sA (sA (sA (sA (sS S 0 0) 1 (upd (S.2 1) (S.1 1) x)) 2 (upd (S.2 2) (S.1 1) (nI (tn w)))) 6 (upd (S.2 6) (S.1 1) (-1))) 3 (upd (S.2 3) (S.1 1) (if tn pp = 0 then -1 else S.2 9 (300 * tn w + tn pp - 1)))) 9 (shf (S.2 9) (300 * tn w + tn pp) (300 * tn w + tn (S.2 8 (tn w)))))) om0 rfl 11 (by decide) (List.mem_of_getElem? (i := 7) rfl) rfl (v := .ref (ad 9)) rfl dX9_type_197 (q := 200) rfl ?_
                    refine vv_sipush hC (v := nI 300) dX9_type_200 rfl (q := 203) rfl ?_
                    refine vv_iload_n hC 1 dX9_type_203 rfl rfl (q := 204) rfl ?_
                    refine vv_imulN hC dX9_type_204 (q := 205) rfl ?_
                    refine vv_iload_n hC 2 dX9_type_205 rfl rfl (q := 206) rfl ?_
                    refine vv_iaddN hC dX9_type_206 (q := 207) rfl ?_
                    refine vv_aload_n hC 0 dX9_type_207 rfl rfl (q := 208) rfl ?_
                    refine vv_get hC hK (K := RX9) (T := TX9) (N := 35) (ci := 9) inwX9_type_X9 0 (by decide) (fs := fldM ad (sA (sA (sA (sA (sA (sS S 0 0) 1 (upd (S.2 1) (S.1 1) x)) 2 (upd (S.2 2) (S.1 1) (nI (tn w)))) 6 (upd (S.2 6) (S.1 1) (-1))) 3 (upd (S.2 3) (S.1 1) (if tn pp = 0 then -1 else S.2 9 (300 * tn w + tn pp - 1)))) 9 (shf (S.2 9) (300 * tn w + tn pp) (300 * tn w + tn (S.2 8 (tn w)))))) om0 rfl 1 (by decide) (List.mem_of_getElem? (i := 2) rfl) rfl (v := .int (nI (S.1 1))) rfl dX9_type_208 (q := 211) rfl ?_
                    refine vv_iastN (P := PM cI cZ ad (sA (sA (sA (sA (sA (sS S 0 0) 1 (upd (S.2 1) (S.1 1) x)) 2 (upd (S.2 2) (S.1 1) (nI (tn w)))) 6 (upd (S.2 6) (S.1 1) (-1))) 3 (upd (S.2 3) (S.1 1) (if tn pp = 0 then -1 else S.2 9 (300 * tn w + tn pp - 1)))) 9 (shf (S.2 9) (300 * tn w + tn pp) (300 * tn w + tn (S.2 8 (tn w)))))) hC hK hW (P1 := PM cI cZ ad (sA (sA (sA (sA (sA (sS S 0 0) 1 (upd (S.2 1) (S.1 1) x)) 2 (upd (S.2 2) (S.1 1) (nI (tn w)))) 6 (upd (S.2 6) (S.1 1) (-1))) 3 (upd (S.2 3) (S.1 1) (if tn pp = 0 then -1 else S.2 9 (300 * tn w + tn pp - 1)))) 9 (upd (shf (S.2 9) (300 * tn w + tn pp) (300 * tn w + tn (S.2 8 (tn w)))) ((300 * (tn w)) + (tn pp)) (nI (S.1 1))))) 9 (by decide) 0 (g := shf (S.2 9) (300 * tn w + tn pp) (300 * tn w + tn (S.2 8 (tn w)))) (omI (by decide) rfl) rfl (show (300 * (tn w)) + (tn pp) < 1800 from (by omega)) (by decide) (fun f h => by rw [← sA_sA (g := shf (S.2 9) (300 * tn w + tn pp) (300 * tn w + tn (S.2 8 (tn w))))]; exact om_aI (j := 9) (by decide) rfl _ f h) dX9_type_211 (q := 212) rfl ?_
                    refine vv_aload_n hC 0 dX9_type_212 rfl rfl (q := 213) rfl ?_
                    refine vv_get hC hK (K := RX9) (T := TX9) (N := 35) (ci := 9) inwX9_type_X9 0 (by decide) (fs := fldM ad (sA (sA (sA (sA (sA (sS S 0 0) 1 (upd (S.2 1) (S.1 1) x)) 2 (upd (S.2 2) (S.1 1) (nI (tn w)))) 6 (upd (S.2 6) (S.1 1) (-1))) 3 (upd (S.2 3) (S.1 1) (if tn pp = 0 then -1 else S.2 9 (300 * tn w + tn pp - 1)))) 9 (upd (shf (S.2 9) (300 * tn w + tn pp) (300 * tn w + tn (S.2 8 (tn w)))) ((300 * (tn w)) + (tn pp)) (nI (S.1 1))))) om0 rfl 10 (by decide) (List.mem_of_getElem? (i := 1) rfl) rfl (v := .ref (ad 8)) rfl dX9_type_213 (q := 216) rfl ?_
                    refine vv_iload_n hC 1 dX9_type_216 rfl rfl (q := 217) rfl ?_
                    refine vv_dup2 hC dX9_type_217 rfl rfl (q := 218) rfl ?_
                    refine vv_ialdN (P := PM cI cZ ad (sA (sA (sA (sA (sA (sS S 0 0) 1 (upd (S.2 1) (S.1 1) x)) 2 (upd (S.2 2) (S.1 1) (nI (tn w)))) 6 (upd (S.2 6) (S.1 1) (-1))) 3 (upd (S.2 3) (S.1 1) (if tn pp = 0 then -1 else S.2 9 (300 * tn w + tn pp - 1)))) 9 (upd (shf (S.2 9) (300 * tn w + tn pp) (300 * tn w + tn (S.2 8 (tn w)))) ((300 * (tn w)) + (tn pp)) (nI (S.1 1))))) hC hK 8 (by decide) 0 (g := S.2 8) (omI (by decide) rfl) rfl (show tn w < 6 from (by omega)) (by decide) dX9_type_218 (q := 219) rfl ?_
                    refine vv_eqv (st' := [.int (nI (tn (S.2 8 (tn w)))), .int (nI (tn w)), .ref (ad 8)]) (by rw [← (icl (tn w) (by omega)).1]) ?_
                    refine vv_iconst hC (v := nI 1) dX9_type_219 rfl (q := 220) rfl ?_
                    refine vv_iaddN hC dX9_type_220 (q := 221) rfl ?_
                    refine vv_iastN (P := PM cI cZ ad (sA (sA (sA (sA (sA (sS S 0 0) 1 (upd (S.2 1) (S.1 1) x)) 2 (upd (S.2 2) (S.1 1) (nI (tn w)))) 6 (upd (S.2 6) (S.1 1) (-1))) 3 (upd (S.2 3) (S.1 1) (if tn pp = 0 then -1 else S.2 9 (300 * tn w + tn pp - 1)))) 9 (upd (shf (S.2 9) (300 * tn w + tn pp) (300 * tn w + tn (S.2 8 (tn w)))) ((300 * (tn w)) + (tn pp)) (nI (S.1 1))))) hC hK hW (P1 := PM cI cZ ad (sA (sA (sA (sA (sA (sA (sS S 0 0) 1 (upd (S.2 1) (S.1 1) x)) 2 (upd (S.2 2) (S.1 1) (nI (tn w)))) 6 (upd (S.2 6) (S.1 1) (-1))) 3 (upd (S.2 3) (S.1 1) (if tn pp = 0 then -1 else S.2 9 (300 * tn w + tn pp - 1)))) 9 (upd (shf (S.2 9) (300 * tn w + tn pp) (300 * tn w + tn (S.2 8 (tn w)))) ((300 * (tn w)) + (tn pp)) (nI (S.1 1)))) 8 (upd (S.2 8) (tn w) (nI ((tn (S.2 8 (tn w))) + 1))))) 8 (by decide) 0 (g := S.2 8) (omI (by decide) rfl) rfl (show tn w < 6 from (by omega)) (by decide) (om_aI (j := 8) (by decide) rfl _) dX9_type_221 (q := 222) rfl ?_
                    refine vv_aload_n hC 0 dX9_type_222 rfl rfl (q := 223) rfl ?_
                    refine vv_dup hC dX9_type_223 rfl (q := 224) rfl ?_
                    refine vv_get hC hK (K := RX9) (T := TX9) (N := 35) (ci := 9) inwX9_type_X9 0 (by decide) (fs := fldM ad (sA (sA (sA (sA (sA (sA (sS S 0 0) 1 (upd (S.2 1) (S.1 1) x)) 2 (upd (S.2 2) (S.1 1) (nI (tn w)))) 6 (upd (S.2 6) (S.1 1) (-1))) 3 (upd (S.2 3) (S.1 1) (if tn pp = 0 then -1 else S.2 9 (300 * tn w + tn pp - 1)))) 9 (upd (shf (S.2 9) (300 * tn w + tn pp) (300 * tn w + tn (S.2 8 (tn w)))) ((300 * (tn w)) + (tn pp)) (nI (S.1 1)))) 8 (upd (S.2 8) (tn w) (nI ((tn (S.2 8 (tn w))) + 1))))) om0 rfl 1 (by decide) (List.mem_of_getElem? (i := 2) rfl) rfl (v := .int (nI (S.1 1))) rfl dX9_type_224 (q := 227) rfl ?_
                    refine vv_iconst hC (v := nI 1) dX9_type_227 rfl (q := 228) rfl ?_
                    refine vv_iaddN hC dX9_type_228 (q := 229) rfl ?_
                    refine vv_put hC hK hW (P1 := PM cI cZ ad (sS (sA (sA (sA (sA (sA (sA (sS S 0 0) 1 (upd (S.2 1) (S.1 1) x)) 2 (upd (S.2 2) (S.1 1) (nI (tn w)))) 6 (upd (S.2 6) (S.1 1) (-1))) 3 (upd (S.2 3) (S.1 1) (if tn pp = 0 then -1 else S.2 9 (300 * tn w + tn pp - 1)))) 9 (upd (shf (S.2 9) (300 * tn w + tn pp) (300 * tn w + tn (S.2 8 (tn w)))) ((300 * (tn w)) + (tn pp)) (nI (S.1 1)))) 8 (upd (S.2 8) (tn w) (nI ((tn (S.2 8 (tn w))) + 1)))) 1 ((S.1 1) + 1))) (K := RX9) (T := TX9) (N := 35) (ci := 9) inwX9_type_X9 tyX9 tyX9_ok nmX9 0 (by decide) (fs := fldM ad (sA (sA (sA (sA (sA (sA (sS S 0 0) 1 (upd (S.2 1) (S.1 1) x)) 2 (upd (S.2 2) (S.1 1) (nI (tn w)))) 6 (upd (S.2 6) (S.1 1) (-1))) 3 (upd (S.2 3) (S.1 1) (if tn pp = 0 then -1 else S.2 9 (300 * tn w + tn pp - 1)))) 9 (upd (shf (S.2 9) (300 * tn w + tn pp) (300 * tn w + tn (S.2 8 (tn w)))) ((300 * (tn w)) + (tn pp)) (nI (S.1 1)))) 8 (upd (S.2 8) (tn w) (nI ((tn (S.2 8 (tn w))) + 1))))) om0 rfl (ty := .int) 1 (by decide) (List.mem_of_getElem? (i := 2) rfl) rfl rfl (by decide +kernel) rfl rfl (Nat.le_of_ble_eq_true rfl) (om_s1 _) dX9_type_229 (q := 232) rfl ?_
                    refine vv_aload_n hC 0 dX9_type_232 rfl rfl (q := 233) rfl ?_
                    refine vv_iload_n hC 1 dX9_type_233 rfl rfl (q := 234) rfl ?_
                    refine vv_aload_n hC 0 dX9_type_234 rfl rfl (q := 235) rfl ?_
                    refine vv_get hC hK (K := RX9) (T := TX9) (N := 35) (ci := 9) inwX9_type_X9 0 (by decide) (fs := fldM ad (sS (sA (sA (sA (sA (sA (sA (sS S 0 0) 1 (upd (S.2 1) (S.1 1) x)) 2 (upd (S.2 2) (S.1 1) (nI (tn w)))) 6 (upd (S.2 6) (S.1 1) (-1))) 3 (upd (S.2 3) (S.1 1) (if tn pp = 0 then -1 else S.2 9 (300 * tn w + tn pp - 1)))) 9 (upd (shf (S.2 9) (300 * tn w + tn pp) (300 * tn w + tn (S.2 8 (tn w)))) ((300 * (tn w)) + (tn pp)) (nI (S.1 1)))) 8 (upd (S.2 8) (tn w) (nI ((tn (S.2 8 (tn w))) + 1)))) 1 ((S.1 1) + 1))) om0 rfl 1 (by decide) (List.mem_of_getElem? (i := 2) rfl) rfl (v := .int (nI ((S.1 1) + 1))) rfl dX9_type_235 (q := 238) rfl ?_
                    refine vv_callv hC hK (fun _ h => h) (As := [.int (nI (tn w)), .int (nI ((S.1 1) + 1))]) 0 (by decide) or9 rfl (c9_addChange l hJ (sS (sA (sA (sA (sA (sA (sA (sS S 0 0) 1 (upd (S.2 1) (S.1 1) x)) 2 (upd (S.2 2) (S.1 1) (nI (tn w)))) 6 (upd (S.2 6) (S.1 1) (-1))) 3 (upd (S.2 3) (S.1 1) (if tn pp = 0 then -1 else S.2 9 (300 * tn w + tn pp - 1)))) 9 (upd (shf (S.2 9) (300 * tn w + tn pp) (300 * tn w + tn (S.2 8 (tn w)))) ((300 * (tn w)) + (tn pp)) (nI (S.1 1)))) 8 (upd (S.2 8) (tn w) (nI ((tn (S.2 8 (tn w))) + 1)))) 1 ((S.1 1) + 1)) (tn w) (nI ((S.1 1) + 1)) (by omega) (icc (tn w) (by omega))) (cwV 2 hC.2.2.2.2 gX9_type_X9_addChange rfl rfl rfl hdX9_addChange ⟨Nat.le_of_ble_eq_true rfl, Nat.le_of_ble_eq_true rfl⟩) rfl rfl (Nat.le_of_ble_eq_true rfl) ⟨Nat.le_of_ble_eq_true rfl, Nat.le_of_ble_eq_true rfl⟩ dX9_type_238 (q := 241) rfl ?_
                    refine vv_aload_n hC 0 dX9_type_241 rfl rfl (q := 242) rfl ?_
                    refine vv_get hC hK (K := RX9) (T := TX9) (N := 35) (ci := 9) inwX9_type_X9 0 (by decide) (fs := fldM ad (mChg (sS (sA (sA (sA (sA (sA (sA (sS S 0 0) 1 (upd (S.2 1) (S.1 1) x)) 2 (upd (S.2 2) (S.1 1) (nI (tn w)))) 6 (upd (S.2 6) (S.1 1) (-1))) 3 (upd (S.2 3) (S.1 1) (if tn pp = 0 then -1 else S.2 9 (300 * tn w + tn pp - 1)))) 9 (upd (shf (S.2 9) (300 * tn w + tn pp) (300 * tn w + tn (S.2 8 (tn w)))) ((300 * (tn w)) + (tn pp)) (nI (S.1 1)))) 8 (upd (S.2 8) (tn w) (nI ((tn (S.2 8 (tn w))) + 1)))) 1 ((S.1 1) + 1)) (tn w) (nI ((S.1 1) + 1)))) om0 rfl 1 (by decide) (List.mem_of_getElem? (i := 2) rfl) rfl (v := .int (nI ((mChg (sS (sA (sA (sA (sA (sA (sA (sS S 0 0) 1 (upd (S.2 1) (S.1 1) x)) 2 (upd (S.2 2) (S.1 1) (nI (tn w)))) 6 (upd (S.2 6) (S.1 1) (-1))) 3 (upd (S.2 3) (S.1 1) (if tn pp = 0 then -1 else S.2 9 (300 * tn w + tn pp - 1)))) 9 (upd (shf (S.2 9) (300 * tn w + tn pp) (300 * tn w + tn (S.2 8 (tn w)))) ((300 * (tn w)) + (tn pp)) (nI (S.1 1)))) 8 (upd (S.2 8) (tn w) (nI ((tn (S.2 8 (tn w))) + 1)))) 1 ((S.1 1) + 1)) (tn w) (nI ((S.1 1) + 1))).1 1))) rfl dX9_type_242 (q := 245) rfl ?_
                    refine vv_iconst hC (v := nI 1) dX9_type_245 rfl (q := 246) rfl ?_
                    refine vv_isubN hC (by show 1 ≤ S.1 1 + 1; omega) dX9_type_246 (q := 247) rfl ?_
                    have hT : mtType S w pp x = 0 := by simp only [mtType, bI_1 h4, bI_1 h17, bI_1 h29, bI_1 h57, h71, h159, Bool.false_eq_true, true_and, and_true, false_and, and_false, and_self, not_true, not_false_iff, if_true, if_false, reduceIte]
                    exact vv_iret hC hK hr hlk (by rw [if_pos hT]; rfl) (fun f h => by rw [if_pos hT]; exact h) dX9_type_247
                  · skip
                    refine vv_aload_n hC 0 dX9_type_162 rfl rfl (q := 163) rfl ?_
                    refine vv_get hC hK (K := RX9) (T := TX9) (N := 35) (ci := 9) inwX9_type_X9 0 (by decide) (fs := fldM ad (sA (sA (sA (sA (sA (sS S 0 0) 1 (upd (S.2 1) (S.1 1) x)) 2 (upd (S.2 2) (S.1 1) (nI (tn w)))) 6 (upd (S.2 6) (S.1 1) (-1))) 3 (upd (S.2 3) (S.1 1) (if tn pp = 0 then -1 else S.2 9 (300 * tn w + tn pp - 1)))) 9 (shf (S.2 9) (300 * tn w + k) (300 * tn w + tn (S.2 8 (tn w)))))) om0 rfl 11 (by decide) (List.mem_of_getElem? (i := 7) rfl) rfl (v := .ref (ad 9)) rfl dX9_type_163 (q := 166) rfl ?_
                    refine vv_sipush hC (v := nI 300) dX9_type_166 rfl (q := 169) rfl ?_
                    refine vv_iload_n hC 1 dX9_type_169 rfl rfl (q := 170) rfl ?_
                    refine vv_imulN hC dX9_type_170 (q := 171) rfl ?_
                    refine vv_iload hC 4 dX9_type_171 rfl (q := 173) rfl ?_
                    refine vv_iaddN hC dX9_type_173 (q := 174) rfl ?_
                    refine vv_aload_n hC 0 dX9_type_174 rfl rfl (q := 175) rfl ?_
                    refine vv_get hC hK (K := RX9) (T := TX9) (N := 35) (ci := 9) inwX9_type_X9 0 (by decide) (fs := fldM ad (sA (sA (sA (sA (sA (sS S 0 0) 1 (upd (S.2 1) (S.1 1) x)) 2 (upd (S.2 2) (S.1 1) (nI (tn w)))) 6 (upd (S.2 6) (S.1 1) (-1))) 3 (upd (S.2 3) (S.1 1) (if tn pp = 0 then -1 else S.2 9 (300 * tn w + tn pp - 1)))) 9 (shf (S.2 9) (300 * tn w + k) (300 * tn w + tn (S.2 8 (tn w)))))) om0 rfl 11 (by decide) (List.mem_of_getElem? (i := 7) rfl) rfl (v := .ref (ad 9)) rfl dX9_type_175 (q := 178) rfl ?_
                    refine vv_sipush hC (v := nI 300) dX9_type_178 rfl (q := 181) rfl ?_
                    refine vv_iload_n hC 1 dX9_type_181 rfl rfl (q := 182) rfl ?_
                    refine vv_imulN hC dX9_type_182 (q := 183) rfl ?_
                    refine vv_iload hC 4 dX9_type_183 rfl (q := 185) rfl ?_
                    refine vv_iaddN hC dX9_type_185 (q := 186) rfl ?_
                    refine vv_iconst hC (v := nI 1) dX9_type_186 rfl (q := 187) rfl ?_
                    refine vv_isubN hC (by omega) dX9_type_187 (q := 188) rfl ?_
                    refine vv_ialdN (P := PM cI cZ ad (sA (sA (sA (sA (sA (sS S 0 0) 1 (upd (S.2 1) (S.1 1) x)) 2 (upd (S.2 2) (S.1 1) (nI (tn w)))) 6 (upd (S.2 6) (S.1 1) (-1))) 3 (upd (S.2 3) (S.1 1) (if tn pp = 0 then -1 else S.2 9 (300 * tn w + tn pp - 1)))) 9 (shf (S.2 9) (300 * tn w + k) (300 * tn w + tn (S.2 8 (tn w)))))) hC hK 9 (by decide) 0 (g := shf (S.2 9) (300 * tn w + k) (300 * tn w + tn (S.2 8 (tn w)))) (omI (by decide) rfl) rfl (show ((300 * (tn w)) + k) - 1 < 1800 from (by omega)) (by decide) dX9_type_188 (q := 189) rfl ?_
                    refine vv_iastN (P := PM cI cZ ad (sA (sA (sA (sA (sA (sS S 0 0) 1 (upd (S.2 1) (S.1 1) x)) 2 (upd (S.2 2) (S.1 1) (nI (tn w)))) 6 (upd (S.2 6) (S.1 1) (-1))) 3 (upd (S.2 3) (S.1 1) (if tn pp = 0 then -1 else S.2 9 (300 * tn w + tn pp - 1)))) 9 (shf (S.2 9) (300 * tn w + k) (300 * tn w + tn (S.2 8 (tn w)))))) hC hK hW (P1 := PM cI cZ ad (sA (sA (sA (sA (sA (sS S 0 0) 1 (upd (S.2 1) (S.1 1) x)) 2 (upd (S.2 2) (S.1 1) (nI (tn w)))) 6 (upd (S.2 6) (S.1 1) (-1))) 3 (upd (S.2 3) (S.1 1) (if tn pp = 0 then -1 else S.2 9 (300 * tn w + tn pp - 1)))) 9 (upd (shf (S.2 9) (300 * tn w + k) (300 * tn w + tn (S.2 8 (tn w)))) ((300 * (tn w)) + k) ((shf (S.2 9) (300 * tn w + k) (300 * tn w + tn (S.2 8 (tn w)))) (((300 * (tn w)) + k) - 1))))) 9 (by decide) 0 (g := shf (S.2 9) (300 * tn w + k) (300 * tn w + tn (S.2 8 (tn w)))) (omI (by decide) rfl) rfl (show (300 * (tn w)) + k < 1800 from (by omega)) (by decide) (fun f h => by rw [← sA_sA (g := shf (S.2 9) (300 * tn w + k) (300 * tn w + tn (S.2 8 (tn w))))]; exact om_aI (j := 9) (by decide) rfl _ f h) dX9_type_189 (q := 190) rfl ?_
                    refine vv_iinc hC (i := 5) (v := nI (k - 1)) (lv' := [(5, .int (nI (k - 1))), (0, .ref (ad 0)), (1, .int (nI (tn w))), (2, .int (nI (tn pp))), (3, .int x)]) 4 dX9_type_190 rfl (nI_decN (by omega)) (by decide) rfl (q := 193) rfl ?_
                    refine vv_goto hC (tgt := 156) dX9_type_193 (by decide) ?_
                    refine vv_lv [1, 2, 3, 4, 0] (lv' := [(0, .ref (ad 0)), (1, .int (nI (tn w))), (2, .int (nI (tn pp))), (3, .int x), (5, .int (nI (k - 1)))]) rfl ?_
                    refine vv_wq (P1 := PM cI cZ ad (sA (sA (sA (sA (sA (sS S 0 0) 1 (upd (S.2 1) (S.1 1) x)) 2 (upd (S.2 2) (S.1 1) (nI (tn w)))) 6 (upd (S.2 6) (S.1 1) (-1))) 3 (upd (S.2 3) (S.1 1) (if tn pp = 0 then -1 else S.2 9 (300 * tn w + tn pp - 1)))) 9 (shf (S.2 9) (300 * tn w + (k - 1)) (300 * tn w + tn (S.2 8 (tn w)))))) (fun f h => by rw [show 300 * tn w + (k - 1) = 300 * tn w + k - 1 by omega, ← shf_dn (by omega) (by omega)]; exact h) ?_
                    exact ih (k - 1) (by omega) (by omega) (by omega)
              refine vv_lv [1, 2, 3, 4, 0] (lv' := [(0, .ref (ad 0)), (1, .int (nI (tn w))), (2, .int (nI (tn pp))), (3, .int x), (5, .int (nI (tn (S.2 8 (tn w)))))]) rfl ?_
              refine vv_wq (P1 := PM cI cZ ad (sA (sA (sA (sA (sA (sS S 0 0) 1 (upd (S.2 1) (S.1 1) x)) 2 (upd (S.2 2) (S.1 1) (nI (tn w)))) 6 (upd (S.2 6) (S.1 1) (-1))) 3 (upd (S.2 3) (S.1 1) (if tn pp = 0 then -1 else S.2 9 (300 * tn w + tn pp - 1)))) 9 (shf (S.2 9) (300 * tn w + tn (S.2 8 (tn w))) (300 * tn w + tn (S.2 8 (tn w)))))) (fun f h => by rw [shf_id]; exact (sA_id (S := (sA (sA (sA (sA (sS S 0 0) 1 (upd (S.2 1) (S.1 1) x)) 2 (upd (S.2 2) (S.1 1) (nI (tn w)))) 6 (upd (S.2 6) (S.1 1) (-1))) 3 (upd (S.2 3) (S.1 1) (if tn pp = 0 then -1 else S.2 9 (300 * tn w + tn pp - 1))))) (i := 9)).symm ▸ h) ?_
              exact loop156 (300 + 1) (tn (S.2 8 (tn w))) (by omega) (by omega) (Nat.le_refl _)
            refine vv_iload_n hC 3 dX9_type_125 rfl rfl (q := 126) rfl ?_
            refine vv_ifN_ne hC (tgt := 133) (by omega) dX9_type_126 (by decide) (q := 129) rfl (fun h126 => ?_) (fun h126 => ?_)
            · skip
              refine vv_aload_n hC 1 dX9_type_133 rfl rfl (q := 134) rfl ?_
              refine vv_get hC hK (K := RX9) (T := TX9) (N := 35) (ci := 9) inwX9_type_X9 0 (by decide) (fs := fldM ad (sA (sA (sA (sS S 0 0) 1 (upd (S.2 1) (S.1 1) x)) 2 (upd (S.2 2) (S.1 1) (nI (tn w)))) 6 (upd (S.2 6) (S.1 1) (-1)))) om0 rfl 11 (by decide) (List.mem_of_getElem? (i := 7) rfl) rfl (v := .ref (ad 9)) rfl dX9_type_134 (q := 137) rfl ?_
              refine vv_sipush hC (v := nI 300) dX9_type_137 rfl (q := 140) rfl ?_
              refine vv_iload_n hC 2 dX9_type_140 rfl rfl (q := 141) rfl ?_
              refine vv_imulN hC dX9_type_141 (q := 142) rfl ?_
              refine vv_iload_n hC 3 dX9_type_142 rfl rfl (q := 143) rfl ?_
              refine vv_iaddN hC dX9_type_143 (q := 144) rfl ?_
              refine vv_iconst hC (v := nI 1) dX9_type_144 rfl (q := 145) rfl ?_
              refine vv_isubN hC (by omega) dX9_type_145 (q := 146) rfl ?_
              refine vv_ialdN (P := PM cI cZ ad (sA (sA (sA (sS S 0 0) 1 (upd (S.2 1) (S.1 1) x)) 2 (upd (S.2 2) (S.1 1) (nI (tn w)))) 6 (upd (S.2 6) (S.1 1) (-1)))) hC hK 9 (by decide) 0 (g := S.2 9) (omI (by decide) rfl) rfl (show ((300 * (tn w)) + (tn pp)) - 1 < 1800 from (by omega)) (by decide) dX9_type_146 (q := 147) rfl ?_
              refine vv_lv [1, 2, 3, 4] (lv' := [(0, .ref (ad 0)), (1, .int (nI (tn w))), (2, .int (nI (tn pp))), (3, .int x)]) rfl ?_
              exact vv_eqv (st' := [.int (if tn pp = 0 then -1 else S.2 9 (300 * tn w + tn pp - 1)), .int (nI (S.1 1)), .ref (ad 3)]) (by rw [if_neg h126]) join147
            · skip
              refine vv_iconst hC (v := (-1)) dX9_type_129 rfl (q := 130) rfl ?_
              refine vv_goto hC (tgt := 147) dX9_type_130 (by decide) ?_
              refine vv_lv [1, 2, 3, 4] (lv' := [(0, .ref (ad 0)), (1, .int (nI (tn w))), (2, .int (nI (tn pp))), (3, .int x)]) rfl ?_
              exact vv_eqv (st' := [.int (if tn pp = 0 then -1 else S.2 9 (300 * tn w + tn pp - 1)), .int (nI (S.1 1)), .ref (ad 3)]) (by rw [if_pos h126]) join147
          · skip
            refine vv_iconst hC (v := nI 3) dX9_type_74 rfl (q := 75) rfl ?_
            refine vv_goto hC (tgt := 79) dX9_type_75 (by decide) ?_
            refine vv_calli hC hK (fun _ h => h) (As := [.int (nI 3)]) 0 (by decide) or9 rfl (c9_goesWell l hJ S 3 (by decide)) (cwV 1 hC.2.2.2.2 gX9_type_X9_goesWell rfl rfl rfl hdX9_goesWell ⟨Nat.le_of_ble_eq_true rfl, Nat.le_of_ble_eq_true rfl⟩) rfl rfl (Nat.le_of_ble_eq_true rfl) ⟨Nat.le_of_ble_eq_true rfl, Nat.le_of_ble_eq_true rfl⟩ dX9_type_79 (q := 82) rfl ?_
            refine vv_eqv (st' := [.int (nI 0)]) rfl ?_
            refine vv_if_ne hC (tgt := 87) dX9_type_82 (by decide) (q := 85) rfl (fun h => absurd h (by decide)) (fun _ => ?_)
            refine vv_iconst hC (v := nI 0) dX9_type_85 rfl (q := 86) rfl ?_
            have hT : mtType S w pp x = 3 := by simp only [mtType, bI_1 h4, bI_1 h17, bI_1 h29, bI_1 h57, h71, Bool.false_eq_true, true_and, and_true, false_and, and_false, and_self, not_true, not_false_iff, if_true, if_false, reduceIte]
            exact vv_iret hC hK hr hlk (by rw [if_neg (by rw [hT]; decide)]; rfl) (fun f h => by rw [if_neg (by rw [hT]; decide)]; rw [hT]; exact h) dX9_type_86
        · skip
          refine vv_iconst hC (v := nI 2) dX9_type_60 rfl (q := 61) rfl ?_
          refine vv_goto hC (tgt := 79) dX9_type_61 (by decide) ?_
          refine vv_calli hC hK (fun _ h => h) (As := [.int (nI 2)]) 0 (by decide) or9 rfl (c9_goesWell l hJ S 2 (by decide)) (cwV 1 hC.2.2.2.2 gX9_type_X9_goesWell rfl rfl rfl hdX9_goesWell ⟨Nat.le_of_ble_eq_true rfl, Nat.le_of_ble_eq_true rfl⟩) rfl rfl (Nat.le_of_ble_eq_true rfl) ⟨Nat.le_of_ble_eq_true rfl, Nat.le_of_ble_eq_true rfl⟩ dX9_type_79 (q := 82) rfl ?_
          refine vv_eqv (st' := [.int (nI 0)]) rfl ?_
          refine vv_if_ne hC (tgt := 87) dX9_type_82 (by decide) (q := 85) rfl (fun h => absurd h (by decide)) (fun _ => ?_)
          refine vv_iconst hC (v := nI 0) dX9_type_85 rfl (q := 86) rfl ?_
          have hT : mtType S w pp x = 2 := by simp only [mtType, bI_1 h4, bI_1 h17, bI_1 h29, bI_0.mp h57, Bool.false_eq_true, true_and, and_true, false_and, and_false, and_self, not_true, not_false_iff, if_true, if_false, reduceIte]
          exact vv_iret hC hK hr hlk (by rw [if_neg (by rw [hT]; decide)]; rfl) (fun f h => by rw [if_neg (by rw [hT]; decide)]; rw [hT]; exact h) dX9_type_86
theorem inwX9_isCopyPlace_X9 : ∀ w ∈ wsX90, w ∈ wsX9_isCopyPlace := fun _ h => List.mem_cons_of_mem _ (List.mem_append_right _ h)
theorem hdX9_isCopyPlace : yX9_isCopyPlace.cls = RX9 ∧ yX9_isCopyPlace.cls ≠ "java/lang/invoke/MethodHandle" ∧ yX9_isCopyPlace.cls ≠ "java/lang/invoke/VarHandle" ∧ (parseMethodDescriptor yX9_isCopyPlace.desc).map (fun d => d.parameters.length) = some 2 := by decide +kernel
set_option maxRecDepth 100000 in
set_option maxHeartbeats 4000000 in
theorem c9_isCopyPlace (l : Launch) {D : va_G} {cI cW cZ cL : ClassId} {ad : Nat → Nat} (hJ : injA ad 27) (S : sM) (w pp : Int32)  : kMi l yX9_isCopyPlace wsX9_isCopyPlace ({ frames := 2, cells := 0, slots := 0, locals := 42 }) D vwCl (tyL cI cW cZ cL) ad 27 [.ref (ad 0), .int w, .int pp] (PM cI cZ ad S) (bI (inB w 0 5 && inB pp 0 (S.2 8 (tn w) - nI 1))) (PM cI cZ ad S) := by
  refine vv_enter (cc := cX9_isCopyPlace) (maxL := 3) (ret := (some .boolean)) (own := RX9) (lv := [(0, .ref (ad 0)), (1, .int w), (2, .int pp)]) (by decide +kernel) rfl rfl hJ (Nat.le_of_ble_eq_true rfl) rfl ?_
  intro p e s m args below meth c hC hK hW hr hlk
  refine vv_iload_n hC 1 dX9_isCopyPlace_0 rfl rfl (q := 1) rfl ?_
  refine vv_callsi hC hK (fun _ h => h) (As := [.int w]) (c9_isWriter l hJ S w) (va_cwS 1 hC.2.2.2.2 gX9_isCopyPlace_X9_isWriter rfl rfl rfl hsX9_isWriter ⟨Nat.le_of_ble_eq_true rfl, Nat.le_of_ble_eq_true rfl⟩) rfl rfl (Nat.le_of_ble_eq_true rfl) ⟨Nat.le_of_ble_eq_true rfl, Nat.le_of_ble_eq_true rfl⟩ dX9_isCopyPlace_1 (q := 4) rfl ?_
  refine vv_if_eq hC (tgt := 27) dX9_isCopyPlace_4 (by decide) (q := 7) rfl (fun h4 => ?_) (fun h4 => ?_)
  · skip
    refine vv_iconst hC (v := nI 0) dX9_isCopyPlace_27 rfl (q := 28) rfl ?_
    exact vv_zret hC hK hr hlk rfl (by rw [bI_0.mp h4]; rfl) (fun _ h => h) dX9_isCopyPlace_28
  · skip
    obtain ⟨hwn, hw5⟩ := inB_n (b := 5) (by decide) (bI_1 h4)
    refine vv_eql (lv' := [(0, .ref (ad 0)), (1, .int (nI (tn w))), (2, .int pp)]) (by rw [← hwn]) ?_
    refine vv_iload_n hC 2 dX9_isCopyPlace_7 rfl rfl (q := 8) rfl ?_
    refine vv_iconst hC (v := nI 0) dX9_isCopyPlace_8 rfl (q := 9) rfl ?_
    refine vv_aload_n hC 0 dX9_isCopyPlace_9 rfl rfl (q := 10) rfl ?_
    refine vv_get hC hK (K := RX9) (T := TX9) (N := 35) (ci := 9) inwX9_isCopyPlace_X9 0 (by decide) (fs := fldM ad S) om0 rfl 10 (by decide) (List.mem_of_getElem? (i := 1) rfl) rfl (v := .ref (ad 8)) rfl dX9_isCopyPlace_10 (q := 13) rfl ?_
    refine vv_iload_n hC 1 dX9_isCopyPlace_13 rfl rfl (q := 14) rfl ?_
    refine vv_ialdN (P := PM cI cZ ad S) hC hK 8 (by decide) 0 (g := S.2 8) (omI (by decide) rfl) rfl (show tn w < 6 from (by omega)) (by decide) dX9_isCopyPlace_14 (q := 15) rfl ?_
    refine vv_iconst hC (v := nI 1) dX9_isCopyPlace_15 rfl (q := 16) rfl ?_
    refine vv_isub hC dX9_isCopyPlace_16 (q := 17) rfl ?_
    refine vv_callsi hC hK (fun _ h => h) (As := [.int pp, .int (nI 0), .int ((S.2 8 (tn w)) - (nI 1))]) (c9_in l hJ S pp 0 ((S.2 8 (tn w)) - (nI 1))) (va_cwS 3 hC.2.2.2.2 gX9_isCopyPlace_X9_in rfl rfl rfl hsX9_in ⟨Nat.le_of_ble_eq_true rfl, Nat.le_of_ble_eq_true rfl⟩) rfl rfl (Nat.le_of_ble_eq_true rfl) ⟨Nat.le_of_ble_eq_true rfl, Nat.le_of_ble_eq_true rfl⟩ dX9_isCopyPlace_17 (q := 20) rfl ?_
    refine vv_if_eq hC (tgt := 27) dX9_isCopyPlace_20 (by decide) (q := 23) rfl (fun h20 => ?_) (fun h20 => ?_)
    · skip
      refine vv_iconst hC (v := nI 0) dX9_isCopyPlace_27 rfl (q := 28) rfl ?_
      exact vv_zret hC hK hr hlk rfl (by rw [bI_1 h4, bI_0.mp h20]; rfl) (fun _ h => h) dX9_isCopyPlace_28
    · skip
      refine vv_iconst hC (v := nI 1) dX9_isCopyPlace_23 rfl (q := 24) rfl ?_
      refine vv_goto hC (tgt := 28) dX9_isCopyPlace_24 (by decide) ?_
      exact vv_zret hC hK hr hlk rfl (by rw [bI_1 h4, bI_1 h20]; rfl) (fun _ h => h) dX9_isCopyPlace_28
theorem inwX9_delete_X9 : ∀ w ∈ wsX90, w ∈ wsX9_delete := fun _ h => List.mem_cons_of_mem _ (List.mem_append_right _ h)
theorem hdX9_delete : yX9_delete.cls = RX9 ∧ yX9_delete.cls ≠ "java/lang/invoke/MethodHandle" ∧ yX9_delete.cls ≠ "java/lang/invoke/VarHandle" ∧ (parseMethodDescriptor yX9_delete.desc).map (fun d => d.parameters.length) = some 2 := by decide +kernel
set_option maxRecDepth 100000 in
set_option maxHeartbeats 4000000 in
theorem c9_delete (l : Launch) {D : va_G} {cI cW cZ cL : ClassId} {ad : Nat → Nat} (hJ : injA ad 27) (S : sM) (w pp : Int32) (hI : IM S)  : kMi l yX9_delete wsX9_delete ({ frames := 3, cells := 0, slots := 0, locals := 64 }) D vwCl (tyL cI cW cZ cL) ad 27 [.ref (ad 0), .int w, .int pp] (PM cI cZ ad S) (if mtCp S w pp = 0 then S.2 9 (300 * tn w + tn pp) else 0) (PM cI cZ ad (if mtCp S w pp = 0 then msDel S (tn w) (tn pp) else sS S 0 1)) := by
  refine vv_enter (cc := cX9_delete) (maxL := 5) (ret := (some .int)) (own := RX9) (lv := [(0, .ref (ad 0)), (1, .int w), (2, .int pp)]) (by decide +kernel) rfl rfl hJ (Nat.le_of_ble_eq_true rfl) rfl ?_
  intro p e s m args below meth c hC hK hW hr hlk
  obtain ⟨iW, iR, iV, iI, iC, iK, iD, irow, ianc, iwr, icl, icc, irv⟩ := id hI
  refine vv_aload_n hC 0 dX9_delete_0 rfl rfl (q := 1) rfl ?_
  refine vv_aload_n hC 0 dX9_delete_1 rfl rfl (q := 2) rfl ?_
  refine vv_iload_n hC 1 dX9_delete_2 rfl rfl (q := 3) rfl ?_
  refine vv_iload_n hC 2 dX9_delete_3 rfl rfl (q := 4) rfl ?_
  refine vv_calli hC hK (fun _ h => h) (As := [.int w, .int pp]) 0 (by decide) or9 rfl (c9_isCopyPlace l hJ S w pp) (cwV 2 hC.2.2.2.2 gX9_delete_X9_isCopyPlace rfl rfl rfl hdX9_isCopyPlace ⟨Nat.le_of_ble_eq_true rfl, Nat.le_of_ble_eq_true rfl⟩) rfl rfl (Nat.le_of_ble_eq_true rfl) ⟨Nat.le_of_ble_eq_true rfl, Nat.le_of_ble_eq_true rfl⟩ dX9_delete_4 (q := 7) rfl ?_
  refine vv_if_eq hC (tgt := 14) dX9_delete_7 (by decide) (q := 10) rfl (fun h7 => ?_) (fun h7 => ?_)
  · skip
    refine vv_iconst hC (v := nI 1) dX9_delete_14 rfl (q := 15) rfl ?_
    refine vv_calli hC hK (fun _ h => h) (As := [.int (nI 1)]) 0 (by decide) or9 rfl (c9_goesWell l hJ S 1 (by decide)) (cwV 1 hC.2.2.2.2 gX9_delete_X9_goesWell rfl rfl rfl hdX9_goesWell ⟨Nat.le_of_ble_eq_true rfl, Nat.le_of_ble_eq_true rfl⟩) rfl rfl (Nat.le_of_ble_eq_true rfl) ⟨Nat.le_of_ble_eq_true rfl, Nat.le_of_ble_eq_true rfl⟩ dX9_delete_15 (q := 18) rfl ?_
    refine vv_eqv (st' := [.int (nI 0)]) rfl ?_
    refine vv_if_ne hC (tgt := 23) dX9_delete_18 (by decide) (q := 21) rfl (fun h => absurd h (by decide)) (fun _ => ?_)
    refine vv_iconst hC (v := nI 0) dX9_delete_21 rfl (q := 22) rfl ?_
    have hT : mtCp S w pp = 1 := by rw [mtCp, if_neg (fun hh => by rw [show (inB w 0 5 && inB pp 0 (S.2 8 (tn w) - nI 1)) = true by rw [hh.1, hh.2]; rfl] at h7; exact absurd h7 (by decide))]
    exact vv_iret hC hK hr hlk (by rw [if_neg (by rw [hT]; decide)]; rfl) (fun f h => by rw [if_neg (by rw [hT]; decide)]; exact h) dX9_delete_22
  · skip
    refine vv_iconst hC (v := nI 0) dX9_delete_10 rfl (q := 11) rfl ?_
    refine vv_goto hC (tgt := 15) dX9_delete_11 (by decide) ?_
    refine vv_calli hC hK (fun _ h => h) (As := [.int (nI 0)]) 0 (by decide) or9 rfl (c9_goesWell l hJ S 0 (by decide)) (cwV 1 hC.2.2.2.2 gX9_delete_X9_goesWell rfl rfl rfl hdX9_goesWell ⟨Nat.le_of_ble_eq_true rfl, Nat.le_of_ble_eq_true rfl⟩) rfl rfl (Nat.le_of_ble_eq_true rfl) ⟨Nat.le_of_ble_eq_true rfl, Nat.le_of_ble_eq_true rfl⟩ dX9_delete_15 (q := 18) rfl ?_
    refine vv_eqv (st' := [.int (nI 1)]) rfl ?_
    refine vv_if_ne hC (tgt := 23) dX9_delete_18 (by decide) (q := 21) rfl (fun _ => ?_) (fun h => absurd h (by decide))
    obtain ⟨hcw, hcq⟩ := (Bool.and_eq_true _ _ ▸ bI_1 h7 : inB w 0 5 = true ∧ inB pp 0 (S.2 8 (tn w) - nI 1) = true)
    obtain ⟨hwn, hw5⟩ := inB_n (b := 5) (by decide) hcw
    have hcl := (icl (tn w) (by omega)).2
    obtain ⟨hpn, hpl⟩ := inB_m1 (b := tn (S.2 8 (tn w))) (by omega) (by rw [← (icl _ (show tn w < 6 by omega)).1]; exact hcq)
    refine vv_eql (lv' := [(0, .ref (ad 0)), (1, .int (nI (tn w))), (2, .int (nI (tn pp)))]) (by rw [← hwn, ← hpn]) ?_
    refine vv_aload_n hC 0 dX9_delete_23 rfl rfl (q := 24) rfl ?_
    refine vv_get hC hK (K := RX9) (T := TX9) (N := 35) (ci := 9) inwX9_delete_X9 0 (by decide) (fs := fldM ad (sS S 0 0)) om0 rfl 11 (by decide) (List.mem_of_getElem? (i := 1) rfl) rfl (v := .ref (ad 9)) rfl dX9_delete_24 (q := 27) rfl ?_
    refine vv_sipush hC (v := nI 300) dX9_delete_27 rfl (q := 30) rfl ?_
    refine vv_iload_n hC 1 dX9_delete_30 rfl rfl (q := 31) rfl ?_
    refine vv_imulN hC dX9_delete_31 (q := 32) rfl ?_
    refine vv_iload_n hC 2 dX9_delete_32 rfl rfl (q := 33) rfl ?_
    refine vv_iaddN hC dX9_delete_33 (q := 34) rfl ?_
    refine vv_ialdN (P := PM cI cZ ad (sS S 0 0)) hC hK 9 (by decide) 0 (g := S.2 9) (omI (by decide) rfl) rfl (show (300 * (tn w)) + (tn pp) < 1800 from (by omega)) (by decide) dX9_delete_34 (q := 35) rfl ?_
    refine vv_istore_n hC (i := 3) (lv' := [(3, .int (S.2 9 ((300 * (tn w)) + (tn pp)))), (0, .ref (ad 0)), (1, .int (nI (tn w))), (2, .int (nI (tn pp)))]) dX9_delete_35 rfl (by decide) rfl (q := 36) rfl ?_
    refine vv_aload_n hC 1 dX9_delete_36 rfl rfl (q := 37) rfl ?_
    refine vv_get hC hK (K := RX9) (T := TX9) (N := 35) (ci := 9) inwX9_delete_X9 0 (by decide) (fs := fldM ad (sS S 0 0)) om0 rfl 10 (by decide) (List.mem_of_getElem? (i := 2) rfl) rfl (v := .ref (ad 8)) rfl dX9_delete_37 (q := 40) rfl ?_
    refine vv_iload_n hC 2 dX9_delete_40 rfl rfl (q := 41) rfl ?_
    refine vv_dup2 hC dX9_delete_41 rfl rfl (q := 42) rfl ?_
    refine vv_ialdN (P := PM cI cZ ad (sS S 0 0)) hC hK 8 (by decide) 0 (g := S.2 8) (omI (by decide) rfl) rfl (show tn w < 6 from (by omega)) (by decide) dX9_delete_42 (q := 43) rfl ?_
    refine vv_eqv (st' := [.int (nI (tn (S.2 8 (tn w)))), .int (nI (tn w)), .ref (ad 8)]) (by rw [← (icl (tn w) (by omega)).1]) ?_
    refine vv_iconst hC (v := nI 1) dX9_delete_43 rfl (q := 44) rfl ?_
    refine vv_isubN hC (by omega) dX9_delete_44 (q := 45) rfl ?_
    refine vv_iastN (P := PM cI cZ ad (sS S 0 0)) hC hK hW (P1 := PM cI cZ ad (sA (sS S 0 0) 8 (upd (S.2 8) (tn w) (nI ((tn (S.2 8 (tn w))) - 1))))) 8 (by decide) 0 (g := S.2 8) (omI (by decide) rfl) rfl (show tn w < 6 from (by omega)) (by decide) (om_aI (j := 8) (by decide) rfl _) dX9_delete_45 (q := 46) rfl ?_
    refine vv_iload_n hC 3 dX9_delete_46 rfl rfl (q := 47) rfl ?_
    refine vv_istore hC (i := 4) (lv' := [(4, .int (nI (tn pp))), (3, .int (S.2 9 ((300 * (tn w)) + (tn pp)))), (0, .ref (ad 0)), (1, .int (nI (tn w))), (2, .int (nI (tn pp)))]) dX9_delete_47 (by decide) rfl (q := 49) rfl ?_
    have loop49 : ∀ (fu : Nat) (k : Nat), tn (S.2 8 (tn w)) < k + fu → tn pp ≤ k → k ≤ tn (S.2 8 (tn w)) - 1 → vv p l e (headSpec wsX9_delete ({ frames := 3, cells := 0, slots := 0, locals := 64 })).room s m args below meth c 5 (RA ad 27) s.heap 0 0 (MQ below (va_Qi (fun r' (_ : Unit) => r' = (if mtCp S w pp = 0 then S.2 9 (300 * tn w + tn pp) else 0)) (fun _ => ws0 D vwCl (tyL cI cW cZ cL) ad 27 (PM cI cZ ad (if mtCp S w pp = 0 then msDel S (tn w) (tn pp) else sS S 0 1))) (RA ad 27)) args s 0 0 (RA ad 27)) (wq D vwCl ad 27 (PM cI cZ ad (sA (sA (sS S 0 0) 8 (upd (S.2 8) (tn w) (nI ((tn (S.2 8 (tn w))) - 1)))) 9 (shb (S.2 9) (300 * tn w + tn pp) (300 * tn w + k))))) 49 [(0, .ref (ad 0)), (1, .int (nI (tn w))), (2, .int (nI (tn pp))), (3, .int (S.2 9 (300 * tn w + tn pp))), (4, .int (nI k))] [] := by
      intro fu
      induction fu with
      | zero =>
        intro k hfu hk1 hk2
        exact absurd hfu (by omega)
      | succ fu ih =>
        intro k hfu hk1 hk2
        refine vv_iload hC 4 dX9_delete_49 rfl (q := 51) rfl ?_
        refine vv_aload_n hC 0 dX9_delete_51 rfl rfl (q := 52) rfl ?_
        refine vv_get hC hK (K := RX9) (T := TX9) (N := 35) (ci := 9) inwX9_delete_X9 0 (by decide) (fs := fldM ad (sA (sA (sS S 0 0) 8 (upd (S.2 8) (tn w) (nI ((tn (S.2 8 (tn w))) - 1)))) 9 (shb (S.2 9) (300 * tn w + tn pp) (300 * tn w + k)))) om0 rfl 10 (by decide) (List.mem_of_getElem? (i := 2) rfl) rfl (v := .ref (ad 8)) rfl dX9_delete_52 (q := 55) rfl ?_
        refine vv_iload_n hC 1 dX9_delete_55 rfl rfl (q := 56) rfl ?_
        refine vv_ialdN (P := PM cI cZ ad (sA (sA (sS S 0 0) 8 (upd (S.2 8) (tn w) (nI ((tn (S.2 8 (tn w))) - 1)))) 9 (shb (S.2 9) (300 * tn w + tn pp) (300 * tn w + k)))) hC hK 8 (by decide) 0 (g := upd (S.2 8) (tn w) (nI ((tn (S.2 8 (tn w))) - 1))) (omI (by decide) rfl) rfl (show tn w < 6 from (by omega)) (by decide) dX9_delete_56 (q := 57) rfl ?_
        refine vv_eqv (st' := [.int (nI (tn (S.2 8 (tn w)) - 1)), .int (nI k)]) (by simp [upd]) ?_
        refine vv_icmpN_ge hC (tgt := 94) (by omega) (by omega) dX9_delete_57 (by decide) (q := 60) rfl (fun h57 => ?_) (fun h57 => ?_)
        · skip
          obtain rfl : k = tn (S.2 8 (tn w)) - 1 := by omega
          refine vv_aload_n hC 0 dX9_delete_94 rfl rfl (q := 95) rfl ?_
          refine vv_iload_n hC 1 dX9_delete_95 rfl rfl (q := 96) rfl ?_
          refine vv_iload_n hC 3 dX9_delete_96 rfl rfl (q := 97) rfl ?_
          refine vv_ineg hC dX9_delete_97 (q := 98) rfl ?_
          refine vv_iconst hC (v := nI 1) dX9_delete_98 rfl (q := 99) rfl ?_
          refine vv_isub hC dX9_delete_99 (q := 100) rfl ?_
          refine vv_callv hC hK (fun _ h => h) (As := [.int (nI (tn w)), .int ((-(S.2 9 (300 * tn w + tn pp))) - (nI 1))]) 0 (by decide) or9 rfl (c9_addChange l hJ (sA (sA (sS S 0 0) 8 (upd (S.2 8) (tn w) (nI ((tn (S.2 8 (tn w))) - 1)))) 9 (shb (S.2 9) (300 * tn w + tn pp) (300 * tn w + (tn (S.2 8 (tn w)) - 1)))) (tn w) ((-(S.2 9 (300 * tn w + tn pp))) - (nI 1)) (by omega) (icc (tn w) (by omega))) (cwV 2 hC.2.2.2.2 gX9_delete_X9_addChange rfl rfl rfl hdX9_addChange ⟨Nat.le_of_ble_eq_true rfl, Nat.le_of_ble_eq_true rfl⟩) rfl rfl (Nat.le_of_ble_eq_true rfl) ⟨Nat.le_of_ble_eq_true rfl, Nat.le_of_ble_eq_true rfl⟩ dX9_delete_100 (q := 103) rfl ?_
          refine vv_iload_n hC 3 dX9_delete_103 rfl rfl (q := 104) rfl ?_
          have hT : mtCp S w pp = 0 := by rw [mtCp, if_pos ⟨hcw, hcq⟩]
          exact vv_iret hC hK hr hlk (by rw [if_pos hT]) (fun f h => by rw [if_pos hT]; exact h) dX9_delete_104
        · skip
          refine vv_aload_n hC 0 dX9_delete_60 rfl rfl (q := 61) rfl ?_
          refine vv_get hC hK (K := RX9) (T := TX9) (N := 35) (ci := 9) inwX9_delete_X9 0 (by decide) (fs := fldM ad (sA (sA (sS S 0 0) 8 (upd (S.2 8) (tn w) (nI ((tn (S.2 8 (tn w))) - 1)))) 9 (shb (S.2 9) (300 * tn w + tn pp) (300 * tn w + k)))) om0 rfl 11 (by decide) (List.mem_of_getElem? (i := 1) rfl) rfl (v := .ref (ad 9)) rfl dX9_delete_61 (q := 64) rfl ?_
          refine vv_sipush hC (v := nI 300) dX9_delete_64 rfl (q := 67) rfl ?_
          refine vv_iload_n hC 1 dX9_delete_67 rfl rfl (q := 68) rfl ?_
          refine vv_imulN hC dX9_delete_68 (q := 69) rfl ?_
          refine vv_iload hC 4 dX9_delete_69 rfl (q := 71) rfl ?_
          refine vv_iaddN hC dX9_delete_71 (q := 72) rfl ?_
          refine vv_aload_n hC 0 dX9_delete_72 rfl rfl (q := 73) rfl ?_
          refine vv_get hC hK (K := RX9) (T := TX9) (N := 35) (ci := 9) inwX9_delete_X9 0 (by decide) (fs := fldM ad (sA (sA (sS S 0 0) 8 (upd (S.2 8) (tn w) (nI ((tn (S.2 8 (tn w))) - 1)))) 9 (shb (S.2 9) (300 * tn w + tn pp) (300 * tn w + k)))) om0 rfl 11 (by decide) (List.mem_of_getElem? (i := 1) rfl) rfl (v := .ref (ad 9)) rfl dX9_delete_73 (q := 76) rfl ?_
          refine vv_sipush hC (v := nI 300) dX9_delete_76 rfl (q := 79) rfl ?_
          refine vv_iload_n hC 1 dX9_delete_79 rfl rfl (q := 80) rfl ?_
          refine vv_imulN hC dX9_delete_80 (q := 81) rfl ?_
          refine vv_iload hC 4 dX9_delete_81 rfl (q := 83) rfl ?_
          refine vv_iaddN hC dX9_delete_83 (q := 84) rfl ?_
          refine vv_iconst hC (v := nI 1) dX9_delete_84 rfl (q := 85) rfl ?_
          refine vv_iaddN hC dX9_delete_85 (q := 86) rfl ?_
          refine vv_ialdN (P := PM cI cZ ad (sA (sA (sS S 0 0) 8 (upd (S.2 8) (tn w) (nI ((tn (S.2 8 (tn w))) - 1)))) 9 (shb (S.2 9) (300 * tn w + tn pp) (300 * tn w + k)))) hC hK 9 (by decide) 0 (g := shb (S.2 9) (300 * tn w + tn pp) (300 * tn w + k)) (omI (by decide) rfl) rfl (show ((300 * (tn w)) + k) + 1 < 1800 from (by omega)) (by decide) dX9_delete_86 (q := 87) rfl ?_
          refine vv_iastN (P := PM cI cZ ad (sA (sA (sS S 0 0) 8 (upd (S.2 8) (tn w) (nI ((tn (S.2 8 (tn w))) - 1)))) 9 (shb (S.2 9) (300 * tn w + tn pp) (300 * tn w + k)))) hC hK hW (P1 := PM cI cZ ad (sA (sA (sS S 0 0) 8 (upd (S.2 8) (tn w) (nI ((tn (S.2 8 (tn w))) - 1)))) 9 (upd (shb (S.2 9) (300 * tn w + tn pp) (300 * tn w + k)) ((300 * (tn w)) + k) ((shb (S.2 9) (300 * tn w + tn pp) (300 * tn w + k)) (((300 * (tn w)) + k) + 1))))) 9 (by decide) 0 (g := shb (S.2 9) (300 * tn w + tn pp) (300 * tn w + k)) (omI (by decide) rfl) rfl (show (300 * (tn w)) + k < 1800 from (by omega)) (by decide) (fun f h => by rw [← sA_sA (g := shb (S.2 9) (300 * tn w + tn pp) (300 * tn w + k))]; exact om_aI (j := 9) (by decide) rfl _ f h) dX9_delete_87 (q := 88) rfl ?_
          refine vv_iinc hC (i := 4) (v := nI (k + 1)) (lv' := [(4, .int (nI (k + 1))), (0, .ref (ad 0)), (1, .int (nI (tn w))), (2, .int (nI (tn pp))), (3, .int (S.2 9 (300 * tn w + tn pp)))]) 4 dX9_delete_88 rfl (nI_1 k) (by decide) rfl (q := 91) rfl ?_
          refine vv_goto hC (tgt := 49) dX9_delete_91 (by decide) ?_
          refine vv_lv [1, 2, 3, 4, 0] (lv' := [(0, .ref (ad 0)), (1, .int (nI (tn w))), (2, .int (nI (tn pp))), (3, .int (S.2 9 (300 * tn w + tn pp))), (4, .int (nI (k + 1)))]) rfl ?_
          refine vv_wq (P1 := PM cI cZ ad (sA (sA (sS S 0 0) 8 (upd (S.2 8) (tn w) (nI ((tn (S.2 8 (tn w))) - 1)))) 9 (shb (S.2 9) (300 * tn w + tn pp) (300 * tn w + (k + 1))))) (fun f h => by rw [show 300 * tn w + (k + 1) = 300 * tn w + k + 1 by omega, ← shb_up (by omega)]; exact h) ?_
          exact ih (k + 1) (by omega) (by omega) (by omega)
    refine vv_lv [2, 3, 4, 1, 0] (lv' := [(0, .ref (ad 0)), (1, .int (nI (tn w))), (2, .int (nI (tn pp))), (3, .int (S.2 9 ((300 * (tn w)) + (tn pp)))), (4, .int (nI (tn pp)))]) rfl ?_
    refine vv_wq (P1 := PM cI cZ ad (sA (sA (sS S 0 0) 8 (upd (S.2 8) (tn w) (nI ((tn (S.2 8 (tn w))) - 1)))) 9 (shb (S.2 9) (300 * tn w + tn pp) (300 * tn w + tn pp)))) (fun f h => by rw [shb_id]; exact (sA_id (S := (sA (sS S 0 0) 8 (upd (S.2 8) (tn w) (nI ((tn (S.2 8 (tn w))) - 1))))) (i := 9)).symm ▸ h) ?_
    exact loop49 (300 + 1) (tn pp) (by omega) (Nat.le_refl _) (by omega)
theorem inwX9_copyAt_X9 : ∀ w ∈ wsX90, w ∈ wsX9_copyAt := fun _ h => List.mem_cons_of_mem _ (List.mem_append_right _ h)
theorem hdX9_copyAt : yX9_copyAt.cls = RX9 ∧ yX9_copyAt.cls ≠ "java/lang/invoke/MethodHandle" ∧ yX9_copyAt.cls ≠ "java/lang/invoke/VarHandle" ∧ (parseMethodDescriptor yX9_copyAt.desc).map (fun d => d.parameters.length) = some 2 := by decide +kernel
set_option maxRecDepth 100000 in
set_option maxHeartbeats 4000000 in
theorem c9_copyAt (l : Launch) {D : va_G} {cI cW cZ cL : ClassId} {ad : Nat → Nat} (hJ : injA ad 27) (S : sM) (w pp : Int32) (hI : IM S)  : kMi l yX9_copyAt wsX9_copyAt ({ frames := 3, cells := 0, slots := 0, locals := 64 }) D vwCl (tyL cI cW cZ cL) ad 27 [.ref (ad 0), .int w, .int pp] (PM cI cZ ad S) (if mtCp S w pp = 0 then S.2 9 (300 * tn w + tn pp) else 0) (PM cI cZ ad (if mtCp S w pp = 0 then sS S 0 0 else sS S 0 1)) := by
  refine vv_enter (cc := cX9_copyAt) (maxL := 3) (ret := (some .int)) (own := RX9) (lv := [(0, .ref (ad 0)), (1, .int w), (2, .int pp)]) (by decide +kernel) rfl rfl hJ (Nat.le_of_ble_eq_true rfl) rfl ?_
  intro p e s m args below meth c hC hK hW hr hlk
  obtain ⟨iW, iR, iV, iI, iC, iK, iD, irow, ianc, iwr, icl, icc, irv⟩ := id hI
  refine vv_aload_n hC 0 dX9_copyAt_0 rfl rfl (q := 1) rfl ?_
  refine vv_aload_n hC 0 dX9_copyAt_1 rfl rfl (q := 2) rfl ?_
  refine vv_iload_n hC 1 dX9_copyAt_2 rfl rfl (q := 3) rfl ?_
  refine vv_iload_n hC 2 dX9_copyAt_3 rfl rfl (q := 4) rfl ?_
  refine vv_calli hC hK (fun _ h => h) (As := [.int w, .int pp]) 0 (by decide) or9 rfl (c9_isCopyPlace l hJ S w pp) (cwV 2 hC.2.2.2.2 gX9_copyAt_X9_isCopyPlace rfl rfl rfl hdX9_isCopyPlace ⟨Nat.le_of_ble_eq_true rfl, Nat.le_of_ble_eq_true rfl⟩) rfl rfl (Nat.le_of_ble_eq_true rfl) ⟨Nat.le_of_ble_eq_true rfl, Nat.le_of_ble_eq_true rfl⟩ dX9_copyAt_4 (q := 7) rfl ?_
  refine vv_if_eq hC (tgt := 14) dX9_copyAt_7 (by decide) (q := 10) rfl (fun h7 => ?_) (fun h7 => ?_)
  · skip
    refine vv_iconst hC (v := nI 1) dX9_copyAt_14 rfl (q := 15) rfl ?_
    refine vv_calli hC hK (fun _ h => h) (As := [.int (nI 1)]) 0 (by decide) or9 rfl (c9_goesWell l hJ S 1 (by decide)) (cwV 1 hC.2.2.2.2 gX9_copyAt_X9_goesWell rfl rfl rfl hdX9_goesWell ⟨Nat.le_of_ble_eq_true rfl, Nat.le_of_ble_eq_true rfl⟩) rfl rfl (Nat.le_of_ble_eq_true rfl) ⟨Nat.le_of_ble_eq_true rfl, Nat.le_of_ble_eq_true rfl⟩ dX9_copyAt_15 (q := 18) rfl ?_
    refine vv_eqv (st' := [.int (nI 0)]) rfl ?_
    refine vv_if_eq hC (tgt := 36) dX9_copyAt_18 (by decide) (q := 21) rfl (fun _ => ?_) (fun h => absurd h (by decide))
    refine vv_iconst hC (v := nI 0) dX9_copyAt_36 rfl (q := 37) rfl ?_
    have hT : mtCp S w pp = 1 := by rw [mtCp, if_neg (fun hh => by rw [show (inB w 0 5 && inB pp 0 (S.2 8 (tn w) - nI 1)) = true by rw [hh.1, hh.2]; rfl] at h7; exact absurd h7 (by decide))]
    exact vv_iret hC hK hr hlk (by rw [if_neg (by rw [hT]; decide)]; rfl) (fun f h => by rw [if_neg (by rw [hT]; decide)]; exact h) dX9_copyAt_37
  · skip
    refine vv_iconst hC (v := nI 0) dX9_copyAt_10 rfl (q := 11) rfl ?_
    refine vv_goto hC (tgt := 15) dX9_copyAt_11 (by decide) ?_
    refine vv_calli hC hK (fun _ h => h) (As := [.int (nI 0)]) 0 (by decide) or9 rfl (c9_goesWell l hJ S 0 (by decide)) (cwV 1 hC.2.2.2.2 gX9_copyAt_X9_goesWell rfl rfl rfl hdX9_goesWell ⟨Nat.le_of_ble_eq_true rfl, Nat.le_of_ble_eq_true rfl⟩) rfl rfl (Nat.le_of_ble_eq_true rfl) ⟨Nat.le_of_ble_eq_true rfl, Nat.le_of_ble_eq_true rfl⟩ dX9_copyAt_15 (q := 18) rfl ?_
    refine vv_eqv (st' := [.int (nI 1)]) rfl ?_
    refine vv_if_eq hC (tgt := 36) dX9_copyAt_18 (by decide) (q := 21) rfl (fun h => absurd h (by decide)) (fun _ => ?_)
    obtain ⟨hcw, hcq⟩ := (Bool.and_eq_true _ _ ▸ bI_1 h7 : inB w 0 5 = true ∧ inB pp 0 (S.2 8 (tn w) - nI 1) = true)
    obtain ⟨hwn, hw5⟩ := inB_n (b := 5) (by decide) hcw
    have hcl := (icl (tn w) (by omega)).2
    obtain ⟨hpn, hpl⟩ := inB_m1 (b := tn (S.2 8 (tn w))) (by omega) (by rw [← (icl _ (show tn w < 6 by omega)).1]; exact hcq)
    refine vv_eql (lv' := [(0, .ref (ad 0)), (1, .int (nI (tn w))), (2, .int (nI (tn pp)))]) (by rw [← hwn, ← hpn]) ?_
    refine vv_aload_n hC 0 dX9_copyAt_21 rfl rfl (q := 22) rfl ?_
    refine vv_get hC hK (K := RX9) (T := TX9) (N := 35) (ci := 9) inwX9_copyAt_X9 0 (by decide) (fs := fldM ad (sS S 0 0)) om0 rfl 11 (by decide) (List.mem_of_getElem? (i := 1) rfl) rfl (v := .ref (ad 9)) rfl dX9_copyAt_22 (q := 25) rfl ?_
    refine vv_sipush hC (v := nI 300) dX9_copyAt_25 rfl (q := 28) rfl ?_
    refine vv_iload_n hC 1 dX9_copyAt_28 rfl rfl (q := 29) rfl ?_
    refine vv_imulN hC dX9_copyAt_29 (q := 30) rfl ?_
    refine vv_iload_n hC 2 dX9_copyAt_30 rfl rfl (q := 31) rfl ?_
    refine vv_iaddN hC dX9_copyAt_31 (q := 32) rfl ?_
    refine vv_ialdN (P := PM cI cZ ad (sS S 0 0)) hC hK 9 (by decide) 0 (g := S.2 9) (omI (by decide) rfl) rfl (show (300 * (tn w)) + (tn pp) < 1800 from (by omega)) (by decide) dX9_copyAt_32 (q := 33) rfl ?_
    refine vv_goto hC (tgt := 37) dX9_copyAt_33 (by decide) ?_
    have hT : mtCp S w pp = 0 := by rw [mtCp, if_pos ⟨hcw, hcq⟩]
    exact vv_iret hC hK hr hlk (by rw [if_pos hT]) (fun f h => by rw [if_pos hT]; exact h) dX9_copyAt_37
theorem inwX9_copy_X9 : ∀ w ∈ wsX90, w ∈ wsX9_copy := fun _ h => List.mem_cons_of_mem _ (List.mem_append_right _ h)
theorem hdX9_copy : yX9_copy.cls = RX9 ∧ yX9_copy.cls ≠ "java/lang/invoke/MethodHandle" ∧ yX9_copy.cls ≠ "java/lang/invoke/VarHandle" ∧ (parseMethodDescriptor yX9_copy.desc).map (fun d => d.parameters.length) = some 1 := by decide +kernel
set_option maxRecDepth 100000 in
set_option maxHeartbeats 4000000 in
theorem c9_copy (l : Launch) {D : va_G} {cI cW cZ cL : ClassId} {ad : Nat → Nat} (hJ : injA ad 27) (S : sM) (w : Int32)  : kMi l yX9_copy wsX9_copy ({ frames := 2, cells := 0, slots := 0, locals := 42 }) D vwCl (tyL cI cW cZ cL) ad 27 [.ref (ad 0), .int w] (PM cI cZ ad S) (if mtW w = 0 then S.2 8 (tn w) else 0) (PM cI cZ ad (if mtW w = 0 then sS S 0 0 else sS S 0 (mtW w))) := by
  refine vv_enter (cc := cX9_copy) (maxL := 2) (ret := (some .int)) (own := RX9) (lv := [(0, .ref (ad 0)), (1, .int w)]) (by decide +kernel) rfl rfl hJ (Nat.le_of_ble_eq_true rfl) rfl ?_
  intro p e s m args below meth c hC hK hW hr hlk
  refine vv_aload_n hC 0 dX9_copy_0 rfl rfl (q := 1) rfl ?_
  refine vv_iload_n hC 1 dX9_copy_1 rfl rfl (q := 2) rfl ?_
  refine vv_callsi hC hK (fun _ h => h) (As := [.int w]) (c9_isWriter l hJ S w) (va_cwS 1 hC.2.2.2.2 gX9_copy_X9_isWriter rfl rfl rfl hsX9_isWriter ⟨Nat.le_of_ble_eq_true rfl, Nat.le_of_ble_eq_true rfl⟩) rfl rfl (Nat.le_of_ble_eq_true rfl) ⟨Nat.le_of_ble_eq_true rfl, Nat.le_of_ble_eq_true rfl⟩ dX9_copy_2 (q := 5) rfl ?_
  refine vv_if_eq hC (tgt := 12) dX9_copy_5 (by decide) (q := 8) rfl (fun h5 => ?_) (fun h5 => ?_)
  · skip
    refine vv_iconst hC (v := nI 1) dX9_copy_12 rfl (q := 13) rfl ?_
    refine vv_calli hC hK (fun _ h => h) (As := [.int (nI 1)]) 0 (by decide) or9 rfl (c9_goesWell l hJ S 1 (by decide)) (cwV 1 hC.2.2.2.2 gX9_copy_X9_goesWell rfl rfl rfl hdX9_goesWell ⟨Nat.le_of_ble_eq_true rfl, Nat.le_of_ble_eq_true rfl⟩) rfl rfl (Nat.le_of_ble_eq_true rfl) ⟨Nat.le_of_ble_eq_true rfl, Nat.le_of_ble_eq_true rfl⟩ dX9_copy_13 (q := 16) rfl ?_
    refine vv_eqv (st' := [.int (nI 0)]) rfl ?_
    refine vv_if_eq hC (tgt := 28) dX9_copy_16 (by decide) (q := 19) rfl (fun _ => ?_) (fun h => absurd h (by decide))
    refine vv_iconst hC (v := nI 0) dX9_copy_28 rfl (q := 29) rfl ?_
    have hT : mtW w = 1 := by simp only [mtW, bI_0.mp h5, Bool.false_eq_true, true_and, and_true, false_and, and_false, and_self, not_true, not_false_iff, if_true, if_false, reduceIte]
    exact vv_iret hC hK hr hlk (by rw [if_neg (by rw [hT]; decide)]; rfl) (fun f h => by rw [if_neg (by rw [hT]; decide)]; rw [hT]; exact h) dX9_copy_29
  · skip
    refine vv_iconst hC (v := nI 0) dX9_copy_8 rfl (q := 9) rfl ?_
    refine vv_goto hC (tgt := 13) dX9_copy_9 (by decide) ?_
    refine vv_calli hC hK (fun _ h => h) (As := [.int (nI 0)]) 0 (by decide) or9 rfl (c9_goesWell l hJ S 0 (by decide)) (cwV 1 hC.2.2.2.2 gX9_copy_X9_goesWell rfl rfl rfl hdX9_goesWell ⟨Nat.le_of_ble_eq_true rfl, Nat.le_of_ble_eq_true rfl⟩) rfl rfl (Nat.le_of_ble_eq_true rfl) ⟨Nat.le_of_ble_eq_true rfl, Nat.le_of_ble_eq_true rfl⟩ dX9_copy_13 (q := 16) rfl ?_
    refine vv_eqv (st' := [.int (nI 1)]) rfl ?_
    refine vv_if_eq hC (tgt := 28) dX9_copy_16 (by decide) (q := 19) rfl (fun h => absurd h (by decide)) (fun _ => ?_)
    obtain ⟨hwn, hw5⟩ := inB_n (b := 5) (by decide) (bI_1 h5)
    refine vv_eql (lv' := [(0, .ref (ad 0)), (1, .int (nI (tn w)))]) (by rw [← hwn]) ?_
    refine vv_aload_n hC 0 dX9_copy_19 rfl rfl (q := 20) rfl ?_
    refine vv_get hC hK (K := RX9) (T := TX9) (N := 35) (ci := 9) inwX9_copy_X9 0 (by decide) (fs := fldM ad (sS S 0 0)) om0 rfl 10 (by decide) (List.mem_of_getElem? (i := 1) rfl) rfl (v := .ref (ad 8)) rfl dX9_copy_20 (q := 23) rfl ?_
    refine vv_iload_n hC 1 dX9_copy_23 rfl rfl (q := 24) rfl ?_
    refine vv_ialdN (P := PM cI cZ ad (sS S 0 0)) hC hK 8 (by decide) 0 (g := S.2 8) (omI (by decide) rfl) rfl (show tn w < 6 from (by omega)) (by decide) dX9_copy_24 (q := 25) rfl ?_
    refine vv_goto hC (tgt := 29) dX9_copy_25 (by decide) ?_
    have hT : mtW w = 0 := by simp only [mtW, bI_1 h5, Bool.false_eq_true, true_and, and_true, false_and, and_false, and_self, not_true, not_false_iff, if_true, if_false, reduceIte]
    exact vv_iret hC hK hr hlk (by rw [if_pos hT]) (fun f h => by rw [if_pos hT]; exact h) dX9_copy_29
theorem inwX9_changes_X9 : ∀ w ∈ wsX90, w ∈ wsX9_changes := fun _ h => List.mem_cons_of_mem _ (List.mem_append_right _ h)
theorem hdX9_changes : yX9_changes.cls = RX9 ∧ yX9_changes.cls ≠ "java/lang/invoke/MethodHandle" ∧ yX9_changes.cls ≠ "java/lang/invoke/VarHandle" ∧ (parseMethodDescriptor yX9_changes.desc).map (fun d => d.parameters.length) = some 1 := by decide +kernel
set_option maxRecDepth 100000 in
set_option maxHeartbeats 4000000 in
theorem c9_changes (l : Launch) {D : va_G} {cI cW cZ cL : ClassId} {ad : Nat → Nat} (hJ : injA ad 27) (S : sM) (w : Int32)  : kMi l yX9_changes wsX9_changes ({ frames := 2, cells := 0, slots := 0, locals := 42 }) D vwCl (tyL cI cW cZ cL) ad 27 [.ref (ad 0), .int w] (PM cI cZ ad S) (if mtW w = 0 then S.2 10 (tn w) else 0) (PM cI cZ ad (if mtW w = 0 then sS S 0 0 else sS S 0 (mtW w))) := by
  refine vv_enter (cc := cX9_changes) (maxL := 2) (ret := (some .int)) (own := RX9) (lv := [(0, .ref (ad 0)), (1, .int w)]) (by decide +kernel) rfl rfl hJ (Nat.le_of_ble_eq_true rfl) rfl ?_
  intro p e s m args below meth c hC hK hW hr hlk
  refine vv_aload_n hC 0 dX9_changes_0 rfl rfl (q := 1) rfl ?_
  refine vv_iload_n hC 1 dX9_changes_1 rfl rfl (q := 2) rfl ?_
  refine vv_callsi hC hK (fun _ h => h) (As := [.int w]) (c9_isWriter l hJ S w) (va_cwS 1 hC.2.2.2.2 gX9_changes_X9_isWriter rfl rfl rfl hsX9_isWriter ⟨Nat.le_of_ble_eq_true rfl, Nat.le_of_ble_eq_true rfl⟩) rfl rfl (Nat.le_of_ble_eq_true rfl) ⟨Nat.le_of_ble_eq_true rfl, Nat.le_of_ble_eq_true rfl⟩ dX9_changes_2 (q := 5) rfl ?_
  refine vv_if_eq hC (tgt := 12) dX9_changes_5 (by decide) (q := 8) rfl (fun h5 => ?_) (fun h5 => ?_)
  · skip
    refine vv_iconst hC (v := nI 1) dX9_changes_12 rfl (q := 13) rfl ?_
    refine vv_calli hC hK (fun _ h => h) (As := [.int (nI 1)]) 0 (by decide) or9 rfl (c9_goesWell l hJ S 1 (by decide)) (cwV 1 hC.2.2.2.2 gX9_changes_X9_goesWell rfl rfl rfl hdX9_goesWell ⟨Nat.le_of_ble_eq_true rfl, Nat.le_of_ble_eq_true rfl⟩) rfl rfl (Nat.le_of_ble_eq_true rfl) ⟨Nat.le_of_ble_eq_true rfl, Nat.le_of_ble_eq_true rfl⟩ dX9_changes_13 (q := 16) rfl ?_
    refine vv_eqv (st' := [.int (nI 0)]) rfl ?_
    refine vv_if_eq hC (tgt := 28) dX9_changes_16 (by decide) (q := 19) rfl (fun _ => ?_) (fun h => absurd h (by decide))
    refine vv_iconst hC (v := nI 0) dX9_changes_28 rfl (q := 29) rfl ?_
    have hT : mtW w = 1 := by simp only [mtW, bI_0.mp h5, Bool.false_eq_true, true_and, and_true, false_and, and_false, and_self, not_true, not_false_iff, if_true, if_false, reduceIte]
    exact vv_iret hC hK hr hlk (by rw [if_neg (by rw [hT]; decide)]; rfl) (fun f h => by rw [if_neg (by rw [hT]; decide)]; rw [hT]; exact h) dX9_changes_29
  · skip
    refine vv_iconst hC (v := nI 0) dX9_changes_8 rfl (q := 9) rfl ?_
    refine vv_goto hC (tgt := 13) dX9_changes_9 (by decide) ?_
    refine vv_calli hC hK (fun _ h => h) (As := [.int (nI 0)]) 0 (by decide) or9 rfl (c9_goesWell l hJ S 0 (by decide)) (cwV 1 hC.2.2.2.2 gX9_changes_X9_goesWell rfl rfl rfl hdX9_goesWell ⟨Nat.le_of_ble_eq_true rfl, Nat.le_of_ble_eq_true rfl⟩) rfl rfl (Nat.le_of_ble_eq_true rfl) ⟨Nat.le_of_ble_eq_true rfl, Nat.le_of_ble_eq_true rfl⟩ dX9_changes_13 (q := 16) rfl ?_
    refine vv_eqv (st' := [.int (nI 1)]) rfl ?_
    refine vv_if_eq hC (tgt := 28) dX9_changes_16 (by decide) (q := 19) rfl (fun h => absurd h (by decide)) (fun _ => ?_)
    obtain ⟨hwn, hw5⟩ := inB_n (b := 5) (by decide) (bI_1 h5)
    refine vv_eql (lv' := [(0, .ref (ad 0)), (1, .int (nI (tn w)))]) (by rw [← hwn]) ?_
    refine vv_aload_n hC 0 dX9_changes_19 rfl rfl (q := 20) rfl ?_
    refine vv_get hC hK (K := RX9) (T := TX9) (N := 35) (ci := 9) inwX9_changes_X9 0 (by decide) (fs := fldM ad (sS S 0 0)) om0 rfl 12 (by decide) (List.mem_of_getElem? (i := 1) rfl) rfl (v := .ref (ad 10)) rfl dX9_changes_20 (q := 23) rfl ?_
    refine vv_iload_n hC 1 dX9_changes_23 rfl rfl (q := 24) rfl ?_
    refine vv_ialdN (P := PM cI cZ ad (sS S 0 0)) hC hK 10 (by decide) 0 (g := S.2 10) (omI (by decide) rfl) rfl (show tn w < 6 from (by omega)) (by decide) dX9_changes_24 (q := 25) rfl ?_
    refine vv_goto hC (tgt := 29) dX9_changes_25 (by decide) ?_
    have hT : mtW w = 0 := by simp only [mtW, bI_1 h5, Bool.false_eq_true, true_and, and_true, false_and, and_false, and_self, not_true, not_false_iff, if_true, if_false, reduceIte]
    exact vv_iret hC hK hr hlk (by rw [if_pos hT]) (fun f h => by rw [if_pos hT]; exact h) dX9_changes_29
theorem inwX9_royalties_X9 : ∀ w ∈ wsX90, w ∈ wsX9_royalties := fun _ h => List.mem_cons_of_mem _ (List.mem_append_right _ h)
theorem hdX9_royalties : yX9_royalties.cls = RX9 ∧ yX9_royalties.cls ≠ "java/lang/invoke/MethodHandle" ∧ yX9_royalties.cls ≠ "java/lang/invoke/VarHandle" ∧ (parseMethodDescriptor yX9_royalties.desc).map (fun d => d.parameters.length) = some 1 := by decide +kernel
set_option maxRecDepth 100000 in
set_option maxHeartbeats 4000000 in
theorem c9_royalties (l : Launch) {D : va_G} {cI cW cZ cL : ClassId} {ad : Nat → Nat} (hJ : injA ad 27) (S : sM) (w : Int32)  : kMi l yX9_royalties wsX9_royalties ({ frames := 2, cells := 0, slots := 0, locals := 42 }) D vwCl (tyL cI cW cZ cL) ad 27 [.ref (ad 0), .int w] (PM cI cZ ad S) (if mtW w = 0 then S.2 12 (tn w) else 0) (PM cI cZ ad (if mtW w = 0 then sS S 0 0 else sS S 0 (mtW w))) := by
  refine vv_enter (cc := cX9_royalties) (maxL := 2) (ret := (some .int)) (own := RX9) (lv := [(0, .ref (ad 0)), (1, .int w)]) (by decide +kernel) rfl rfl hJ (Nat.le_of_ble_eq_true rfl) rfl ?_
  intro p e s m args below meth c hC hK hW hr hlk
  refine vv_aload_n hC 0 dX9_royalties_0 rfl rfl (q := 1) rfl ?_
  refine vv_iload_n hC 1 dX9_royalties_1 rfl rfl (q := 2) rfl ?_
  refine vv_callsi hC hK (fun _ h => h) (As := [.int w]) (c9_isWriter l hJ S w) (va_cwS 1 hC.2.2.2.2 gX9_royalties_X9_isWriter rfl rfl rfl hsX9_isWriter ⟨Nat.le_of_ble_eq_true rfl, Nat.le_of_ble_eq_true rfl⟩) rfl rfl (Nat.le_of_ble_eq_true rfl) ⟨Nat.le_of_ble_eq_true rfl, Nat.le_of_ble_eq_true rfl⟩ dX9_royalties_2 (q := 5) rfl ?_
  refine vv_if_eq hC (tgt := 12) dX9_royalties_5 (by decide) (q := 8) rfl (fun h5 => ?_) (fun h5 => ?_)
  · skip
    refine vv_iconst hC (v := nI 1) dX9_royalties_12 rfl (q := 13) rfl ?_
    refine vv_calli hC hK (fun _ h => h) (As := [.int (nI 1)]) 0 (by decide) or9 rfl (c9_goesWell l hJ S 1 (by decide)) (cwV 1 hC.2.2.2.2 gX9_royalties_X9_goesWell rfl rfl rfl hdX9_goesWell ⟨Nat.le_of_ble_eq_true rfl, Nat.le_of_ble_eq_true rfl⟩) rfl rfl (Nat.le_of_ble_eq_true rfl) ⟨Nat.le_of_ble_eq_true rfl, Nat.le_of_ble_eq_true rfl⟩ dX9_royalties_13 (q := 16) rfl ?_
    refine vv_eqv (st' := [.int (nI 0)]) rfl ?_
    refine vv_if_eq hC (tgt := 28) dX9_royalties_16 (by decide) (q := 19) rfl (fun _ => ?_) (fun h => absurd h (by decide))
    refine vv_iconst hC (v := nI 0) dX9_royalties_28 rfl (q := 29) rfl ?_
    have hT : mtW w = 1 := by simp only [mtW, bI_0.mp h5, Bool.false_eq_true, true_and, and_true, false_and, and_false, and_self, not_true, not_false_iff, if_true, if_false, reduceIte]
    exact vv_iret hC hK hr hlk (by rw [if_neg (by rw [hT]; decide)]; rfl) (fun f h => by rw [if_neg (by rw [hT]; decide)]; rw [hT]; exact h) dX9_royalties_29
  · skip
    refine vv_iconst hC (v := nI 0) dX9_royalties_8 rfl (q := 9) rfl ?_
    refine vv_goto hC (tgt := 13) dX9_royalties_9 (by decide) ?_
    refine vv_calli hC hK (fun _ h => h) (As := [.int (nI 0)]) 0 (by decide) or9 rfl (c9_goesWell l hJ S 0 (by decide)) (cwV 1 hC.2.2.2.2 gX9_royalties_X9_goesWell rfl rfl rfl hdX9_goesWell ⟨Nat.le_of_ble_eq_true rfl, Nat.le_of_ble_eq_true rfl⟩) rfl rfl (Nat.le_of_ble_eq_true rfl) ⟨Nat.le_of_ble_eq_true rfl, Nat.le_of_ble_eq_true rfl⟩ dX9_royalties_13 (q := 16) rfl ?_
    refine vv_eqv (st' := [.int (nI 1)]) rfl ?_
    refine vv_if_eq hC (tgt := 28) dX9_royalties_16 (by decide) (q := 19) rfl (fun h => absurd h (by decide)) (fun _ => ?_)
    obtain ⟨hwn, hw5⟩ := inB_n (b := 5) (by decide) (bI_1 h5)
    refine vv_eql (lv' := [(0, .ref (ad 0)), (1, .int (nI (tn w)))]) (by rw [← hwn]) ?_
    refine vv_aload_n hC 0 dX9_royalties_19 rfl rfl (q := 20) rfl ?_
    refine vv_get hC hK (K := RX9) (T := TX9) (N := 35) (ci := 9) inwX9_royalties_X9 0 (by decide) (fs := fldM ad (sS S 0 0)) om0 rfl 14 (by decide) (List.mem_of_getElem? (i := 1) rfl) rfl (v := .ref (ad 12)) rfl dX9_royalties_20 (q := 23) rfl ?_
    refine vv_iload_n hC 1 dX9_royalties_23 rfl rfl (q := 24) rfl ?_
    refine vv_ialdN (P := PM cI cZ ad (sS S 0 0)) hC hK 12 (by decide) 0 (g := S.2 12) (omI (by decide) rfl) rfl (show tn w < 6 from (by omega)) (by decide) dX9_royalties_24 (q := 25) rfl ?_
    refine vv_goto hC (tgt := 29) dX9_royalties_25 (by decide) ?_
    have hT : mtW w = 0 := by simp only [mtW, bI_1 h5, Bool.false_eq_true, true_and, and_true, false_and, and_false, and_self, not_true, not_false_iff, if_true, if_false, reduceIte]
    exact vv_iret hC hK hr hlk (by rw [if_pos hT]) (fun f h => by rw [if_pos hT]; exact h) dX9_royalties_29
theorem inwX9_nearest_X9 : ∀ w ∈ wsX90, w ∈ wsX9_nearest := fun _ h => List.mem_cons_of_mem _ (List.mem_append_right _ h)
theorem hdX9_nearest : yX9_nearest.cls = RX9 ∧ yX9_nearest.cls ≠ "java/lang/invoke/MethodHandle" ∧ yX9_nearest.cls ≠ "java/lang/invoke/VarHandle" ∧ (parseMethodDescriptor yX9_nearest.desc).map (fun d => d.parameters.length) = some 2 := by decide +kernel
set_option maxRecDepth 100000 in
set_option maxHeartbeats 4000000 in
theorem c9_nearestL (l : Launch) {D : va_G} {cI cW cZ cL : ClassId} {ad : Nat → Nat} (hJ : injA ad 27) (S : sM) (a : Nat) (ha : a ≤ S.1 8) (hI : IM S)  : kMi l yX9_nearest wsX9_nearest ({ frames := 0, cells := 0, slots := 0, locals := 0 }) D vwCl (tyL cI cW cZ cL) ad 27 [.ref (ad 0), .int (nI a - 1), .int (-1)] (PM cI cZ ad S) (mNearL S a) (PM cI cZ ad S) := by
  refine vv_enter (cc := cX9_nearest) (maxL := 4) (ret := (some .int)) (own := RX9) (lv := [(0, .ref (ad 0)), (1, .int (nI a - 1)), (2, .int (-1))]) (by decide +kernel) rfl rfl hJ (Nat.le_of_ble_eq_true rfl) rfl ?_
  intro p e s m args below meth c hC hK hW hr hlk
  obtain ⟨iW, iR, iV, iI, iC, iK, iD, irow, ianc, iwr, icl, icc, irv⟩ := id hI
  refine vv_iload_n hC 1 dX9_nearest_0 rfl rfl (q := 1) rfl ?_
  refine vv_istore_n hC (i := 3) (lv' := [(3, .int (nI a - 1)), (0, .ref (ad 0)), (1, .int (nI a - 1)), (2, .int (-1))]) dX9_nearest_1 rfl (by decide) rfl (q := 2) rfl ?_
  have loop2 : ∀ (fu : Nat) (k : Nat), k < fu → k ≤ a → mNearL S k = mNearL S a → vv p l e (headSpec wsX9_nearest ({ frames := 0, cells := 0, slots := 0, locals := 0 })).room s m args below meth c 4 (RA ad 27) s.heap 0 0 (MQ below (va_Qi (fun r' (_ : Unit) => r' = (mNearL S a)) (fun _ => ws0 D vwCl (tyL cI cW cZ cL) ad 27 (PM cI cZ ad S)) (RA ad 27)) args s 0 0 (RA ad 27)) (wq D vwCl ad 27 (PM cI cZ ad S)) 2 [(0, .ref (ad 0)), (1, .int (nI a - 1)), (2, .int (-1)), (3, .int (nI k - 1))] [] := by
    intro fu
    induction fu with
    | zero =>
      intro k hfu hk hres
      exact absurd hfu (Nat.not_lt_zero _)
    | succ fu ih =>
      intro k hfu hk hres
      refine vv_iload_n hC 3 dX9_nearest_2 rfl rfl (q := 3) rfl ?_
      refine vv_if_lt hC (tgt := 42) dX9_nearest_3 (by decide) (q := 6) rfl (fun h3 => ?_) (fun h3 => ?_)
      · skip
        refine vv_iconst hC (v := (-1)) dX9_nearest_42 rfl (q := 43) rfl ?_
        exact vv_iret hC hK hr hlk (by obtain rfl := nI_m1_s (by omega) h3; rw [← hres]; rfl) (fun _ h => h) dX9_nearest_43
      · skip
        obtain ⟨k2, rfl⟩ := nI_m1_0 h3
        have e2 := nI_pred k2
        refine vv_eql (lv' := [(0, .ref (ad 0)), (1, .int (nI a - 1)), (2, .int (-1)), (3, .int (nI k2))]) (by rw [e2]) ?_
        refine vv_iload_n hC 3 dX9_nearest_6 rfl rfl (q := 7) rfl ?_
        refine vv_aload_n hC 0 dX9_nearest_7 rfl rfl (q := 8) rfl ?_
        refine vv_get hC hK (K := RX9) (T := TX9) (N := 35) (ci := 9) inwX9_nearest_X9 0 (by decide) (fs := fldM ad S) om0 rfl 8 (by decide) (List.mem_of_getElem? (i := 1) rfl) rfl (v := .int (nI (S.1 8))) rfl dX9_nearest_8 (q := 11) rfl ?_
        refine vv_icmpN_ge hC (tgt := 42) (by omega) (by omega) dX9_nearest_11 (by decide) (q := 14) rfl (fun h11 => ?_) (fun h11 => ?_)
        · skip
          exact absurd h11 (by omega)
        · skip
          refine vv_aload_n hC 0 dX9_nearest_14 rfl rfl (q := 15) rfl ?_
          refine vv_get hC hK (K := RX9) (T := TX9) (N := 35) (ci := 9) inwX9_nearest_X9 0 (by decide) (fs := fldM ad S) om0 rfl 6 (by decide) (List.mem_of_getElem? (i := 2) rfl) rfl (v := .ref (ad 5)) rfl dX9_nearest_15 (q := 18) rfl ?_
          refine vv_aload_n hC 0 dX9_nearest_18 rfl rfl (q := 19) rfl ?_
          refine vv_get hC hK (K := RX9) (T := TX9) (N := 35) (ci := 9) inwX9_nearest_X9 0 (by decide) (fs := fldM ad S) om0 rfl 9 (by decide) (List.mem_of_getElem? (i := 3) rfl) rfl (v := .ref (ad 7)) rfl dX9_nearest_19 (q := 22) rfl ?_
          refine vv_iload_n hC 3 dX9_nearest_22 rfl rfl (q := 23) rfl ?_
          refine vv_ialdN (P := PM cI cZ ad S) hC hK 7 (by decide) 0 (g := S.2 7) (omI (by decide) rfl) rfl (show k2 < 300 from (by omega)) (by decide) dX9_nearest_23 (q := 24) rfl ?_
          refine vv_eqv (st' := [.int (nI (tn (S.2 7 k2))), .ref (ad 5)]) (by rw [← (irow k2 (by omega)).1]) ?_
          refine vv_zaldN (P := PM cI cZ ad S) hC hK 5 (by decide) 2 (g := S.2 5) (omZ (by decide) rfl) rfl (show tn (S.2 7 k2) < 300 from (by have := (irow k2 (by omega)).2; omega)) (by decide) dX9_nearest_24 (q := 25) rfl ?_
          refine vv_if_eq hC (tgt := 35) dX9_nearest_25 (by decide) (q := 28) rfl (fun h25 => ?_) (fun h25 => ?_)
          · skip
            refine vv_iload_n hC 3 dX9_nearest_35 rfl rfl (q := 36) rfl ?_
            refine vv_iload_n hC 2 dX9_nearest_36 rfl rfl (q := 37) rfl ?_
            refine vv_iadd hC dX9_nearest_37 (q := 38) rfl ?_
            refine vv_istore_n hC (i := 3) (lv' := [(3, .int ((nI k2) + (-1))), (0, .ref (ad 0)), (1, .int (nI a - 1)), (2, .int (-1))]) dX9_nearest_38 rfl (by decide) rfl (q := 39) rfl ?_
            refine vv_goto hC (tgt := 2) dX9_nearest_39 (by decide) ?_
            refine vv_lv [1, 2, 3, 0] (lv' := [(0, .ref (ad 0)), (1, .int (nI a - 1)), (2, .int (-1)), (3, .int ((nI k2) + (-1)))]) rfl ?_
            exact vv_eql (by rw [← Int32.sub_eq_add_neg]) (ih k2 (by omega) (by omega) (by rw [← hres, mNearL, if_pos h25]))
          · skip
            refine vv_aload_n hC 0 dX9_nearest_28 rfl rfl (q := 29) rfl ?_
            refine vv_get hC hK (K := RX9) (T := TX9) (N := 35) (ci := 9) inwX9_nearest_X9 0 (by decide) (fs := fldM ad S) om0 rfl 9 (by decide) (List.mem_of_getElem? (i := 3) rfl) rfl (v := .ref (ad 7)) rfl dX9_nearest_29 (q := 32) rfl ?_
            refine vv_iload_n hC 3 dX9_nearest_32 rfl rfl (q := 33) rfl ?_
            refine vv_ialdN (P := PM cI cZ ad S) hC hK 7 (by decide) 0 (g := S.2 7) (omI (by decide) rfl) rfl (show k2 < 300 from (by omega)) (by decide) dX9_nearest_33 (q := 34) rfl ?_
            refine vv_eqv (st' := [.int (nI (tn (S.2 7 k2)))]) (by rw [← (irow k2 (by omega)).1]) ?_
            exact vv_iret hC hK hr hlk (by rw [← hres, mNearL, if_neg h25, ← (irow _ (by omega)).1]) (fun _ h => h) dX9_nearest_34
  refine vv_lv [1, 2, 3, 0] (lv' := [(0, .ref (ad 0)), (1, .int (nI a - 1)), (2, .int (-1)), (3, .int (nI a - 1))]) rfl ?_
  exact loop2 (a + 1) a (Nat.lt_succ_self _) (Nat.le_refl _) rfl
set_option maxRecDepth 100000 in
set_option maxHeartbeats 4000000 in
theorem c9_nearestR (l : Launch) {D : va_G} {cI cW cZ cL : ClassId} {ad : Nat → Nat} (hJ : injA ad 27) (S : sM) (a : Nat) (ha : a ≤ S.1 8) (hI : IM S)  : kMi l yX9_nearest wsX9_nearest ({ frames := 0, cells := 0, slots := 0, locals := 0 }) D vwCl (tyL cI cW cZ cL) ad 27 [.ref (ad 0), .int (nI a), .int (nI 1)] (PM cI cZ ad S) (mNearR S 301 a) (PM cI cZ ad S) := by
  refine vv_enter (cc := cX9_nearest) (maxL := 4) (ret := (some .int)) (own := RX9) (lv := [(0, .ref (ad 0)), (1, .int (nI a)), (2, .int (nI 1))]) (by decide +kernel) rfl rfl hJ (Nat.le_of_ble_eq_true rfl) rfl ?_
  intro p e s m args below meth c hC hK hW hr hlk
  obtain ⟨iW, iR, iV, iI, iC, iK, iD, irow, ianc, iwr, icl, icc, irv⟩ := id hI
  refine vv_iload_n hC 1 dX9_nearest_0 rfl rfl (q := 1) rfl ?_
  refine vv_istore_n hC (i := 3) (lv' := [(3, .int (nI a)), (0, .ref (ad 0)), (1, .int (nI a)), (2, .int (nI 1))]) dX9_nearest_1 rfl (by decide) rfl (q := 2) rfl ?_
  have loop2 : ∀ (fu : Nat) (k : Nat) (r : Nat), r < fu → S.1 8 < k + r → k ≤ S.1 8 → mNearR S r k = mNearR S 301 a → vv p l e (headSpec wsX9_nearest ({ frames := 0, cells := 0, slots := 0, locals := 0 })).room s m args below meth c 4 (RA ad 27) s.heap 0 0 (MQ below (va_Qi (fun r' (_ : Unit) => r' = (mNearR S 301 a)) (fun _ => ws0 D vwCl (tyL cI cW cZ cL) ad 27 (PM cI cZ ad S)) (RA ad 27)) args s 0 0 (RA ad 27)) (wq D vwCl ad 27 (PM cI cZ ad S)) 2 [(0, .ref (ad 0)), (1, .int (nI a)), (2, .int (nI 1)), (3, .int (nI k))] [] := by
    intro fu
    induction fu with
    | zero =>
      intro k r hfu hrr hk hres
      exact absurd hfu (Nat.not_lt_zero _)
    | succ fu ih =>
      intro k r hfu hrr hk hres
      refine vv_iload_n hC 3 dX9_nearest_2 rfl rfl (q := 3) rfl ?_
      refine vv_ifN_lt hC (tgt := 42) (by omega) dX9_nearest_3 (by decide) (q := 6) rfl ?_
      refine vv_iload_n hC 3 dX9_nearest_6 rfl rfl (q := 7) rfl ?_
      refine vv_aload_n hC 0 dX9_nearest_7 rfl rfl (q := 8) rfl ?_
      refine vv_get hC hK (K := RX9) (T := TX9) (N := 35) (ci := 9) inwX9_nearest_X9 0 (by decide) (fs := fldM ad S) om0 rfl 8 (by decide) (List.mem_of_getElem? (i := 1) rfl) rfl (v := .int (nI (S.1 8))) rfl dX9_nearest_8 (q := 11) rfl ?_
      refine vv_icmpN_ge hC (tgt := 42) (by omega) (by omega) dX9_nearest_11 (by decide) (q := 14) rfl (fun h11 => ?_) (fun h11 => ?_)
      · skip
        refine vv_iconst hC (v := (-1)) dX9_nearest_42 rfl (q := 43) rfl ?_
        exact vv_iret hC hK hr hlk (by rw [← hres]; cases r with | zero => rfl | succ r => rw [mNearR, if_neg (by omega)]) (fun _ h => h) dX9_nearest_43
      · skip
        obtain ⟨r, rfl⟩ : ∃ r2, r = r2 + 1 := ⟨r - 1, by omega⟩
        refine vv_aload_n hC 0 dX9_nearest_14 rfl rfl (q := 15) rfl ?_
        refine vv_get hC hK (K := RX9) (T := TX9) (N := 35) (ci := 9) inwX9_nearest_X9 0 (by decide) (fs := fldM ad S) om0 rfl 6 (by decide) (List.mem_of_getElem? (i := 2) rfl) rfl (v := .ref (ad 5)) rfl dX9_nearest_15 (q := 18) rfl ?_
        refine vv_aload_n hC 0 dX9_nearest_18 rfl rfl (q := 19) rfl ?_
        refine vv_get hC hK (K := RX9) (T := TX9) (N := 35) (ci := 9) inwX9_nearest_X9 0 (by decide) (fs := fldM ad S) om0 rfl 9 (by decide) (List.mem_of_getElem? (i := 3) rfl) rfl (v := .ref (ad 7)) rfl dX9_nearest_19 (q := 22) rfl ?_
        refine vv_iload_n hC 3 dX9_nearest_22 rfl rfl (q := 23) rfl ?_
        refine vv_ialdN (P := PM cI cZ ad S) hC hK 7 (by decide) 0 (g := S.2 7) (omI (by decide) rfl) rfl (show k < 300 from (by omega)) (by decide) dX9_nearest_23 (q := 24) rfl ?_
        refine vv_eqv (st' := [.int (nI (tn (S.2 7 k))), .ref (ad 5)]) (by rw [← (irow k (by omega)).1]) ?_
        refine vv_zaldN (P := PM cI cZ ad S) hC hK 5 (by decide) 2 (g := S.2 5) (omZ (by decide) rfl) rfl (show tn (S.2 7 k) < 300 from (by have := (irow k (by omega)).2; omega)) (by decide) dX9_nearest_24 (q := 25) rfl ?_
        refine vv_if_eq hC (tgt := 35) dX9_nearest_25 (by decide) (q := 28) rfl (fun h25 => ?_) (fun h25 => ?_)
        · skip
          refine vv_iload_n hC 3 dX9_nearest_35 rfl rfl (q := 36) rfl ?_
          refine vv_iload_n hC 2 dX9_nearest_36 rfl rfl (q := 37) rfl ?_
          refine vv_iaddN hC dX9_nearest_37 (q := 38) rfl ?_
          refine vv_istore_n hC (i := 3) (lv' := [(3, .int (nI (k + 1))), (0, .ref (ad 0)), (1, .int (nI a)), (2, .int (nI 1))]) dX9_nearest_38 rfl (by decide) rfl (q := 39) rfl ?_
          refine vv_goto hC (tgt := 2) dX9_nearest_39 (by decide) ?_
          refine vv_lv [1, 2, 3, 0] (lv' := [(0, .ref (ad 0)), (1, .int (nI a)), (2, .int (nI 1)), (3, .int (nI (k + 1)))]) rfl ?_
          exact ih (k + 1) r (by omega) (by omega) (by omega) (by rw [← hres, mNearR, if_pos (by omega), if_pos h25])
        · skip
          refine vv_aload_n hC 0 dX9_nearest_28 rfl rfl (q := 29) rfl ?_
          refine vv_get hC hK (K := RX9) (T := TX9) (N := 35) (ci := 9) inwX9_nearest_X9 0 (by decide) (fs := fldM ad S) om0 rfl 9 (by decide) (List.mem_of_getElem? (i := 3) rfl) rfl (v := .ref (ad 7)) rfl dX9_nearest_29 (q := 32) rfl ?_
          refine vv_iload_n hC 3 dX9_nearest_32 rfl rfl (q := 33) rfl ?_
          refine vv_ialdN (P := PM cI cZ ad S) hC hK 7 (by decide) 0 (g := S.2 7) (omI (by decide) rfl) rfl (show k < 300 from (by omega)) (by decide) dX9_nearest_33 (q := 34) rfl ?_
          refine vv_eqv (st' := [.int (nI (tn (S.2 7 k)))]) (by rw [← (irow k (by omega)).1]) ?_
          exact vv_iret hC hK hr hlk (by rw [← hres, mNearR, if_pos (by omega), if_neg h25, ← (irow _ (by omega)).1]) (fun _ h => h) dX9_nearest_34
  refine vv_lv [1, 2, 3, 0] (lv' := [(0, .ref (ad 0)), (1, .int (nI a)), (2, .int (nI 1)), (3, .int (nI a))]) rfl ?_
  exact loop2 302 a 301 (Nat.lt_succ_self _) (by omega) ha rfl
theorem inwX9_indexOf_X9 : ∀ w ∈ wsX90, w ∈ wsX9_indexOf := fun _ h => List.mem_cons_of_mem _ (List.mem_append_right _ h)
theorem hdX9_indexOf : yX9_indexOf.cls = RX9 ∧ yX9_indexOf.cls ≠ "java/lang/invoke/MethodHandle" ∧ yX9_indexOf.cls ≠ "java/lang/invoke/VarHandle" ∧ (parseMethodDescriptor yX9_indexOf.desc).map (fun d => d.parameters.length) = some 1 := by decide +kernel
set_option maxRecDepth 100000 in
set_option maxHeartbeats 4000000 in
theorem c9_indexOf (l : Launch) {D : va_G} {cI cW cZ cL : ClassId} {ad : Nat → Nat} (hJ : injA ad 27) (S : sM) (n : Int32) (hI : IM S)  : kMi l yX9_indexOf wsX9_indexOf ({ frames := 0, cells := 0, slots := 0, locals := 0 }) D vwCl (tyL cI cW cZ cL) ad 27 [.ref (ad 0), .int n] (PM cI cZ ad S) (mIdx S n) (PM cI cZ ad S) := by
  refine vv_enter (cc := cX9_indexOf) (maxL := 4) (ret := (some .int)) (own := RX9) (lv := [(0, .ref (ad 0)), (1, .int n)]) (by decide +kernel) rfl rfl hJ (Nat.le_of_ble_eq_true rfl) rfl ?_
  intro p e s m args below meth c hC hK hW hr hlk
  obtain ⟨iW, iR, iV, iI, iC, iK, iD, irow, ianc, iwr, icl, icc, irv⟩ := id hI
  refine vv_iconst hC (v := (-1)) dX9_indexOf_0 rfl (q := 1) rfl ?_
  refine vv_istore_n hC (i := 2) (lv' := [(2, .int (-1)), (0, .ref (ad 0)), (1, .int n)]) dX9_indexOf_1 rfl (by decide) rfl (q := 2) rfl ?_
  refine vv_iconst hC (v := nI 0) dX9_indexOf_2 rfl (q := 3) rfl ?_
  refine vv_istore_n hC (i := 3) (lv' := [(3, .int (nI 0)), (2, .int (-1)), (0, .ref (ad 0)), (1, .int n)]) dX9_indexOf_3 rfl (by decide) rfl (q := 4) rfl ?_
  have loop4 : ∀ (fu : Nat) (k : Nat), S.1 8 < k + fu → k ≤ S.1 8 → vv p l e (headSpec wsX9_indexOf ({ frames := 0, cells := 0, slots := 0, locals := 0 })).room s m args below meth c 4 (RA ad 27) s.heap 0 0 (MQ below (va_Qi (fun r' (_ : Unit) => r' = (mIdx S n)) (fun _ => ws0 D vwCl (tyL cI cW cZ cL) ad 27 (PM cI cZ ad S)) (RA ad 27)) args s 0 0 (RA ad 27)) (wq D vwCl ad 27 (PM cI cZ ad S)) 4 [(0, .ref (ad 0)), (1, .int n), (2, .int (mIdxF S n k)), (3, .int (nI k))] [] := by
    intro fu
    induction fu with
    | zero =>
      intro k hfu hk
      exact absurd hfu (by omega)
    | succ fu ih =>
      intro k hfu hk
      refine vv_iload_n hC 3 dX9_indexOf_4 rfl rfl (q := 5) rfl ?_
      refine vv_aload_n hC 0 dX9_indexOf_5 rfl rfl (q := 6) rfl ?_
      refine vv_get hC hK (K := RX9) (T := TX9) (N := 35) (ci := 9) inwX9_indexOf_X9 0 (by decide) (fs := fldM ad S) om0 rfl 8 (by decide) (List.mem_of_getElem? (i := 1) rfl) rfl (v := .int (nI (S.1 8))) rfl dX9_indexOf_6 (q := 9) rfl ?_
      refine vv_icmpN_ge hC (tgt := 34) (by omega) (by omega) dX9_indexOf_9 (by decide) (q := 12) rfl (fun h9 => ?_) (fun h9 => ?_)
      · skip
        refine vv_iload_n hC 2 dX9_indexOf_34 rfl rfl (q := 35) rfl ?_
        exact vv_iret hC hK hr hlk (by obtain rfl : k = S.1 8 := (by omega); rfl) (fun _ h => h) dX9_indexOf_35
      · skip
        refine vv_aload_n hC 0 dX9_indexOf_12 rfl rfl (q := 13) rfl ?_
        refine vv_get hC hK (K := RX9) (T := TX9) (N := 35) (ci := 9) inwX9_indexOf_X9 0 (by decide) (fs := fldM ad S) om0 rfl 9 (by decide) (List.mem_of_getElem? (i := 2) rfl) rfl (v := .ref (ad 7)) rfl dX9_indexOf_13 (q := 16) rfl ?_
        refine vv_iload_n hC 3 dX9_indexOf_16 rfl rfl (q := 17) rfl ?_
        refine vv_ialdN (P := PM cI cZ ad S) hC hK 7 (by decide) 0 (g := S.2 7) (omI (by decide) rfl) rfl (show k < 300 from (by omega)) (by decide) dX9_indexOf_17 (q := 18) rfl ?_
        refine vv_iload_n hC 1 dX9_indexOf_18 rfl rfl (q := 19) rfl ?_
        refine vv_icmp_ne hC (tgt := 26) dX9_indexOf_19 (by decide) (q := 22) rfl (fun h19 => ?_) (fun h19 => ?_)
        · skip
          refine vv_iload_n hC 2 dX9_indexOf_26 rfl rfl (q := 27) rfl ?_
          refine vv_istore_n hC (i := 2) (lv' := [(2, .int (mIdxF S n k)), (0, .ref (ad 0)), (1, .int n), (3, .int (nI k))]) dX9_indexOf_27 rfl (by decide) rfl (q := 28) rfl ?_
          refine vv_iinc hC (i := 3) (v := nI (k + 1)) (lv' := [(3, .int (nI (k + 1))), (2, .int (mIdxF S n k)), (0, .ref (ad 0)), (1, .int n)]) 3 dX9_indexOf_28 rfl (nI_1 k) (by decide) rfl (q := 31) rfl ?_
          refine vv_goto hC (tgt := 4) dX9_indexOf_31 (by decide) ?_
          refine vv_lv [2, 3, 1, 0] (lv' := [(0, .ref (ad 0)), (1, .int n), (2, .int (mIdxF S n k)), (3, .int (nI (k + 1)))]) rfl ?_
          exact vv_eql (by rw [show mIdxF S n (k + 1) = if S.2 7 k = n then nI k else mIdxF S n k from rfl, if_neg h19]) (ih (k + 1) (by omega) (by omega))
        · skip
          refine vv_iload_n hC 3 dX9_indexOf_22 rfl rfl (q := 23) rfl ?_
          refine vv_goto hC (tgt := 27) dX9_indexOf_23 (by decide) ?_
          refine vv_istore_n hC (i := 2) (lv' := [(2, .int (nI k)), (0, .ref (ad 0)), (1, .int n), (3, .int (nI k))]) dX9_indexOf_27 rfl (by decide) rfl (q := 28) rfl ?_
          refine vv_iinc hC (i := 3) (v := nI (k + 1)) (lv' := [(3, .int (nI (k + 1))), (2, .int (nI k)), (0, .ref (ad 0)), (1, .int n)]) 3 dX9_indexOf_28 rfl (nI_1 k) (by decide) rfl (q := 31) rfl ?_
          refine vv_goto hC (tgt := 4) dX9_indexOf_31 (by decide) ?_
          refine vv_lv [2, 3, 1, 0] (lv' := [(0, .ref (ad 0)), (1, .int n), (2, .int (nI k)), (3, .int (nI (k + 1)))]) rfl ?_
          exact vv_eql (by rw [show mIdxF S n (k + 1) = if S.2 7 k = n then nI k else mIdxF S n k from rfl, if_pos h19]) (ih (k + 1) (by omega) (by omega))
  refine vv_lv [2, 3, 1, 0] (lv' := [(0, .ref (ad 0)), (1, .int n), (2, .int (-1)), (3, .int (nI 0))]) rfl ?_
  exact loop4 301 0 (by omega) (Nat.zero_le _)
theorem inwX9_takeOut_X9 : ∀ w ∈ wsX90, w ∈ wsX9_takeOut := fun _ h => List.mem_cons_of_mem _ (List.mem_append_right _ h)
theorem hdX9_takeOut : yX9_takeOut.cls = RX9 ∧ yX9_takeOut.cls ≠ "java/lang/invoke/MethodHandle" ∧ yX9_takeOut.cls ≠ "java/lang/invoke/VarHandle" ∧ (parseMethodDescriptor yX9_takeOut.desc).map (fun d => d.parameters.length) = some 1 := by decide +kernel
set_option maxRecDepth 100000 in
set_option maxHeartbeats 4000000 in
theorem c9_takeOut (l : Launch) {D : va_G} {cI cW cZ cL : ClassId} {ad : Nat → Nat} (hJ : injA ad 27) (S : sM) (n : Nat) (hI : IM S) (hn : n < S.1 1)  : kMi l yX9_takeOut wsX9_takeOut ({ frames := 0, cells := 0, slots := 0, locals := 0 }) D vwCl (tyL cI cW cZ cL) ad 27 [.ref (ad 0), .int (nI n)] (PM cI cZ ad S) (bI (decide (S.2 5 n = 0) || decide (S.2 6 n = -1))) (PM cI cZ ad (if S.2 5 n = 0 then S else mTakeS S n)) := by
  refine vv_enter (cc := cX9_takeOut) (maxL := 2) (ret := (some .boolean)) (own := RX9) (lv := [(0, .ref (ad 0)), (1, .int (nI n))]) (by decide +kernel) rfl rfl hJ (Nat.le_of_ble_eq_true rfl) rfl ?_
  intro p e s m args below meth c hC hK hW hr hlk
  obtain ⟨iW, iR, iV, iI, iC, iK, iD, irow, ianc, iwr, icl, icc, irv⟩ := id hI
  refine vv_aload_n hC 0 dX9_takeOut_0 rfl rfl (q := 1) rfl ?_
  refine vv_get hC hK (K := RX9) (T := TX9) (N := 35) (ci := 9) inwX9_takeOut_X9 0 (by decide) (fs := fldM ad S) om0 rfl 6 (by decide) (List.mem_of_getElem? (i := 1) rfl) rfl (v := .ref (ad 5)) rfl dX9_takeOut_1 (q := 4) rfl ?_
  refine vv_iload_n hC 1 dX9_takeOut_4 rfl rfl (q := 5) rfl ?_
  refine vv_zaldN (P := PM cI cZ ad S) hC hK 5 (by decide) 2 (g := S.2 5) (omZ (by decide) rfl) rfl (show n < 300 from (by omega)) (by decide) dX9_takeOut_5 (q := 6) rfl ?_
  refine vv_if_ne hC (tgt := 11) dX9_takeOut_6 (by decide) (q := 9) rfl (fun h6 => ?_) (fun h6 => ?_)
  · skip
    refine vv_aload_n hC 0 dX9_takeOut_11 rfl rfl (q := 12) rfl ?_
    refine vv_get hC hK (K := RX9) (T := TX9) (N := 35) (ci := 9) inwX9_takeOut_X9 0 (by decide) (fs := fldM ad S) om0 rfl 6 (by decide) (List.mem_of_getElem? (i := 1) rfl) rfl (v := .ref (ad 5)) rfl dX9_takeOut_12 (q := 15) rfl ?_
    refine vv_iload_n hC 1 dX9_takeOut_15 rfl rfl (q := 16) rfl ?_
    refine vv_aload_n hC 0 dX9_takeOut_16 rfl rfl (q := 17) rfl ?_
    refine vv_get hC hK (K := RX9) (T := TX9) (N := 35) (ci := 9) inwX9_takeOut_X9 0 (by decide) (fs := fldM ad S) om0 rfl 7 (by decide) (List.mem_of_getElem? (i := 2) rfl) rfl (v := .ref (ad 6)) rfl dX9_takeOut_17 (q := 20) rfl ?_
    refine vv_iload_n hC 1 dX9_takeOut_20 rfl rfl (q := 21) rfl ?_
    refine vv_ialdN (P := PM cI cZ ad S) hC hK 6 (by decide) 0 (g := S.2 6) (omI (by decide) rfl) rfl (show n < 300 from (by omega)) (by decide) dX9_takeOut_21 (q := 22) rfl ?_
    refine vv_iconst hC (v := (-1)) dX9_takeOut_22 rfl (q := 23) rfl ?_
    refine vv_icmp_eq hC (tgt := 30) dX9_takeOut_23 (by decide) (q := 26) rfl (fun h23 => ?_) (fun h23 => ?_)
    · skip
      refine vv_iconst hC (v := nI 0) dX9_takeOut_30 rfl (q := 31) rfl ?_
      refine vv_eqv (st' := [.int (if S.2 6 n = -1 then nI 0 else nI 1), .int (nI n), .ref (ad 5)]) (by rw [if_pos h23]) ?_
      refine vv_zastN (P := PM cI cZ ad S) hC hK hW (P1 := PM cI cZ ad (sA S 5 (upd (S.2 5) n (vp_nar .boolean (if S.2 6 n = -1 then nI 0 else nI 1))))) 5 (by decide) 2 (g := S.2 5) (omZ (by decide) rfl) rfl (show n < 300 from (by omega)) (by decide) (om_aZ (j := 5) (by decide) rfl _) dX9_takeOut_31 (q := 32) rfl ?_
      refine vv_aload_n hC 0 dX9_takeOut_32 rfl rfl (q := 33) rfl ?_
      refine vv_get hC hK (K := RX9) (T := TX9) (N := 35) (ci := 9) inwX9_takeOut_X9 0 (by decide) (fs := fldM ad (sA S 5 (upd (S.2 5) n (vp_nar .boolean (if S.2 6 n = -1 then nI 0 else nI 1))))) om0 rfl 6 (by decide) (List.mem_of_getElem? (i := 1) rfl) rfl (v := .ref (ad 5)) rfl dX9_takeOut_33 (q := 36) rfl ?_
      refine vv_iload_n hC 1 dX9_takeOut_36 rfl rfl (q := 37) rfl ?_
      refine vv_zaldN (P := PM cI cZ ad (sA S 5 (upd (S.2 5) n (vp_nar .boolean (if S.2 6 n = -1 then nI 0 else nI 1))))) hC hK 5 (by decide) 2 (g := upd (S.2 5) n (vp_nar .boolean (if S.2 6 n = -1 then nI 0 else nI 1))) (omZ (by decide) rfl) rfl (show n < 300 from (by omega)) (by decide) dX9_takeOut_37 (q := 38) rfl ?_
      refine vv_if_ne hC (tgt := 45) dX9_takeOut_38 (by decide) (q := 41) rfl (fun h38 => ?_) (fun h38 => ?_)
      · skip
        exact absurd (show vp_nar .boolean (if S.2 6 n = -1 then nI 0 else nI 1) = 0 by rw [if_pos h23]; decide) (by simpa [upd] using h38)
      · skip
        refine vv_iconst hC (v := nI 1) dX9_takeOut_41 rfl (q := 42) rfl ?_
        refine vv_goto hC (tgt := 46) dX9_takeOut_42 (by decide) ?_
        exact vv_zret hC hK hr hlk rfl (by rw [h23]; simp [bI]; rfl) (fun f h => by rw [if_neg h6]; exact h) dX9_takeOut_46
    · skip
      refine vv_iconst hC (v := nI 1) dX9_takeOut_26 rfl (q := 27) rfl ?_
      refine vv_goto hC (tgt := 31) dX9_takeOut_27 (by decide) ?_
      refine vv_eqv (st' := [.int (if S.2 6 n = -1 then nI 0 else nI 1), .int (nI n), .ref (ad 5)]) (by rw [if_neg h23]) ?_
      refine vv_zastN (P := PM cI cZ ad S) hC hK hW (P1 := PM cI cZ ad (sA S 5 (upd (S.2 5) n (vp_nar .boolean (if S.2 6 n = -1 then nI 0 else nI 1))))) 5 (by decide) 2 (g := S.2 5) (omZ (by decide) rfl) rfl (show n < 300 from (by omega)) (by decide) (om_aZ (j := 5) (by decide) rfl _) dX9_takeOut_31 (q := 32) rfl ?_
      refine vv_aload_n hC 0 dX9_takeOut_32 rfl rfl (q := 33) rfl ?_
      refine vv_get hC hK (K := RX9) (T := TX9) (N := 35) (ci := 9) inwX9_takeOut_X9 0 (by decide) (fs := fldM ad (sA S 5 (upd (S.2 5) n (vp_nar .boolean (if S.2 6 n = -1 then nI 0 else nI 1))))) om0 rfl 6 (by decide) (List.mem_of_getElem? (i := 1) rfl) rfl (v := .ref (ad 5)) rfl dX9_takeOut_33 (q := 36) rfl ?_
      refine vv_iload_n hC 1 dX9_takeOut_36 rfl rfl (q := 37) rfl ?_
      refine vv_zaldN (P := PM cI cZ ad (sA S 5 (upd (S.2 5) n (vp_nar .boolean (if S.2 6 n = -1 then nI 0 else nI 1))))) hC hK 5 (by decide) 2 (g := upd (S.2 5) n (vp_nar .boolean (if S.2 6 n = -1 then nI 0 else nI 1))) (omZ (by decide) rfl) rfl (show n < 300 from (by omega)) (by decide) dX9_takeOut_37 (q := 38) rfl ?_
      refine vv_if_ne hC (tgt := 45) dX9_takeOut_38 (by decide) (q := 41) rfl (fun h38 => ?_) (fun h38 => ?_)
      · skip
        refine vv_iconst hC (v := nI 0) dX9_takeOut_45 rfl (q := 46) rfl ?_
        exact vv_zret hC hK hr hlk rfl (by simp [bI, h6, h23]; rfl) (fun f h => by rw [if_neg h6]; exact h) dX9_takeOut_46
      · skip
        exact absurd (show upd (S.2 5) n (vp_nar .boolean (if S.2 6 n = -1 then nI 0 else nI 1)) n = 0 from h38) (by simp only [upd, if_true, if_neg h23]; decide)
  · skip
    refine vv_iconst hC (v := nI 1) dX9_takeOut_9 rfl (q := 10) rfl ?_
    exact vv_zret hC hK hr hlk rfl (by rw [show S.2 5 n = 0 from h6]; rfl) (fun f h => by rw [if_pos h6]; exact h) dX9_takeOut_10
