/-! the reference: a contract a method -/
theorem inwX9_goesWell_X9 : ∀ w ∈ wsX90, w ∈ wsX9_goesWell := fun _ h => List.mem_cons_of_mem _ (List.mem_append_right _ h)
theorem hdX9_goesWell : yX9_goesWell.cls = RX9 ∧ yX9_goesWell.cls ≠ "java/lang/invoke/MethodHandle" ∧ yX9_goesWell.cls ≠ "java/lang/invoke/VarHandle" ∧ (parseMethodDescriptor yX9_goesWell.desc).map (fun d => d.parameters.length) = some 1 := by decide +kernel
set_option maxRecDepth 100000 in
set_option maxHeartbeats 4000000 in
theorem c9_goesWell (l : Launch) {D : va_G} {cI cW cZ cL : ClassId} {ad : Nat → Nat} (hJ : injA ad 27) (S : sM) (k : Nat) (hkk : k < 4)  : kMi l yX9_goesWell wsX9_goesWell ({ frames := 0, cells := 0, slots := 0, locals := 0 }) D vwCl (tyL cI cW cZ cL) ad 27 [.ref (ad 0), .int (nI k)] (PM cI cZ ad S) (bI (decide (k = 0))) (PM cI cZ ad (sS S 0 k)) := by
  refine vv_enter (cc := cX9_goesWell) (maxL := 2) (ret := (some .boolean)) (own := RX9) (lv := [(0, .ref (ad 0)), (1, .int (nI k))]) (by decide +kernel) rfl rfl hJ (Nat.le_of_ble_eq_true rfl) rfl ?_
  intro p e s m args below meth c hC hK hW hr hlk
  refine vv_aload_n hC 0 dX9_goesWell_0 rfl rfl (q := 1) rfl ?_
  refine vv_iload_n hC 1 dX9_goesWell_1 rfl rfl (q := 2) rfl ?_
  refine vv_put hC hK hW (P1 := PM cI cZ ad (sS S 0 k)) (K := RX9) (T := TX9) (N := 35) (ci := 9) inwX9_goesWell_X9 tyX9 tyX9_ok nmX9 0 (by decide) (fs := fldM ad S) om0 rfl (ty := .int) 0 (by decide) (List.mem_of_getElem? (i := 1) rfl) rfl rfl (by decide +kernel) rfl rfl (Nat.le_of_ble_eq_true rfl) (om_s0 _) dX9_goesWell_2 (q := 5) rfl ?_
  refine vv_iload_n hC 1 dX9_goesWell_5 rfl rfl (q := 6) rfl ?_
  refine vv_ifN_ne hC (tgt := 13) (by omega) dX9_goesWell_6 (by decide) (q := 9) rfl (fun h6 => ?_) (fun h6 => ?_)
  · skip
    refine vv_iconst hC (v := nI 0) dX9_goesWell_13 rfl (q := 14) rfl ?_
    exact vv_zret hC hK hr hlk rfl (by simp [bI, h6]; rfl) (fun _ h => h) dX9_goesWell_14
  · skip
    refine vv_iconst hC (v := nI 1) dX9_goesWell_9 rfl (q := 10) rfl ?_
    refine vv_goto hC (tgt := 14) dX9_goesWell_10 (by decide) ?_
    exact vv_zret hC hK hr hlk rfl (by simp [bI, h6]; rfl) (fun _ h => h) dX9_goesWell_14
theorem inwX9_thrown_X9 : ∀ w ∈ wsX90, w ∈ wsX9_thrown := fun _ h => List.mem_cons_of_mem _ (List.mem_append_right _ h)
theorem hdX9_thrown : yX9_thrown.cls = RX9 ∧ yX9_thrown.cls ≠ "java/lang/invoke/MethodHandle" ∧ yX9_thrown.cls ≠ "java/lang/invoke/VarHandle" ∧ (parseMethodDescriptor yX9_thrown.desc).map (fun d => d.parameters.length) = some 0 := by decide +kernel
set_option maxRecDepth 100000 in
set_option maxHeartbeats 4000000 in
theorem c9_thrown (l : Launch) {D : va_G} {cI cW cZ cL : ClassId} {ad : Nat → Nat} (hJ : injA ad 27) (S : sM)   : kMi l yX9_thrown wsX9_thrown ({ frames := 0, cells := 0, slots := 0, locals := 0 }) D vwCl (tyL cI cW cZ cL) ad 27 [.ref (ad 0)] (PM cI cZ ad S) (nI (S.1 0)) (PM cI cZ ad S) := by
  refine vv_enter (cc := cX9_thrown) (maxL := 1) (ret := (some .int)) (own := RX9) (lv := [(0, .ref (ad 0))]) (by decide +kernel) rfl rfl hJ (Nat.le_of_ble_eq_true rfl) rfl ?_
  intro p e s m args below meth c hC hK hW hr hlk
  refine vv_aload_n hC 0 dX9_thrown_0 rfl rfl (q := 1) rfl ?_
  refine vv_get hC hK (K := RX9) (T := TX9) (N := 35) (ci := 9) inwX9_thrown_X9 0 (by decide) (fs := fldM ad S) om0 rfl 0 (by decide) (List.mem_of_getElem? (i := 1) rfl) rfl (v := .int (nI (S.1 0))) rfl dX9_thrown_1 (q := 4) rfl ?_
  exact vv_iret hC hK hr hlk rfl (fun _ h => h) dX9_thrown_4
theorem hsX9_in : yX9_in.cls ≠ "java/lang/invoke/MethodHandle" ∧ yX9_in.cls ≠ "java/lang/invoke/VarHandle" ∧ (parseMethodDescriptor yX9_in.desc).map (fun d => d.parameters.length) = some 3 := by decide +kernel
set_option maxRecDepth 100000 in
set_option maxHeartbeats 4000000 in
theorem c9_in (l : Launch) {D : va_G} {cI cW cZ cL : ClassId} {ad : Nat → Nat} (hJ : injA ad 27) (S : sM) (v a b : Int32)  : kMi l yX9_in wsX9_in ({ frames := 0, cells := 0, slots := 0, locals := 0 }) D vwCl (tyL cI cW cZ cL) ad 27 [.int v, .int a, .int b] (PM cI cZ ad S) (bI (inB v a b)) (PM cI cZ ad S) := by
  refine vv_enter (cc := cX9_in) (maxL := 3) (ret := (some .boolean)) (own := RX9) (lv := [(0, .int v), (1, .int a), (2, .int b)]) (by decide +kernel) rfl rfl hJ (Nat.le_of_ble_eq_true rfl) rfl ?_
  intro p e s m args below meth c hC hK hW hr hlk
  refine vv_iload_n hC 0 dX9_in_0 rfl rfl (q := 1) rfl ?_
  refine vv_iload_n hC 1 dX9_in_1 rfl rfl (q := 2) rfl ?_
  refine vv_icmp_lt hC (tgt := 14) dX9_in_2 (by decide) (q := 5) rfl (fun h2 => ?_) (fun h2 => ?_)
  · skip
    refine vv_iconst hC (v := nI 0) dX9_in_14 rfl (q := 15) rfl ?_
    exact vv_zret hC hK hr hlk rfl (by simp [inB, bI, Int32.not_le.mpr h2]; rfl) (fun _ h => h) dX9_in_15
  · skip
    refine vv_iload_n hC 0 dX9_in_5 rfl rfl (q := 6) rfl ?_
    refine vv_iload_n hC 2 dX9_in_6 rfl rfl (q := 7) rfl ?_
    refine vv_icmp_gt hC (tgt := 14) dX9_in_7 (by decide) (q := 10) rfl (fun h7 => ?_) (fun h7 => ?_)
    · skip
      refine vv_iconst hC (v := nI 0) dX9_in_14 rfl (q := 15) rfl ?_
      exact vv_zret hC hK hr hlk rfl (by simp [inB, bI, Int32.not_le.mpr h7]; rfl) (fun _ h => h) dX9_in_15
    · skip
      refine vv_iconst hC (v := nI 1) dX9_in_10 rfl (q := 11) rfl ?_
      refine vv_goto hC (tgt := 15) dX9_in_11 (by decide) ?_
      exact vv_zret hC hK hr hlk rfl (by simp [inB, bI, Int32.not_lt.mp h2, Int32.not_lt.mp h7]; rfl) (fun _ h => h) dX9_in_15
theorem hsX9_isWriter : yX9_isWriter.cls ≠ "java/lang/invoke/MethodHandle" ∧ yX9_isWriter.cls ≠ "java/lang/invoke/VarHandle" ∧ (parseMethodDescriptor yX9_isWriter.desc).map (fun d => d.parameters.length) = some 1 := by decide +kernel
set_option maxRecDepth 100000 in
set_option maxHeartbeats 4000000 in
theorem c9_isWriter (l : Launch) {D : va_G} {cI cW cZ cL : ClassId} {ad : Nat → Nat} (hJ : injA ad 27) (S : sM) (w : Int32)  : kMi l yX9_isWriter wsX9_isWriter ({ frames := 1, cells := 0, slots := 0, locals := 22 }) D vwCl (tyL cI cW cZ cL) ad 27 [.int w] (PM cI cZ ad S) (bI (inB w 0 5)) (PM cI cZ ad S) := by
  refine vv_enter (cc := cX9_isWriter) (maxL := 1) (ret := (some .boolean)) (own := RX9) (lv := [(0, .int w)]) (by decide +kernel) rfl rfl hJ (Nat.le_of_ble_eq_true rfl) rfl ?_
  intro p e s m args below meth c hC hK hW hr hlk
  refine vv_iload_n hC 0 dX9_isWriter_0 rfl rfl (q := 1) rfl ?_
  refine vv_iconst hC (v := nI 0) dX9_isWriter_1 rfl (q := 2) rfl ?_
  refine vv_iconst hC (v := nI 5) dX9_isWriter_2 rfl (q := 3) rfl ?_
  refine vv_callsi hC hK (fun _ h => h) (As := [.int w, .int (nI 0), .int (nI 5)]) (c9_in l hJ S w 0 5) (va_cwS 3 hC.2.2.2.2 gX9_isWriter_X9_in rfl rfl rfl hsX9_in ⟨Nat.le_of_ble_eq_true rfl, Nat.le_of_ble_eq_true rfl⟩) rfl rfl (Nat.le_of_ble_eq_true rfl) ⟨Nat.le_of_ble_eq_true rfl, Nat.le_of_ble_eq_true rfl⟩ dX9_isWriter_3 (q := 6) rfl ?_
  exact vv_zret hC hK hr hlk bI_n rfl (fun _ h => h) dX9_isWriter_6
theorem hsX9_isReviewer : yX9_isReviewer.cls ≠ "java/lang/invoke/MethodHandle" ∧ yX9_isReviewer.cls ≠ "java/lang/invoke/VarHandle" ∧ (parseMethodDescriptor yX9_isReviewer.desc).map (fun d => d.parameters.length) = some 1 := by decide +kernel
set_option maxRecDepth 100000 in
set_option maxHeartbeats 4000000 in
theorem c9_isReviewer (l : Launch) {D : va_G} {cI cW cZ cL : ClassId} {ad : Nat → Nat} (hJ : injA ad 27) (S : sM) (w : Int32)  : kMi l yX9_isReviewer wsX9_isReviewer ({ frames := 1, cells := 0, slots := 0, locals := 22 }) D vwCl (tyL cI cW cZ cL) ad 27 [.int w] (PM cI cZ ad S) (bI (inB w 0 3)) (PM cI cZ ad S) := by
  refine vv_enter (cc := cX9_isReviewer) (maxL := 1) (ret := (some .boolean)) (own := RX9) (lv := [(0, .int w)]) (by decide +kernel) rfl rfl hJ (Nat.le_of_ble_eq_true rfl) rfl ?_
  intro p e s m args below meth c hC hK hW hr hlk
  refine vv_iload_n hC 0 dX9_isReviewer_0 rfl rfl (q := 1) rfl ?_
  refine vv_iconst hC (v := nI 0) dX9_isReviewer_1 rfl (q := 2) rfl ?_
  refine vv_iconst hC (v := nI 3) dX9_isReviewer_2 rfl (q := 3) rfl ?_
  refine vv_callsi hC hK (fun _ h => h) (As := [.int w, .int (nI 0), .int (nI 3)]) (c9_in l hJ S w 0 3) (va_cwS 3 hC.2.2.2.2 gX9_isReviewer_X9_in rfl rfl rfl hsX9_in ⟨Nat.le_of_ble_eq_true rfl, Nat.le_of_ble_eq_true rfl⟩) rfl rfl (Nat.le_of_ble_eq_true rfl) ⟨Nat.le_of_ble_eq_true rfl, Nat.le_of_ble_eq_true rfl⟩ dX9_isReviewer_3 (q := 6) rfl ?_
  exact vv_zret hC hK hr hlk bI_n rfl (fun _ h => h) dX9_isReviewer_6
theorem inwX9_isWord_X9 : ∀ w ∈ wsX90, w ∈ wsX9_isWord := fun _ h => List.mem_cons_of_mem _ (List.mem_append_right _ h)
theorem hdX9_isWord : yX9_isWord.cls = RX9 ∧ yX9_isWord.cls ≠ "java/lang/invoke/MethodHandle" ∧ yX9_isWord.cls ≠ "java/lang/invoke/VarHandle" ∧ (parseMethodDescriptor yX9_isWord.desc).map (fun d => d.parameters.length) = some 1 := by decide +kernel
set_option maxRecDepth 100000 in
set_option maxHeartbeats 4000000 in
theorem c9_isWord (l : Launch) {D : va_G} {cI cW cZ cL : ClassId} {ad : Nat → Nat} (hJ : injA ad 27) (S : sM) (n : Int32)  : kMi l yX9_isWord wsX9_isWord ({ frames := 1, cells := 0, slots := 0, locals := 22 }) D vwCl (tyL cI cW cZ cL) ad 27 [.ref (ad 0), .int n] (PM cI cZ ad S) (bI (inB n 0 (nI (S.1 1) - 1))) (PM cI cZ ad S) := by
  refine vv_enter (cc := cX9_isWord) (maxL := 2) (ret := (some .boolean)) (own := RX9) (lv := [(0, .ref (ad 0)), (1, .int n)]) (by decide +kernel) rfl rfl hJ (Nat.le_of_ble_eq_true rfl) rfl ?_
  intro p e s m args below meth c hC hK hW hr hlk
  refine vv_iload_n hC 1 dX9_isWord_0 rfl rfl (q := 1) rfl ?_
  refine vv_iconst hC (v := nI 0) dX9_isWord_1 rfl (q := 2) rfl ?_
  refine vv_aload_n hC 0 dX9_isWord_2 rfl rfl (q := 3) rfl ?_
  refine vv_get hC hK (K := RX9) (T := TX9) (N := 35) (ci := 9) inwX9_isWord_X9 0 (by decide) (fs := fldM ad S) om0 rfl 1 (by decide) (List.mem_of_getElem? (i := 1) rfl) rfl (v := .int (nI (S.1 1))) rfl dX9_isWord_3 (q := 6) rfl ?_
  refine vv_iconst hC (v := nI 1) dX9_isWord_6 rfl (q := 7) rfl ?_
  refine vv_isub hC dX9_isWord_7 (q := 8) rfl ?_
  refine vv_callsi hC hK (fun _ h => h) (As := [.int n, .int (nI 0), .int ((nI (S.1 1)) - (nI 1))]) (c9_in l hJ S n 0 ((nI (S.1 1)) - (nI 1))) (va_cwS 3 hC.2.2.2.2 gX9_isWord_X9_in rfl rfl rfl hsX9_in ⟨Nat.le_of_ble_eq_true rfl, Nat.le_of_ble_eq_true rfl⟩) rfl rfl (Nat.le_of_ble_eq_true rfl) ⟨Nat.le_of_ble_eq_true rfl, Nat.le_of_ble_eq_true rfl⟩ dX9_isWord_8 (q := 11) rfl ?_
  exact vv_zret hC hK hr hlk bI_n rfl (fun _ h => h) dX9_isWord_11
theorem inwX9_isReview_X9 : ∀ w ∈ wsX90, w ∈ wsX9_isReview := fun _ h => List.mem_cons_of_mem _ (List.mem_append_right _ h)
theorem hdX9_isReview : yX9_isReview.cls = RX9 ∧ yX9_isReview.cls ≠ "java/lang/invoke/MethodHandle" ∧ yX9_isReview.cls ≠ "java/lang/invoke/VarHandle" ∧ (parseMethodDescriptor yX9_isReview.desc).map (fun d => d.parameters.length) = some 1 := by decide +kernel
set_option maxRecDepth 100000 in
set_option maxHeartbeats 4000000 in
theorem c9_isReview (l : Launch) {D : va_G} {cI cW cZ cL : ClassId} {ad : Nat → Nat} (hJ : injA ad 27) (S : sM) (n : Int32)  : kMi l yX9_isReview wsX9_isReview ({ frames := 1, cells := 0, slots := 0, locals := 22 }) D vwCl (tyL cI cW cZ cL) ad 27 [.ref (ad 0), .int n] (PM cI cZ ad S) (bI (inB n 0 (nI (S.1 17) - 1))) (PM cI cZ ad S) := by
  refine vv_enter (cc := cX9_isReview) (maxL := 2) (ret := (some .boolean)) (own := RX9) (lv := [(0, .ref (ad 0)), (1, .int n)]) (by decide +kernel) rfl rfl hJ (Nat.le_of_ble_eq_true rfl) rfl ?_
  intro p e s m args below meth c hC hK hW hr hlk
  refine vv_iload_n hC 1 dX9_isReview_0 rfl rfl (q := 1) rfl ?_
  refine vv_iconst hC (v := nI 0) dX9_isReview_1 rfl (q := 2) rfl ?_
  refine vv_aload_n hC 0 dX9_isReview_2 rfl rfl (q := 3) rfl ?_
  refine vv_get hC hK (K := RX9) (T := TX9) (N := 35) (ci := 9) inwX9_isReview_X9 0 (by decide) (fs := fldM ad S) om0 rfl 17 (by decide) (List.mem_of_getElem? (i := 1) rfl) rfl (v := .int (nI (S.1 17))) rfl dX9_isReview_3 (q := 6) rfl ?_
  refine vv_iconst hC (v := nI 1) dX9_isReview_6 rfl (q := 7) rfl ?_
  refine vv_isub hC dX9_isReview_7 (q := 8) rfl ?_
  refine vv_callsi hC hK (fun _ h => h) (As := [.int n, .int (nI 0), .int ((nI (S.1 17)) - (nI 1))]) (c9_in l hJ S n 0 ((nI (S.1 17)) - (nI 1))) (va_cwS 3 hC.2.2.2.2 gX9_isReview_X9_in rfl rfl rfl hsX9_in ⟨Nat.le_of_ble_eq_true rfl, Nat.le_of_ble_eq_true rfl⟩) rfl rfl (Nat.le_of_ble_eq_true rfl) ⟨Nat.le_of_ble_eq_true rfl, Nat.le_of_ble_eq_true rfl⟩ dX9_isReview_8 (q := 11) rfl ?_
  exact vv_zret hC hK hr hlk bI_n rfl (fun _ h => h) dX9_isReview_11
