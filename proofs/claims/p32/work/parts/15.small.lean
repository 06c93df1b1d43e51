/-! changes, comments, issues, reviews, words: a contract a method -/
theorem inwX0_count_X0 : ∀ w ∈ wsX00, w ∈ wsX0_count := fun _ h => List.mem_cons_of_mem _ (List.mem_append_left _ (List.mem_append_right _ h))
theorem inwX0_count_X5 : ∀ w ∈ wsX50, w ∈ wsX0_count := fun _ h => List.mem_cons_of_mem _ (List.mem_append_right _ h)
theorem hdX0_count : yX0_count.cls = RX0 ∧ yX0_count.cls ≠ "java/lang/invoke/MethodHandle" ∧ yX0_count.cls ≠ "java/lang/invoke/VarHandle" ∧ (parseMethodDescriptor yX0_count.desc).map (fun d => d.parameters.length) = some 0 := by decide +kernel
set_option maxRecDepth 100000 in
set_option maxHeartbeats 4000000 in
theorem c0_count (l : Launch) {D : va_G} {cI cW cZ cL : ClassId} {ad : Nat → Nat} (hJ : injA ad 90) (S : sC) (j : Nat) (hk : kd j = 0)  : kMi l yX0_count wsX0_count ({ frames := 1, cells := 0, slots := 0, locals := 20 }) D vwCl (tyL cI cW cZ cL) ad 90 [.ref (ad j)] (PC cI cW ad S) (nI (S.1 (j + 1)).length) (PC cI cW ad S) := by
  refine vv_enter (cc := cX0_count) (maxL := 1) (ret := (some .int)) (own := RX0) (lv := [(0, .ref (ad j))]) (by decide +kernel) rfl rfl hJ (Nat.le_of_ble_eq_true rfl) rfl ?_
  intro p e s m args below meth c hC hK hW hr hlk
  refine vv_aload_n hC 0 dX0_count_0 rfl rfl (q := 1) rfl ?_
  refine vv_get hC hK (K := RX0) (T := TX0) (N := 1) (ci := 0) inwX0_count_X0 j (kl0 hk) (oc0 hk) rfl 0 (by decide) (List.mem_of_getElem? (i := 1) rfl) rfl (v := .ref (ad (j + 1))) rfl dX0_count_1 (q := 4) rfl ?_
  refine vv_calli hC hK (fun _ h => h) (As := []) (j + 1) (kl5 (kd0 j (kl0 hk) hk).1) (or5 (kd0 j (kl0 hk) hk).1) rfl (c5_size l hJ S (j + 1) (kd0 j (kl0 hk) hk).1) (cwV 0 hC.2.2.2.2 gX0_count_X5_size rfl rfl rfl hdX5_size ⟨Nat.le_of_ble_eq_true rfl, Nat.le_of_ble_eq_true rfl⟩) rfl rfl (Nat.le_of_ble_eq_true rfl) ⟨Nat.le_of_ble_eq_true rfl, Nat.le_of_ble_eq_true rfl⟩ dX0_count_4 (q := 7) rfl ?_
  exact vv_iret hC hK hr hlk rfl (fun _ h => h) dX0_count_7
theorem inwX0_addTyped_X0 : ∀ w ∈ wsX00, w ∈ wsX0_addTyped := fun _ h => List.mem_cons_of_mem _ (List.mem_append_left _ (List.mem_append_right _ h))
theorem inwX0_addTyped_X5 : ∀ w ∈ wsX50, w ∈ wsX0_addTyped := fun _ h => List.mem_cons_of_mem _ (List.mem_append_right _ h)
theorem hdX0_addTyped : yX0_addTyped.cls = RX0 ∧ yX0_addTyped.cls ≠ "java/lang/invoke/MethodHandle" ∧ yX0_addTyped.cls ≠ "java/lang/invoke/VarHandle" ∧ (parseMethodDescriptor yX0_addTyped.desc).map (fun d => d.parameters.length) = some 1 := by decide +kernel
set_option maxRecDepth 100000 in
set_option maxHeartbeats 4000000 in
theorem c0_addTyped (l : Launch) {D : va_G} {cI cW cZ cL : ClassId} {ad : Nat → Nat} (hJ : injA ad 90) (S : sC) (j : Nat) (hk : kd j = 0) (n : Int32) : kMv l yX0_addTyped wsX0_addTyped ({ frames := 3, cells := 0, slots := 0, locals := 83 }) D vwCl (tyL cI cW cZ cL) ad 90 [.ref (ad j), .int n] (PC cI cW ad S) (PC cI cW ad (sSet S (j + 1) (rAdd (S.1 (j + 1)) (cap (j + 1)) n))) := by
  refine vv_enter (cc := cX0_addTyped) (maxL := 2) (ret := none) (own := RX0) (lv := [(0, .ref (ad j)), (1, .int n)]) (by decide +kernel) rfl rfl hJ (Nat.le_of_ble_eq_true rfl) rfl ?_
  intro p e s m args below meth c hC hK hW hr hlk
  refine vv_aload_n hC 0 dX0_addTyped_0 rfl rfl (q := 1) rfl ?_
  refine vv_get hC hK (K := RX0) (T := TX0) (N := 1) (ci := 0) inwX0_addTyped_X0 j (kl0 hk) (oc0 hk) rfl 0 (by decide) (List.mem_of_getElem? (i := 1) rfl) rfl (v := .ref (ad (j + 1))) rfl dX0_addTyped_1 (q := 4) rfl ?_
  refine vv_iload_n hC 1 dX0_addTyped_4 rfl rfl (q := 5) rfl ?_
  refine vv_callv hC hK (fun _ h => h) (As := [.int n]) (j + 1) (kl5 (kd0 j (kl0 hk) hk).1) (or5 (kd0 j (kl0 hk) hk).1) rfl (c5_add l hJ S (j + 1) (kd0 j (kl0 hk) hk).1 n) (cwV 1 hC.2.2.2.2 gX0_addTyped_X5_add rfl rfl rfl hdX5_add ⟨Nat.le_of_ble_eq_true rfl, Nat.le_of_ble_eq_true rfl⟩) rfl rfl (Nat.le_of_ble_eq_true rfl) ⟨Nat.le_of_ble_eq_true rfl, Nat.le_of_ble_eq_true rfl⟩ dX0_addTyped_5 (q := 8) rfl ?_
  exact vv_vret hC hK hr hlk (fun _ h => h) dX0_addTyped_8
theorem inwX0_addDeleted_X0 : ∀ w ∈ wsX00, w ∈ wsX0_addDeleted := fun _ h => List.mem_cons_of_mem _ (List.mem_append_left _ (List.mem_append_right _ h))
theorem inwX0_addDeleted_X5 : ∀ w ∈ wsX50, w ∈ wsX0_addDeleted := fun _ h => List.mem_cons_of_mem _ (List.mem_append_right _ h)
theorem hdX0_addDeleted : yX0_addDeleted.cls = RX0 ∧ yX0_addDeleted.cls ≠ "java/lang/invoke/MethodHandle" ∧ yX0_addDeleted.cls ≠ "java/lang/invoke/VarHandle" ∧ (parseMethodDescriptor yX0_addDeleted.desc).map (fun d => d.parameters.length) = some 1 := by decide +kernel
set_option maxRecDepth 100000 in
set_option maxHeartbeats 4000000 in
theorem c0_addDeleted (l : Launch) {D : va_G} {cI cW cZ cL : ClassId} {ad : Nat → Nat} (hJ : injA ad 90) (S : sC) (j : Nat) (hk : kd j = 0) (n : Int32) : kMv l yX0_addDeleted wsX0_addDeleted ({ frames := 3, cells := 0, slots := 0, locals := 83 }) D vwCl (tyL cI cW cZ cL) ad 90 [.ref (ad j), .int n] (PC cI cW ad S) (PC cI cW ad (sSet S (j + 1) (rAdd (S.1 (j + 1)) (cap (j + 1)) (300 + n)))) := by
  refine vv_enter (cc := cX0_addDeleted) (maxL := 2) (ret := none) (own := RX0) (lv := [(0, .ref (ad j)), (1, .int n)]) (by decide +kernel) rfl rfl hJ (Nat.le_of_ble_eq_true rfl) rfl ?_
  intro p e s m args below meth c hC hK hW hr hlk
  refine vv_aload_n hC 0 dX0_addDeleted_0 rfl rfl (q := 1) rfl ?_
  refine vv_get hC hK (K := RX0) (T := TX0) (N := 1) (ci := 0) inwX0_addDeleted_X0 j (kl0 hk) (oc0 hk) rfl 0 (by decide) (List.mem_of_getElem? (i := 1) rfl) rfl (v := .ref (ad (j + 1))) rfl dX0_addDeleted_1 (q := 4) rfl ?_
  refine vv_sipush hC (v := 300) dX0_addDeleted_4 rfl (q := 7) rfl ?_
  refine vv_iload_n hC 1 dX0_addDeleted_7 rfl rfl (q := 8) rfl ?_
  refine vv_iadd hC dX0_addDeleted_8 (q := 9) rfl ?_
  refine vv_callv hC hK (fun _ h => h) (As := [.int (300 + n)]) (j + 1) (kl5 (kd0 j (kl0 hk) hk).1) (or5 (kd0 j (kl0 hk) hk).1) rfl (c5_add l hJ S (j + 1) (kd0 j (kl0 hk) hk).1 (300 + n)) (cwV 1 hC.2.2.2.2 gX0_addDeleted_X5_add rfl rfl rfl hdX5_add ⟨Nat.le_of_ble_eq_true rfl, Nat.le_of_ble_eq_true rfl⟩) rfl rfl (Nat.le_of_ble_eq_true rfl) ⟨Nat.le_of_ble_eq_true rfl, Nat.le_of_ble_eq_true rfl⟩ dX0_addDeleted_9 (q := 12) rfl ?_
  exact vv_vret hC hK hr hlk (fun _ h => h) dX0_addDeleted_12
theorem inwX0_isTyped_X0 : ∀ w ∈ wsX00, w ∈ wsX0_isTyped := fun _ h => List.mem_cons_of_mem _ (List.mem_append_left _ (List.mem_append_right _ h))
theorem inwX0_isTyped_X5 : ∀ w ∈ wsX50, w ∈ wsX0_isTyped := fun _ h => List.mem_cons_of_mem _ (List.mem_append_right _ h)
theorem hdX0_isTyped : yX0_isTyped.cls = RX0 ∧ yX0_isTyped.cls ≠ "java/lang/invoke/MethodHandle" ∧ yX0_isTyped.cls ≠ "java/lang/invoke/VarHandle" ∧ (parseMethodDescriptor yX0_isTyped.desc).map (fun d => d.parameters.length) = some 1 := by decide +kernel
set_option maxRecDepth 100000 in
set_option maxHeartbeats 4000000 in
theorem c0_isTyped (l : Launch) {D : va_G} {cI cW cZ cL : ClassId} {ad : Nat → Nat} (hJ : injA ad 90) (S : sC) (j : Nat) (hk : kd j = 0) (i : Int32) : kMi l yX0_isTyped wsX0_isTyped ({ frames := 2, cells := 0, slots := 0, locals := 42 }) D vwCl (tyL cI cW cZ cL) ad 90 [.ref (ad j), .int i] (PC cI cW ad S) (bI (cTyped (S.1 (j + 1)) i)) (PC cI cW ad S) := by
  refine vv_enter (cc := cX0_isTyped) (maxL := 2) (ret := (some .boolean)) (own := RX0) (lv := [(0, .ref (ad j)), (1, .int i)]) (by decide +kernel) rfl rfl hJ (Nat.le_of_ble_eq_true rfl) rfl ?_
  intro p e s m args below meth c hC hK hW hr hlk
  refine vv_aload_n hC 0 dX0_isTyped_0 rfl rfl (q := 1) rfl ?_
  refine vv_get hC hK (K := RX0) (T := TX0) (N := 1) (ci := 0) inwX0_isTyped_X0 j (kl0 hk) (oc0 hk) rfl 0 (by decide) (List.mem_of_getElem? (i := 1) rfl) rfl (v := .ref (ad (j + 1))) rfl dX0_isTyped_1 (q := 4) rfl ?_
  refine vv_iload_n hC 1 dX0_isTyped_4 rfl rfl (q := 5) rfl ?_
  refine vv_calli hC hK (fun _ h => h) (As := [.int i]) (j + 1) (kl5 (kd0 j (kl0 hk) hk).1) (or5 (kd0 j (kl0 hk) hk).1) rfl (c5_at l hJ S (j + 1) (kd0 j (kl0 hk) hk).1 i) (cwV 1 hC.2.2.2.2 gX0_isTyped_X5_at rfl rfl rfl hdX5_at ⟨Nat.le_of_ble_eq_true rfl, Nat.le_of_ble_eq_true rfl⟩) rfl rfl (Nat.le_of_ble_eq_true rfl) ⟨Nat.le_of_ble_eq_true rfl, Nat.le_of_ble_eq_true rfl⟩ dX0_isTyped_5 (q := 8) rfl ?_
  refine vv_sipush hC (v := 300) dX0_isTyped_8 rfl (q := 11) rfl ?_
  refine vv_icmp_ge hC (tgt := 18) dX0_isTyped_11 (by decide) (q := 14) rfl (fun h11 => ?_) (fun h11 => ?_)
  · skip
    refine vv_iconst hC (v := 0) dX0_isTyped_18 rfl (q := 19) rfl ?_
    exact vv_zret hC hK hr hlk rfl (by simp [cTyped, bI, h11]) (fun _ h => h) dX0_isTyped_19
  · skip
    refine vv_iconst hC (v := 1) dX0_isTyped_14 rfl (q := 15) rfl ?_
    refine vv_goto hC (tgt := 19) dX0_isTyped_15 (by decide) ?_
    exact vv_zret hC hK hr hlk rfl (by simp [cTyped, bI, Int32.not_le.mp h11]) (fun _ h => h) dX0_isTyped_19
theorem inwX0_numberAt_X0 : ∀ w ∈ wsX00, w ∈ wsX0_numberAt := fun _ h => List.mem_cons_of_mem _ (List.mem_append_left _ (List.mem_append_right _ h))
theorem inwX0_numberAt_X5 : ∀ w ∈ wsX50, w ∈ wsX0_numberAt := fun _ h => List.mem_cons_of_mem _ (List.mem_append_right _ h)
theorem hdX0_numberAt : yX0_numberAt.cls = RX0 ∧ yX0_numberAt.cls ≠ "java/lang/invoke/MethodHandle" ∧ yX0_numberAt.cls ≠ "java/lang/invoke/VarHandle" ∧ (parseMethodDescriptor yX0_numberAt.desc).map (fun d => d.parameters.length) = some 1 := by decide +kernel
set_option maxRecDepth 100000 in
set_option maxHeartbeats 4000000 in
theorem c0_numberAt (l : Launch) {D : va_G} {cI cW cZ cL : ClassId} {ad : Nat → Nat} (hJ : injA ad 90) (S : sC) (j : Nat) (hk : kd j = 0) (i : Int32) : kMi l yX0_numberAt wsX0_numberAt ({ frames := 3, cells := 0, slots := 0, locals := 63 }) D vwCl (tyL cI cW cZ cL) ad 90 [.ref (ad j), .int i] (PC cI cW ad S) (cNum (S.1 (j + 1)) i) (PC cI cW ad S) := by
  refine vv_enter (cc := cX0_numberAt) (maxL := 2) (ret := (some .int)) (own := RX0) (lv := [(0, .ref (ad j)), (1, .int i)]) (by decide +kernel) rfl rfl hJ (Nat.le_of_ble_eq_true rfl) rfl ?_
  intro p e s m args below meth c hC hK hW hr hlk
  refine vv_aload_n hC 0 dX0_numberAt_0 rfl rfl (q := 1) rfl ?_
  refine vv_iload_n hC 1 dX0_numberAt_1 rfl rfl (q := 2) rfl ?_
  refine vv_calli hC hK (fun _ h => h) (As := [.int i]) j (kl0 hk) (or0 hk) rfl (c0_isTyped l hJ S j hk i) (cwV 1 hC.2.2.2.2 gX0_numberAt_X0_isTyped rfl rfl rfl hdX0_isTyped ⟨Nat.le_of_ble_eq_true rfl, Nat.le_of_ble_eq_true rfl⟩) rfl rfl (Nat.le_of_ble_eq_true rfl) ⟨Nat.le_of_ble_eq_true rfl, Nat.le_of_ble_eq_true rfl⟩ dX0_numberAt_2 (q := 5) rfl ?_
  refine vv_if_eq hC (tgt := 19) dX0_numberAt_5 (by decide) (q := 8) rfl (fun h5 => ?_) (fun h5 => ?_)
  · skip
    refine vv_aload_n hC 0 dX0_numberAt_19 rfl rfl (q := 20) rfl ?_
    refine vv_get hC hK (K := RX0) (T := TX0) (N := 1) (ci := 0) inwX0_numberAt_X0 j (kl0 hk) (oc0 hk) rfl 0 (by decide) (List.mem_of_getElem? (i := 1) rfl) rfl (v := .ref (ad (j + 1))) rfl dX0_numberAt_20 (q := 23) rfl ?_
    refine vv_iload_n hC 1 dX0_numberAt_23 rfl rfl (q := 24) rfl ?_
    refine vv_calli hC hK (fun _ h => h) (As := [.int i]) (j + 1) (kl5 (kd0 j (kl0 hk) hk).1) (or5 (kd0 j (kl0 hk) hk).1) rfl (c5_at l hJ S (j + 1) (kd0 j (kl0 hk) hk).1 i) (cwV 1 hC.2.2.2.2 gX0_numberAt_X5_at rfl rfl rfl hdX5_at ⟨Nat.le_of_ble_eq_true rfl, Nat.le_of_ble_eq_true rfl⟩) rfl rfl (Nat.le_of_ble_eq_true rfl) ⟨Nat.le_of_ble_eq_true rfl, Nat.le_of_ble_eq_true rfl⟩ dX0_numberAt_24 (q := 27) rfl ?_
    refine vv_sipush hC (v := 300) dX0_numberAt_27 rfl (q := 30) rfl ?_
    refine vv_isub hC dX0_numberAt_30 (q := 31) rfl ?_
    exact vv_iret hC hK hr hlk (by have h := bI_0.mp h5; simp only [cTyped, decide_eq_false_iff_not] at h; rw [cNum, if_neg h]) (fun _ h => h) dX0_numberAt_31
  · skip
    refine vv_aload_n hC 0 dX0_numberAt_8 rfl rfl (q := 9) rfl ?_
    refine vv_get hC hK (K := RX0) (T := TX0) (N := 1) (ci := 0) inwX0_numberAt_X0 j (kl0 hk) (oc0 hk) rfl 0 (by decide) (List.mem_of_getElem? (i := 1) rfl) rfl (v := .ref (ad (j + 1))) rfl dX0_numberAt_9 (q := 12) rfl ?_
    refine vv_iload_n hC 1 dX0_numberAt_12 rfl rfl (q := 13) rfl ?_
    refine vv_calli hC hK (fun _ h => h) (As := [.int i]) (j + 1) (kl5 (kd0 j (kl0 hk) hk).1) (or5 (kd0 j (kl0 hk) hk).1) rfl (c5_at l hJ S (j + 1) (kd0 j (kl0 hk) hk).1 i) (cwV 1 hC.2.2.2.2 gX0_numberAt_X5_at rfl rfl rfl hdX5_at ⟨Nat.le_of_ble_eq_true rfl, Nat.le_of_ble_eq_true rfl⟩) rfl rfl (Nat.le_of_ble_eq_true rfl) ⟨Nat.le_of_ble_eq_true rfl, Nat.le_of_ble_eq_true rfl⟩ dX0_numberAt_13 (q := 16) rfl ?_
    refine vv_goto hC (tgt := 31) dX0_numberAt_16 (by decide) ?_
    exact vv_iret hC hK hr hlk (by have h := bI_1 h5; simp only [cTyped, decide_eq_true_eq] at h; rw [cNum, if_pos h]) (fun _ h => h) dX0_numberAt_31
theorem inwX0_clear_X0 : ∀ w ∈ wsX00, w ∈ wsX0_clear := fun _ h => List.mem_cons_of_mem _ (List.mem_append_left _ (List.mem_append_right _ h))
theorem inwX0_clear_X5 : ∀ w ∈ wsX50, w ∈ wsX0_clear := fun _ h => List.mem_cons_of_mem _ (List.mem_append_right _ h)
theorem hdX0_clear : yX0_clear.cls = RX0 ∧ yX0_clear.cls ≠ "java/lang/invoke/MethodHandle" ∧ yX0_clear.cls ≠ "java/lang/invoke/VarHandle" ∧ (parseMethodDescriptor yX0_clear.desc).map (fun d => d.parameters.length) = some 0 := by decide +kernel
set_option maxRecDepth 100000 in
set_option maxHeartbeats 4000000 in
theorem c0_clear (l : Launch) {D : va_G} {cI cW cZ cL : ClassId} {ad : Nat → Nat} (hJ : injA ad 90) (S : sC) (j : Nat) (hk : kd j = 0)  : kMv l yX0_clear wsX0_clear ({ frames := 1, cells := 0, slots := 0, locals := 20 }) D vwCl (tyL cI cW cZ cL) ad 90 [.ref (ad j)] (PC cI cW ad S) (PC cI cW ad (sSet S (j + 1) [])) := by
  refine vv_enter (cc := cX0_clear) (maxL := 1) (ret := none) (own := RX0) (lv := [(0, .ref (ad j))]) (by decide +kernel) rfl rfl hJ (Nat.le_of_ble_eq_true rfl) rfl ?_
  intro p e s m args below meth c hC hK hW hr hlk
  refine vv_aload_n hC 0 dX0_clear_0 rfl rfl (q := 1) rfl ?_
  refine vv_get hC hK (K := RX0) (T := TX0) (N := 1) (ci := 0) inwX0_clear_X0 j (kl0 hk) (oc0 hk) rfl 0 (by decide) (List.mem_of_getElem? (i := 1) rfl) rfl (v := .ref (ad (j + 1))) rfl dX0_clear_1 (q := 4) rfl ?_
  refine vv_callv hC hK (fun _ h => h) (As := []) (j + 1) (kl5 (kd0 j (kl0 hk) hk).1) (or5 (kd0 j (kl0 hk) hk).1) rfl (c5_clear l hJ S (j + 1) (kd0 j (kl0 hk) hk).1) (cwV 0 hC.2.2.2.2 gX0_clear_X5_clear rfl rfl rfl hdX5_clear ⟨Nat.le_of_ble_eq_true rfl, Nat.le_of_ble_eq_true rfl⟩) rfl rfl (Nat.le_of_ble_eq_true rfl) ⟨Nat.le_of_ble_eq_true rfl, Nat.le_of_ble_eq_true rfl⟩ dX0_clear_4 (q := 7) rfl ?_
  exact vv_vret hC hK hr hlk (fun _ h => h) dX0_clear_7
theorem inwX1_count_X1 : ∀ w ∈ wsX10, w ∈ wsX1_count := fun _ h => List.mem_cons_of_mem _ (List.mem_append_left _ (List.mem_append_right _ h))
theorem inwX1_count_X5 : ∀ w ∈ wsX50, w ∈ wsX1_count := fun _ h => List.mem_cons_of_mem _ (List.mem_append_right _ h)
theorem hdX1_count : yX1_count.cls = RX1 ∧ yX1_count.cls ≠ "java/lang/invoke/MethodHandle" ∧ yX1_count.cls ≠ "java/lang/invoke/VarHandle" ∧ (parseMethodDescriptor yX1_count.desc).map (fun d => d.parameters.length) = some 0 := by decide +kernel
set_option maxRecDepth 100000 in
set_option maxHeartbeats 4000000 in
theorem c1_count (l : Launch) {D : va_G} {cI cW cZ cL : ClassId} {ad : Nat → Nat} (hJ : injA ad 90) (S : sC)  : kMi l yX1_count wsX1_count ({ frames := 1, cells := 0, slots := 0, locals := 20 }) D vwCl (tyL cI cW cZ cL) ad 90 [.ref (ad 85)] (PC cI cW ad S) (nI (S.1 86).length) (PC cI cW ad S) := by
  refine vv_enter (cc := cX1_count) (maxL := 1) (ret := (some .int)) (own := RX1) (lv := [(0, .ref (ad 85))]) (by decide +kernel) rfl rfl hJ (Nat.le_of_ble_eq_true rfl) rfl ?_
  intro p e s m args below meth c hC hK hW hr hlk
  refine vv_aload_n hC 0 dX1_count_0 rfl rfl (q := 1) rfl ?_
  refine vv_get hC hK (K := RX1) (T := TX1) (N := 2) (ci := 1) inwX1_count_X1 85 (kl1 (by decide +kernel)) (oc1 (by decide +kernel)) rfl 0 (by decide) (List.mem_of_getElem? (i := 1) rfl) rfl (v := .ref (ad 86)) rfl dX1_count_1 (q := 4) rfl ?_
  refine vv_calli hC hK (fun _ h => h) (As := []) 86 (kl5 (by decide +kernel)) (or5 (by decide +kernel)) rfl (c5_size l hJ S 86 (by decide +kernel)) (cwV 0 hC.2.2.2.2 gX1_count_X5_size rfl rfl rfl hdX5_size ⟨Nat.le_of_ble_eq_true rfl, Nat.le_of_ble_eq_true rfl⟩) rfl rfl (Nat.le_of_ble_eq_true rfl) ⟨Nat.le_of_ble_eq_true rfl, Nat.le_of_ble_eq_true rfl⟩ dX1_count_4 (q := 7) rfl ?_
  exact vv_iret hC hK hr hlk rfl (fun _ h => h) dX1_count_7
theorem inwX1_add_X1 : ∀ w ∈ wsX10, w ∈ wsX1_add := fun _ h => List.mem_cons_of_mem _ (List.mem_append_left _ (List.mem_append_right _ h))
theorem inwX1_add_X5 : ∀ w ∈ wsX50, w ∈ wsX1_add := fun _ h => List.mem_cons_of_mem _ (List.mem_append_right _ h)
theorem hdX1_add : yX1_add.cls = RX1 ∧ yX1_add.cls ≠ "java/lang/invoke/MethodHandle" ∧ yX1_add.cls ≠ "java/lang/invoke/VarHandle" ∧ (parseMethodDescriptor yX1_add.desc).map (fun d => d.parameters.length) = some 2 := by decide +kernel
set_option maxRecDepth 100000 in
set_option maxHeartbeats 4000000 in
theorem c1_add (l : Launch) {D : va_G} {cI cW cZ cL : ClassId} {ad : Nat → Nat} (hJ : injA ad 90) (S : sC) (a b : Int32) : kMi l yX1_add wsX1_add ({ frames := 3, cells := 0, slots := 0, locals := 83 }) D vwCl (tyL cI cW cZ cL) ad 90 [.ref (ad 85), .int a, .int b] (PC cI cW ad S) (nI ((cmAdd S a b).1 86).length - 1) (PC cI cW ad (cmAdd S a b)) := by
  refine vv_enter (cc := cX1_add) (maxL := 3) (ret := (some .int)) (own := RX1) (lv := [(0, .ref (ad 85)), (1, .int a), (2, .int b)]) (by decide +kernel) rfl rfl hJ (Nat.le_of_ble_eq_true rfl) rfl ?_
  intro p e s m args below meth c hC hK hW hr hlk
  refine vv_aload_n hC 0 dX1_add_0 rfl rfl (q := 1) rfl ?_
  refine vv_get hC hK (K := RX1) (T := TX1) (N := 2) (ci := 1) inwX1_add_X1 85 (kl1 (by decide +kernel)) (oc1 (by decide +kernel)) rfl 0 (by decide) (List.mem_of_getElem? (i := 1) rfl) rfl (v := .ref (ad 86)) rfl dX1_add_1 (q := 4) rfl ?_
  refine vv_iload_n hC 1 dX1_add_4 rfl rfl (q := 5) rfl ?_
  refine vv_callv hC hK (fun _ h => h) (As := [.int a]) 86 (kl5 (by decide +kernel)) (or5 (by decide +kernel)) rfl (c5_add l hJ S 86 (by decide +kernel) a) (cwV 1 hC.2.2.2.2 gX1_add_X5_add rfl rfl rfl hdX5_add ⟨Nat.le_of_ble_eq_true rfl, Nat.le_of_ble_eq_true rfl⟩) rfl rfl (Nat.le_of_ble_eq_true rfl) ⟨Nat.le_of_ble_eq_true rfl, Nat.le_of_ble_eq_true rfl⟩ dX1_add_5 (q := 8) rfl ?_
  refine vv_aload_n hC 0 dX1_add_8 rfl rfl (q := 9) rfl ?_
  refine vv_get hC hK (K := RX1) (T := TX1) (N := 2) (ci := 1) inwX1_add_X1 85 (kl1 (by decide +kernel)) (oc1 (by decide +kernel)) rfl 1 (by decide) (List.mem_of_getElem? (i := 2) rfl) rfl (v := .ref (ad 88)) rfl dX1_add_9 (q := 12) rfl ?_
  refine vv_iload_n hC 2 dX1_add_12 rfl rfl (q := 13) rfl ?_
  refine vv_callv hC hK (fun _ h => h) (As := [.int b]) 88 (kl5 (by decide +kernel)) (or5 (by decide +kernel)) rfl (c5_add l hJ (sSet S 86 (rAdd (S.1 86) (cap 86) a)) 88 (by decide +kernel) b) (cwV 1 hC.2.2.2.2 gX1_add_X5_add rfl rfl rfl hdX5_add ⟨Nat.le_of_ble_eq_true rfl, Nat.le_of_ble_eq_true rfl⟩) rfl rfl (Nat.le_of_ble_eq_true rfl) ⟨Nat.le_of_ble_eq_true rfl, Nat.le_of_ble_eq_true rfl⟩ dX1_add_13 (q := 16) rfl ?_
  refine vv_aload_n hC 0 dX1_add_16 rfl rfl (q := 17) rfl ?_
  refine vv_calli hC hK (fun _ h => h) (As := []) 85 (kl1 (by decide +kernel)) (or1 (by decide +kernel)) rfl (c1_count l hJ (sSet (sSet S 86 (rAdd (S.1 86) (cap 86) a)) 88 (rAdd ((sSet S 86 (rAdd (S.1 86) (cap 86) a)).1 88) (cap 88) b))) (cwV 0 hC.2.2.2.2 gX1_add_X1_count rfl rfl rfl hdX1_count ⟨Nat.le_of_ble_eq_true rfl, Nat.le_of_ble_eq_true rfl⟩) rfl rfl (Nat.le_of_ble_eq_true rfl) ⟨Nat.le_of_ble_eq_true rfl, Nat.le_of_ble_eq_true rfl⟩ dX1_add_17 (q := 20) rfl ?_
  refine vv_iconst hC (v := 1) dX1_add_20 rfl (q := 21) rfl ?_
  refine vv_isub hC dX1_add_21 (q := 22) rfl ?_
  exact vv_iret hC hK hr hlk rfl (fun _ h => h) dX1_add_22
theorem inwX1_firstOf_X1 : ∀ w ∈ wsX10, w ∈ wsX1_firstOf := fun _ h => List.mem_cons_of_mem _ (List.mem_append_left _ (List.mem_append_right _ h))
theorem inwX1_firstOf_X5 : ∀ w ∈ wsX50, w ∈ wsX1_firstOf := fun _ h => List.mem_cons_of_mem _ (List.mem_append_right _ h)
theorem hdX1_firstOf : yX1_firstOf.cls = RX1 ∧ yX1_firstOf.cls ≠ "java/lang/invoke/MethodHandle" ∧ yX1_firstOf.cls ≠ "java/lang/invoke/VarHandle" ∧ (parseMethodDescriptor yX1_firstOf.desc).map (fun d => d.parameters.length) = some 1 := by decide +kernel
set_option maxRecDepth 100000 in
set_option maxHeartbeats 4000000 in
theorem c1_firstOf (l : Launch) {D : va_G} {cI cW cZ cL : ClassId} {ad : Nat → Nat} (hJ : injA ad 90) (S : sC) (i : Int32) : kMi l yX1_firstOf wsX1_firstOf ({ frames := 2, cells := 0, slots := 0, locals := 42 }) D vwCl (tyL cI cW cZ cL) ad 90 [.ref (ad 85), .int i] (PC cI cW ad S) (rAt (S.1 86) i) (PC cI cW ad S) := by
  refine vv_enter (cc := cX1_firstOf) (maxL := 2) (ret := (some .int)) (own := RX1) (lv := [(0, .ref (ad 85)), (1, .int i)]) (by decide +kernel) rfl rfl hJ (Nat.le_of_ble_eq_true rfl) rfl ?_
  intro p e s m args below meth c hC hK hW hr hlk
  refine vv_aload_n hC 0 dX1_firstOf_0 rfl rfl (q := 1) rfl ?_
  refine vv_get hC hK (K := RX1) (T := TX1) (N := 2) (ci := 1) inwX1_firstOf_X1 85 (kl1 (by decide +kernel)) (oc1 (by decide +kernel)) rfl 0 (by decide) (List.mem_of_getElem? (i := 1) rfl) rfl (v := .ref (ad 86)) rfl dX1_firstOf_1 (q := 4) rfl ?_
  refine vv_iload_n hC 1 dX1_firstOf_4 rfl rfl (q := 5) rfl ?_
  refine vv_calli hC hK (fun _ h => h) (As := [.int i]) 86 (kl5 (by decide +kernel)) (or5 (by decide +kernel)) rfl (c5_at l hJ S 86 (by decide +kernel) i) (cwV 1 hC.2.2.2.2 gX1_firstOf_X5_at rfl rfl rfl hdX5_at ⟨Nat.le_of_ble_eq_true rfl, Nat.le_of_ble_eq_true rfl⟩) rfl rfl (Nat.le_of_ble_eq_true rfl) ⟨Nat.le_of_ble_eq_true rfl, Nat.le_of_ble_eq_true rfl⟩ dX1_firstOf_5 (q := 8) rfl ?_
  exact vv_iret hC hK hr hlk rfl (fun _ h => h) dX1_firstOf_8
theorem inwX1_lastOf_X1 : ∀ w ∈ wsX10, w ∈ wsX1_lastOf := fun _ h => List.mem_cons_of_mem _ (List.mem_append_left _ (List.mem_append_right _ h))
theorem inwX1_lastOf_X5 : ∀ w ∈ wsX50, w ∈ wsX1_lastOf := fun _ h => List.mem_cons_of_mem _ (List.mem_append_right _ h)
theorem hdX1_lastOf : yX1_lastOf.cls = RX1 ∧ yX1_lastOf.cls ≠ "java/lang/invoke/MethodHandle" ∧ yX1_lastOf.cls ≠ "java/lang/invoke/VarHandle" ∧ (parseMethodDescriptor yX1_lastOf.desc).map (fun d => d.parameters.length) = some 1 := by decide +kernel
set_option maxRecDepth 100000 in
set_option maxHeartbeats 4000000 in
theorem c1_lastOf (l : Launch) {D : va_G} {cI cW cZ cL : ClassId} {ad : Nat → Nat} (hJ : injA ad 90) (S : sC) (i : Int32) : kMi l yX1_lastOf wsX1_lastOf ({ frames := 2, cells := 0, slots := 0, locals := 42 }) D vwCl (tyL cI cW cZ cL) ad 90 [.ref (ad 85), .int i] (PC cI cW ad S) (rAt (S.1 88) i) (PC cI cW ad S) := by
  refine vv_enter (cc := cX1_lastOf) (maxL := 2) (ret := (some .int)) (own := RX1) (lv := [(0, .ref (ad 85)), (1, .int i)]) (by decide +kernel) rfl rfl hJ (Nat.le_of_ble_eq_true rfl) rfl ?_
  intro p e s m args below meth c hC hK hW hr hlk
  refine vv_aload_n hC 0 dX1_lastOf_0 rfl rfl (q := 1) rfl ?_
  refine vv_get hC hK (K := RX1) (T := TX1) (N := 2) (ci := 1) inwX1_lastOf_X1 85 (kl1 (by decide +kernel)) (oc1 (by decide +kernel)) rfl 1 (by decide) (List.mem_of_getElem? (i := 1) rfl) rfl (v := .ref (ad 88)) rfl dX1_lastOf_1 (q := 4) rfl ?_
  refine vv_iload_n hC 1 dX1_lastOf_4 rfl rfl (q := 5) rfl ?_
  refine vv_calli hC hK (fun _ h => h) (As := [.int i]) 88 (kl5 (by decide +kernel)) (or5 (by decide +kernel)) rfl (c5_at l hJ S 88 (by decide +kernel) i) (cwV 1 hC.2.2.2.2 gX1_lastOf_X5_at rfl rfl rfl hdX5_at ⟨Nat.le_of_ble_eq_true rfl, Nat.le_of_ble_eq_true rfl⟩) rfl rfl (Nat.le_of_ble_eq_true rfl) ⟨Nat.le_of_ble_eq_true rfl, Nat.le_of_ble_eq_true rfl⟩ dX1_lastOf_5 (q := 8) rfl ?_
  exact vv_iret hC hK hr hlk rfl (fun _ h => h) dX1_lastOf_8
theorem inwX3_count_X3 : ∀ w ∈ wsX30, w ∈ wsX3_count := fun _ h => List.mem_cons_of_mem _ (List.mem_append_left _ (List.mem_append_right _ h))
theorem inwX3_count_X5 : ∀ w ∈ wsX50, w ∈ wsX3_count := fun _ h => List.mem_cons_of_mem _ (List.mem_append_right _ h)
theorem hdX3_count : yX3_count.cls = RX3 ∧ yX3_count.cls ≠ "java/lang/invoke/MethodHandle" ∧ yX3_count.cls ≠ "java/lang/invoke/VarHandle" ∧ (parseMethodDescriptor yX3_count.desc).map (fun d => d.parameters.length) = some 0 := by decide +kernel
set_option maxRecDepth 100000 in
set_option maxHeartbeats 4000000 in
theorem c3_count (l : Launch) {D : va_G} {cI cW cZ cL : ClassId} {ad : Nat → Nat} (hJ : injA ad 90) (S : sC)  : kMi l yX3_count wsX3_count ({ frames := 1, cells := 0, slots := 0, locals := 20 }) D vwCl (tyL cI cW cZ cL) ad 90 [.ref (ad 78)] (PC cI cW ad S) (nI (S.1 79).length) (PC cI cW ad S) := by
  refine vv_enter (cc := cX3_count) (maxL := 1) (ret := (some .int)) (own := RX3) (lv := [(0, .ref (ad 78))]) (by decide +kernel) rfl rfl hJ (Nat.le_of_ble_eq_true rfl) rfl ?_
  intro p e s m args below meth c hC hK hW hr hlk
  refine vv_aload_n hC 0 dX3_count_0 rfl rfl (q := 1) rfl ?_
  refine vv_get hC hK (K := RX3) (T := TX3) (N := 3) (ci := 3) inwX3_count_X3 78 (kl3 (by decide +kernel)) (oc3 (by decide +kernel)) rfl 0 (by decide) (List.mem_of_getElem? (i := 1) rfl) rfl (v := .ref (ad 79)) rfl dX3_count_1 (q := 4) rfl ?_
  refine vv_calli hC hK (fun _ h => h) (As := []) 79 (kl5 (by decide +kernel)) (or5 (by decide +kernel)) rfl (c5_size l hJ S 79 (by decide +kernel)) (cwV 0 hC.2.2.2.2 gX3_count_X5_size rfl rfl rfl hdX5_size ⟨Nat.le_of_ble_eq_true rfl, Nat.le_of_ble_eq_true rfl⟩) rfl rfl (Nat.le_of_ble_eq_true rfl) ⟨Nat.le_of_ble_eq_true rfl, Nat.le_of_ble_eq_true rfl⟩ dX3_count_4 (q := 7) rfl ?_
  exact vv_iret hC hK hr hlk rfl (fun _ h => h) dX3_count_7
theorem inwX3_add_X3 : ∀ w ∈ wsX30, w ∈ wsX3_add := fun _ h => List.mem_cons_of_mem _ (List.mem_append_left _ (List.mem_append_right _ h))
theorem inwX3_add_X5 : ∀ w ∈ wsX50, w ∈ wsX3_add := fun _ h => List.mem_cons_of_mem _ (List.mem_append_right _ h)
theorem hdX3_add : yX3_add.cls = RX3 ∧ yX3_add.cls ≠ "java/lang/invoke/MethodHandle" ∧ yX3_add.cls ≠ "java/lang/invoke/VarHandle" ∧ (parseMethodDescriptor yX3_add.desc).map (fun d => d.parameters.length) = some 2 := by decide +kernel
set_option maxRecDepth 100000 in
set_option maxHeartbeats 4000000 in
theorem c3_add (l : Launch) {D : va_G} {cI cW cZ cL : ClassId} {ad : Nat → Nat} (hJ : injA ad 90) (S : sC) (a b : Int32) : kMi l yX3_add wsX3_add ({ frames := 3, cells := 0, slots := 0, locals := 83 }) D vwCl (tyL cI cW cZ cL) ad 90 [.ref (ad 78), .int a, .int b] (PC cI cW ad S) (nI ((isAdd S a b).1 79).length - 1) (PC cI cW ad (isAdd S a b)) := by
  refine vv_enter (cc := cX3_add) (maxL := 3) (ret := (some .int)) (own := RX3) (lv := [(0, .ref (ad 78)), (1, .int a), (2, .int b)]) (by decide +kernel) rfl rfl hJ (Nat.le_of_ble_eq_true rfl) rfl ?_
  intro p e s m args below meth c hC hK hW hr hlk
  refine vv_aload_n hC 0 dX3_add_0 rfl rfl (q := 1) rfl ?_
  refine vv_get hC hK (K := RX3) (T := TX3) (N := 3) (ci := 3) inwX3_add_X3 78 (kl3 (by decide +kernel)) (oc3 (by decide +kernel)) rfl 0 (by decide) (List.mem_of_getElem? (i := 1) rfl) rfl (v := .ref (ad 79)) rfl dX3_add_1 (q := 4) rfl ?_
  refine vv_iload_n hC 1 dX3_add_4 rfl rfl (q := 5) rfl ?_
  refine vv_callv hC hK (fun _ h => h) (As := [.int a]) 79 (kl5 (by decide +kernel)) (or5 (by decide +kernel)) rfl (c5_add l hJ S 79 (by decide +kernel) a) (cwV 1 hC.2.2.2.2 gX3_add_X5_add rfl rfl rfl hdX5_add ⟨Nat.le_of_ble_eq_true rfl, Nat.le_of_ble_eq_true rfl⟩) rfl rfl (Nat.le_of_ble_eq_true rfl) ⟨Nat.le_of_ble_eq_true rfl, Nat.le_of_ble_eq_true rfl⟩ dX3_add_5 (q := 8) rfl ?_
  refine vv_aload_n hC 0 dX3_add_8 rfl rfl (q := 9) rfl ?_
  refine vv_get hC hK (K := RX3) (T := TX3) (N := 3) (ci := 3) inwX3_add_X3 78 (kl3 (by decide +kernel)) (oc3 (by decide +kernel)) rfl 1 (by decide) (List.mem_of_getElem? (i := 2) rfl) rfl (v := .ref (ad 81)) rfl dX3_add_9 (q := 12) rfl ?_
  refine vv_iload_n hC 2 dX3_add_12 rfl rfl (q := 13) rfl ?_
  refine vv_callv hC hK (fun _ h => h) (As := [.int b]) 81 (kl5 (by decide +kernel)) (or5 (by decide +kernel)) rfl (c5_add l hJ (sSet S 79 (rAdd (S.1 79) (cap 79) a)) 81 (by decide +kernel) b) (cwV 1 hC.2.2.2.2 gX3_add_X5_add rfl rfl rfl hdX5_add ⟨Nat.le_of_ble_eq_true rfl, Nat.le_of_ble_eq_true rfl⟩) rfl rfl (Nat.le_of_ble_eq_true rfl) ⟨Nat.le_of_ble_eq_true rfl, Nat.le_of_ble_eq_true rfl⟩ dX3_add_13 (q := 16) rfl ?_
  refine vv_aload_n hC 0 dX3_add_16 rfl rfl (q := 17) rfl ?_
  refine vv_get hC hK (K := RX3) (T := TX3) (N := 3) (ci := 3) inwX3_add_X3 78 (kl3 (by decide +kernel)) (oc3 (by decide +kernel)) rfl 2 (by decide) (List.mem_of_getElem? (i := 3) rfl) rfl (v := .ref (ad 83)) rfl dX3_add_17 (q := 20) rfl ?_
  refine vv_iconst hC (v := (-1)) dX3_add_20 rfl (q := 21) rfl ?_
  refine vv_callv hC hK (fun _ h => h) (As := [.int (-1)]) 83 (kl5 (by decide +kernel)) (or5 (by decide +kernel)) rfl (c5_add l hJ (sSet (sSet S 79 (rAdd (S.1 79) (cap 79) a)) 81 (rAdd ((sSet S 79 (rAdd (S.1 79) (cap 79) a)).1 81) (cap 81) b)) 83 (by decide +kernel) (-1)) (cwV 1 hC.2.2.2.2 gX3_add_X5_add rfl rfl rfl hdX5_add ⟨Nat.le_of_ble_eq_true rfl, Nat.le_of_ble_eq_true rfl⟩) rfl rfl (Nat.le_of_ble_eq_true rfl) ⟨Nat.le_of_ble_eq_true rfl, Nat.le_of_ble_eq_true rfl⟩ dX3_add_21 (q := 24) rfl ?_
  refine vv_aload_n hC 0 dX3_add_24 rfl rfl (q := 25) rfl ?_
  refine vv_calli hC hK (fun _ h => h) (As := []) 78 (kl3 (by decide +kernel)) (or3 (by decide +kernel)) rfl (c3_count l hJ (sSet (sSet (sSet S 79 (rAdd (S.1 79) (cap 79) a)) 81 (rAdd ((sSet S 79 (rAdd (S.1 79) (cap 79) a)).1 81) (cap 81) b)) 83 (rAdd ((sSet (sSet S 79 (rAdd (S.1 79) (cap 79) a)) 81 (rAdd ((sSet S 79 (rAdd (S.1 79) (cap 79) a)).1 81) (cap 81) b)).1 83) (cap 83) (-1)))) (cwV 0 hC.2.2.2.2 gX3_add_X3_count rfl rfl rfl hdX3_count ⟨Nat.le_of_ble_eq_true rfl, Nat.le_of_ble_eq_true rfl⟩) rfl rfl (Nat.le_of_ble_eq_true rfl) ⟨Nat.le_of_ble_eq_true rfl, Nat.le_of_ble_eq_true rfl⟩ dX3_add_25 (q := 28) rfl ?_
  refine vv_iconst hC (v := 1) dX3_add_28 rfl (q := 29) rfl ?_
  refine vv_isub hC dX3_add_29 (q := 30) rfl ?_
  exact vv_iret hC hK hr hlk rfl (fun _ h => h) dX3_add_30
theorem inwX3_ofDay_X3 : ∀ w ∈ wsX30, w ∈ wsX3_ofDay := fun _ h => List.mem_cons_of_mem _ (List.mem_append_left _ (List.mem_append_right _ h))
theorem inwX3_ofDay_X5 : ∀ w ∈ wsX50, w ∈ wsX3_ofDay := fun _ h => List.mem_cons_of_mem _ (List.mem_append_right _ h)
theorem hdX3_ofDay : yX3_ofDay.cls = RX3 ∧ yX3_ofDay.cls ≠ "java/lang/invoke/MethodHandle" ∧ yX3_ofDay.cls ≠ "java/lang/invoke/VarHandle" ∧ (parseMethodDescriptor yX3_ofDay.desc).map (fun d => d.parameters.length) = some 1 := by decide +kernel
set_option maxRecDepth 100000 in
set_option maxHeartbeats 4000000 in
theorem c3_ofDay (l : Launch) {D : va_G} {cI cW cZ cL : ClassId} {ad : Nat → Nat} (hJ : injA ad 90) (S : sC) (i : Int32) : kMi l yX3_ofDay wsX3_ofDay ({ frames := 3, cells := 0, slots := 0, locals := 64 }) D vwCl (tyL cI cW cZ cL) ad 90 [.ref (ad 78), .int i] (PC cI cW ad S) (rIdx (S.1 79) i) (PC cI cW ad S) := by
  refine vv_enter (cc := cX3_ofDay) (maxL := 2) (ret := (some .int)) (own := RX3) (lv := [(0, .ref (ad 78)), (1, .int i)]) (by decide +kernel) rfl rfl hJ (Nat.le_of_ble_eq_true rfl) rfl ?_
  intro p e s m args below meth c hC hK hW hr hlk
  refine vv_aload_n hC 0 dX3_ofDay_0 rfl rfl (q := 1) rfl ?_
  refine vv_get hC hK (K := RX3) (T := TX3) (N := 3) (ci := 3) inwX3_ofDay_X3 78 (kl3 (by decide +kernel)) (oc3 (by decide +kernel)) rfl 0 (by decide) (List.mem_of_getElem? (i := 1) rfl) rfl (v := .ref (ad 79)) rfl dX3_ofDay_1 (q := 4) rfl ?_
  refine vv_iload_n hC 1 dX3_ofDay_4 rfl rfl (q := 5) rfl ?_
  refine vv_calli hC hK (fun _ h => h) (As := [.int i]) 79 (kl5 (by decide +kernel)) (or5 (by decide +kernel)) rfl (c5_indexOf l hJ S 79 (by decide +kernel) i) (cwV 1 hC.2.2.2.2 gX3_ofDay_X5_indexOf rfl rfl rfl hdX5_indexOf ⟨Nat.le_of_ble_eq_true rfl, Nat.le_of_ble_eq_true rfl⟩) rfl rfl (Nat.le_of_ble_eq_true rfl) ⟨Nat.le_of_ble_eq_true rfl, Nat.le_of_ble_eq_true rfl⟩ dX3_ofDay_5 (q := 8) rfl ?_
  exact vv_iret hC hK hr hlk rfl (fun _ h => h) dX3_ofDay_8
theorem inwX3_roomOf_X3 : ∀ w ∈ wsX30, w ∈ wsX3_roomOf := fun _ h => List.mem_cons_of_mem _ (List.mem_append_left _ (List.mem_append_right _ h))
theorem inwX3_roomOf_X5 : ∀ w ∈ wsX50, w ∈ wsX3_roomOf := fun _ h => List.mem_cons_of_mem _ (List.mem_append_right _ h)
theorem hdX3_roomOf : yX3_roomOf.cls = RX3 ∧ yX3_roomOf.cls ≠ "java/lang/invoke/MethodHandle" ∧ yX3_roomOf.cls ≠ "java/lang/invoke/VarHandle" ∧ (parseMethodDescriptor yX3_roomOf.desc).map (fun d => d.parameters.length) = some 1 := by decide +kernel
set_option maxRecDepth 100000 in
set_option maxHeartbeats 4000000 in
theorem c3_roomOf (l : Launch) {D : va_G} {cI cW cZ cL : ClassId} {ad : Nat → Nat} (hJ : injA ad 90) (S : sC) (i : Int32) : kMi l yX3_roomOf wsX3_roomOf ({ frames := 2, cells := 0, slots := 0, locals := 42 }) D vwCl (tyL cI cW cZ cL) ad 90 [.ref (ad 78), .int i] (PC cI cW ad S) (rAt (S.1 81) i) (PC cI cW ad S) := by
  refine vv_enter (cc := cX3_roomOf) (maxL := 2) (ret := (some .int)) (own := RX3) (lv := [(0, .ref (ad 78)), (1, .int i)]) (by decide +kernel) rfl rfl hJ (Nat.le_of_ble_eq_true rfl) rfl ?_
  intro p e s m args below meth c hC hK hW hr hlk
  refine vv_aload_n hC 0 dX3_roomOf_0 rfl rfl (q := 1) rfl ?_
  refine vv_get hC hK (K := RX3) (T := TX3) (N := 3) (ci := 3) inwX3_roomOf_X3 78 (kl3 (by decide +kernel)) (oc3 (by decide +kernel)) rfl 1 (by decide) (List.mem_of_getElem? (i := 1) rfl) rfl (v := .ref (ad 81)) rfl dX3_roomOf_1 (q := 4) rfl ?_
  refine vv_iload_n hC 1 dX3_roomOf_4 rfl rfl (q := 5) rfl ?_
  refine vv_calli hC hK (fun _ h => h) (As := [.int i]) 81 (kl5 (by decide +kernel)) (or5 (by decide +kernel)) rfl (c5_at l hJ S 81 (by decide +kernel) i) (cwV 1 hC.2.2.2.2 gX3_roomOf_X5_at rfl rfl rfl hdX5_at ⟨Nat.le_of_ble_eq_true rfl, Nat.le_of_ble_eq_true rfl⟩) rfl rfl (Nat.le_of_ble_eq_true rfl) ⟨Nat.le_of_ble_eq_true rfl, Nat.le_of_ble_eq_true rfl⟩ dX3_roomOf_5 (q := 8) rfl ?_
  exact vv_iret hC hK hr hlk rfl (fun _ h => h) dX3_roomOf_8
theorem inwX3_setPrinted_X3 : ∀ w ∈ wsX30, w ∈ wsX3_setPrinted := fun _ h => List.mem_cons_of_mem _ (List.mem_append_left _ (List.mem_append_right _ h))
theorem inwX3_setPrinted_X5 : ∀ w ∈ wsX50, w ∈ wsX3_setPrinted := fun _ h => List.mem_cons_of_mem _ (List.mem_append_right _ h)
theorem hdX3_setPrinted : yX3_setPrinted.cls = RX3 ∧ yX3_setPrinted.cls ≠ "java/lang/invoke/MethodHandle" ∧ yX3_setPrinted.cls ≠ "java/lang/invoke/VarHandle" ∧ (parseMethodDescriptor yX3_setPrinted.desc).map (fun d => d.parameters.length) = some 2 := by decide +kernel
set_option maxRecDepth 100000 in
set_option maxHeartbeats 4000000 in
theorem c3_setPrinted (l : Launch) {D : va_G} {cI cW cZ cL : ClassId} {ad : Nat → Nat} (hJ : injA ad 90) (S : sC) (i v : Int32) : kMv l yX3_setPrinted wsX3_setPrinted ({ frames := 2, cells := 0, slots := 0, locals := 43 }) D vwCl (tyL cI cW cZ cL) ad 90 [.ref (ad 78), .int i, .int v] (PC cI cW ad S) (PC cI cW ad (sSet S 83 (rSet (S.1 83) i v))) := by
  refine vv_enter (cc := cX3_setPrinted) (maxL := 3) (ret := none) (own := RX3) (lv := [(0, .ref (ad 78)), (1, .int i), (2, .int v)]) (by decide +kernel) rfl rfl hJ (Nat.le_of_ble_eq_true rfl) rfl ?_
  intro p e s m args below meth c hC hK hW hr hlk
  refine vv_aload_n hC 0 dX3_setPrinted_0 rfl rfl (q := 1) rfl ?_
  refine vv_get hC hK (K := RX3) (T := TX3) (N := 3) (ci := 3) inwX3_setPrinted_X3 78 (kl3 (by decide +kernel)) (oc3 (by decide +kernel)) rfl 2 (by decide) (List.mem_of_getElem? (i := 1) rfl) rfl (v := .ref (ad 83)) rfl dX3_setPrinted_1 (q := 4) rfl ?_
  refine vv_iload_n hC 1 dX3_setPrinted_4 rfl rfl (q := 5) rfl ?_
  refine vv_iload_n hC 2 dX3_setPrinted_5 rfl rfl (q := 6) rfl ?_
  refine vv_callv hC hK (fun _ h => h) (As := [.int i, .int v]) 83 (kl5 (by decide +kernel)) (or5 (by decide +kernel)) rfl (c5_set l hJ S 83 (by decide +kernel) i v) (cwV 2 hC.2.2.2.2 gX3_setPrinted_X5_set rfl rfl rfl hdX5_set ⟨Nat.le_of_ble_eq_true rfl, Nat.le_of_ble_eq_true rfl⟩) rfl rfl (Nat.le_of_ble_eq_true rfl) ⟨Nat.le_of_ble_eq_true rfl, Nat.le_of_ble_eq_true rfl⟩ dX3_setPrinted_6 (q := 9) rfl ?_
  exact vv_vret hC hK hr hlk (fun _ h => h) dX3_setPrinted_9
theorem inwX4_count_X4 : ∀ w ∈ wsX40, w ∈ wsX4_count := fun _ h => List.mem_cons_of_mem _ (List.mem_append_left _ (List.mem_append_right _ h))
theorem inwX4_count_X5 : ∀ w ∈ wsX50, w ∈ wsX4_count := fun _ h => List.mem_cons_of_mem _ (List.mem_append_right _ h)
theorem hdX4_count : yX4_count.cls = RX4 ∧ yX4_count.cls ≠ "java/lang/invoke/MethodHandle" ∧ yX4_count.cls ≠ "java/lang/invoke/VarHandle" ∧ (parseMethodDescriptor yX4_count.desc).map (fun d => d.parameters.length) = some 0 := by decide +kernel
set_option maxRecDepth 100000 in
set_option maxHeartbeats 4000000 in
theorem c4_count (l : Launch) {D : va_G} {cI cW cZ cL : ClassId} {ad : Nat → Nat} (hJ : injA ad 90) (S : sC)  : kMi l yX4_count wsX4_count ({ frames := 1, cells := 0, slots := 0, locals := 20 }) D vwCl (tyL cI cW cZ cL) ad 90 [.ref (ad 61)] (PC cI cW ad S) (nI (S.1 62).length) (PC cI cW ad S) := by
  refine vv_enter (cc := cX4_count) (maxL := 1) (ret := (some .int)) (own := RX4) (lv := [(0, .ref (ad 61))]) (by decide +kernel) rfl rfl hJ (Nat.le_of_ble_eq_true rfl) rfl ?_
  intro p e s m args below meth c hC hK hW hr hlk
  refine vv_aload_n hC 0 dX4_count_0 rfl rfl (q := 1) rfl ?_
  refine vv_get hC hK (K := RX4) (T := TX4) (N := 8) (ci := 4) inwX4_count_X4 61 (kl4 (by decide +kernel)) (oc4 (by decide +kernel)) rfl 0 (by decide) (List.mem_of_getElem? (i := 1) rfl) rfl (v := .ref (ad 62)) rfl dX4_count_1 (q := 4) rfl ?_
  refine vv_calli hC hK (fun _ h => h) (As := []) 62 (kl5 (by decide +kernel)) (or5 (by decide +kernel)) rfl (c5_size l hJ S 62 (by decide +kernel)) (cwV 0 hC.2.2.2.2 gX4_count_X5_size rfl rfl rfl hdX5_size ⟨Nat.le_of_ble_eq_true rfl, Nat.le_of_ble_eq_true rfl⟩) rfl rfl (Nat.le_of_ble_eq_true rfl) ⟨Nat.le_of_ble_eq_true rfl, Nat.le_of_ble_eq_true rfl⟩ dX4_count_4 (q := 7) rfl ?_
  exact vv_iret hC hK hr hlk rfl (fun _ h => h) dX4_count_7
theorem inwX4_changeRate_X4 : ∀ w ∈ wsX40, w ∈ wsX4_changeRate := fun _ h => List.mem_cons_of_mem _ (List.mem_append_left _ (List.mem_append_right _ h))
theorem inwX4_changeRate_X5 : ∀ w ∈ wsX50, w ∈ wsX4_changeRate := fun _ h => List.mem_cons_of_mem _ (List.mem_append_right _ h)
theorem hdX4_changeRate : yX4_changeRate.cls = RX4 ∧ yX4_changeRate.cls ≠ "java/lang/invoke/MethodHandle" ∧ yX4_changeRate.cls ≠ "java/lang/invoke/VarHandle" ∧ (parseMethodDescriptor yX4_changeRate.desc).map (fun d => d.parameters.length) = some 2 := by decide +kernel
set_option maxRecDepth 100000 in
set_option maxHeartbeats 4000000 in
theorem c4_changeRate (l : Launch) {D : va_G} {cI cW cZ cL : ClassId} {ad : Nat → Nat} (hJ : injA ad 90) (S : sC) (i v : Int32) : kMi l yX4_changeRate wsX4_changeRate ({ frames := 2, cells := 0, slots := 0, locals := 43 }) D vwCl (tyL cI cW cZ cL) ad 90 [.ref (ad 61), .int i, .int v] (PC cI cW ad S) (rAt (S.1 74) i) (PC cI cW ad (sSet S 74 (rSet (S.1 74) i v))) := by
  refine vv_enter (cc := cX4_changeRate) (maxL := 4) (ret := (some .int)) (own := RX4) (lv := [(0, .ref (ad 61)), (1, .int i), (2, .int v)]) (by decide +kernel) rfl rfl hJ (Nat.le_of_ble_eq_true rfl) rfl ?_
  intro p e s m args below meth c hC hK hW hr hlk
  refine vv_aload_n hC 0 dX4_changeRate_0 rfl rfl (q := 1) rfl ?_
  refine vv_get hC hK (K := RX4) (T := TX4) (N := 8) (ci := 4) inwX4_changeRate_X4 61 (kl4 (by decide +kernel)) (oc4 (by decide +kernel)) rfl 6 (by decide) (List.mem_of_getElem? (i := 1) rfl) rfl (v := .ref (ad 74)) rfl dX4_changeRate_1 (q := 4) rfl ?_
  refine vv_iload_n hC 1 dX4_changeRate_4 rfl rfl (q := 5) rfl ?_
  refine vv_calli hC hK (fun _ h => h) (As := [.int i]) 74 (kl5 (by decide +kernel)) (or5 (by decide +kernel)) rfl (c5_at l hJ S 74 (by decide +kernel) i) (cwV 1 hC.2.2.2.2 gX4_changeRate_X5_at rfl rfl rfl hdX5_at ⟨Nat.le_of_ble_eq_true rfl, Nat.le_of_ble_eq_true rfl⟩) rfl rfl (Nat.le_of_ble_eq_true rfl) ⟨Nat.le_of_ble_eq_true rfl, Nat.le_of_ble_eq_true rfl⟩ dX4_changeRate_5 (q := 8) rfl ?_
  refine vv_istore_n hC (i := 3) (lv' := [(3, .int (rAt (S.1 74) i)), (0, .ref (ad 61)), (1, .int i), (2, .int v)]) dX4_changeRate_8 rfl (by decide) rfl (q := 9) rfl ?_
  refine vv_aload_n hC 1 dX4_changeRate_9 rfl rfl (q := 10) rfl ?_
  refine vv_get hC hK (K := RX4) (T := TX4) (N := 8) (ci := 4) inwX4_changeRate_X4 61 (kl4 (by decide +kernel)) (oc4 (by decide +kernel)) rfl 6 (by decide) (List.mem_of_getElem? (i := 1) rfl) rfl (v := .ref (ad 74)) rfl dX4_changeRate_10 (q := 13) rfl ?_
  refine vv_iload_n hC 2 dX4_changeRate_13 rfl rfl (q := 14) rfl ?_
  refine vv_iload_n hC 3 dX4_changeRate_14 rfl rfl (q := 15) rfl ?_
  refine vv_callv hC hK (fun _ h => h) (As := [.int i, .int v]) 74 (kl5 (by decide +kernel)) (or5 (by decide +kernel)) rfl (c5_set l hJ S 74 (by decide +kernel) i v) (cwV 2 hC.2.2.2.2 gX4_changeRate_X5_set rfl rfl rfl hdX5_set ⟨Nat.le_of_ble_eq_true rfl, Nat.le_of_ble_eq_true rfl⟩) rfl rfl (Nat.le_of_ble_eq_true rfl) ⟨Nat.le_of_ble_eq_true rfl, Nat.le_of_ble_eq_true rfl⟩ dX4_changeRate_15 (q := 18) rfl ?_
  refine vv_iload_n hC 0 dX4_changeRate_18 rfl rfl (q := 19) rfl ?_
  exact vv_iret hC hK hr hlk rfl (fun _ h => h) dX4_changeRate_19
theorem inwX4_earnedBy_X4 : ∀ w ∈ wsX40, w ∈ wsX4_earnedBy := fun _ h => List.mem_cons_of_mem _ (List.mem_append_left _ (List.mem_append_right _ h))
theorem inwX4_earnedBy_X5 : ∀ w ∈ wsX50, w ∈ wsX4_earnedBy := fun _ h => List.mem_cons_of_mem _ (List.mem_append_right _ h)
theorem hdX4_earnedBy : yX4_earnedBy.cls = RX4 ∧ yX4_earnedBy.cls ≠ "java/lang/invoke/MethodHandle" ∧ yX4_earnedBy.cls ≠ "java/lang/invoke/VarHandle" ∧ (parseMethodDescriptor yX4_earnedBy.desc).map (fun d => d.parameters.length) = some 1 := by decide +kernel
set_option maxRecDepth 100000 in
set_option maxHeartbeats 4000000 in
theorem c4_earnedBy (l : Launch) {D : va_G} {cI cW cZ cL : ClassId} {ad : Nat → Nat} (hJ : injA ad 90) (S : sC) (i : Int32) : kMi l yX4_earnedBy wsX4_earnedBy ({ frames := 2, cells := 0, slots := 0, locals := 42 }) D vwCl (tyL cI cW cZ cL) ad 90 [.ref (ad 61), .int i] (PC cI cW ad S) (rAt (S.1 76) i) (PC cI cW ad S) := by
  refine vv_enter (cc := cX4_earnedBy) (maxL := 2) (ret := (some .int)) (own := RX4) (lv := [(0, .ref (ad 61)), (1, .int i)]) (by decide +kernel) rfl rfl hJ (Nat.le_of_ble_eq_true rfl) rfl ?_
  intro p e s m args below meth c hC hK hW hr hlk
  refine vv_aload_n hC 0 dX4_earnedBy_0 rfl rfl (q := 1) rfl ?_
  refine vv_get hC hK (K := RX4) (T := TX4) (N := 8) (ci := 4) inwX4_earnedBy_X4 61 (kl4 (by decide +kernel)) (oc4 (by decide +kernel)) rfl 7 (by decide) (List.mem_of_getElem? (i := 1) rfl) rfl (v := .ref (ad 76)) rfl dX4_earnedBy_1 (q := 4) rfl ?_
  refine vv_iload_n hC 1 dX4_earnedBy_4 rfl rfl (q := 5) rfl ?_
  refine vv_calli hC hK (fun _ h => h) (As := [.int i]) 76 (kl5 (by decide +kernel)) (or5 (by decide +kernel)) rfl (c5_at l hJ S 76 (by decide +kernel) i) (cwV 1 hC.2.2.2.2 gX4_earnedBy_X5_at rfl rfl rfl hdX5_at ⟨Nat.le_of_ble_eq_true rfl, Nat.le_of_ble_eq_true rfl⟩) rfl rfl (Nat.le_of_ble_eq_true rfl) ⟨Nat.le_of_ble_eq_true rfl, Nat.le_of_ble_eq_true rfl⟩ dX4_earnedBy_5 (q := 8) rfl ?_
  exact vv_iret hC hK hr hlk rfl (fun _ h => h) dX4_earnedBy_8
theorem inwX4_stateAt_X4 : ∀ w ∈ wsX40, w ∈ wsX4_stateAt := fun _ h => List.mem_cons_of_mem _ (List.mem_append_left _ (List.mem_append_right _ h))
theorem inwX4_stateAt_X5 : ∀ w ∈ wsX50, w ∈ wsX4_stateAt := fun _ h => List.mem_cons_of_mem _ (List.mem_append_right _ h)
theorem hdX4_stateAt : yX4_stateAt.cls = RX4 ∧ yX4_stateAt.cls ≠ "java/lang/invoke/MethodHandle" ∧ yX4_stateAt.cls ≠ "java/lang/invoke/VarHandle" ∧ (parseMethodDescriptor yX4_stateAt.desc).map (fun d => d.parameters.length) = some 1 := by decide +kernel
set_option maxRecDepth 100000 in
set_option maxHeartbeats 4000000 in
theorem c4_stateAt (l : Launch) {D : va_G} {cI cW cZ cL : ClassId} {ad : Nat → Nat} (hJ : injA ad 90) (S : sC) (i : Int32) : kMi l yX4_stateAt wsX4_stateAt ({ frames := 2, cells := 0, slots := 0, locals := 42 }) D vwCl (tyL cI cW cZ cL) ad 90 [.ref (ad 61), .int i] (PC cI cW ad S) (rAt (S.1 68) i) (PC cI cW ad S) := by
  refine vv_enter (cc := cX4_stateAt) (maxL := 2) (ret := (some .int)) (own := RX4) (lv := [(0, .ref (ad 61)), (1, .int i)]) (by decide +kernel) rfl rfl hJ (Nat.le_of_ble_eq_true rfl) rfl ?_
  intro p e s m args below meth c hC hK hW hr hlk
  refine vv_aload_n hC 0 dX4_stateAt_0 rfl rfl (q := 1) rfl ?_
  refine vv_get hC hK (K := RX4) (T := TX4) (N := 8) (ci := 4) inwX4_stateAt_X4 61 (kl4 (by decide +kernel)) (oc4 (by decide +kernel)) rfl 3 (by decide) (List.mem_of_getElem? (i := 1) rfl) rfl (v := .ref (ad 68)) rfl dX4_stateAt_1 (q := 4) rfl ?_
  refine vv_iload_n hC 1 dX4_stateAt_4 rfl rfl (q := 5) rfl ?_
  refine vv_calli hC hK (fun _ h => h) (As := [.int i]) 68 (kl5 (by decide +kernel)) (or5 (by decide +kernel)) rfl (c5_at l hJ S 68 (by decide +kernel) i) (cwV 1 hC.2.2.2.2 gX4_stateAt_X5_at rfl rfl rfl hdX5_at ⟨Nat.le_of_ble_eq_true rfl, Nat.le_of_ble_eq_true rfl⟩) rfl rfl (Nat.le_of_ble_eq_true rfl) ⟨Nat.le_of_ble_eq_true rfl, Nat.le_of_ble_eq_true rfl⟩ dX4_stateAt_5 (q := 8) rfl ?_
  exact vv_iret hC hK hr hlk rfl (fun _ h => h) dX4_stateAt_8
theorem inwX4_sizeOf_X4 : ∀ w ∈ wsX40, w ∈ wsX4_sizeOf := fun _ h => List.mem_cons_of_mem _ (List.mem_append_left _ (List.mem_append_right _ h))
theorem inwX4_sizeOf_X5 : ∀ w ∈ wsX50, w ∈ wsX4_sizeOf := fun _ h => List.mem_cons_of_mem _ (List.mem_append_right _ h)
theorem hdX4_sizeOf : yX4_sizeOf.cls = RX4 ∧ yX4_sizeOf.cls ≠ "java/lang/invoke/MethodHandle" ∧ yX4_sizeOf.cls ≠ "java/lang/invoke/VarHandle" ∧ (parseMethodDescriptor yX4_sizeOf.desc).map (fun d => d.parameters.length) = some 1 := by decide +kernel
set_option maxRecDepth 100000 in
set_option maxHeartbeats 4000000 in
theorem c4_sizeOf (l : Launch) {D : va_G} {cI cW cZ cL : ClassId} {ad : Nat → Nat} (hJ : injA ad 90) (S : sC) (i : Int32) : kMi l yX4_sizeOf wsX4_sizeOf ({ frames := 2, cells := 0, slots := 0, locals := 42 }) D vwCl (tyL cI cW cZ cL) ad 90 [.ref (ad 61), .int i] (PC cI cW ad S) (rAt (S.1 64) i) (PC cI cW ad S) := by
  refine vv_enter (cc := cX4_sizeOf) (maxL := 2) (ret := (some .int)) (own := RX4) (lv := [(0, .ref (ad 61)), (1, .int i)]) (by decide +kernel) rfl rfl hJ (Nat.le_of_ble_eq_true rfl) rfl ?_
  intro p e s m args below meth c hC hK hW hr hlk
  refine vv_aload_n hC 0 dX4_sizeOf_0 rfl rfl (q := 1) rfl ?_
  refine vv_get hC hK (K := RX4) (T := TX4) (N := 8) (ci := 4) inwX4_sizeOf_X4 61 (kl4 (by decide +kernel)) (oc4 (by decide +kernel)) rfl 1 (by decide) (List.mem_of_getElem? (i := 1) rfl) rfl (v := .ref (ad 64)) rfl dX4_sizeOf_1 (q := 4) rfl ?_
  refine vv_iload_n hC 1 dX4_sizeOf_4 rfl rfl (q := 5) rfl ?_
  refine vv_calli hC hK (fun _ h => h) (As := [.int i]) 64 (kl5 (by decide +kernel)) (or5 (by decide +kernel)) rfl (c5_at l hJ S 64 (by decide +kernel) i) (cwV 1 hC.2.2.2.2 gX4_sizeOf_X5_at rfl rfl rfl hdX5_at ⟨Nat.le_of_ble_eq_true rfl, Nat.le_of_ble_eq_true rfl⟩) rfl rfl (Nat.le_of_ble_eq_true rfl) ⟨Nat.le_of_ble_eq_true rfl, Nat.le_of_ble_eq_true rfl⟩ dX4_sizeOf_5 (q := 8) rfl ?_
  exact vv_iret hC hK hr hlk rfl (fun _ h => h) dX4_sizeOf_8
theorem inwX4_waitingAt_X4 : ∀ w ∈ wsX40, w ∈ wsX4_waitingAt := fun _ h => List.mem_cons_of_mem _ (List.mem_append_left _ (List.mem_append_right _ h))
theorem inwX4_waitingAt_X5 : ∀ w ∈ wsX50, w ∈ wsX4_waitingAt := fun _ h => List.mem_cons_of_mem _ (List.mem_append_right _ h)
theorem hdX4_waitingAt : yX4_waitingAt.cls = RX4 ∧ yX4_waitingAt.cls ≠ "java/lang/invoke/MethodHandle" ∧ yX4_waitingAt.cls ≠ "java/lang/invoke/VarHandle" ∧ (parseMethodDescriptor yX4_waitingAt.desc).map (fun d => d.parameters.length) = some 1 := by decide +kernel
set_option maxRecDepth 100000 in
set_option maxHeartbeats 4000000 in
theorem c4_waitingAt (l : Launch) {D : va_G} {cI cW cZ cL : ClassId} {ad : Nat → Nat} (hJ : injA ad 90) (S : sC) (i : Int32) : kMi l yX4_waitingAt wsX4_waitingAt ({ frames := 2, cells := 0, slots := 0, locals := 42 }) D vwCl (tyL cI cW cZ cL) ad 90 [.ref (ad 61), .int i] (PC cI cW ad S) (rAt (S.1 72) i) (PC cI cW ad S) := by
  refine vv_enter (cc := cX4_waitingAt) (maxL := 2) (ret := (some .int)) (own := RX4) (lv := [(0, .ref (ad 61)), (1, .int i)]) (by decide +kernel) rfl rfl hJ (Nat.le_of_ble_eq_true rfl) rfl ?_
  intro p e s m args below meth c hC hK hW hr hlk
  refine vv_aload_n hC 0 dX4_waitingAt_0 rfl rfl (q := 1) rfl ?_
  refine vv_get hC hK (K := RX4) (T := TX4) (N := 8) (ci := 4) inwX4_waitingAt_X4 61 (kl4 (by decide +kernel)) (oc4 (by decide +kernel)) rfl 5 (by decide) (List.mem_of_getElem? (i := 1) rfl) rfl (v := .ref (ad 72)) rfl dX4_waitingAt_1 (q := 4) rfl ?_
  refine vv_iload_n hC 1 dX4_waitingAt_4 rfl rfl (q := 5) rfl ?_
  refine vv_calli hC hK (fun _ h => h) (As := [.int i]) 72 (kl5 (by decide +kernel)) (or5 (by decide +kernel)) rfl (c5_at l hJ S 72 (by decide +kernel) i) (cwV 1 hC.2.2.2.2 gX4_waitingAt_X5_at rfl rfl rfl hdX5_at ⟨Nat.le_of_ble_eq_true rfl, Nat.le_of_ble_eq_true rfl⟩) rfl rfl (Nat.le_of_ble_eq_true rfl) ⟨Nat.le_of_ble_eq_true rfl, Nat.le_of_ble_eq_true rfl⟩ dX4_waitingAt_5 (q := 8) rfl ?_
  exact vv_iret hC hK hr hlk rfl (fun _ h => h) dX4_waitingAt_8
theorem inwX4_add_X4 : ∀ w ∈ wsX40, w ∈ wsX4_add := fun _ h => List.mem_cons_of_mem _ (List.mem_append_left _ (List.mem_append_right _ h))
theorem inwX4_add_X5 : ∀ w ∈ wsX50, w ∈ wsX4_add := fun _ h => List.mem_cons_of_mem _ (List.mem_append_right _ h)
theorem hdX4_add : yX4_add.cls = RX4 ∧ yX4_add.cls ≠ "java/lang/invoke/MethodHandle" ∧ yX4_add.cls ≠ "java/lang/invoke/VarHandle" ∧ (parseMethodDescriptor yX4_add.desc).map (fun d => d.parameters.length) = some 2 := by decide +kernel
set_option maxRecDepth 100000 in
set_option maxHeartbeats 4000000 in
theorem c4_add (l : Launch) {D : va_G} {cI cW cZ cL : ClassId} {ad : Nat → Nat} (hJ : injA ad 90) (S : sC) (a b : Int32) : kMi l yX4_add wsX4_add ({ frames := 3, cells := 0, slots := 0, locals := 83 }) D vwCl (tyL cI cW cZ cL) ad 90 [.ref (ad 61), .int a, .int b] (PC cI cW ad S) (nI ((rvAdd S a b).1 62).length - 1) (PC cI cW ad (rvAdd S a b)) := by
  refine vv_enter (cc := cX4_add) (maxL := 3) (ret := (some .int)) (own := RX4) (lv := [(0, .ref (ad 61)), (1, .int a), (2, .int b)]) (by decide +kernel) rfl rfl hJ (Nat.le_of_ble_eq_true rfl) rfl ?_
  intro p e s m args below meth c hC hK hW hr hlk
  refine vv_aload_n hC 0 dX4_add_0 rfl rfl (q := 1) rfl ?_
  refine vv_get hC hK (K := RX4) (T := TX4) (N := 8) (ci := 4) inwX4_add_X4 61 (kl4 (by decide +kernel)) (oc4 (by decide +kernel)) rfl 0 (by decide) (List.mem_of_getElem? (i := 1) rfl) rfl (v := .ref (ad 62)) rfl dX4_add_1 (q := 4) rfl ?_
  refine vv_iload_n hC 1 dX4_add_4 rfl rfl (q := 5) rfl ?_
  refine vv_callv hC hK (fun _ h => h) (As := [.int a]) 62 (kl5 (by decide +kernel)) (or5 (by decide +kernel)) rfl (c5_add l hJ S 62 (by decide +kernel) a) (cwV 1 hC.2.2.2.2 gX4_add_X5_add rfl rfl rfl hdX5_add ⟨Nat.le_of_ble_eq_true rfl, Nat.le_of_ble_eq_true rfl⟩) rfl rfl (Nat.le_of_ble_eq_true rfl) ⟨Nat.le_of_ble_eq_true rfl, Nat.le_of_ble_eq_true rfl⟩ dX4_add_5 (q := 8) rfl ?_
  refine vv_aload_n hC 0 dX4_add_8 rfl rfl (q := 9) rfl ?_
  refine vv_get hC hK (K := RX4) (T := TX4) (N := 8) (ci := 4) inwX4_add_X4 61 (kl4 (by decide +kernel)) (oc4 (by decide +kernel)) rfl 1 (by decide) (List.mem_of_getElem? (i := 2) rfl) rfl (v := .ref (ad 64)) rfl dX4_add_9 (q := 12) rfl ?_
  refine vv_iload_n hC 2 dX4_add_12 rfl rfl (q := 13) rfl ?_
  refine vv_callv hC hK (fun _ h => h) (As := [.int b]) 64 (kl5 (by decide +kernel)) (or5 (by decide +kernel)) rfl (c5_add l hJ (sSet S 62 (rAdd (S.1 62) (cap 62) a)) 64 (by decide +kernel) b) (cwV 1 hC.2.2.2.2 gX4_add_X5_add rfl rfl rfl hdX5_add ⟨Nat.le_of_ble_eq_true rfl, Nat.le_of_ble_eq_true rfl⟩) rfl rfl (Nat.le_of_ble_eq_true rfl) ⟨Nat.le_of_ble_eq_true rfl, Nat.le_of_ble_eq_true rfl⟩ dX4_add_13 (q := 16) rfl ?_
  refine vv_aload_n hC 0 dX4_add_16 rfl rfl (q := 17) rfl ?_
  refine vv_get hC hK (K := RX4) (T := TX4) (N := 8) (ci := 4) inwX4_add_X4 61 (kl4 (by decide +kernel)) (oc4 (by decide +kernel)) rfl 2 (by decide) (List.mem_of_getElem? (i := 3) rfl) rfl (v := .ref (ad 66)) rfl dX4_add_17 (q := 20) rfl ?_
  refine vv_iload_n hC 2 dX4_add_20 rfl rfl (q := 21) rfl ?_
  refine vv_aload_n hC 0 dX4_add_21 rfl rfl (q := 22) rfl ?_
  refine vv_get hC hK (K := RX4) (T := TX4) (N := 8) (ci := 4) inwX4_add_X4 61 (kl4 (by decide +kernel)) (oc4 (by decide +kernel)) rfl 6 (by decide) (List.mem_of_getElem? (i := 4) rfl) rfl (v := .ref (ad 74)) rfl dX4_add_22 (q := 25) rfl ?_
  refine vv_iload_n hC 1 dX4_add_25 rfl rfl (q := 26) rfl ?_
  refine vv_calli hC hK (fun _ h => h) (As := [.int a]) 74 (kl5 (by decide +kernel)) (or5 (by decide +kernel)) rfl (c5_at l hJ (sSet (sSet S 62 (rAdd (S.1 62) (cap 62) a)) 64 (rAdd ((sSet S 62 (rAdd (S.1 62) (cap 62) a)).1 64) (cap 64) b)) 74 (by decide +kernel) a) (cwV 1 hC.2.2.2.2 gX4_add_X5_at rfl rfl rfl hdX5_at ⟨Nat.le_of_ble_eq_true rfl, Nat.le_of_ble_eq_true rfl⟩) rfl rfl (Nat.le_of_ble_eq_true rfl) ⟨Nat.le_of_ble_eq_true rfl, Nat.le_of_ble_eq_true rfl⟩ dX4_add_26 (q := 29) rfl ?_
  refine vv_imul hC dX4_add_29 (q := 30) rfl ?_
  refine vv_callv hC hK (fun _ h => h) (As := [.int (b * (rAt ((sSet (sSet S 62 (rAdd (S.1 62) (cap 62) a)) 64 (rAdd ((sSet S 62 (rAdd (S.1 62) (cap 62) a)).1 64) (cap 64) b)).1 74) a))]) 66 (kl5 (by decide +kernel)) (or5 (by decide +kernel)) rfl (c5_add l hJ (sSet (sSet S 62 (rAdd (S.1 62) (cap 62) a)) 64 (rAdd ((sSet S 62 (rAdd (S.1 62) (cap 62) a)).1 64) (cap 64) b)) 66 (by decide +kernel) (b * (rAt ((sSet (sSet S 62 (rAdd (S.1 62) (cap 62) a)) 64 (rAdd ((sSet S 62 (rAdd (S.1 62) (cap 62) a)).1 64) (cap 64) b)).1 74) a))) (cwV 1 hC.2.2.2.2 gX4_add_X5_add rfl rfl rfl hdX5_add ⟨Nat.le_of_ble_eq_true rfl, Nat.le_of_ble_eq_true rfl⟩) rfl rfl (Nat.le_of_ble_eq_true rfl) ⟨Nat.le_of_ble_eq_true rfl, Nat.le_of_ble_eq_true rfl⟩ dX4_add_30 (q := 33) rfl ?_
  refine vv_aload_n hC 0 dX4_add_33 rfl rfl (q := 34) rfl ?_
  refine vv_get hC hK (K := RX4) (T := TX4) (N := 8) (ci := 4) inwX4_add_X4 61 (kl4 (by decide +kernel)) (oc4 (by decide +kernel)) rfl 3 (by decide) (List.mem_of_getElem? (i := 5) rfl) rfl (v := .ref (ad 68)) rfl dX4_add_34 (q := 37) rfl ?_
  refine vv_iconst hC (v := 0) dX4_add_37 rfl (q := 38) rfl ?_
  refine vv_callv hC hK (fun _ h => h) (As := [.int 0]) 68 (kl5 (by decide +kernel)) (or5 (by decide +kernel)) rfl (c5_add l hJ (sSet (sSet (sSet S 62 (rAdd (S.1 62) (cap 62) a)) 64 (rAdd ((sSet S 62 (rAdd (S.1 62) (cap 62) a)).1 64) (cap 64) b)) 66 (rAdd ((sSet (sSet S 62 (rAdd (S.1 62) (cap 62) a)) 64 (rAdd ((sSet S 62 (rAdd (S.1 62) (cap 62) a)).1 64) (cap 64) b)).1 66) (cap 66) (b * (rAt ((sSet (sSet S 62 (rAdd (S.1 62) (cap 62) a)) 64 (rAdd ((sSet S 62 (rAdd (S.1 62) (cap 62) a)).1 64) (cap 64) b)).1 74) a)))) 68 (by decide +kernel) 0) (cwV 1 hC.2.2.2.2 gX4_add_X5_add rfl rfl rfl hdX5_add ⟨Nat.le_of_ble_eq_true rfl, Nat.le_of_ble_eq_true rfl⟩) rfl rfl (Nat.le_of_ble_eq_true rfl) ⟨Nat.le_of_ble_eq_true rfl, Nat.le_of_ble_eq_true rfl⟩ dX4_add_38 (q := 41) rfl ?_
  refine vv_aload_n hC 0 dX4_add_41 rfl rfl (q := 42) rfl ?_
  refine vv_get hC hK (K := RX4) (T := TX4) (N := 8) (ci := 4) inwX4_add_X4 61 (kl4 (by decide +kernel)) (oc4 (by decide +kernel)) rfl 4 (by decide) (List.mem_of_getElem? (i := 6) rfl) rfl (v := .ref (ad 70)) rfl dX4_add_42 (q := 45) rfl ?_
  refine vv_iconst hC (v := (-1)) dX4_add_45 rfl (q := 46) rfl ?_
  refine vv_callv hC hK (fun _ h => h) (As := [.int (-1)]) 70 (kl5 (by decide +kernel)) (or5 (by decide +kernel)) rfl (c5_add l hJ (sSet (sSet (sSet (sSet S 62 (rAdd (S.1 62) (cap 62) a)) 64 (rAdd ((sSet S 62 (rAdd (S.1 62) (cap 62) a)).1 64) (cap 64) b)) 66 (rAdd ((sSet (sSet S 62 (rAdd (S.1 62) (cap 62) a)) 64 (rAdd ((sSet S 62 (rAdd (S.1 62) (cap 62) a)).1 64) (cap 64) b)).1 66) (cap 66) (b * (rAt ((sSet (sSet S 62 (rAdd (S.1 62) (cap 62) a)) 64 (rAdd ((sSet S 62 (rAdd (S.1 62) (cap 62) a)).1 64) (cap 64) b)).1 74) a)))) 68 (rAdd ((sSet (sSet (sSet S 62 (rAdd (S.1 62) (cap 62) a)) 64 (rAdd ((sSet S 62 (rAdd (S.1 62) (cap 62) a)).1 64) (cap 64) b)) 66 (rAdd ((sSet (sSet S 62 (rAdd (S.1 62) (cap 62) a)) 64 (rAdd ((sSet S 62 (rAdd (S.1 62) (cap 62) a)).1 64) (cap 64) b)).1 66) (cap 66) (b * (rAt ((sSet (sSet S 62 (rAdd (S.1 62) (cap 62) a)) 64 (rAdd ((sSet S 62 (rAdd (S.1 62) (cap 62) a)).1 64) (cap 64) b)).1 74) a)))).1 68) (cap 68) 0)) 70 (by decide +kernel) (-1)) (cwV 1 hC.2.2.2.2 gX4_add_X5_add rfl rfl rfl hdX5_add ⟨Nat.le_of_ble_eq_true rfl, Nat.le_of_ble_eq_true rfl⟩) rfl rfl (Nat.le_of_ble_eq_true rfl) ⟨Nat.le_of_ble_eq_true rfl, Nat.le_of_ble_eq_true rfl⟩ dX4_add_46 (q := 49) rfl ?_
  refine vv_aload_n hC 0 dX4_add_49 rfl rfl (q := 50) rfl ?_
  refine vv_calli hC hK (fun _ h => h) (As := []) 61 (kl4 (by decide +kernel)) (or4 (by decide +kernel)) rfl (c4_count l hJ (sSet (sSet (sSet (sSet (sSet S 62 (rAdd (S.1 62) (cap 62) a)) 64 (rAdd ((sSet S 62 (rAdd (S.1 62) (cap 62) a)).1 64) (cap 64) b)) 66 (rAdd ((sSet (sSet S 62 (rAdd (S.1 62) (cap 62) a)) 64 (rAdd ((sSet S 62 (rAdd (S.1 62) (cap 62) a)).1 64) (cap 64) b)).1 66) (cap 66) (b * (rAt ((sSet (sSet S 62 (rAdd (S.1 62) (cap 62) a)) 64 (rAdd ((sSet S 62 (rAdd (S.1 62) (cap 62) a)).1 64) (cap 64) b)).1 74) a)))) 68 (rAdd ((sSet (sSet (sSet S 62 (rAdd (S.1 62) (cap 62) a)) 64 (rAdd ((sSet S 62 (rAdd (S.1 62) (cap 62) a)).1 64) (cap 64) b)) 66 (rAdd ((sSet (sSet S 62 (rAdd (S.1 62) (cap 62) a)) 64 (rAdd ((sSet S 62 (rAdd (S.1 62) (cap 62) a)).1 64) (cap 64) b)).1 66) (cap 66) (b * (rAt ((sSet (sSet S 62 (rAdd (S.1 62) (cap 62) a)) 64 (rAdd ((sSet S 62 (rAdd (S.1 62) (cap 62) a)).1 64) (cap 64) b)).1 74) a)))).1 68) (cap 68) 0)) 70 (rAdd ((sSet (sSet (sSet (sSet S 62 (rAdd (S.1 62) (cap 62) a)) 64 (rAdd ((sSet S 62 (rAdd (S.1 62) (cap 62) a)).1 64) (cap 64) b)) 66 (rAdd ((sSet (sSet S 62 (rAdd (S.1 62) (cap 62) a)) 64 (rAdd ((sSet S 62 (rAdd (S.1 62) (cap 62) a)).1 64) (cap 64) b)).1 66) (cap 66) (b * (rAt ((sSet (sSet S 62 (rAdd (S.1 62) (cap 62) a)) 64 (rAdd ((sSet S 62 (rAdd (S.1 62) (cap 62) a)).1 64) (cap 64) b)).1 74) a)))) 68 (rAdd ((sSet (sSet (sSet S 62 (rAdd (S.1 62) (cap 62) a)) 64 (rAdd ((sSet S 62 (rAdd (S.1 62) (cap 62) a)).1 64) (cap 64) b)) 66 (rAdd ((sSet (sSet S 62 (rAdd (S.1 62) (cap 62) a)) 64 (rAdd ((sSet S 62 (rAdd (S.1 62) (cap 62) a)).1 64) (cap 64) b)).1 66) (cap 66) (b * (rAt ((sSet (sSet S 62 (rAdd (S.1 62) (cap 62) a)) 64 (rAdd ((sSet S 62 (rAdd (S.1 62) (cap 62) a)).1 64) (cap 64) b)).1 74) a)))).1 68) (cap 68) 0)).1 70) (cap 70) (-1)))) (cwV 0 hC.2.2.2.2 gX4_add_X4_count rfl rfl rfl hdX4_count ⟨Nat.le_of_ble_eq_true rfl, Nat.le_of_ble_eq_true rfl⟩) rfl rfl (Nat.le_of_ble_eq_true rfl) ⟨Nat.le_of_ble_eq_true rfl, Nat.le_of_ble_eq_true rfl⟩ dX4_add_50 (q := 53) rfl ?_
  refine vv_iconst hC (v := 1) dX4_add_53 rfl (q := 54) rfl ?_
  refine vv_isub hC dX4_add_54 (q := 55) rfl ?_
  exact vv_iret hC hK hr hlk rfl (fun _ h => h) dX4_add_55
theorem inwX4_setCancelled_X4 : ∀ w ∈ wsX40, w ∈ wsX4_setCancelled := fun _ h => List.mem_cons_of_mem _ (List.mem_append_left _ (List.mem_append_right _ h))
theorem inwX4_setCancelled_X5 : ∀ w ∈ wsX50, w ∈ wsX4_setCancelled := fun _ h => List.mem_cons_of_mem _ (List.mem_append_right _ h)
theorem hdX4_setCancelled : yX4_setCancelled.cls = RX4 ∧ yX4_setCancelled.cls ≠ "java/lang/invoke/MethodHandle" ∧ yX4_setCancelled.cls ≠ "java/lang/invoke/VarHandle" ∧ (parseMethodDescriptor yX4_setCancelled.desc).map (fun d => d.parameters.length) = some 1 := by decide +kernel
set_option maxRecDepth 100000 in
set_option maxHeartbeats 4000000 in
theorem c4_setCancelled (l : Launch) {D : va_G} {cI cW cZ cL : ClassId} {ad : Nat → Nat} (hJ : injA ad 90) (S : sC) (i : Int32) : kMv l yX4_setCancelled wsX4_setCancelled ({ frames := 2, cells := 0, slots := 0, locals := 43 }) D vwCl (tyL cI cW cZ cL) ad 90 [.ref (ad 61), .int i] (PC cI cW ad S) (PC cI cW ad (sSet S 68 (rSet (S.1 68) i 2))) := by
  refine vv_enter (cc := cX4_setCancelled) (maxL := 2) (ret := none) (own := RX4) (lv := [(0, .ref (ad 61)), (1, .int i)]) (by decide +kernel) rfl rfl hJ (Nat.le_of_ble_eq_true rfl) rfl ?_
  intro p e s m args below meth c hC hK hW hr hlk
  refine vv_aload_n hC 0 dX4_setCancelled_0 rfl rfl (q := 1) rfl ?_
  refine vv_get hC hK (K := RX4) (T := TX4) (N := 8) (ci := 4) inwX4_setCancelled_X4 61 (kl4 (by decide +kernel)) (oc4 (by decide +kernel)) rfl 3 (by decide) (List.mem_of_getElem? (i := 1) rfl) rfl (v := .ref (ad 68)) rfl dX4_setCancelled_1 (q := 4) rfl ?_
  refine vv_iload_n hC 1 dX4_setCancelled_4 rfl rfl (q := 5) rfl ?_
  refine vv_iconst hC (v := 2) dX4_setCancelled_5 rfl (q := 6) rfl ?_
  refine vv_callv hC hK (fun _ h => h) (As := [.int i, .int 2]) 68 (kl5 (by decide +kernel)) (or5 (by decide +kernel)) rfl (c5_set l hJ S 68 (by decide +kernel) i 2) (cwV 2 hC.2.2.2.2 gX4_setCancelled_X5_set rfl rfl rfl hdX5_set ⟨Nat.le_of_ble_eq_true rfl, Nat.le_of_ble_eq_true rfl⟩) rfl rfl (Nat.le_of_ble_eq_true rfl) ⟨Nat.le_of_ble_eq_true rfl, Nat.le_of_ble_eq_true rfl⟩ dX4_setCancelled_6 (q := 9) rfl ?_
  exact vv_vret hC hK hr hlk (fun _ h => h) dX4_setCancelled_9
theorem inwX4_printFirst_X4 : ∀ w ∈ wsX40, w ∈ wsX4_printFirst := fun _ h => List.mem_cons_of_mem _ (List.mem_append_left _ (List.mem_append_right _ h))
theorem inwX4_printFirst_X5 : ∀ w ∈ wsX50, w ∈ wsX4_printFirst := fun _ h => List.mem_cons_of_mem _ (List.mem_append_right _ h)
theorem hdX4_printFirst : yX4_printFirst.cls = RX4 ∧ yX4_printFirst.cls ≠ "java/lang/invoke/MethodHandle" ∧ yX4_printFirst.cls ≠ "java/lang/invoke/VarHandle" ∧ (parseMethodDescriptor yX4_printFirst.desc).map (fun d => d.parameters.length) = some 0 := by decide +kernel
set_option maxRecDepth 100000 in
set_option maxHeartbeats 4000000 in
theorem c4_printFirst (l : Launch) {D : va_G} {cI cW cZ cL : ClassId} {ad : Nat → Nat} (hJ : injA ad 90) (S : sC)  : kMv l yX4_printFirst wsX4_printFirst ({ frames := 2, cells := 0, slots := 0, locals := 62 }) D vwCl (tyL cI cW cZ cL) ad 90 [.ref (ad 61)] (PC cI cW ad S) (PC cI cW ad (rvPrint S)) := by
  refine vv_enter (cc := cX4_printFirst) (maxL := 1) (ret := none) (own := RX4) (lv := [(0, .ref (ad 61))]) (by decide +kernel) rfl rfl hJ (Nat.le_of_ble_eq_true rfl) rfl ?_
  intro p e s m args below meth c hC hK hW hr hlk
  refine vv_aload_n hC 0 dX4_printFirst_0 rfl rfl (q := 1) rfl ?_
  refine vv_get hC hK (K := RX4) (T := TX4) (N := 8) (ci := 4) inwX4_printFirst_X4 61 (kl4 (by decide +kernel)) (oc4 (by decide +kernel)) rfl 3 (by decide) (List.mem_of_getElem? (i := 1) rfl) rfl (v := .ref (ad 68)) rfl dX4_printFirst_1 (q := 4) rfl ?_
  refine vv_aload_n hC 0 dX4_printFirst_4 rfl rfl (q := 5) rfl ?_
  refine vv_get hC hK (K := RX4) (T := TX4) (N := 8) (ci := 4) inwX4_printFirst_X4 61 (kl4 (by decide +kernel)) (oc4 (by decide +kernel)) rfl 5 (by decide) (List.mem_of_getElem? (i := 2) rfl) rfl (v := .ref (ad 72)) rfl dX4_printFirst_5 (q := 8) rfl ?_
  refine vv_iconst hC (v := 0) dX4_printFirst_8 rfl (q := 9) rfl ?_
  refine vv_calli hC hK (fun _ h => h) (As := [.int 0]) 72 (kl5 (by decide +kernel)) (or5 (by decide +kernel)) rfl (c5_remove l hJ S 72 (by decide +kernel) 0) (cwV 1 hC.2.2.2.2 gX4_printFirst_X5_remove rfl rfl rfl hdX5_remove ⟨Nat.le_of_ble_eq_true rfl, Nat.le_of_ble_eq_true rfl⟩) rfl rfl (Nat.le_of_ble_eq_true rfl) ⟨Nat.le_of_ble_eq_true rfl, Nat.le_of_ble_eq_true rfl⟩ dX4_printFirst_9 (q := 12) rfl ?_
  refine vv_iconst hC (v := 3) dX4_printFirst_12 rfl (q := 13) rfl ?_
  refine vv_callv hC hK (fun _ h => h) (As := [.int (rAt (S.1 72) 0), .int 3]) 68 (kl5 (by decide +kernel)) (or5 (by decide +kernel)) rfl (c5_set l hJ (sSet S 72 (rRem (S.1 72) 0)) 68 (by decide +kernel) (rAt (S.1 72) 0) 3) (cwV 2 hC.2.2.2.2 gX4_printFirst_X5_set rfl rfl rfl hdX5_set ⟨Nat.le_of_ble_eq_true rfl, Nat.le_of_ble_eq_true rfl⟩) rfl rfl (Nat.le_of_ble_eq_true rfl) ⟨Nat.le_of_ble_eq_true rfl, Nat.le_of_ble_eq_true rfl⟩ dX4_printFirst_13 (q := 16) rfl ?_
  exact vv_vret hC hK hr hlk (fun _ h => h) dX4_printFirst_16
theorem inwX4_placeInQueue_X4 : ∀ w ∈ wsX40, w ∈ wsX4_placeInQueue := fun _ h => List.mem_cons_of_mem _ (List.mem_append_left _ (List.mem_append_right _ h))
theorem inwX4_placeInQueue_X5 : ∀ w ∈ wsX50, w ∈ wsX4_placeInQueue := fun _ h => List.mem_cons_of_mem _ (List.mem_append_right _ h)
theorem hdX4_placeInQueue : yX4_placeInQueue.cls = RX4 ∧ yX4_placeInQueue.cls ≠ "java/lang/invoke/MethodHandle" ∧ yX4_placeInQueue.cls ≠ "java/lang/invoke/VarHandle" ∧ (parseMethodDescriptor yX4_placeInQueue.desc).map (fun d => d.parameters.length) = some 1 := by decide +kernel
set_option maxRecDepth 100000 in
set_option maxHeartbeats 4000000 in
theorem c4_placeInQueue (l : Launch) {D : va_G} {cI cW cZ cL : ClassId} {ad : Nat → Nat} (hJ : injA ad 90) (S : sC) (u : Int32) : kMi l yX4_placeInQueue wsX4_placeInQueue ({ frames := 2, cells := 0, slots := 0, locals := 42 }) D vwCl (tyL cI cW cZ cL) ad 90 [.ref (ad 61), .int u] (PC cI cW ad S) (nI (plq S u)) (PC cI cW ad S) := by
  refine vv_enter (cc := cX4_placeInQueue) (maxL := 3) (ret := (some .int)) (own := RX4) (lv := [(0, .ref (ad 61)), (1, .int u)]) (by decide +kernel) rfl rfl hJ (Nat.le_of_ble_eq_true rfl) rfl ?_
  intro p e s m args below meth c hC hK hW hr hlk
  refine vv_pure (P := wfC S) (fun H hB => by obtain ⟨f, hf, -⟩ := hB; exact oc_wf f hf) (fun hwf => ?_)
  have hw := hwf 72 rfl
  have hc := cap_le 72
  refine vv_iconst hC (v := 0) dX4_placeInQueue_0 rfl (q := 1) rfl ?_
  refine vv_istore_n hC (i := 2) (lv' := [(2, .int 0), (0, .ref (ad 61)), (1, .int u)]) dX4_placeInQueue_1 rfl (by decide) rfl (q := 2) rfl ?_
  have loop2 : ∀ (fu : Nat) (n : Nat), (S.1 72).length < n + fu → n ≤ (S.1 72).length → plqF S u fu n = plq S u → vv p l e (headSpec wsX4_placeInQueue ({ frames := 2, cells := 0, slots := 0, locals := 42 })).room s m args below meth c 3 (RA ad 90) s.heap 0 0 (MQ below (va_Qi (fun r' (_ : Unit) => r' = (nI (plq S u))) (fun _ => ws0 D vwCl (tyL cI cW cZ cL) ad 90 (PC cI cW ad S)) (RA ad 90)) args s 0 0 (RA ad 90)) (wq D vwCl ad 90 (PC cI cW ad S)) 2 [(0, .ref (ad 61)), (1, .int u), (2, .int (nI n))] [] := by
    intro fu
    induction fu with
    | zero =>
      intro n hfu hn hres
      exact absurd hfu (by omega)
    | succ fu ih =>
      intro n hfu hn hres
      refine vv_iload_n hC 2 dX4_placeInQueue_2 rfl rfl (q := 3) rfl ?_
      refine vv_aload_n hC 0 dX4_placeInQueue_3 rfl rfl (q := 4) rfl ?_
      refine vv_get hC hK (K := RX4) (T := TX4) (N := 8) (ci := 4) inwX4_placeInQueue_X4 61 (kl4 (by decide +kernel)) (oc4 (by decide +kernel)) rfl 5 (by decide) (List.mem_of_getElem? (i := 1) rfl) rfl (v := .ref (ad 72)) rfl dX4_placeInQueue_4 (q := 7) rfl ?_
      refine vv_calli hC hK (fun _ h => h) (As := []) 72 (kl5 (by decide +kernel)) (or5 (by decide +kernel)) rfl (c5_size l hJ S 72 (by decide +kernel)) (cwV 0 hC.2.2.2.2 gX4_placeInQueue_X5_size rfl rfl rfl hdX5_size ⟨Nat.le_of_ble_eq_true rfl, Nat.le_of_ble_eq_true rfl⟩) rfl rfl (Nat.le_of_ble_eq_true rfl) ⟨Nat.le_of_ble_eq_true rfl, Nat.le_of_ble_eq_true rfl⟩ dX4_placeInQueue_7 (q := 10) rfl ?_
      refine vv_icmp_ge hC (tgt := 38) dX4_placeInQueue_10 (by decide) (q := 13) rfl (fun h10 => ?_) (fun h10 => ?_)
      · skip
        refine vv_iload_n hC 2 dX4_placeInQueue_38 rfl rfl (q := 39) rfl ?_
        exact vv_iret hC hK hr hlk (by rw [← hres, plqF, if_neg (by rw [nI_leI (by omega) (by omega)] at h10; omega)]) (fun _ h => h) dX4_placeInQueue_39
      · skip
        refine vv_aload_n hC 0 dX4_placeInQueue_13 rfl rfl (q := 14) rfl ?_
        refine vv_get hC hK (K := RX4) (T := TX4) (N := 8) (ci := 4) inwX4_placeInQueue_X4 61 (kl4 (by decide +kernel)) (oc4 (by decide +kernel)) rfl 4 (by decide) (List.mem_of_getElem? (i := 2) rfl) rfl (v := .ref (ad 70)) rfl dX4_placeInQueue_14 (q := 17) rfl ?_
        refine vv_aload_n hC 0 dX4_placeInQueue_17 rfl rfl (q := 18) rfl ?_
        refine vv_get hC hK (K := RX4) (T := TX4) (N := 8) (ci := 4) inwX4_placeInQueue_X4 61 (kl4 (by decide +kernel)) (oc4 (by decide +kernel)) rfl 5 (by decide) (List.mem_of_getElem? (i := 1) rfl) rfl (v := .ref (ad 72)) rfl dX4_placeInQueue_18 (q := 21) rfl ?_
        refine vv_iload_n hC 2 dX4_placeInQueue_21 rfl rfl (q := 22) rfl ?_
        refine vv_calli hC hK (fun _ h => h) (As := [.int (nI n)]) 72 (kl5 (by decide +kernel)) (or5 (by decide +kernel)) rfl (c5_at l hJ S 72 (by decide +kernel) (nI n)) (cwV 1 hC.2.2.2.2 gX4_placeInQueue_X5_at rfl rfl rfl hdX5_at ⟨Nat.le_of_ble_eq_true rfl, Nat.le_of_ble_eq_true rfl⟩) rfl rfl (Nat.le_of_ble_eq_true rfl) ⟨Nat.le_of_ble_eq_true rfl, Nat.le_of_ble_eq_true rfl⟩ dX4_placeInQueue_22 (q := 25) rfl ?_
        refine vv_calli hC hK (fun _ h => h) (As := [.int (rAt (S.1 72) (nI n))]) 70 (kl5 (by decide +kernel)) (or5 (by decide +kernel)) rfl (c5_at l hJ S 70 (by decide +kernel) (rAt (S.1 72) (nI n))) (cwV 1 hC.2.2.2.2 gX4_placeInQueue_X5_at rfl rfl rfl hdX5_at ⟨Nat.le_of_ble_eq_true rfl, Nat.le_of_ble_eq_true rfl⟩) rfl rfl (Nat.le_of_ble_eq_true rfl) ⟨Nat.le_of_ble_eq_true rfl, Nat.le_of_ble_eq_true rfl⟩ dX4_placeInQueue_25 (q := 28) rfl ?_
        refine vv_iload_n hC 1 dX4_placeInQueue_28 rfl rfl (q := 29) rfl ?_
        refine vv_icmp_lt hC (tgt := 38) dX4_placeInQueue_29 (by decide) (q := 32) rfl (fun h29 => ?_) (fun h29 => ?_)
        · skip
          refine vv_iload_n hC 2 dX4_placeInQueue_38 rfl rfl (q := 39) rfl ?_
          exact vv_iret hC hK hr hlk (by rw [← hres, plqF, if_pos (by rw [nI_leI (by omega) (by omega)] at h10; omega), if_pos h29]) (fun _ h => h) dX4_placeInQueue_39
        · skip
          refine vv_iinc hC (i := 2) (v := nI (n + 1)) (lv' := [(2, .int (nI (n + 1))), (0, .ref (ad 61)), (1, .int u)]) 2 dX4_placeInQueue_32 rfl (nI_1 n) (by decide) rfl (q := 35) rfl ?_
          refine vv_goto hC (tgt := 2) dX4_placeInQueue_35 (by decide) ?_
          exact vv_lv [1, 2, 0] rfl (ih (n + 1) (by omega) (by rw [nI_leI (by omega) (by omega)] at h10; omega) (by rw [← hres, plqF, if_pos (by rw [nI_leI (by omega) (by omega)] at h10; omega), if_neg h29]))
  exact vv_lv [1, 2, 0] rfl (loop2 _ 0 (Nat.lt_of_lt_of_eq (Nat.lt_succ_self _) (Nat.zero_add _).symm) (Nat.zero_le _) rfl)
theorem inwX4_setDone_X4 : ∀ w ∈ wsX40, w ∈ wsX4_setDone := fun _ h => List.mem_cons_of_mem _ (List.mem_append_left _ (List.mem_append_right _ h))
theorem inwX4_setDone_X5 : ∀ w ∈ wsX50, w ∈ wsX4_setDone := fun _ h => List.mem_cons_of_mem _ (List.mem_append_right _ h)
theorem hdX4_setDone : yX4_setDone.cls = RX4 ∧ yX4_setDone.cls ≠ "java/lang/invoke/MethodHandle" ∧ yX4_setDone.cls ≠ "java/lang/invoke/VarHandle" ∧ (parseMethodDescriptor yX4_setDone.desc).map (fun d => d.parameters.length) = some 2 := by decide +kernel
set_option maxRecDepth 100000 in
set_option maxHeartbeats 4000000 in
theorem c4_setDone (l : Launch) {D : va_G} {cI cW cZ cL : ClassId} {ad : Nat → Nat} (hJ : injA ad 90) (S : sC) (r u : Int32) : kMi l yX4_setDone wsX4_setDone ({ frames := 3, cells := 0, slots := 0, locals := 65 }) D vwCl (tyL cI cW cZ cL) ad 90 [.ref (ad 61), .int r, .int u] (PC cI cW ad S) (rAt ((rvDone S r u).1 76) (rAt (S.1 62) r)) (PC cI cW ad (rvDone S r u)) := by
  refine vv_enter (cc := cX4_setDone) (maxL := 4) (ret := (some .int)) (own := RX4) (lv := [(0, .ref (ad 61)), (1, .int r), (2, .int u)]) (by decide +kernel) rfl rfl hJ (Nat.le_of_ble_eq_true rfl) rfl ?_
  intro p e s m args below meth c hC hK hW hr hlk
  refine vv_aload_n hC 0 dX4_setDone_0 rfl rfl (q := 1) rfl ?_
  refine vv_get hC hK (K := RX4) (T := TX4) (N := 8) (ci := 4) inwX4_setDone_X4 61 (kl4 (by decide +kernel)) (oc4 (by decide +kernel)) rfl 0 (by decide) (List.mem_of_getElem? (i := 1) rfl) rfl (v := .ref (ad 62)) rfl dX4_setDone_1 (q := 4) rfl ?_
  refine vv_iload_n hC 1 dX4_setDone_4 rfl rfl (q := 5) rfl ?_
  refine vv_calli hC hK (fun _ h => h) (As := [.int r]) 62 (kl5 (by decide +kernel)) (or5 (by decide +kernel)) rfl (c5_at l hJ S 62 (by decide +kernel) r) (cwV 1 hC.2.2.2.2 gX4_setDone_X5_at rfl rfl rfl hdX5_at ⟨Nat.le_of_ble_eq_true rfl, Nat.le_of_ble_eq_true rfl⟩) rfl rfl (Nat.le_of_ble_eq_true rfl) ⟨Nat.le_of_ble_eq_true rfl, Nat.le_of_ble_eq_true rfl⟩ dX4_setDone_5 (q := 8) rfl ?_
  refine vv_istore_n hC (i := 3) (lv' := [(3, .int (rAt (S.1 62) r)), (0, .ref (ad 61)), (1, .int r), (2, .int u)]) dX4_setDone_8 rfl (by decide) rfl (q := 9) rfl ?_
  refine vv_aload_n hC 1 dX4_setDone_9 rfl rfl (q := 10) rfl ?_
  refine vv_get hC hK (K := RX4) (T := TX4) (N := 8) (ci := 4) inwX4_setDone_X4 61 (kl4 (by decide +kernel)) (oc4 (by decide +kernel)) rfl 3 (by decide) (List.mem_of_getElem? (i := 2) rfl) rfl (v := .ref (ad 68)) rfl dX4_setDone_10 (q := 13) rfl ?_
  refine vv_iload_n hC 2 dX4_setDone_13 rfl rfl (q := 14) rfl ?_
  refine vv_iconst hC (v := 1) dX4_setDone_14 rfl (q := 15) rfl ?_
  refine vv_callv hC hK (fun _ h => h) (As := [.int r, .int 1]) 68 (kl5 (by decide +kernel)) (or5 (by decide +kernel)) rfl (c5_set l hJ S 68 (by decide +kernel) r 1) (cwV 2 hC.2.2.2.2 gX4_setDone_X5_set rfl rfl rfl hdX5_set ⟨Nat.le_of_ble_eq_true rfl, Nat.le_of_ble_eq_true rfl⟩) rfl rfl (Nat.le_of_ble_eq_true rfl) ⟨Nat.le_of_ble_eq_true rfl, Nat.le_of_ble_eq_true rfl⟩ dX4_setDone_15 (q := 18) rfl ?_
  refine vv_aload_n hC 1 dX4_setDone_18 rfl rfl (q := 19) rfl ?_
  refine vv_get hC hK (K := RX4) (T := TX4) (N := 8) (ci := 4) inwX4_setDone_X4 61 (kl4 (by decide +kernel)) (oc4 (by decide +kernel)) rfl 4 (by decide) (List.mem_of_getElem? (i := 3) rfl) rfl (v := .ref (ad 70)) rfl dX4_setDone_19 (q := 22) rfl ?_
  refine vv_iload_n hC 2 dX4_setDone_22 rfl rfl (q := 23) rfl ?_
  refine vv_iload_n hC 3 dX4_setDone_23 rfl rfl (q := 24) rfl ?_
  refine vv_callv hC hK (fun _ h => h) (As := [.int r, .int u]) 70 (kl5 (by decide +kernel)) (or5 (by decide +kernel)) rfl (c5_set l hJ (sSet S 68 (rSet (S.1 68) r 1)) 70 (by decide +kernel) r u) (cwV 2 hC.2.2.2.2 gX4_setDone_X5_set rfl rfl rfl hdX5_set ⟨Nat.le_of_ble_eq_true rfl, Nat.le_of_ble_eq_true rfl⟩) rfl rfl (Nat.le_of_ble_eq_true rfl) ⟨Nat.le_of_ble_eq_true rfl, Nat.le_of_ble_eq_true rfl⟩ dX4_setDone_24 (q := 27) rfl ?_
  refine vv_aload_n hC 1 dX4_setDone_27 rfl rfl (q := 28) rfl ?_
  refine vv_get hC hK (K := RX4) (T := TX4) (N := 8) (ci := 4) inwX4_setDone_X4 61 (kl4 (by decide +kernel)) (oc4 (by decide +kernel)) rfl 5 (by decide) (List.mem_of_getElem? (i := 4) rfl) rfl (v := .ref (ad 72)) rfl dX4_setDone_28 (q := 31) rfl ?_
  refine vv_aload_n hC 1 dX4_setDone_31 rfl rfl (q := 32) rfl ?_
  refine vv_iload_n hC 3 dX4_setDone_32 rfl rfl (q := 33) rfl ?_
  refine vv_calli hC hK (fun _ h => h) (As := [.int u]) 61 (kl4 (by decide +kernel)) (or4 (by decide +kernel)) rfl (c4_placeInQueue l hJ (sSet (sSet S 68 (rSet (S.1 68) r 1)) 70 (rSet ((sSet S 68 (rSet (S.1 68) r 1)).1 70) r u)) u) (cwV 1 hC.2.2.2.2 gX4_setDone_X4_placeInQueue rfl rfl rfl hdX4_placeInQueue ⟨Nat.le_of_ble_eq_true rfl, Nat.le_of_ble_eq_true rfl⟩) rfl rfl (Nat.le_of_ble_eq_true rfl) ⟨Nat.le_of_ble_eq_true rfl, Nat.le_of_ble_eq_true rfl⟩ dX4_setDone_33 (q := 36) rfl ?_
  refine vv_iload_n hC 2 dX4_setDone_36 rfl rfl (q := 37) rfl ?_
  refine vv_callv hC hK (fun _ h => h) (As := [.int (nI (plq (sSet (sSet S 68 (rSet (S.1 68) r 1)) 70 (rSet ((sSet S 68 (rSet (S.1 68) r 1)).1 70) r u)) u)), .int r]) 72 (kl5 (by decide +kernel)) (or5 (by decide +kernel)) rfl (c5_insert l hJ (sSet (sSet S 68 (rSet (S.1 68) r 1)) 70 (rSet ((sSet S 68 (rSet (S.1 68) r 1)).1 70) r u)) 72 (by decide +kernel) (nI (plq (sSet (sSet S 68 (rSet (S.1 68) r 1)) 70 (rSet ((sSet S 68 (rSet (S.1 68) r 1)).1 70) r u)) u)) r) (cwV 2 hC.2.2.2.2 gX4_setDone_X5_insert rfl rfl rfl hdX5_insert ⟨Nat.le_of_ble_eq_true rfl, Nat.le_of_ble_eq_true rfl⟩) rfl rfl (Nat.le_of_ble_eq_true rfl) ⟨Nat.le_of_ble_eq_true rfl, Nat.le_of_ble_eq_true rfl⟩ dX4_setDone_37 (q := 40) rfl ?_
  refine vv_aload_n hC 1 dX4_setDone_40 rfl rfl (q := 41) rfl ?_
  refine vv_get hC hK (K := RX4) (T := TX4) (N := 8) (ci := 4) inwX4_setDone_X4 61 (kl4 (by decide +kernel)) (oc4 (by decide +kernel)) rfl 7 (by decide) (List.mem_of_getElem? (i := 5) rfl) rfl (v := .ref (ad 76)) rfl dX4_setDone_41 (q := 44) rfl ?_
  refine vv_iload_n hC 0 dX4_setDone_44 rfl rfl (q := 45) rfl ?_
  refine vv_aload_n hC 1 dX4_setDone_45 rfl rfl (q := 46) rfl ?_
  refine vv_get hC hK (K := RX4) (T := TX4) (N := 8) (ci := 4) inwX4_setDone_X4 61 (kl4 (by decide +kernel)) (oc4 (by decide +kernel)) rfl 2 (by decide) (List.mem_of_getElem? (i := 6) rfl) rfl (v := .ref (ad 66)) rfl dX4_setDone_46 (q := 49) rfl ?_
  refine vv_iload_n hC 2 dX4_setDone_49 rfl rfl (q := 50) rfl ?_
  refine vv_calli hC hK (fun _ h => h) (As := [.int r]) 66 (kl5 (by decide +kernel)) (or5 (by decide +kernel)) rfl (c5_at l hJ (sSet (sSet (sSet S 68 (rSet (S.1 68) r 1)) 70 (rSet ((sSet S 68 (rSet (S.1 68) r 1)).1 70) r u)) 72 (rIns ((sSet (sSet S 68 (rSet (S.1 68) r 1)) 70 (rSet ((sSet S 68 (rSet (S.1 68) r 1)).1 70) r u)).1 72) (cap 72) (nI (plq (sSet (sSet S 68 (rSet (S.1 68) r 1)) 70 (rSet ((sSet S 68 (rSet (S.1 68) r 1)).1 70) r u)) u)) r)) 66 (by decide +kernel) r) (cwV 1 hC.2.2.2.2 gX4_setDone_X5_at rfl rfl rfl hdX5_at ⟨Nat.le_of_ble_eq_true rfl, Nat.le_of_ble_eq_true rfl⟩) rfl rfl (Nat.le_of_ble_eq_true rfl) ⟨Nat.le_of_ble_eq_true rfl, Nat.le_of_ble_eq_true rfl⟩ dX4_setDone_50 (q := 53) rfl ?_
  refine vv_callv hC hK (fun _ h => h) (As := [.int (rAt (S.1 62) r), .int (rAt ((sSet (sSet (sSet S 68 (rSet (S.1 68) r 1)) 70 (rSet ((sSet S 68 (rSet (S.1 68) r 1)).1 70) r u)) 72 (rIns ((sSet (sSet S 68 (rSet (S.1 68) r 1)) 70 (rSet ((sSet S 68 (rSet (S.1 68) r 1)).1 70) r u)).1 72) (cap 72) (nI (plq (sSet (sSet S 68 (rSet (S.1 68) r 1)) 70 (rSet ((sSet S 68 (rSet (S.1 68) r 1)).1 70) r u)) u)) r)).1 66) r)]) 76 (kl5 (by decide +kernel)) (or5 (by decide +kernel)) rfl (c5_raise l hJ (sSet (sSet (sSet S 68 (rSet (S.1 68) r 1)) 70 (rSet ((sSet S 68 (rSet (S.1 68) r 1)).1 70) r u)) 72 (rIns ((sSet (sSet S 68 (rSet (S.1 68) r 1)) 70 (rSet ((sSet S 68 (rSet (S.1 68) r 1)).1 70) r u)).1 72) (cap 72) (nI (plq (sSet (sSet S 68 (rSet (S.1 68) r 1)) 70 (rSet ((sSet S 68 (rSet (S.1 68) r 1)).1 70) r u)) u)) r)) 76 (by decide +kernel) (rAt (S.1 62) r) (rAt ((sSet (sSet (sSet S 68 (rSet (S.1 68) r 1)) 70 (rSet ((sSet S 68 (rSet (S.1 68) r 1)).1 70) r u)) 72 (rIns ((sSet (sSet S 68 (rSet (S.1 68) r 1)) 70 (rSet ((sSet S 68 (rSet (S.1 68) r 1)).1 70) r u)).1 72) (cap 72) (nI (plq (sSet (sSet S 68 (rSet (S.1 68) r 1)) 70 (rSet ((sSet S 68 (rSet (S.1 68) r 1)).1 70) r u)) u)) r)).1 66) r)) (cwV 2 hC.2.2.2.2 gX4_setDone_X5_raise rfl rfl rfl hdX5_raise ⟨Nat.le_of_ble_eq_true rfl, Nat.le_of_ble_eq_true rfl⟩) rfl rfl (Nat.le_of_ble_eq_true rfl) ⟨Nat.le_of_ble_eq_true rfl, Nat.le_of_ble_eq_true rfl⟩ dX4_setDone_53 (q := 56) rfl ?_
  refine vv_aload_n hC 1 dX4_setDone_56 rfl rfl (q := 57) rfl ?_
  refine vv_get hC hK (K := RX4) (T := TX4) (N := 8) (ci := 4) inwX4_setDone_X4 61 (kl4 (by decide +kernel)) (oc4 (by decide +kernel)) rfl 7 (by decide) (List.mem_of_getElem? (i := 5) rfl) rfl (v := .ref (ad 76)) rfl dX4_setDone_57 (q := 60) rfl ?_
  refine vv_iload_n hC 0 dX4_setDone_60 rfl rfl (q := 61) rfl ?_
  refine vv_calli hC hK (fun _ h => h) (As := [.int (rAt (S.1 62) r)]) 76 (kl5 (by decide +kernel)) (or5 (by decide +kernel)) rfl (c5_at l hJ (sSet (sSet (sSet (sSet S 68 (rSet (S.1 68) r 1)) 70 (rSet ((sSet S 68 (rSet (S.1 68) r 1)).1 70) r u)) 72 (rIns ((sSet (sSet S 68 (rSet (S.1 68) r 1)) 70 (rSet ((sSet S 68 (rSet (S.1 68) r 1)).1 70) r u)).1 72) (cap 72) (nI (plq (sSet (sSet S 68 (rSet (S.1 68) r 1)) 70 (rSet ((sSet S 68 (rSet (S.1 68) r 1)).1 70) r u)) u)) r)) 76 (rSet ((sSet (sSet (sSet S 68 (rSet (S.1 68) r 1)) 70 (rSet ((sSet S 68 (rSet (S.1 68) r 1)).1 70) r u)) 72 (rIns ((sSet (sSet S 68 (rSet (S.1 68) r 1)) 70 (rSet ((sSet S 68 (rSet (S.1 68) r 1)).1 70) r u)).1 72) (cap 72) (nI (plq (sSet (sSet S 68 (rSet (S.1 68) r 1)) 70 (rSet ((sSet S 68 (rSet (S.1 68) r 1)).1 70) r u)) u)) r)).1 76) (rAt (S.1 62) r) (rAt ((sSet (sSet (sSet S 68 (rSet (S.1 68) r 1)) 70 (rSet ((sSet S 68 (rSet (S.1 68) r 1)).1 70) r u)) 72 (rIns ((sSet (sSet S 68 (rSet (S.1 68) r 1)) 70 (rSet ((sSet S 68 (rSet (S.1 68) r 1)).1 70) r u)).1 72) (cap 72) (nI (plq (sSet (sSet S 68 (rSet (S.1 68) r 1)) 70 (rSet ((sSet S 68 (rSet (S.1 68) r 1)).1 70) r u)) u)) r)).1 76) (rAt (S.1 62) r) + (rAt ((sSet (sSet (sSet S 68 (rSet (S.1 68) r 1)) 70 (rSet ((sSet S 68 (rSet (S.1 68) r 1)).1 70) r u)) 72 (rIns ((sSet (sSet S 68 (rSet (S.1 68) r 1)) 70 (rSet ((sSet S 68 (rSet (S.1 68) r 1)).1 70) r u)).1 72) (cap 72) (nI (plq (sSet (sSet S 68 (rSet (S.1 68) r 1)) 70 (rSet ((sSet S 68 (rSet (S.1 68) r 1)).1 70) r u)) u)) r)).1 66) r)))) 76 (by decide +kernel) (rAt (S.1 62) r)) (cwV 1 hC.2.2.2.2 gX4_setDone_X5_at rfl rfl rfl hdX5_at ⟨Nat.le_of_ble_eq_true rfl, Nat.le_of_ble_eq_true rfl⟩) rfl rfl (Nat.le_of_ble_eq_true rfl) ⟨Nat.le_of_ble_eq_true rfl, Nat.le_of_ble_eq_true rfl⟩ dX4_setDone_61 (q := 64) rfl ?_
  exact vv_iret hC hK hr hlk rfl (fun _ h => h) dX4_setDone_64
theorem inwX6_count_X6 : ∀ w ∈ wsX60, w ∈ wsX6_count := fun _ h => List.mem_cons_of_mem _ (List.mem_append_left _ (List.mem_append_right _ h))
theorem inwX6_count_X5 : ∀ w ∈ wsX50, w ∈ wsX6_count := fun _ h => List.mem_cons_of_mem _ (List.mem_append_right _ h)
theorem hdX6_count : yX6_count.cls = RX6 ∧ yX6_count.cls ≠ "java/lang/invoke/MethodHandle" ∧ yX6_count.cls ≠ "java/lang/invoke/VarHandle" ∧ (parseMethodDescriptor yX6_count.desc).map (fun d => d.parameters.length) = some 0 := by decide +kernel
set_option maxRecDepth 100000 in
set_option maxHeartbeats 4000000 in
theorem c6_count (l : Launch) {D : va_G} {cI cW cZ cL : ClassId} {ad : Nat → Nat} (hJ : injA ad 90) (S : sC)  : kMi l yX6_count wsX6_count ({ frames := 1, cells := 0, slots := 0, locals := 20 }) D vwCl (tyL cI cW cZ cL) ad 90 [.ref (ad 2)] (PC cI cW ad S) (nI (S.1 3).length) (PC cI cW ad S) := by
  refine vv_enter (cc := cX6_count) (maxL := 1) (ret := (some .int)) (own := RX6) (lv := [(0, .ref (ad 2))]) (by decide +kernel) rfl rfl hJ (Nat.le_of_ble_eq_true rfl) rfl ?_
  intro p e s m args below meth c hC hK hW hr hlk
  refine vv_aload_n hC 0 dX6_count_0 rfl rfl (q := 1) rfl ?_
  refine vv_get hC hK (K := RX6) (T := TX6) (N := 6) (ci := 6) inwX6_count_X6 2 (kl6 (by decide +kernel)) (oc6 (by decide +kernel)) rfl 0 (by decide) (List.mem_of_getElem? (i := 1) rfl) rfl (v := .ref (ad 3)) rfl dX6_count_1 (q := 4) rfl ?_
  refine vv_calli hC hK (fun _ h => h) (As := []) 3 (kl5 (by decide +kernel)) (or5 (by decide +kernel)) rfl (c5_size l hJ S 3 (by decide +kernel)) (cwV 0 hC.2.2.2.2 gX6_count_X5_size rfl rfl rfl hdX5_size ⟨Nat.le_of_ble_eq_true rfl, Nat.le_of_ble_eq_true rfl⟩) rfl rfl (Nat.le_of_ble_eq_true rfl) ⟨Nat.le_of_ble_eq_true rfl, Nat.le_of_ble_eq_true rfl⟩ dX6_count_4 (q := 7) rfl ?_
  exact vv_iret hC hK hr hlk rfl (fun _ h => h) dX6_count_7
theorem inwX6_add_X6 : ∀ w ∈ wsX60, w ∈ wsX6_add := fun _ h => List.mem_cons_of_mem _ (List.mem_append_left _ (List.mem_append_right _ h))
theorem inwX6_add_X5 : ∀ w ∈ wsX50, w ∈ wsX6_add := fun _ h => List.mem_cons_of_mem _ (List.mem_append_right _ h)
theorem hdX6_add : yX6_add.cls = RX6 ∧ yX6_add.cls ≠ "java/lang/invoke/MethodHandle" ∧ yX6_add.cls ≠ "java/lang/invoke/VarHandle" ∧ (parseMethodDescriptor yX6_add.desc).map (fun d => d.parameters.length) = some 3 := by decide +kernel
set_option maxRecDepth 100000 in
set_option maxHeartbeats 4000000 in
theorem c6_add (l : Launch) {D : va_G} {cI cW cZ cL : ClassId} {ad : Nat → Nat} (hJ : injA ad 90) (S : sC) (w sg a : Int32) : kMi l yX6_add wsX6_add ({ frames := 3, cells := 0, slots := 0, locals := 83 }) D vwCl (tyL cI cW cZ cL) ad 90 [.ref (ad 2), .int w, .int sg, .int a] (PC cI cW ad S) (nI ((wAdd S w sg a).1 3).length - 1) (PC cI cW ad (wAdd S w sg a)) := by
  refine vv_enter (cc := cX6_add) (maxL := 4) (ret := (some .int)) (own := RX6) (lv := [(0, .ref (ad 2)), (1, .int w), (2, .int sg), (3, .int a)]) (by decide +kernel) rfl rfl hJ (Nat.le_of_ble_eq_true rfl) rfl ?_
  intro p e s m args below meth c hC hK hW hr hlk
  refine vv_aload_n hC 0 dX6_add_0 rfl rfl (q := 1) rfl ?_
  refine vv_get hC hK (K := RX6) (T := TX6) (N := 6) (ci := 6) inwX6_add_X6 2 (kl6 (by decide +kernel)) (oc6 (by decide +kernel)) rfl 0 (by decide) (List.mem_of_getElem? (i := 1) rfl) rfl (v := .ref (ad 3)) rfl dX6_add_1 (q := 4) rfl ?_
  refine vv_iload_n hC 2 dX6_add_4 rfl rfl (q := 5) rfl ?_
  refine vv_callv hC hK (fun _ h => h) (As := [.int sg]) 3 (kl5 (by decide +kernel)) (or5 (by decide +kernel)) rfl (c5_add l hJ S 3 (by decide +kernel) sg) (cwV 1 hC.2.2.2.2 gX6_add_X5_add rfl rfl rfl hdX5_add ⟨Nat.le_of_ble_eq_true rfl, Nat.le_of_ble_eq_true rfl⟩) rfl rfl (Nat.le_of_ble_eq_true rfl) ⟨Nat.le_of_ble_eq_true rfl, Nat.le_of_ble_eq_true rfl⟩ dX6_add_5 (q := 8) rfl ?_
  refine vv_aload_n hC 0 dX6_add_8 rfl rfl (q := 9) rfl ?_
  refine vv_get hC hK (K := RX6) (T := TX6) (N := 6) (ci := 6) inwX6_add_X6 2 (kl6 (by decide +kernel)) (oc6 (by decide +kernel)) rfl 1 (by decide) (List.mem_of_getElem? (i := 2) rfl) rfl (v := .ref (ad 5)) rfl dX6_add_9 (q := 12) rfl ?_
  refine vv_iload_n hC 1 dX6_add_12 rfl rfl (q := 13) rfl ?_
  refine vv_callv hC hK (fun _ h => h) (As := [.int w]) 5 (kl5 (by decide +kernel)) (or5 (by decide +kernel)) rfl (c5_add l hJ (sSet S 3 (rAdd (S.1 3) (cap 3) sg)) 5 (by decide +kernel) w) (cwV 1 hC.2.2.2.2 gX6_add_X5_add rfl rfl rfl hdX5_add ⟨Nat.le_of_ble_eq_true rfl, Nat.le_of_ble_eq_true rfl⟩) rfl rfl (Nat.le_of_ble_eq_true rfl) ⟨Nat.le_of_ble_eq_true rfl, Nat.le_of_ble_eq_true rfl⟩ dX6_add_13 (q := 16) rfl ?_
  refine vv_aload_n hC 0 dX6_add_16 rfl rfl (q := 17) rfl ?_
  refine vv_get hC hK (K := RX6) (T := TX6) (N := 6) (ci := 6) inwX6_add_X6 2 (kl6 (by decide +kernel)) (oc6 (by decide +kernel)) rfl 2 (by decide) (List.mem_of_getElem? (i := 3) rfl) rfl (v := .ref (ad 7)) rfl dX6_add_17 (q := 20) rfl ?_
  refine vv_iload_n hC 3 dX6_add_20 rfl rfl (q := 21) rfl ?_
  refine vv_callv hC hK (fun _ h => h) (As := [.int a]) 7 (kl5 (by decide +kernel)) (or5 (by decide +kernel)) rfl (c5_add l hJ (sSet (sSet S 3 (rAdd (S.1 3) (cap 3) sg)) 5 (rAdd ((sSet S 3 (rAdd (S.1 3) (cap 3) sg)).1 5) (cap 5) w)) 7 (by decide +kernel) a) (cwV 1 hC.2.2.2.2 gX6_add_X5_add rfl rfl rfl hdX5_add ⟨Nat.le_of_ble_eq_true rfl, Nat.le_of_ble_eq_true rfl⟩) rfl rfl (Nat.le_of_ble_eq_true rfl) ⟨Nat.le_of_ble_eq_true rfl, Nat.le_of_ble_eq_true rfl⟩ dX6_add_21 (q := 24) rfl ?_
  refine vv_aload_n hC 0 dX6_add_24 rfl rfl (q := 25) rfl ?_
  refine vv_get hC hK (K := RX6) (T := TX6) (N := 6) (ci := 6) inwX6_add_X6 2 (kl6 (by decide +kernel)) (oc6 (by decide +kernel)) rfl 3 (by decide) (List.mem_of_getElem? (i := 4) rfl) rfl (v := .ref (ad 9)) rfl dX6_add_25 (q := 28) rfl ?_
  refine vv_iconst hC (v := 0) dX6_add_28 rfl (q := 29) rfl ?_
  refine vv_callv hC hK (fun _ h => h) (As := [.int 0]) 9 (kl5 (by decide +kernel)) (or5 (by decide +kernel)) rfl (c5_add l hJ (sSet (sSet (sSet S 3 (rAdd (S.1 3) (cap 3) sg)) 5 (rAdd ((sSet S 3 (rAdd (S.1 3) (cap 3) sg)).1 5) (cap 5) w)) 7 (rAdd ((sSet (sSet S 3 (rAdd (S.1 3) (cap 3) sg)) 5 (rAdd ((sSet S 3 (rAdd (S.1 3) (cap 3) sg)).1 5) (cap 5) w)).1 7) (cap 7) a)) 9 (by decide +kernel) 0) (cwV 1 hC.2.2.2.2 gX6_add_X5_add rfl rfl rfl hdX5_add ⟨Nat.le_of_ble_eq_true rfl, Nat.le_of_ble_eq_true rfl⟩) rfl rfl (Nat.le_of_ble_eq_true rfl) ⟨Nat.le_of_ble_eq_true rfl, Nat.le_of_ble_eq_true rfl⟩ dX6_add_29 (q := 32) rfl ?_
  refine vv_aload_n hC 0 dX6_add_32 rfl rfl (q := 33) rfl ?_
  refine vv_get hC hK (K := RX6) (T := TX6) (N := 6) (ci := 6) inwX6_add_X6 2 (kl6 (by decide +kernel)) (oc6 (by decide +kernel)) rfl 4 (by decide) (List.mem_of_getElem? (i := 5) rfl) rfl (v := .ref (ad 11)) rfl dX6_add_33 (q := 36) rfl ?_
  refine vv_iconst hC (v := (-1)) dX6_add_36 rfl (q := 37) rfl ?_
  refine vv_callv hC hK (fun _ h => h) (As := [.int (-1)]) 11 (kl5 (by decide +kernel)) (or5 (by decide +kernel)) rfl (c5_add l hJ (sSet (sSet (sSet (sSet S 3 (rAdd (S.1 3) (cap 3) sg)) 5 (rAdd ((sSet S 3 (rAdd (S.1 3) (cap 3) sg)).1 5) (cap 5) w)) 7 (rAdd ((sSet (sSet S 3 (rAdd (S.1 3) (cap 3) sg)) 5 (rAdd ((sSet S 3 (rAdd (S.1 3) (cap 3) sg)).1 5) (cap 5) w)).1 7) (cap 7) a)) 9 (rAdd ((sSet (sSet (sSet S 3 (rAdd (S.1 3) (cap 3) sg)) 5 (rAdd ((sSet S 3 (rAdd (S.1 3) (cap 3) sg)).1 5) (cap 5) w)) 7 (rAdd ((sSet (sSet S 3 (rAdd (S.1 3) (cap 3) sg)) 5 (rAdd ((sSet S 3 (rAdd (S.1 3) (cap 3) sg)).1 5) (cap 5) w)).1 7) (cap 7) a)).1 9) (cap 9) 0)) 11 (by decide +kernel) (-1)) (cwV 1 hC.2.2.2.2 gX6_add_X5_add rfl rfl rfl hdX5_add ⟨Nat.le_of_ble_eq_true rfl, Nat.le_of_ble_eq_true rfl⟩) rfl rfl (Nat.le_of_ble_eq_true rfl) ⟨Nat.le_of_ble_eq_true rfl, Nat.le_of_ble_eq_true rfl⟩ dX6_add_37 (q := 40) rfl ?_
  refine vv_aload_n hC 0 dX6_add_40 rfl rfl (q := 41) rfl ?_
  refine vv_get hC hK (K := RX6) (T := TX6) (N := 6) (ci := 6) inwX6_add_X6 2 (kl6 (by decide +kernel)) (oc6 (by decide +kernel)) rfl 5 (by decide) (List.mem_of_getElem? (i := 6) rfl) rfl (v := .ref (ad 13)) rfl dX6_add_41 (q := 44) rfl ?_
  refine vv_iconst hC (v := 0) dX6_add_44 rfl (q := 45) rfl ?_
  refine vv_callv hC hK (fun _ h => h) (As := [.int 0]) 13 (kl5 (by decide +kernel)) (or5 (by decide +kernel)) rfl (c5_add l hJ (sSet (sSet (sSet (sSet (sSet S 3 (rAdd (S.1 3) (cap 3) sg)) 5 (rAdd ((sSet S 3 (rAdd (S.1 3) (cap 3) sg)).1 5) (cap 5) w)) 7 (rAdd ((sSet (sSet S 3 (rAdd (S.1 3) (cap 3) sg)) 5 (rAdd ((sSet S 3 (rAdd (S.1 3) (cap 3) sg)).1 5) (cap 5) w)).1 7) (cap 7) a)) 9 (rAdd ((sSet (sSet (sSet S 3 (rAdd (S.1 3) (cap 3) sg)) 5 (rAdd ((sSet S 3 (rAdd (S.1 3) (cap 3) sg)).1 5) (cap 5) w)) 7 (rAdd ((sSet (sSet S 3 (rAdd (S.1 3) (cap 3) sg)) 5 (rAdd ((sSet S 3 (rAdd (S.1 3) (cap 3) sg)).1 5) (cap 5) w)).1 7) (cap 7) a)).1 9) (cap 9) 0)) 11 (rAdd ((sSet (sSet (sSet (sSet S 3 (rAdd (S.1 3) (cap 3) sg)) 5 (rAdd ((sSet S 3 (rAdd (S.1 3) (cap 3) sg)).1 5) (cap 5) w)) 7 (rAdd ((sSet (sSet S 3 (rAdd (S.1 3) (cap 3) sg)) 5 (rAdd ((sSet S 3 (rAdd (S.1 3) (cap 3) sg)).1 5) (cap 5) w)).1 7) (cap 7) a)) 9 (rAdd ((sSet (sSet (sSet S 3 (rAdd (S.1 3) (cap 3) sg)) 5 (rAdd ((sSet S 3 (rAdd (S.1 3) (cap 3) sg)).1 5) (cap 5) w)) 7 (rAdd ((sSet (sSet S 3 (rAdd (S.1 3) (cap 3) sg)) 5 (rAdd ((sSet S 3 (rAdd (S.1 3) (cap 3) sg)).1 5) (cap 5) w)).1 7) (cap 7) a)).1 9) (cap 9) 0)).1 11) (cap 11) (-1))) 13 (by decide +kernel) 0) (cwV 1 hC.2.2.2.2 gX6_add_X5_add rfl rfl rfl hdX5_add ⟨Nat.le_of_ble_eq_true rfl, Nat.le_of_ble_eq_true rfl⟩) rfl rfl (Nat.le_of_ble_eq_true rfl) ⟨Nat.le_of_ble_eq_true rfl, Nat.le_of_ble_eq_true rfl⟩ dX6_add_45 (q := 48) rfl ?_
  refine vv_aload_n hC 0 dX6_add_48 rfl rfl (q := 49) rfl ?_
  refine vv_calli hC hK (fun _ h => h) (As := []) 2 (kl6 (by decide +kernel)) (or6 (by decide +kernel)) rfl (c6_count l hJ (sSet (sSet (sSet (sSet (sSet (sSet S 3 (rAdd (S.1 3) (cap 3) sg)) 5 (rAdd ((sSet S 3 (rAdd (S.1 3) (cap 3) sg)).1 5) (cap 5) w)) 7 (rAdd ((sSet (sSet S 3 (rAdd (S.1 3) (cap 3) sg)) 5 (rAdd ((sSet S 3 (rAdd (S.1 3) (cap 3) sg)).1 5) (cap 5) w)).1 7) (cap 7) a)) 9 (rAdd ((sSet (sSet (sSet S 3 (rAdd (S.1 3) (cap 3) sg)) 5 (rAdd ((sSet S 3 (rAdd (S.1 3) (cap 3) sg)).1 5) (cap 5) w)) 7 (rAdd ((sSet (sSet S 3 (rAdd (S.1 3) (cap 3) sg)) 5 (rAdd ((sSet S 3 (rAdd (S.1 3) (cap 3) sg)).1 5) (cap 5) w)).1 7) (cap 7) a)).1 9) (cap 9) 0)) 11 (rAdd ((sSet (sSet (sSet (sSet S 3 (rAdd (S.1 3) (cap 3) sg)) 5 (rAdd ((sSet S 3 (rAdd (S.1 3) (cap 3) sg)).1 5) (cap 5) w)) 7 (rAdd ((sSet (sSet S 3 (rAdd (S.1 3) (cap 3) sg)) 5 (rAdd ((sSet S 3 (rAdd (S.1 3) (cap 3) sg)).1 5) (cap 5) w)).1 7) (cap 7) a)) 9 (rAdd ((sSet (sSet (sSet S 3 (rAdd (S.1 3) (cap 3) sg)) 5 (rAdd ((sSet S 3 (rAdd (S.1 3) (cap 3) sg)).1 5) (cap 5) w)) 7 (rAdd ((sSet (sSet S 3 (rAdd (S.1 3) (cap 3) sg)) 5 (rAdd ((sSet S 3 (rAdd (S.1 3) (cap 3) sg)).1 5) (cap 5) w)).1 7) (cap 7) a)).1 9) (cap 9) 0)).1 11) (cap 11) (-1))) 13 (rAdd ((sSet (sSet (sSet (sSet (sSet S 3 (rAdd (S.1 3) (cap 3) sg)) 5 (rAdd ((sSet S 3 (rAdd (S.1 3) (cap 3) sg)).1 5) (cap 5) w)) 7 (rAdd ((sSet (sSet S 3 (rAdd (S.1 3) (cap 3) sg)) 5 (rAdd ((sSet S 3 (rAdd (S.1 3) (cap 3) sg)).1 5) (cap 5) w)).1 7) (cap 7) a)) 9 (rAdd ((sSet (sSet (sSet S 3 (rAdd (S.1 3) (cap 3) sg)) 5 (rAdd ((sSet S 3 (rAdd (S.1 3) (cap 3) sg)).1 5) (cap 5) w)) 7 (rAdd ((sSet (sSet S 3 (rAdd (S.1 3) (cap 3) sg)) 5 (rAdd ((sSet S 3 (rAdd (S.1 3) (cap 3) sg)).1 5) (cap 5) w)).1 7) (cap 7) a)).1 9) (cap 9) 0)) 11 (rAdd ((sSet (sSet (sSet (sSet S 3 (rAdd (S.1 3) (cap 3) sg)) 5 (rAdd ((sSet S 3 (rAdd (S.1 3) (cap 3) sg)).1 5) (cap 5) w)) 7 (rAdd ((sSet (sSet S 3 (rAdd (S.1 3) (cap 3) sg)) 5 (rAdd ((sSet S 3 (rAdd (S.1 3) (cap 3) sg)).1 5) (cap 5) w)).1 7) (cap 7) a)) 9 (rAdd ((sSet (sSet (sSet S 3 (rAdd (S.1 3) (cap 3) sg)) 5 (rAdd ((sSet S 3 (rAdd (S.1 3) (cap 3) sg)).1 5) (cap 5) w)) 7 (rAdd ((sSet (sSet S 3 (rAdd (S.1 3) (cap 3) sg)) 5 (rAdd ((sSet S 3 (rAdd (S.1 3) (cap 3) sg)).1 5) (cap 5) w)).1 7) (cap 7) a)).1 9) (cap 9) 0)).1 11) (cap 11) (-1))).1 13) (cap 13) 0))) (cwV 0 hC.2.2.2.2 gX6_add_X6_count rfl rfl rfl hdX6_count ⟨Nat.le_of_ble_eq_true rfl, Nat.le_of_ble_eq_true rfl⟩) rfl rfl (Nat.le_of_ble_eq_true rfl) ⟨Nat.le_of_ble_eq_true rfl, Nat.le_of_ble_eq_true rfl⟩ dX6_add_49 (q := 52) rfl ?_
  refine vv_iconst hC (v := 1) dX6_add_52 rfl (q := 53) rfl ?_
  refine vv_isub hC dX6_add_53 (q := 54) rfl ?_
  exact vv_iret hC hK hr hlk rfl (fun _ h => h) dX6_add_54
theorem inwX6_signOf_X6 : ∀ w ∈ wsX60, w ∈ wsX6_signOf := fun _ h => List.mem_cons_of_mem _ (List.mem_append_left _ (List.mem_append_right _ h))
theorem inwX6_signOf_X5 : ∀ w ∈ wsX50, w ∈ wsX6_signOf := fun _ h => List.mem_cons_of_mem _ (List.mem_append_right _ h)
theorem hdX6_signOf : yX6_signOf.cls = RX6 ∧ yX6_signOf.cls ≠ "java/lang/invoke/MethodHandle" ∧ yX6_signOf.cls ≠ "java/lang/invoke/VarHandle" ∧ (parseMethodDescriptor yX6_signOf.desc).map (fun d => d.parameters.length) = some 1 := by decide +kernel
set_option maxRecDepth 100000 in
set_option maxHeartbeats 4000000 in
theorem c6_signOf (l : Launch) {D : va_G} {cI cW cZ cL : ClassId} {ad : Nat → Nat} (hJ : injA ad 90) (S : sC) (i : Int32) : kMi l yX6_signOf wsX6_signOf ({ frames := 2, cells := 0, slots := 0, locals := 42 }) D vwCl (tyL cI cW cZ cL) ad 90 [.ref (ad 2), .int i] (PC cI cW ad S) (rAt (S.1 3) i) (PC cI cW ad S) := by
  refine vv_enter (cc := cX6_signOf) (maxL := 2) (ret := (some .int)) (own := RX6) (lv := [(0, .ref (ad 2)), (1, .int i)]) (by decide +kernel) rfl rfl hJ (Nat.le_of_ble_eq_true rfl) rfl ?_
  intro p e s m args below meth c hC hK hW hr hlk
  refine vv_aload_n hC 0 dX6_signOf_0 rfl rfl (q := 1) rfl ?_
  refine vv_get hC hK (K := RX6) (T := TX6) (N := 6) (ci := 6) inwX6_signOf_X6 2 (kl6 (by decide +kernel)) (oc6 (by decide +kernel)) rfl 0 (by decide) (List.mem_of_getElem? (i := 1) rfl) rfl (v := .ref (ad 3)) rfl dX6_signOf_1 (q := 4) rfl ?_
  refine vv_iload_n hC 1 dX6_signOf_4 rfl rfl (q := 5) rfl ?_
  refine vv_calli hC hK (fun _ h => h) (As := [.int i]) 3 (kl5 (by decide +kernel)) (or5 (by decide +kernel)) rfl (c5_at l hJ S 3 (by decide +kernel) i) (cwV 1 hC.2.2.2.2 gX6_signOf_X5_at rfl rfl rfl hdX5_at ⟨Nat.le_of_ble_eq_true rfl, Nat.le_of_ble_eq_true rfl⟩) rfl rfl (Nat.le_of_ble_eq_true rfl) ⟨Nat.le_of_ble_eq_true rfl, Nat.le_of_ble_eq_true rfl⟩ dX6_signOf_5 (q := 8) rfl ?_
  exact vv_iret hC hK hr hlk rfl (fun _ h => h) dX6_signOf_8
theorem inwX6_writerOf_X6 : ∀ w ∈ wsX60, w ∈ wsX6_writerOf := fun _ h => List.mem_cons_of_mem _ (List.mem_append_left _ (List.mem_append_right _ h))
theorem inwX6_writerOf_X5 : ∀ w ∈ wsX50, w ∈ wsX6_writerOf := fun _ h => List.mem_cons_of_mem _ (List.mem_append_right _ h)
theorem hdX6_writerOf : yX6_writerOf.cls = RX6 ∧ yX6_writerOf.cls ≠ "java/lang/invoke/MethodHandle" ∧ yX6_writerOf.cls ≠ "java/lang/invoke/VarHandle" ∧ (parseMethodDescriptor yX6_writerOf.desc).map (fun d => d.parameters.length) = some 1 := by decide +kernel
set_option maxRecDepth 100000 in
set_option maxHeartbeats 4000000 in
theorem c6_writerOf (l : Launch) {D : va_G} {cI cW cZ cL : ClassId} {ad : Nat → Nat} (hJ : injA ad 90) (S : sC) (i : Int32) : kMi l yX6_writerOf wsX6_writerOf ({ frames := 2, cells := 0, slots := 0, locals := 42 }) D vwCl (tyL cI cW cZ cL) ad 90 [.ref (ad 2), .int i] (PC cI cW ad S) (rAt (S.1 5) i) (PC cI cW ad S) := by
  refine vv_enter (cc := cX6_writerOf) (maxL := 2) (ret := (some .int)) (own := RX6) (lv := [(0, .ref (ad 2)), (1, .int i)]) (by decide +kernel) rfl rfl hJ (Nat.le_of_ble_eq_true rfl) rfl ?_
  intro p e s m args below meth c hC hK hW hr hlk
  refine vv_aload_n hC 0 dX6_writerOf_0 rfl rfl (q := 1) rfl ?_
  refine vv_get hC hK (K := RX6) (T := TX6) (N := 6) (ci := 6) inwX6_writerOf_X6 2 (kl6 (by decide +kernel)) (oc6 (by decide +kernel)) rfl 1 (by decide) (List.mem_of_getElem? (i := 1) rfl) rfl (v := .ref (ad 5)) rfl dX6_writerOf_1 (q := 4) rfl ?_
  refine vv_iload_n hC 1 dX6_writerOf_4 rfl rfl (q := 5) rfl ?_
  refine vv_calli hC hK (fun _ h => h) (As := [.int i]) 5 (kl5 (by decide +kernel)) (or5 (by decide +kernel)) rfl (c5_at l hJ S 5 (by decide +kernel) i) (cwV 1 hC.2.2.2.2 gX6_writerOf_X5_at rfl rfl rfl hdX5_at ⟨Nat.le_of_ble_eq_true rfl, Nat.le_of_ble_eq_true rfl⟩) rfl rfl (Nat.le_of_ble_eq_true rfl) ⟨Nat.le_of_ble_eq_true rfl, Nat.le_of_ble_eq_true rfl⟩ dX6_writerOf_5 (q := 8) rfl ?_
  exact vv_iret hC hK hr hlk rfl (fun _ h => h) dX6_writerOf_8
theorem inwX6_anchorOf_X6 : ∀ w ∈ wsX60, w ∈ wsX6_anchorOf := fun _ h => List.mem_cons_of_mem _ (List.mem_append_left _ (List.mem_append_right _ h))
theorem inwX6_anchorOf_X5 : ∀ w ∈ wsX50, w ∈ wsX6_anchorOf := fun _ h => List.mem_cons_of_mem _ (List.mem_append_right _ h)
theorem hdX6_anchorOf : yX6_anchorOf.cls = RX6 ∧ yX6_anchorOf.cls ≠ "java/lang/invoke/MethodHandle" ∧ yX6_anchorOf.cls ≠ "java/lang/invoke/VarHandle" ∧ (parseMethodDescriptor yX6_anchorOf.desc).map (fun d => d.parameters.length) = some 1 := by decide +kernel
set_option maxRecDepth 100000 in
set_option maxHeartbeats 4000000 in
theorem c6_anchorOf (l : Launch) {D : va_G} {cI cW cZ cL : ClassId} {ad : Nat → Nat} (hJ : injA ad 90) (S : sC) (i : Int32) : kMi l yX6_anchorOf wsX6_anchorOf ({ frames := 2, cells := 0, slots := 0, locals := 42 }) D vwCl (tyL cI cW cZ cL) ad 90 [.ref (ad 2), .int i] (PC cI cW ad S) (rAt (S.1 7) i) (PC cI cW ad S) := by
  refine vv_enter (cc := cX6_anchorOf) (maxL := 2) (ret := (some .int)) (own := RX6) (lv := [(0, .ref (ad 2)), (1, .int i)]) (by decide +kernel) rfl rfl hJ (Nat.le_of_ble_eq_true rfl) rfl ?_
  intro p e s m args below meth c hC hK hW hr hlk
  refine vv_aload_n hC 0 dX6_anchorOf_0 rfl rfl (q := 1) rfl ?_
  refine vv_get hC hK (K := RX6) (T := TX6) (N := 6) (ci := 6) inwX6_anchorOf_X6 2 (kl6 (by decide +kernel)) (oc6 (by decide +kernel)) rfl 2 (by decide) (List.mem_of_getElem? (i := 1) rfl) rfl (v := .ref (ad 7)) rfl dX6_anchorOf_1 (q := 4) rfl ?_
  refine vv_iload_n hC 1 dX6_anchorOf_4 rfl rfl (q := 5) rfl ?_
  refine vv_calli hC hK (fun _ h => h) (As := [.int i]) 7 (kl5 (by decide +kernel)) (or5 (by decide +kernel)) rfl (c5_at l hJ S 7 (by decide +kernel) i) (cwV 1 hC.2.2.2.2 gX6_anchorOf_X5_at rfl rfl rfl hdX5_at ⟨Nat.le_of_ble_eq_true rfl, Nat.le_of_ble_eq_true rfl⟩) rfl rfl (Nat.le_of_ble_eq_true rfl) ⟨Nat.le_of_ble_eq_true rfl, Nat.le_of_ble_eq_true rfl⟩ dX6_anchorOf_5 (q := 8) rfl ?_
  exact vv_iret hC hK hr hlk rfl (fun _ h => h) dX6_anchorOf_8
theorem inwX6_reviewOf_X6 : ∀ w ∈ wsX60, w ∈ wsX6_reviewOf := fun _ h => List.mem_cons_of_mem _ (List.mem_append_left _ (List.mem_append_right _ h))
theorem inwX6_reviewOf_X5 : ∀ w ∈ wsX50, w ∈ wsX6_reviewOf := fun _ h => List.mem_cons_of_mem _ (List.mem_append_right _ h)
theorem hdX6_reviewOf : yX6_reviewOf.cls = RX6 ∧ yX6_reviewOf.cls ≠ "java/lang/invoke/MethodHandle" ∧ yX6_reviewOf.cls ≠ "java/lang/invoke/VarHandle" ∧ (parseMethodDescriptor yX6_reviewOf.desc).map (fun d => d.parameters.length) = some 1 := by decide +kernel
set_option maxRecDepth 100000 in
set_option maxHeartbeats 4000000 in
theorem c6_reviewOf (l : Launch) {D : va_G} {cI cW cZ cL : ClassId} {ad : Nat → Nat} (hJ : injA ad 90) (S : sC) (i : Int32) : kMi l yX6_reviewOf wsX6_reviewOf ({ frames := 2, cells := 0, slots := 0, locals := 42 }) D vwCl (tyL cI cW cZ cL) ad 90 [.ref (ad 2), .int i] (PC cI cW ad S) (rAt (S.1 11) i) (PC cI cW ad S) := by
  refine vv_enter (cc := cX6_reviewOf) (maxL := 2) (ret := (some .int)) (own := RX6) (lv := [(0, .ref (ad 2)), (1, .int i)]) (by decide +kernel) rfl rfl hJ (Nat.le_of_ble_eq_true rfl) rfl ?_
  intro p e s m args below meth c hC hK hW hr hlk
  refine vv_aload_n hC 0 dX6_reviewOf_0 rfl rfl (q := 1) rfl ?_
  refine vv_get hC hK (K := RX6) (T := TX6) (N := 6) (ci := 6) inwX6_reviewOf_X6 2 (kl6 (by decide +kernel)) (oc6 (by decide +kernel)) rfl 4 (by decide) (List.mem_of_getElem? (i := 1) rfl) rfl (v := .ref (ad 11)) rfl dX6_reviewOf_1 (q := 4) rfl ?_
  refine vv_iload_n hC 1 dX6_reviewOf_4 rfl rfl (q := 5) rfl ?_
  refine vv_calli hC hK (fun _ h => h) (As := [.int i]) 11 (kl5 (by decide +kernel)) (or5 (by decide +kernel)) rfl (c5_at l hJ S 11 (by decide +kernel) i) (cwV 1 hC.2.2.2.2 gX6_reviewOf_X5_at rfl rfl rfl hdX5_at ⟨Nat.le_of_ble_eq_true rfl, Nat.le_of_ble_eq_true rfl⟩) rfl rfl (Nat.le_of_ble_eq_true rfl) ⟨Nat.le_of_ble_eq_true rfl, Nat.le_of_ble_eq_true rfl⟩ dX6_reviewOf_5 (q := 8) rfl ?_
  exact vv_iret hC hK hr hlk rfl (fun _ h => h) dX6_reviewOf_8
theorem inwX6_cameIn_X6 : ∀ w ∈ wsX60, w ∈ wsX6_cameIn := fun _ h => List.mem_cons_of_mem _ (List.mem_append_left _ (List.mem_append_right _ h))
theorem inwX6_cameIn_X5 : ∀ w ∈ wsX50, w ∈ wsX6_cameIn := fun _ h => List.mem_cons_of_mem _ (List.mem_append_right _ h)
theorem hdX6_cameIn : yX6_cameIn.cls = RX6 ∧ yX6_cameIn.cls ≠ "java/lang/invoke/MethodHandle" ∧ yX6_cameIn.cls ≠ "java/lang/invoke/VarHandle" ∧ (parseMethodDescriptor yX6_cameIn.desc).map (fun d => d.parameters.length) = some 1 := by decide +kernel
set_option maxRecDepth 100000 in
set_option maxHeartbeats 4000000 in
theorem c6_cameIn (l : Launch) {D : va_G} {cI cW cZ cL : ClassId} {ad : Nat → Nat} (hJ : injA ad 90) (S : sC) (i : Int32) : kMi l yX6_cameIn wsX6_cameIn ({ frames := 2, cells := 0, slots := 0, locals := 42 }) D vwCl (tyL cI cW cZ cL) ad 90 [.ref (ad 2), .int i] (PC cI cW ad S) (bI (wCame S i)) (PC cI cW ad S) := by
  refine vv_enter (cc := cX6_cameIn) (maxL := 2) (ret := (some .boolean)) (own := RX6) (lv := [(0, .ref (ad 2)), (1, .int i)]) (by decide +kernel) rfl rfl hJ (Nat.le_of_ble_eq_true rfl) rfl ?_
  intro p e s m args below meth c hC hK hW hr hlk
  refine vv_aload_n hC 0 dX6_cameIn_0 rfl rfl (q := 1) rfl ?_
  refine vv_get hC hK (K := RX6) (T := TX6) (N := 6) (ci := 6) inwX6_cameIn_X6 2 (kl6 (by decide +kernel)) (oc6 (by decide +kernel)) rfl 3 (by decide) (List.mem_of_getElem? (i := 1) rfl) rfl (v := .ref (ad 9)) rfl dX6_cameIn_1 (q := 4) rfl ?_
  refine vv_iload_n hC 1 dX6_cameIn_4 rfl rfl (q := 5) rfl ?_
  refine vv_calli hC hK (fun _ h => h) (As := [.int i]) 9 (kl5 (by decide +kernel)) (or5 (by decide +kernel)) rfl (c5_at l hJ S 9 (by decide +kernel) i) (cwV 1 hC.2.2.2.2 gX6_cameIn_X5_at rfl rfl rfl hdX5_at ⟨Nat.le_of_ble_eq_true rfl, Nat.le_of_ble_eq_true rfl⟩) rfl rfl (Nat.le_of_ble_eq_true rfl) ⟨Nat.le_of_ble_eq_true rfl, Nat.le_of_ble_eq_true rfl⟩ dX6_cameIn_5 (q := 8) rfl ?_
  refine vv_iconst hC (v := 1) dX6_cameIn_8 rfl (q := 9) rfl ?_
  refine vv_icmp_eq hC (tgt := 24) dX6_cameIn_9 (by decide) (q := 12) rfl (fun h9 => ?_) (fun h9 => ?_)
  · skip
    refine vv_iconst hC (v := 1) dX6_cameIn_24 rfl (q := 25) rfl ?_
    refine vv_goto hC (tgt := 29) dX6_cameIn_25 (by decide) ?_
    exact vv_zret hC hK hr hlk rfl (by simp [wCame, bI, h9]) (fun _ h => h) dX6_cameIn_29
  · skip
    refine vv_aload_n hC 0 dX6_cameIn_12 rfl rfl (q := 13) rfl ?_
    refine vv_get hC hK (K := RX6) (T := TX6) (N := 6) (ci := 6) inwX6_cameIn_X6 2 (kl6 (by decide +kernel)) (oc6 (by decide +kernel)) rfl 3 (by decide) (List.mem_of_getElem? (i := 1) rfl) rfl (v := .ref (ad 9)) rfl dX6_cameIn_13 (q := 16) rfl ?_
    refine vv_iload_n hC 1 dX6_cameIn_16 rfl rfl (q := 17) rfl ?_
    refine vv_calli hC hK (fun _ h => h) (As := [.int i]) 9 (kl5 (by decide +kernel)) (or5 (by decide +kernel)) rfl (c5_at l hJ S 9 (by decide +kernel) i) (cwV 1 hC.2.2.2.2 gX6_cameIn_X5_at rfl rfl rfl hdX5_at ⟨Nat.le_of_ble_eq_true rfl, Nat.le_of_ble_eq_true rfl⟩) rfl rfl (Nat.le_of_ble_eq_true rfl) ⟨Nat.le_of_ble_eq_true rfl, Nat.le_of_ble_eq_true rfl⟩ dX6_cameIn_17 (q := 20) rfl ?_
    refine vv_iconst hC (v := 2) dX6_cameIn_20 rfl (q := 21) rfl ?_
    refine vv_icmp_ne hC (tgt := 28) dX6_cameIn_21 (by decide) (q := 24) rfl (fun h21 => ?_) (fun h21 => ?_)
    · skip
      refine vv_iconst hC (v := 0) dX6_cameIn_28 rfl (q := 29) rfl ?_
      exact vv_zret hC hK hr hlk rfl (by simp [wCame, bI, h9, h21]) (fun _ h => h) dX6_cameIn_29
    · skip
      refine vv_iconst hC (v := 1) dX6_cameIn_24 rfl (q := 25) rfl ?_
      refine vv_goto hC (tgt := 29) dX6_cameIn_25 (by decide) ?_
      exact vv_zret hC hK hr hlk rfl (by simp [wCame, bI, h21]) (fun _ h => h) dX6_cameIn_29
theorem inwX6_isThere_X6 : ∀ w ∈ wsX60, w ∈ wsX6_isThere := fun _ h => List.mem_cons_of_mem _ (List.mem_append_left _ (List.mem_append_right _ h))
theorem inwX6_isThere_X5 : ∀ w ∈ wsX50, w ∈ wsX6_isThere := fun _ h => List.mem_cons_of_mem _ (List.mem_append_right _ h)
theorem hdX6_isThere : yX6_isThere.cls = RX6 ∧ yX6_isThere.cls ≠ "java/lang/invoke/MethodHandle" ∧ yX6_isThere.cls ≠ "java/lang/invoke/VarHandle" ∧ (parseMethodDescriptor yX6_isThere.desc).map (fun d => d.parameters.length) = some 1 := by decide +kernel
set_option maxRecDepth 100000 in
set_option maxHeartbeats 4000000 in
theorem c6_isThere (l : Launch) {D : va_G} {cI cW cZ cL : ClassId} {ad : Nat → Nat} (hJ : injA ad 90) (S : sC) (i : Int32) : kMi l yX6_isThere wsX6_isThere ({ frames := 2, cells := 0, slots := 0, locals := 42 }) D vwCl (tyL cI cW cZ cL) ad 90 [.ref (ad 2), .int i] (PC cI cW ad S) (bI (wThere S i)) (PC cI cW ad S) := by
  refine vv_enter (cc := cX6_isThere) (maxL := 2) (ret := (some .boolean)) (own := RX6) (lv := [(0, .ref (ad 2)), (1, .int i)]) (by decide +kernel) rfl rfl hJ (Nat.le_of_ble_eq_true rfl) rfl ?_
  intro p e s m args below meth c hC hK hW hr hlk
  refine vv_aload_n hC 0 dX6_isThere_0 rfl rfl (q := 1) rfl ?_
  refine vv_get hC hK (K := RX6) (T := TX6) (N := 6) (ci := 6) inwX6_isThere_X6 2 (kl6 (by decide +kernel)) (oc6 (by decide +kernel)) rfl 3 (by decide) (List.mem_of_getElem? (i := 1) rfl) rfl (v := .ref (ad 9)) rfl dX6_isThere_1 (q := 4) rfl ?_
  refine vv_iload_n hC 1 dX6_isThere_4 rfl rfl (q := 5) rfl ?_
  refine vv_calli hC hK (fun _ h => h) (As := [.int i]) 9 (kl5 (by decide +kernel)) (or5 (by decide +kernel)) rfl (c5_at l hJ S 9 (by decide +kernel) i) (cwV 1 hC.2.2.2.2 gX6_isThere_X5_at rfl rfl rfl hdX5_at ⟨Nat.le_of_ble_eq_true rfl, Nat.le_of_ble_eq_true rfl⟩) rfl rfl (Nat.le_of_ble_eq_true rfl) ⟨Nat.le_of_ble_eq_true rfl, Nat.le_of_ble_eq_true rfl⟩ dX6_isThere_5 (q := 8) rfl ?_
  refine vv_iconst hC (v := 1) dX6_isThere_8 rfl (q := 9) rfl ?_
  refine vv_icmp_ne hC (tgt := 16) dX6_isThere_9 (by decide) (q := 12) rfl (fun h9 => ?_) (fun h9 => ?_)
  · skip
    refine vv_iconst hC (v := 0) dX6_isThere_16 rfl (q := 17) rfl ?_
    exact vv_zret hC hK hr hlk rfl (by simp [wThere, bI, h9]) (fun _ h => h) dX6_isThere_17
  · skip
    refine vv_iconst hC (v := 1) dX6_isThere_12 rfl (q := 13) rfl ?_
    refine vv_goto hC (tgt := 17) dX6_isThere_13 (by decide) ?_
    exact vv_zret hC hK hr hlk rfl (by simp [wThere, bI, h9]) (fun _ h => h) dX6_isThere_17
theorem inwX6_setThere_X6 : ∀ w ∈ wsX60, w ∈ wsX6_setThere := fun _ h => List.mem_cons_of_mem _ (List.mem_append_left _ (List.mem_append_right _ h))
theorem inwX6_setThere_X5 : ∀ w ∈ wsX50, w ∈ wsX6_setThere := fun _ h => List.mem_cons_of_mem _ (List.mem_append_right _ h)
theorem hdX6_setThere : yX6_setThere.cls = RX6 ∧ yX6_setThere.cls ≠ "java/lang/invoke/MethodHandle" ∧ yX6_setThere.cls ≠ "java/lang/invoke/VarHandle" ∧ (parseMethodDescriptor yX6_setThere.desc).map (fun d => d.parameters.length) = some 1 := by decide +kernel
set_option maxRecDepth 100000 in
set_option maxHeartbeats 4000000 in
theorem c6_setThere (l : Launch) {D : va_G} {cI cW cZ cL : ClassId} {ad : Nat → Nat} (hJ : injA ad 90) (S : sC) (i : Int32) : kMv l yX6_setThere wsX6_setThere ({ frames := 2, cells := 0, slots := 0, locals := 43 }) D vwCl (tyL cI cW cZ cL) ad 90 [.ref (ad 2), .int i] (PC cI cW ad S) (PC cI cW ad (sSet S 9 (rSet (S.1 9) i 1))) := by
  refine vv_enter (cc := cX6_setThere) (maxL := 2) (ret := none) (own := RX6) (lv := [(0, .ref (ad 2)), (1, .int i)]) (by decide +kernel) rfl rfl hJ (Nat.le_of_ble_eq_true rfl) rfl ?_
  intro p e s m args below meth c hC hK hW hr hlk
  refine vv_aload_n hC 0 dX6_setThere_0 rfl rfl (q := 1) rfl ?_
  refine vv_get hC hK (K := RX6) (T := TX6) (N := 6) (ci := 6) inwX6_setThere_X6 2 (kl6 (by decide +kernel)) (oc6 (by decide +kernel)) rfl 3 (by decide) (List.mem_of_getElem? (i := 1) rfl) rfl (v := .ref (ad 9)) rfl dX6_setThere_1 (q := 4) rfl ?_
  refine vv_iload_n hC 1 dX6_setThere_4 rfl rfl (q := 5) rfl ?_
  refine vv_iconst hC (v := 1) dX6_setThere_5 rfl (q := 6) rfl ?_
  refine vv_callv hC hK (fun _ h => h) (As := [.int i, .int 1]) 9 (kl5 (by decide +kernel)) (or5 (by decide +kernel)) rfl (c5_set l hJ S 9 (by decide +kernel) i 1) (cwV 2 hC.2.2.2.2 gX6_setThere_X5_set rfl rfl rfl hdX5_set ⟨Nat.le_of_ble_eq_true rfl, Nat.le_of_ble_eq_true rfl⟩) rfl rfl (Nat.le_of_ble_eq_true rfl) ⟨Nat.le_of_ble_eq_true rfl, Nat.le_of_ble_eq_true rfl⟩ dX6_setThere_6 (q := 9) rfl ?_
  exact vv_vret hC hK hr hlk (fun _ h => h) dX6_setThere_9
theorem inwX6_setDeleted_X6 : ∀ w ∈ wsX60, w ∈ wsX6_setDeleted := fun _ h => List.mem_cons_of_mem _ (List.mem_append_left _ (List.mem_append_right _ h))
theorem inwX6_setDeleted_X5 : ∀ w ∈ wsX50, w ∈ wsX6_setDeleted := fun _ h => List.mem_cons_of_mem _ (List.mem_append_right _ h)
theorem hdX6_setDeleted : yX6_setDeleted.cls = RX6 ∧ yX6_setDeleted.cls ≠ "java/lang/invoke/MethodHandle" ∧ yX6_setDeleted.cls ≠ "java/lang/invoke/VarHandle" ∧ (parseMethodDescriptor yX6_setDeleted.desc).map (fun d => d.parameters.length) = some 1 := by decide +kernel
set_option maxRecDepth 100000 in
set_option maxHeartbeats 4000000 in
theorem c6_setDeleted (l : Launch) {D : va_G} {cI cW cZ cL : ClassId} {ad : Nat → Nat} (hJ : injA ad 90) (S : sC) (i : Int32) : kMv l yX6_setDeleted wsX6_setDeleted ({ frames := 2, cells := 0, slots := 0, locals := 43 }) D vwCl (tyL cI cW cZ cL) ad 90 [.ref (ad 2), .int i] (PC cI cW ad S) (PC cI cW ad (sSet S 9 (rSet (S.1 9) i 2))) := by
  refine vv_enter (cc := cX6_setDeleted) (maxL := 2) (ret := none) (own := RX6) (lv := [(0, .ref (ad 2)), (1, .int i)]) (by decide +kernel) rfl rfl hJ (Nat.le_of_ble_eq_true rfl) rfl ?_
  intro p e s m args below meth c hC hK hW hr hlk
  refine vv_aload_n hC 0 dX6_setDeleted_0 rfl rfl (q := 1) rfl ?_
  refine vv_get hC hK (K := RX6) (T := TX6) (N := 6) (ci := 6) inwX6_setDeleted_X6 2 (kl6 (by decide +kernel)) (oc6 (by decide +kernel)) rfl 3 (by decide) (List.mem_of_getElem? (i := 1) rfl) rfl (v := .ref (ad 9)) rfl dX6_setDeleted_1 (q := 4) rfl ?_
  refine vv_iload_n hC 1 dX6_setDeleted_4 rfl rfl (q := 5) rfl ?_
  refine vv_iconst hC (v := 2) dX6_setDeleted_5 rfl (q := 6) rfl ?_
  refine vv_callv hC hK (fun _ h => h) (As := [.int i, .int 2]) 9 (kl5 (by decide +kernel)) (or5 (by decide +kernel)) rfl (c5_set l hJ S 9 (by decide +kernel) i 2) (cwV 2 hC.2.2.2.2 gX6_setDeleted_X5_set rfl rfl rfl hdX5_set ⟨Nat.le_of_ble_eq_true rfl, Nat.le_of_ble_eq_true rfl⟩) rfl rfl (Nat.le_of_ble_eq_true rfl) ⟨Nat.le_of_ble_eq_true rfl, Nat.le_of_ble_eq_true rfl⟩ dX6_setDeleted_6 (q := 9) rfl ?_
  exact vv_vret hC hK hr hlk (fun _ h => h) dX6_setDeleted_9
theorem inwX6_isFrozen_X6 : ∀ w ∈ wsX60, w ∈ wsX6_isFrozen := fun _ h => List.mem_cons_of_mem _ (List.mem_append_left _ (List.mem_append_right _ h))
theorem inwX6_isFrozen_X5 : ∀ w ∈ wsX50, w ∈ wsX6_isFrozen := fun _ h => List.mem_cons_of_mem _ (List.mem_append_right _ h)
theorem hdX6_isFrozen : yX6_isFrozen.cls = RX6 ∧ yX6_isFrozen.cls ≠ "java/lang/invoke/MethodHandle" ∧ yX6_isFrozen.cls ≠ "java/lang/invoke/VarHandle" ∧ (parseMethodDescriptor yX6_isFrozen.desc).map (fun d => d.parameters.length) = some 1 := by decide +kernel
set_option maxRecDepth 100000 in
set_option maxHeartbeats 4000000 in
theorem c6_isFrozen (l : Launch) {D : va_G} {cI cW cZ cL : ClassId} {ad : Nat → Nat} (hJ : injA ad 90) (S : sC) (i : Int32) : kMi l yX6_isFrozen wsX6_isFrozen ({ frames := 3, cells := 0, slots := 0, locals := 63 }) D vwCl (tyL cI cW cZ cL) ad 90 [.ref (ad 2), .int i] (PC cI cW ad S) (bI (wFroz S i)) (PC cI cW ad S) := by
  refine vv_enter (cc := cX6_isFrozen) (maxL := 2) (ret := (some .boolean)) (own := RX6) (lv := [(0, .ref (ad 2)), (1, .int i)]) (by decide +kernel) rfl rfl hJ (Nat.le_of_ble_eq_true rfl) rfl ?_
  intro p e s m args below meth c hC hK hW hr hlk
  refine vv_aload_n hC 0 dX6_isFrozen_0 rfl rfl (q := 1) rfl ?_
  refine vv_iload_n hC 1 dX6_isFrozen_1 rfl rfl (q := 2) rfl ?_
  refine vv_calli hC hK (fun _ h => h) (As := [.int i]) 2 (kl6 (by decide +kernel)) (or6 (by decide +kernel)) rfl (c6_reviewOf l hJ S i) (cwV 1 hC.2.2.2.2 gX6_isFrozen_X6_reviewOf rfl rfl rfl hdX6_reviewOf ⟨Nat.le_of_ble_eq_true rfl, Nat.le_of_ble_eq_true rfl⟩) rfl rfl (Nat.le_of_ble_eq_true rfl) ⟨Nat.le_of_ble_eq_true rfl, Nat.le_of_ble_eq_true rfl⟩ dX6_isFrozen_2 (q := 5) rfl ?_
  refine vv_iconst hC (v := (-1)) dX6_isFrozen_5 rfl (q := 6) rfl ?_
  refine vv_icmp_eq hC (tgt := 13) dX6_isFrozen_6 (by decide) (q := 9) rfl (fun h6 => ?_) (fun h6 => ?_)
  · skip
    refine vv_iconst hC (v := 0) dX6_isFrozen_13 rfl (q := 14) rfl ?_
    exact vv_zret hC hK hr hlk rfl (by simp [wFroz, bI, h6]) (fun _ h => h) dX6_isFrozen_14
  · skip
    refine vv_iconst hC (v := 1) dX6_isFrozen_9 rfl (q := 10) rfl ?_
    refine vv_goto hC (tgt := 14) dX6_isFrozen_10 (by decide) ?_
    exact vv_zret hC hK hr hlk rfl (by simp [wFroz, bI, h6]) (fun _ h => h) dX6_isFrozen_14
theorem inwX6_setFrozen_X6 : ∀ w ∈ wsX60, w ∈ wsX6_setFrozen := fun _ h => List.mem_cons_of_mem _ (List.mem_append_left _ (List.mem_append_right _ h))
theorem inwX6_setFrozen_X5 : ∀ w ∈ wsX50, w ∈ wsX6_setFrozen := fun _ h => List.mem_cons_of_mem _ (List.mem_append_right _ h)
theorem hdX6_setFrozen : yX6_setFrozen.cls = RX6 ∧ yX6_setFrozen.cls ≠ "java/lang/invoke/MethodHandle" ∧ yX6_setFrozen.cls ≠ "java/lang/invoke/VarHandle" ∧ (parseMethodDescriptor yX6_setFrozen.desc).map (fun d => d.parameters.length) = some 2 := by decide +kernel
set_option maxRecDepth 100000 in
set_option maxHeartbeats 4000000 in
theorem c6_setFrozen (l : Launch) {D : va_G} {cI cW cZ cL : ClassId} {ad : Nat → Nat} (hJ : injA ad 90) (S : sC) (i v : Int32) : kMv l yX6_setFrozen wsX6_setFrozen ({ frames := 2, cells := 0, slots := 0, locals := 43 }) D vwCl (tyL cI cW cZ cL) ad 90 [.ref (ad 2), .int i, .int v] (PC cI cW ad S) (PC cI cW ad (sSet S 11 (rSet (S.1 11) i v))) := by
  refine vv_enter (cc := cX6_setFrozen) (maxL := 3) (ret := none) (own := RX6) (lv := [(0, .ref (ad 2)), (1, .int i), (2, .int v)]) (by decide +kernel) rfl rfl hJ (Nat.le_of_ble_eq_true rfl) rfl ?_
  intro p e s m args below meth c hC hK hW hr hlk
  refine vv_aload_n hC 0 dX6_setFrozen_0 rfl rfl (q := 1) rfl ?_
  refine vv_get hC hK (K := RX6) (T := TX6) (N := 6) (ci := 6) inwX6_setFrozen_X6 2 (kl6 (by decide +kernel)) (oc6 (by decide +kernel)) rfl 4 (by decide) (List.mem_of_getElem? (i := 1) rfl) rfl (v := .ref (ad 11)) rfl dX6_setFrozen_1 (q := 4) rfl ?_
  refine vv_iload_n hC 1 dX6_setFrozen_4 rfl rfl (q := 5) rfl ?_
  refine vv_iload_n hC 2 dX6_setFrozen_5 rfl rfl (q := 6) rfl ?_
  refine vv_callv hC hK (fun _ h => h) (As := [.int i, .int v]) 11 (kl5 (by decide +kernel)) (or5 (by decide +kernel)) rfl (c5_set l hJ S 11 (by decide +kernel) i v) (cwV 2 hC.2.2.2.2 gX6_setFrozen_X5_set rfl rfl rfl hdX5_set ⟨Nat.le_of_ble_eq_true rfl, Nat.le_of_ble_eq_true rfl⟩) rfl rfl (Nat.le_of_ble_eq_true rfl) ⟨Nat.le_of_ble_eq_true rfl, Nat.le_of_ble_eq_true rfl⟩ dX6_setFrozen_6 (q := 9) rfl ?_
  exact vv_vret hC hK hr hlk (fun _ h => h) dX6_setFrozen_9
theorem inwX6_unfreeze_X6 : ∀ w ∈ wsX60, w ∈ wsX6_unfreeze := fun _ h => List.mem_cons_of_mem _ (List.mem_append_left _ (List.mem_append_right _ h))
theorem inwX6_unfreeze_X5 : ∀ w ∈ wsX50, w ∈ wsX6_unfreeze := fun _ h => List.mem_cons_of_mem _ (List.mem_append_right _ h)
theorem hdX6_unfreeze : yX6_unfreeze.cls = RX6 ∧ yX6_unfreeze.cls ≠ "java/lang/invoke/MethodHandle" ∧ yX6_unfreeze.cls ≠ "java/lang/invoke/VarHandle" ∧ (parseMethodDescriptor yX6_unfreeze.desc).map (fun d => d.parameters.length) = some 1 := by decide +kernel
set_option maxRecDepth 100000 in
set_option maxHeartbeats 4000000 in
theorem c6_unfreeze (l : Launch) {D : va_G} {cI cW cZ cL : ClassId} {ad : Nat → Nat} (hJ : injA ad 90) (S : sC) (r : Int32) : kMi l yX6_unfreeze wsX6_unfreeze ({ frames := 3, cells := 0, slots := 0, locals := 63 }) D vwCl (tyL cI cW cZ cL) ad 90 [.ref (ad 2), .int r] (PC cI cW ad S) (nI (unfreeze S r).1) (PC cI cW ad ((unfreeze S r).2)) := by
  refine vv_enter (cc := cX6_unfreeze) (maxL := 4) (ret := (some .int)) (own := RX6) (lv := [(0, .ref (ad 2)), (1, .int r)]) (by decide +kernel) rfl rfl hJ (Nat.le_of_ble_eq_true rfl) rfl ?_
  intro p e s m args below meth c hC hK hW hr hlk
  refine vv_iconst hC (v := 0) dX6_unfreeze_0 rfl (q := 1) rfl ?_
  refine vv_istore_n hC (i := 2) (lv' := [(2, .int 0), (0, .ref (ad 2)), (1, .int r)]) dX6_unfreeze_1 rfl (by decide) rfl (q := 2) rfl ?_
  refine vv_iconst hC (v := 0) dX6_unfreeze_2 rfl (q := 3) rfl ?_
  refine vv_istore_n hC (i := 3) (lv' := [(3, .int 0), (2, .int 0), (0, .ref (ad 2)), (1, .int r)]) dX6_unfreeze_3 rfl (by decide) rfl (q := 4) rfl ?_
  have loop4 : ∀ (fu : Nat) (n : Nat) (k : Nat) (T : sC), (T.1 3).length < n + fu → n ≤ (T.1 3).length → unfF r fu n k T = unfreeze S r → vv p l e (headSpec wsX6_unfreeze ({ frames := 3, cells := 0, slots := 0, locals := 63 })).room s m args below meth c 4 (RA ad 90) s.heap 0 0 (MQ below (va_Qi (fun r' (_ : Unit) => r' = (nI (unfreeze S r).1)) (fun _ => ws0 D vwCl (tyL cI cW cZ cL) ad 90 (PC cI cW ad ((unfreeze S r).2))) (RA ad 90)) args s 0 0 (RA ad 90)) (wq D vwCl ad 90 (PC cI cW ad T)) 4 [(0, .ref (ad 2)), (1, .int r), (2, .int (nI k)), (3, .int (nI n))] [] := by
    intro fu
    induction fu with
    | zero =>
      intro n k T hfu hn hres
      exact absurd hfu (by omega)
    | succ fu ih =>
      intro n k T hfu hn hres
      refine vv_pure (P := wfC T) (fun H hB => by obtain ⟨f, hf, -⟩ := hB; exact oc_wf f hf) (fun hwf => ?_)
      have hw := hwf 3 rfl
      have hc := cap_le 3
      refine vv_iload_n hC 3 dX6_unfreeze_4 rfl rfl (q := 5) rfl ?_
      refine vv_aload_n hC 0 dX6_unfreeze_5 rfl rfl (q := 6) rfl ?_
      refine vv_calli hC hK (fun _ h => h) (As := []) 2 (kl6 (by decide +kernel)) (or6 (by decide +kernel)) rfl (c6_count l hJ T) (cwV 0 hC.2.2.2.2 gX6_unfreeze_X6_count rfl rfl rfl hdX6_count ⟨Nat.le_of_ble_eq_true rfl, Nat.le_of_ble_eq_true rfl⟩) rfl rfl (Nat.le_of_ble_eq_true rfl) ⟨Nat.le_of_ble_eq_true rfl, Nat.le_of_ble_eq_true rfl⟩ dX6_unfreeze_6 (q := 9) rfl ?_
      refine vv_icmp_ge hC (tgt := 39) dX6_unfreeze_9 (by decide) (q := 12) rfl (fun h9 => ?_) (fun h9 => ?_)
      · skip
        refine vv_iload_n hC 2 dX6_unfreeze_39 rfl rfl (q := 40) rfl ?_
        exact vv_iret hC hK hr hlk (by rw [← hres, unfF, if_neg (by rw [nI_leI (by omega) (by omega)] at h9; omega)]) (fun f h => by rw [← hres, unfF, if_neg (by rw [nI_leI (by omega) (by omega)] at h9; omega)]; exact h) dX6_unfreeze_40
      · skip
        refine vv_aload_n hC 0 dX6_unfreeze_12 rfl rfl (q := 13) rfl ?_
        refine vv_iload_n hC 3 dX6_unfreeze_13 rfl rfl (q := 14) rfl ?_
        refine vv_calli hC hK (fun _ h => h) (As := [.int (nI n)]) 2 (kl6 (by decide +kernel)) (or6 (by decide +kernel)) rfl (c6_reviewOf l hJ T (nI n)) (cwV 1 hC.2.2.2.2 gX6_unfreeze_X6_reviewOf rfl rfl rfl hdX6_reviewOf ⟨Nat.le_of_ble_eq_true rfl, Nat.le_of_ble_eq_true rfl⟩) rfl rfl (Nat.le_of_ble_eq_true rfl) ⟨Nat.le_of_ble_eq_true rfl, Nat.le_of_ble_eq_true rfl⟩ dX6_unfreeze_14 (q := 17) rfl ?_
        refine vv_iload_n hC 1 dX6_unfreeze_17 rfl rfl (q := 18) rfl ?_
        refine vv_icmp_ne hC (tgt := 33) dX6_unfreeze_18 (by decide) (q := 21) rfl (fun h18 => ?_) (fun h18 => ?_)
        · skip
          refine vv_iinc hC (i := 3) (v := nI (n + 1)) (lv' := [(3, .int (nI (n + 1))), (0, .ref (ad 2)), (1, .int r), (2, .int (nI k))]) 3 dX6_unfreeze_33 rfl (nI_1 n) (by decide) rfl (q := 36) rfl ?_
          refine vv_goto hC (tgt := 4) dX6_unfreeze_36 (by decide) ?_
          exact vv_lv [1, 2, 3, 0] rfl (ih (n + 1) k T (by omega) (by rw [nI_leI (by omega) (by omega)] at h9; omega) (by rw [← hres, unfF, if_pos (by rw [nI_leI (by omega) (by omega)] at h9; omega), if_neg h18]))
        · skip
          refine vv_aload_n hC 0 dX6_unfreeze_21 rfl rfl (q := 22) rfl ?_
          refine vv_get hC hK (K := RX6) (T := TX6) (N := 6) (ci := 6) inwX6_unfreeze_X6 2 (kl6 (by decide +kernel)) (oc6 (by decide +kernel)) rfl 4 (by decide) (List.mem_of_getElem? (i := 1) rfl) rfl (v := .ref (ad 11)) rfl dX6_unfreeze_22 (q := 25) rfl ?_
          refine vv_iload_n hC 3 dX6_unfreeze_25 rfl rfl (q := 26) rfl ?_
          refine vv_iconst hC (v := (-1)) dX6_unfreeze_26 rfl (q := 27) rfl ?_
          refine vv_callv hC hK (fun _ h => h) (As := [.int (nI n), .int (-1)]) 11 (kl5 (by decide +kernel)) (or5 (by decide +kernel)) rfl (c5_set l hJ T 11 (by decide +kernel) (nI n) (-1)) (cwV 2 hC.2.2.2.2 gX6_unfreeze_X5_set rfl rfl rfl hdX5_set ⟨Nat.le_of_ble_eq_true rfl, Nat.le_of_ble_eq_true rfl⟩) rfl rfl (Nat.le_of_ble_eq_true rfl) ⟨Nat.le_of_ble_eq_true rfl, Nat.le_of_ble_eq_true rfl⟩ dX6_unfreeze_27 (q := 30) rfl ?_
          refine vv_iinc hC (i := 2) (v := nI (k + 1)) (lv' := [(2, .int (nI (k + 1))), (0, .ref (ad 2)), (1, .int r), (3, .int (nI n))]) 2 dX6_unfreeze_30 rfl (nI_1 k) (by decide) rfl (q := 33) rfl ?_
          refine vv_iinc hC (i := 3) (v := nI (n + 1)) (lv' := [(3, .int (nI (n + 1))), (2, .int (nI (k + 1))), (0, .ref (ad 2)), (1, .int r)]) 3 dX6_unfreeze_33 rfl (nI_1 n) (by decide) rfl (q := 36) rfl ?_
          refine vv_goto hC (tgt := 4) dX6_unfreeze_36 (by decide) ?_
          exact vv_lv [2, 3, 1, 0] rfl (ih (n + 1) (k + 1) _ (by show (T.1 3).length < _; omega) (by show n + 1 ≤ (T.1 3).length; rw [nI_leI (by omega) (by omega)] at h9; omega) (by rw [← hres, unfF, if_pos (by rw [nI_leI (by omega) (by omega)] at h9; omega), if_pos h18]))
  exact vv_lv [2, 3, 1, 0] rfl (loop4 _ 0 0 S (Nat.lt_of_lt_of_eq (Nat.lt_succ_self _) (Nat.zero_add _).symm) (Nat.zero_le _) rfl)
theorem inwX6_keepIn_X6 : ∀ w ∈ wsX60, w ∈ wsX6_keepIn := fun _ h => List.mem_cons_of_mem _ (List.mem_append_left _ (List.mem_append_right _ h))
theorem inwX6_keepIn_X5 : ∀ w ∈ wsX50, w ∈ wsX6_keepIn := fun _ h => List.mem_cons_of_mem _ (List.mem_append_right _ h)
theorem hdX6_keepIn : yX6_keepIn.cls = RX6 ∧ yX6_keepIn.cls ≠ "java/lang/invoke/MethodHandle" ∧ yX6_keepIn.cls ≠ "java/lang/invoke/VarHandle" ∧ (parseMethodDescriptor yX6_keepIn.desc).map (fun d => d.parameters.length) = some 1 := by decide +kernel
set_option maxRecDepth 100000 in
set_option maxHeartbeats 4000000 in
theorem c6_keepIn (l : Launch) {D : va_G} {cI cW cZ cL : ClassId} {ad : Nat → Nat} (hJ : injA ad 90) (S : sC) (v : Int32) : kMv l yX6_keepIn wsX6_keepIn ({ frames := 3, cells := 0, slots := 0, locals := 63 }) D vwCl (tyL cI cW cZ cL) ad 90 [.ref (ad 2), .int v] (PC cI cW ad S) (PC cI cW ad (keepIn S v)) := by
  refine vv_enter (cc := cX6_keepIn) (maxL := 3) (ret := none) (own := RX6) (lv := [(0, .ref (ad 2)), (1, .int v)]) (by decide +kernel) rfl rfl hJ (Nat.le_of_ble_eq_true rfl) rfl ?_
  intro p e s m args below meth c hC hK hW hr hlk
  refine vv_iconst hC (v := 0) dX6_keepIn_0 rfl (q := 1) rfl ?_
  refine vv_istore_n hC (i := 2) (lv' := [(2, .int 0), (0, .ref (ad 2)), (1, .int v)]) dX6_keepIn_1 rfl (by decide) rfl (q := 2) rfl ?_
  have loop2 : ∀ (fu : Nat) (n : Nat) (T : sC), (T.1 3).length < n + fu → n ≤ (T.1 3).length → keepF v fu n T = keepIn S v → vv p l e (headSpec wsX6_keepIn ({ frames := 3, cells := 0, slots := 0, locals := 63 })).room s m args below meth c 3 (RA ad 90) s.heap 0 0 (MQ below (va_Qv (fun (_ : Unit) => True) (fun _ => ws0 D vwCl (tyL cI cW cZ cL) ad 90 (PC cI cW ad (keepIn S v))) (RA ad 90)) args s 0 0 (RA ad 90)) (wq D vwCl ad 90 (PC cI cW ad T)) 2 [(0, .ref (ad 2)), (1, .int v), (2, .int (nI n))] [] := by
    intro fu
    induction fu with
    | zero =>
      intro n T hfu hn hres
      exact absurd hfu (by omega)
    | succ fu ih =>
      intro n T hfu hn hres
      refine vv_pure (P := wfC T) (fun H hB => by obtain ⟨f, hf, -⟩ := hB; exact oc_wf f hf) (fun hwf => ?_)
      have hw := hwf 3 rfl
      have hc := cap_le 3
      refine vv_iload_n hC 2 dX6_keepIn_2 rfl rfl (q := 3) rfl ?_
      refine vv_aload_n hC 0 dX6_keepIn_3 rfl rfl (q := 4) rfl ?_
      refine vv_calli hC hK (fun _ h => h) (As := []) 2 (kl6 (by decide +kernel)) (or6 (by decide +kernel)) rfl (c6_count l hJ T) (cwV 0 hC.2.2.2.2 gX6_keepIn_X6_count rfl rfl rfl hdX6_count ⟨Nat.le_of_ble_eq_true rfl, Nat.le_of_ble_eq_true rfl⟩) rfl rfl (Nat.le_of_ble_eq_true rfl) ⟨Nat.le_of_ble_eq_true rfl, Nat.le_of_ble_eq_true rfl⟩ dX6_keepIn_4 (q := 7) rfl ?_
      refine vv_icmp_ge hC (tgt := 44) dX6_keepIn_7 (by decide) (q := 10) rfl (fun h7 => ?_) (fun h7 => ?_)
      · skip
        exact vv_vret hC hK hr hlk (fun f h => by rw [← hres, keepF, if_neg (by rw [nI_leI (by omega) (by omega)] at h7; omega)]; exact h) dX6_keepIn_44
      · skip
        refine vv_aload_n hC 0 dX6_keepIn_10 rfl rfl (q := 11) rfl ?_
        refine vv_iload_n hC 2 dX6_keepIn_11 rfl rfl (q := 12) rfl ?_
        refine vv_calli hC hK (fun _ h => h) (As := [.int (nI n)]) 2 (kl6 (by decide +kernel)) (or6 (by decide +kernel)) rfl (c6_isThere l hJ T (nI n)) (cwV 1 hC.2.2.2.2 gX6_keepIn_X6_isThere rfl rfl rfl hdX6_isThere ⟨Nat.le_of_ble_eq_true rfl, Nat.le_of_ble_eq_true rfl⟩) rfl rfl (Nat.le_of_ble_eq_true rfl) ⟨Nat.le_of_ble_eq_true rfl, Nat.le_of_ble_eq_true rfl⟩ dX6_keepIn_12 (q := 15) rfl ?_
        refine vv_if_eq hC (tgt := 38) dX6_keepIn_15 (by decide) (q := 18) rfl (fun h15 => ?_) (fun h15 => ?_)
        · skip
          refine vv_iinc hC (i := 2) (v := nI (n + 1)) (lv' := [(2, .int (nI (n + 1))), (0, .ref (ad 2)), (1, .int v)]) 2 dX6_keepIn_38 rfl (nI_1 n) (by decide) rfl (q := 41) rfl ?_
          refine vv_goto hC (tgt := 2) dX6_keepIn_41 (by decide) ?_
          exact vv_lv [1, 2, 0] rfl (ih (n + 1) T (by omega) (by rw [nI_leI (by omega) (by omega)] at h7; omega) (by rw [← hres, keepF, if_pos (by rw [nI_leI (by omega) (by omega)] at h7; omega), bI_0.mp h15, if_neg Bool.false_ne_true]))
        · skip
          refine vv_aload_n hC 0 dX6_keepIn_18 rfl rfl (q := 19) rfl ?_
          refine vv_get hC hK (K := RX6) (T := TX6) (N := 6) (ci := 6) inwX6_keepIn_X6 2 (kl6 (by decide +kernel)) (oc6 (by decide +kernel)) rfl 5 (by decide) (List.mem_of_getElem? (i := 1) rfl) rfl (v := .ref (ad 13)) rfl dX6_keepIn_19 (q := 22) rfl ?_
          refine vv_iload_n hC 2 dX6_keepIn_22 rfl rfl (q := 23) rfl ?_
          refine vv_aload_n hC 0 dX6_keepIn_23 rfl rfl (q := 24) rfl ?_
          refine vv_get hC hK (K := RX6) (T := TX6) (N := 6) (ci := 6) inwX6_keepIn_X6 2 (kl6 (by decide +kernel)) (oc6 (by decide +kernel)) rfl 5 (by decide) (List.mem_of_getElem? (i := 1) rfl) rfl (v := .ref (ad 13)) rfl dX6_keepIn_24 (q := 27) rfl ?_
          refine vv_iload_n hC 2 dX6_keepIn_27 rfl rfl (q := 28) rfl ?_
          refine vv_calli hC hK (fun _ h => h) (As := [.int (nI n)]) 13 (kl5 (by decide +kernel)) (or5 (by decide +kernel)) rfl (c5_at l hJ T 13 (by decide +kernel) (nI n)) (cwV 1 hC.2.2.2.2 gX6_keepIn_X5_at rfl rfl rfl hdX5_at ⟨Nat.le_of_ble_eq_true rfl, Nat.le_of_ble_eq_true rfl⟩) rfl rfl (Nat.le_of_ble_eq_true rfl) ⟨Nat.le_of_ble_eq_true rfl, Nat.le_of_ble_eq_true rfl⟩ dX6_keepIn_28 (q := 31) rfl ?_
          refine vv_iconst hC (v := 1) dX6_keepIn_31 rfl (q := 32) rfl ?_
          refine vv_iload_n hC 1 dX6_keepIn_32 rfl rfl (q := 33) rfl ?_
          refine vv_ishl hC dX6_keepIn_33 (q := 34) rfl ?_
          refine vv_ior hC dX6_keepIn_34 (q := 35) rfl ?_
          refine vv_callv hC hK (fun _ h => h) (As := [.int (nI n), .int ((rAt (T.1 13) (nI n)) ||| (1 <<< (v &&& 31)))]) 13 (kl5 (by decide +kernel)) (or5 (by decide +kernel)) rfl (c5_set l hJ T 13 (by decide +kernel) (nI n) ((rAt (T.1 13) (nI n)) ||| (1 <<< (v &&& 31)))) (cwV 2 hC.2.2.2.2 gX6_keepIn_X5_set rfl rfl rfl hdX5_set ⟨Nat.le_of_ble_eq_true rfl, Nat.le_of_ble_eq_true rfl⟩) rfl rfl (Nat.le_of_ble_eq_true rfl) ⟨Nat.le_of_ble_eq_true rfl, Nat.le_of_ble_eq_true rfl⟩ dX6_keepIn_35 (q := 38) rfl ?_
          refine vv_iinc hC (i := 2) (v := nI (n + 1)) (lv' := [(2, .int (nI (n + 1))), (0, .ref (ad 2)), (1, .int v)]) 2 dX6_keepIn_38 rfl (nI_1 n) (by decide) rfl (q := 41) rfl ?_
          refine vv_goto hC (tgt := 2) dX6_keepIn_41 (by decide) ?_
          exact vv_lv [1, 2, 0] rfl (ih (n + 1) _ (by show (T.1 3).length < _; omega) (by show n + 1 ≤ (T.1 3).length; rw [nI_leI (by omega) (by omega)] at h7; omega) (by rw [← hres, keepF, if_pos (by rw [nI_leI (by omega) (by omega)] at h7; omega), if_pos (bI_1 h15)]))
  exact vv_lv [1, 2, 0] rfl (loop2 _ 0 S (Nat.lt_of_lt_of_eq (Nat.lt_succ_self _) (Nat.zero_add _).symm) (Nat.zero_le _) rfl)
