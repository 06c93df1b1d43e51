/-! the calls of the face: a contract a method -/
theorem hsX8_requireIndex : yX8_requireIndex.cls ≠ "java/lang/invoke/MethodHandle" ∧ yX8_requireIndex.cls ≠ "java/lang/invoke/VarHandle" ∧ (parseMethodDescriptor yX8_requireIndex.desc).map (fun d => d.parameters.length) = some 2 := by decide +kernel
set_option maxRecDepth 100000 in
set_option maxHeartbeats 4000000 in
theorem c8_requireIndex (l : Launch) {D : va_G} {cI cW cZ cL : ClassId} {ad : Nat → Nat} (hJ : injA ad 90) (hlst : l.stackTraces = false) (AX : Nat → Prop) (z : Nat) (S : sC) (i n : Int32) : kXv l yX8_requireIndex wsX8_requireIndex ({ frames := 6, cells := 1, slots := 6, locals := 90 }) D vwCl (tyL cI cW cZ cL) ad 90 AX z [.int i, .int n] (PC cI cW ad S) (tIx i n) (PC cI cW ad S) 1 6 := by
  refine vv_enterX (cc := cX8_requireIndex) (maxL := 2) (ret := none) (own := RX8) (lv := [(0, .int i), (1, .int n)]) (by decide +kernel) rfl rfl hJ (Nat.le_of_ble_eq_true rfl) rfl ?_
  intro p e s m args below meth c hC hK hW hr hlk hsz hAX hE hout
  refine vv_iload_n hC 0 dX8_requireIndex_0 rfl rfl (q := 1) rfl ?_
  refine vv_if_lt hC (tgt := 9) dX8_requireIndex_1 (by decide) (q := 4) rfl (fun h1 => ?_) (fun h1 => ?_)
  · skip
    exact vv_throwS hC hK hlst hlk hout hE hAX (fun q h => Or.inr (by rw [← hsz]; exact h)) 1 (by decide) (ik := 215) (is := 222) (ic := 219) hE.2.1 (by decide +kernel) (List.mem_of_getElem? (i := 1) rfl) (List.mem_of_getElem? (i := 2) rfl) (fun w h => List.mem_cons_of_mem _ (List.mem_append_right _ h)) (by decide +kernel) (by decide +kernel) dX8_requireIndex_9 dX8_requireIndex_12 dX8_requireIndex_13 dX8_requireIndex_15 dX8_requireIndex_18 (Nat.le_of_ble_eq_true rfl) (Nat.le_of_ble_eq_true rfl) ⟨Nat.le_of_ble_eq_true rfl, Nat.le_of_ble_eq_true rfl⟩ ⟨Nat.le_of_ble_eq_true rfl, Nat.le_of_ble_eq_true rfl⟩ (by rw [tIx, if_pos (Or.inl h1)]) (fun _ h => h)
  · skip
    refine vv_iload_n hC 0 dX8_requireIndex_4 rfl rfl (q := 5) rfl ?_
    refine vv_iload_n hC 1 dX8_requireIndex_5 rfl rfl (q := 6) rfl ?_
    refine vv_icmp_lt hC (tgt := 19) dX8_requireIndex_6 (by decide) (q := 9) rfl (fun h6 => ?_) (fun h6 => ?_)
    · skip
      exact vv_xvret hC hK hr hlk (by rw [tIx, if_neg (fun h => h.elim h1 (fun h2 => absurd h6 (Int32.not_lt.mpr h2)))]) ⟨Nat.le_of_ble_eq_true rfl, Nat.le_of_ble_eq_true rfl⟩ (fun _ h => h) dX8_requireIndex_19
    · skip
      exact vv_throwS hC hK hlst hlk hout hE hAX (fun q h => Or.inr (by rw [← hsz]; exact h)) 1 (by decide) (ik := 215) (is := 222) (ic := 219) hE.2.1 (by decide +kernel) (List.mem_of_getElem? (i := 1) rfl) (List.mem_of_getElem? (i := 2) rfl) (fun w h => List.mem_cons_of_mem _ (List.mem_append_right _ h)) (by decide +kernel) (by decide +kernel) dX8_requireIndex_9 dX8_requireIndex_12 dX8_requireIndex_13 dX8_requireIndex_15 dX8_requireIndex_18 (Nat.le_of_ble_eq_true rfl) (Nat.le_of_ble_eq_true rfl) ⟨Nat.le_of_ble_eq_true rfl, Nat.le_of_ble_eq_true rfl⟩ ⟨Nat.le_of_ble_eq_true rfl, Nat.le_of_ble_eq_true rfl⟩ (by rw [tIx, if_pos (Or.inr (Int32.not_lt.mp h6))]) (fun _ h => h)
theorem hsX8_requireArgument : yX8_requireArgument.cls ≠ "java/lang/invoke/MethodHandle" ∧ yX8_requireArgument.cls ≠ "java/lang/invoke/VarHandle" ∧ (parseMethodDescriptor yX8_requireArgument.desc).map (fun d => d.parameters.length) = some 1 := by decide +kernel
set_option maxRecDepth 100000 in
set_option maxHeartbeats 4000000 in
theorem c8_requireArgument (l : Launch) {D : va_G} {cI cW cZ cL : ClassId} {ad : Nat → Nat} (hJ : injA ad 90) (hlst : l.stackTraces = false) (AX : Nat → Prop) (z : Nat) (S : sC) (b : Int32) : kXv l yX8_requireArgument wsX8_requireArgument ({ frames := 6, cells := 1, slots := 6, locals := 90 }) D vwCl (tyL cI cW cZ cL) ad 90 AX z [.int b] (PC cI cW ad S) (tArg b) (PC cI cW ad S) 1 6 := by
  refine vv_enterX (cc := cX8_requireArgument) (maxL := 1) (ret := none) (own := RX8) (lv := [(0, .int b)]) (by decide +kernel) rfl rfl hJ (Nat.le_of_ble_eq_true rfl) rfl ?_
  intro p e s m args below meth c hC hK hW hr hlk hsz hAX hE hout
  refine vv_iload_n hC 0 dX8_requireArgument_0 rfl rfl (q := 1) rfl ?_
  refine vv_if_ne hC (tgt := 14) dX8_requireArgument_1 (by decide) (q := 4) rfl (fun h1 => ?_) (fun h1 => ?_)
  · skip
    exact vv_xvret hC hK hr hlk (by rw [tArg, if_neg h1]) ⟨Nat.le_of_ble_eq_true rfl, Nat.le_of_ble_eq_true rfl⟩ (fun _ h => h) dX8_requireArgument_14
  · skip
    exact vv_throwS hC hK hlst hlk hout hE hAX (fun q h => Or.inr (by rw [← hsz]; exact h)) 2 (by decide) (ik := 224) (is := 226) (ic := 228) hE.2.2.1 (by decide +kernel) (List.mem_of_getElem? (i := 1) rfl) (List.mem_of_getElem? (i := 2) rfl) (fun w h => List.mem_cons_of_mem _ (List.mem_append_right _ h)) (by decide +kernel) (by decide +kernel) dX8_requireArgument_4 dX8_requireArgument_7 dX8_requireArgument_8 dX8_requireArgument_10 dX8_requireArgument_13 (Nat.le_of_ble_eq_true rfl) (Nat.le_of_ble_eq_true rfl) ⟨Nat.le_of_ble_eq_true rfl, Nat.le_of_ble_eq_true rfl⟩ ⟨Nat.le_of_ble_eq_true rfl, Nat.le_of_ble_eq_true rfl⟩ (by rw [tArg, if_pos h1]) (fun _ h => h)
theorem hsX8_requireState : yX8_requireState.cls ≠ "java/lang/invoke/MethodHandle" ∧ yX8_requireState.cls ≠ "java/lang/invoke/VarHandle" ∧ (parseMethodDescriptor yX8_requireState.desc).map (fun d => d.parameters.length) = some 1 := by decide +kernel
set_option maxRecDepth 100000 in
set_option maxHeartbeats 4000000 in
theorem c8_requireState (l : Launch) {D : va_G} {cI cW cZ cL : ClassId} {ad : Nat → Nat} (hJ : injA ad 90) (hlst : l.stackTraces = false) (AX : Nat → Prop) (z : Nat) (S : sC) (b : Int32) : kXv l yX8_requireState wsX8_requireState ({ frames := 6, cells := 1, slots := 6, locals := 90 }) D vwCl (tyL cI cW cZ cL) ad 90 AX z [.int b] (PC cI cW ad S) (tSt b) (PC cI cW ad S) 1 6 := by
  refine vv_enterX (cc := cX8_requireState) (maxL := 1) (ret := none) (own := RX8) (lv := [(0, .int b)]) (by decide +kernel) rfl rfl hJ (Nat.le_of_ble_eq_true rfl) rfl ?_
  intro p e s m args below meth c hC hK hW hr hlk hsz hAX hE hout
  refine vv_iload_n hC 0 dX8_requireState_0 rfl rfl (q := 1) rfl ?_
  refine vv_if_ne hC (tgt := 14) dX8_requireState_1 (by decide) (q := 4) rfl (fun h1 => ?_) (fun h1 => ?_)
  · skip
    exact vv_xvret hC hK hr hlk (by rw [tSt, if_neg h1]) ⟨Nat.le_of_ble_eq_true rfl, Nat.le_of_ble_eq_true rfl⟩ (fun _ h => h) dX8_requireState_14
  · skip
    exact vv_throwS hC hK hlst hlk hout hE hAX (fun q h => Or.inr (by rw [← hsz]; exact h)) 3 (by decide) (ik := 229) (is := 231) (ic := 233) hE.2.2.2.1 (by decide +kernel) (List.mem_of_getElem? (i := 1) rfl) (List.mem_of_getElem? (i := 2) rfl) (fun w h => List.mem_cons_of_mem _ (List.mem_append_right _ h)) (by decide +kernel) (by decide +kernel) dX8_requireState_4 dX8_requireState_7 dX8_requireState_8 dX8_requireState_10 dX8_requireState_13 (Nat.le_of_ble_eq_true rfl) (Nat.le_of_ble_eq_true rfl) ⟨Nat.le_of_ble_eq_true rfl, Nat.le_of_ble_eq_true rfl⟩ ⟨Nat.le_of_ble_eq_true rfl, Nat.le_of_ble_eq_true rfl⟩ (by rw [tSt, if_pos h1]) (fun _ h => h)
theorem inwX8_writerAt_X8 : ∀ w ∈ wsX80, w ∈ wsX8_writerAt := fun _ h => List.mem_cons_of_mem _ (List.mem_append_left _ (List.mem_append_right _ h))
theorem hdX8_writerAt : yX8_writerAt.cls = RX8 ∧ yX8_writerAt.cls ≠ "java/lang/invoke/MethodHandle" ∧ yX8_writerAt.cls ≠ "java/lang/invoke/VarHandle" ∧ (parseMethodDescriptor yX8_writerAt.desc).map (fun d => d.parameters.length) = some 1 := by decide +kernel
set_option maxRecDepth 100000 in
set_option maxHeartbeats 4000000 in
theorem c8_writerAt (l : Launch) {D : va_G} {cI cW cZ cL : ClassId} {ad : Nat → Nat} (hJ : injA ad 90) (hlst : l.stackTraces = false) (AX : Nat → Prop) (z : Nat) (S : sC) (i : Int32) : kXr l yX8_writerAt wsX8_writerAt ({ frames := 6, cells := 1, slots := 6, locals := 90 }) D vwCl (tyL cI cW cZ cL) ad 90 AX z [.ref (ad 0), .int i] (PC cI cW ad S) (tIx i 6) (ad (pW i)) (PC cI cW ad S) 1 6 := by
  refine vv_enterX (cc := cX8_writerAt) (maxL := 3) (ret := (some (.object "DraftCommon$Writer"))) (own := RX8) (lv := [(0, .ref (ad 0)), (1, .int i)]) (by decide +kernel) rfl rfl hJ (Nat.le_of_ble_eq_true rfl) rfl ?_
  intro p e s m args below meth c hC hK hW hr hlk hsz hAX hE hout
  refine vv_iload_n hC 1 dX8_writerAt_0 rfl rfl (q := 1) rfl ?_
  refine vv_if_lt hC (tgt := 22) dX8_writerAt_1 (by decide) (q := 4) rfl (fun h1 => ?_) (fun h1 => ?_)
  · skip
    refine vv_null hC dX8_writerAt_22 (q := 23) rfl ?_
    refine vv_astore_nN hC (i := 2) (lv' := [(2, .null), (0, .ref (ad 0)), (1, .int i)]) dX8_writerAt_23 rfl (by decide) rfl (q := 24) rfl ?_
    refine vv_aload_nN hC 0 dX8_writerAt_24 rfl rfl (q := 25) rfl ?_
    refine vv_ifnonnullN hC dX8_writerAt_25 (q := 28) rfl ?_
    exact vv_throwS hC hK hlst hlk hout hE hAX (fun q h => Or.inr (by rw [← hsz]; exact h)) 1 (by decide) (ik := 215) (is := 217) (ic := 219) hE.1 (by decide +kernel) (List.mem_of_getElem? (i := 1) rfl) (List.mem_of_getElem? (i := 2) rfl) (fun w h => List.mem_cons_of_mem _ (List.mem_append_right _ h)) (by decide +kernel) (by decide +kernel) dX8_writerAt_28 dX8_writerAt_31 dX8_writerAt_32 dX8_writerAt_34 dX8_writerAt_37 (Nat.le_of_ble_eq_true rfl) (Nat.le_of_ble_eq_true rfl) ⟨Nat.le_of_ble_eq_true rfl, Nat.le_of_ble_eq_true rfl⟩ ⟨Nat.le_of_ble_eq_true rfl, Nat.le_of_ble_eq_true rfl⟩ (by rw [tIx, if_pos (Or.inl h1)]) (fun _ h => h)
  · skip
    refine vv_iload_n hC 1 dX8_writerAt_4 rfl rfl (q := 5) rfl ?_
    refine vv_aload_n hC 0 dX8_writerAt_5 rfl rfl (q := 6) rfl ?_
    refine vv_get hC hK (K := RX8) (T := TX8) (N := 9) (ci := 8) inwX8_writerAt_X8 0 (kl8 (by decide +kernel)) (oc8 (by decide +kernel)) rfl 2 (by decide) (List.mem_of_getElem? (i := 3) rfl) rfl (v := .ref (ad 22)) rfl dX8_writerAt_6 (q := 9) rfl ?_
    refine vv_alen hC hK 22 (by decide) 1 (x := (6, .inl fun _ => 0)) (fun f h => ⟨_, oc101 f h⟩) rfl (v := 6) rfl dX8_writerAt_9 (q := 10) rfl ?_
    refine vv_icmp_ge hC (tgt := 22) dX8_writerAt_10 (by decide) (q := 13) rfl (fun h10 => ?_) (fun h10 => ?_)
    · skip
      refine vv_null hC dX8_writerAt_22 (q := 23) rfl ?_
      refine vv_astore_nN hC (i := 2) (lv' := [(2, .null), (0, .ref (ad 0)), (1, .int i)]) dX8_writerAt_23 rfl (by decide) rfl (q := 24) rfl ?_
      refine vv_aload_nN hC 0 dX8_writerAt_24 rfl rfl (q := 25) rfl ?_
      refine vv_ifnonnullN hC dX8_writerAt_25 (q := 28) rfl ?_
      exact vv_throwS hC hK hlst hlk hout hE hAX (fun q h => Or.inr (by rw [← hsz]; exact h)) 1 (by decide) (ik := 215) (is := 217) (ic := 219) hE.1 (by decide +kernel) (List.mem_of_getElem? (i := 1) rfl) (List.mem_of_getElem? (i := 2) rfl) (fun w h => List.mem_cons_of_mem _ (List.mem_append_right _ h)) (by decide +kernel) (by decide +kernel) dX8_writerAt_28 dX8_writerAt_31 dX8_writerAt_32 dX8_writerAt_34 dX8_writerAt_37 (Nat.le_of_ble_eq_true rfl) (Nat.le_of_ble_eq_true rfl) ⟨Nat.le_of_ble_eq_true rfl, Nat.le_of_ble_eq_true rfl⟩ ⟨Nat.le_of_ble_eq_true rfl, Nat.le_of_ble_eq_true rfl⟩ (by rw [tIx, if_pos (Or.inr h10)]) (fun _ h => h)
    · skip
      have t1 : tIx i 6 = 0 := by rw [tIx, if_neg (fun h => h.elim h1 (fun h2 => h10 h2))]
      obtain ⟨hi1, hi2⟩ := tIx_n (n := 6) (by omega) t1
      refine vv_aload_n hC 0 dX8_writerAt_13 rfl rfl (q := 14) rfl ?_
      refine vv_get hC hK (K := RX8) (T := TX8) (N := 9) (ci := 8) inwX8_writerAt_X8 0 (kl8 (by decide +kernel)) (oc8 (by decide +kernel)) rfl 2 (by decide) (List.mem_of_getElem? (i := 3) rfl) rfl (v := .ref (ad 22)) rfl dX8_writerAt_14 (q := 17) rfl ?_
      refine vv_iload_n hC 1 dX8_writerAt_17 rfl rfl (q := 18) rfl ?_
      refine vv_aald hC hK 22 (by decide) 1 oc101 rfl (by rw [show i = nI i.toNatClampNeg from hi2]; exact vp_in_nI hi1 (by omega)) (a := ad (pW i)) (by simp [hi1, pW]) dX8_writerAt_18 (q := 19) rfl ?_
      refine vv_goto hC (tgt := 23) dX8_writerAt_19 (by decide) ?_
      refine vv_astore_n hC (i := 2) (lv' := [(2, .ref (ad (pW i))), (0, .ref (ad 0)), (1, .int i)]) dX8_writerAt_23 rfl (by decide) rfl (q := 24) rfl ?_
      refine vv_aload_n hC 0 dX8_writerAt_24 rfl rfl (q := 25) rfl ?_
      refine vv_ifnonnull hC (tgt := 38) dX8_writerAt_25 (by decide) ?_
      refine vv_aload_n hC 0 dX8_writerAt_38 rfl rfl (q := 39) rfl ?_
      exact vv_xaret hC hK hr hlk t1 rfl ⟨Nat.le_of_ble_eq_true rfl, Nat.le_of_ble_eq_true rfl⟩ (fun _ h => h) dX8_writerAt_39
theorem hsX8_requireRange : yX8_requireRange.cls ≠ "java/lang/invoke/MethodHandle" ∧ yX8_requireRange.cls ≠ "java/lang/invoke/VarHandle" ∧ (parseMethodDescriptor yX8_requireRange.desc).map (fun d => d.parameters.length) = some 3 := by decide +kernel
set_option maxRecDepth 100000 in
set_option maxHeartbeats 4000000 in
theorem c8_requireRange (l : Launch) {D : va_G} {cI cW cZ cL : ClassId} {ad : Nat → Nat} (hJ : injA ad 90) (hlst : l.stackTraces = false) (AX : Nat → Prop) (z : Nat) (S : sC) (v a b : Int32) : kXv l yX8_requireRange wsX8_requireRange ({ frames := 7, cells := 1, slots := 6, locals := 110 }) D vwCl (tyL cI cW cZ cL) ad 90 AX z [.int v, .int a, .int b] (PC cI cW ad S) (tRg v a b) (PC cI cW ad S) 1 6 := by
  refine vv_enterX (cc := cX8_requireRange) (maxL := 3) (ret := none) (own := RX8) (lv := [(0, .int v), (1, .int a), (2, .int b)]) (by decide +kernel) rfl rfl hJ (Nat.le_of_ble_eq_true rfl) rfl ?_
  intro p e s m args below meth c hC hK hW hr hlk hsz hAX hE hout
  refine vv_iload_n hC 0 dX8_requireRange_0 rfl rfl (q := 1) rfl ?_
  refine vv_iload_n hC 1 dX8_requireRange_1 rfl rfl (q := 2) rfl ?_
  refine vv_icmp_lt hC (tgt := 14) dX8_requireRange_2 (by decide) (q := 5) rfl (fun h2 => ?_) (fun h2 => ?_)
  · skip
    refine vv_iconst hC (v := 0) dX8_requireRange_14 rfl (q := 15) rfl ?_
    refine vv_xcallsv hC hK hlk hout hE hAX (fun _ h9 => RAs.mono (by rw [← hsz]; exact h9)) (As := [.int 0]) (fun z => c8_requireArgument l hJ hlst AX z S 0) (va_cwS 1 hC.2.2.2.2 gX8_requireRange_X8_requireArgument rfl rfl rfl hsX8_requireArgument ⟨Nat.le_of_ble_eq_true rfl, Nat.le_of_ble_eq_true rfl⟩) rfl rfl (Nat.le_of_ble_eq_true rfl) ⟨Nat.le_of_ble_eq_true rfl, Nat.le_of_ble_eq_true rfl⟩ ⟨Nat.le_of_ble_eq_true rfl, Nat.le_of_ble_eq_true rfl⟩ (fun _ h => h) (fun _ => by rw [tRg, if_pos (Or.inl h2)]; rfl) dX8_requireRange_15 (q := 18) rfl (fun t15 => ?_)
    exact absurd t15 (by decide)
  · skip
    refine vv_iload_n hC 0 dX8_requireRange_5 rfl rfl (q := 6) rfl ?_
    refine vv_iload_n hC 2 dX8_requireRange_6 rfl rfl (q := 7) rfl ?_
    refine vv_icmp_gt hC (tgt := 14) dX8_requireRange_7 (by decide) (q := 10) rfl (fun h7 => ?_) (fun h7 => ?_)
    · skip
      refine vv_iconst hC (v := 0) dX8_requireRange_14 rfl (q := 15) rfl ?_
      refine vv_xcallsv hC hK hlk hout hE hAX (fun _ h9 => RAs.mono (by rw [← hsz]; exact h9)) (As := [.int 0]) (fun z => c8_requireArgument l hJ hlst AX z S 0) (va_cwS 1 hC.2.2.2.2 gX8_requireRange_X8_requireArgument rfl rfl rfl hsX8_requireArgument ⟨Nat.le_of_ble_eq_true rfl, Nat.le_of_ble_eq_true rfl⟩) rfl rfl (Nat.le_of_ble_eq_true rfl) ⟨Nat.le_of_ble_eq_true rfl, Nat.le_of_ble_eq_true rfl⟩ ⟨Nat.le_of_ble_eq_true rfl, Nat.le_of_ble_eq_true rfl⟩ (fun _ h => h) (fun _ => by rw [tRg, if_pos (Or.inr h7)]; rfl) dX8_requireRange_15 (q := 18) rfl (fun t15 => ?_)
      exact absurd t15 (by decide)
    · skip
      refine vv_iconst hC (v := 1) dX8_requireRange_10 rfl (q := 11) rfl ?_
      refine vv_goto hC (tgt := 15) dX8_requireRange_11 (by decide) ?_
      refine vv_xcallsv hC hK hlk hout hE hAX (fun _ h9 => RAs.mono (by rw [← hsz]; exact h9)) (As := [.int 1]) (fun z => c8_requireArgument l hJ hlst AX z S 1) (va_cwS 1 hC.2.2.2.2 gX8_requireRange_X8_requireArgument rfl rfl rfl hsX8_requireArgument ⟨Nat.le_of_ble_eq_true rfl, Nat.le_of_ble_eq_true rfl⟩) rfl rfl (Nat.le_of_ble_eq_true rfl) ⟨Nat.le_of_ble_eq_true rfl, Nat.le_of_ble_eq_true rfl⟩ ⟨Nat.le_of_ble_eq_true rfl, Nat.le_of_ble_eq_true rfl⟩ (fun _ h => h) (fun h9 => absurd rfl h9) dX8_requireRange_15 (q := 18) rfl (fun t15 => ?_)
      exact vv_xvret hC hK hr hlk (by rw [tRg, if_neg (fun h => Or.elim h h2 h7)]) ⟨Nat.le_of_ble_eq_true rfl, Nat.le_of_ble_eq_true rfl⟩ (fun _ h => h) dX8_requireRange_18
theorem inwX8_requireWord_X8 : ∀ w ∈ wsX80, w ∈ wsX8_requireWord := fun _ h => List.mem_cons_of_mem _ (List.mem_append_left _ (List.mem_append_left _ (List.mem_append_left _ (List.mem_append_right _ h))))
theorem inwX8_requireWord_X6 : ∀ w ∈ wsX60, w ∈ wsX8_requireWord := fun _ h => List.mem_cons_of_mem _ (List.mem_append_left _ (List.mem_append_left _ (List.mem_append_right _ h)))
theorem inwX8_requireWord_X5 : ∀ w ∈ wsX50, w ∈ wsX8_requireWord := fun _ h => List.mem_cons_of_mem _ (List.mem_append_left _ (List.mem_append_right _ h))
theorem hdX8_requireWord : yX8_requireWord.cls = RX8 ∧ yX8_requireWord.cls ≠ "java/lang/invoke/MethodHandle" ∧ yX8_requireWord.cls ≠ "java/lang/invoke/VarHandle" ∧ (parseMethodDescriptor yX8_requireWord.desc).map (fun d => d.parameters.length) = some 1 := by decide +kernel
set_option maxRecDepth 100000 in
set_option maxHeartbeats 4000000 in
theorem c8_requireWord (l : Launch) {D : va_G} {cI cW cZ cL : ClassId} {ad : Nat → Nat} (hJ : injA ad 90) (hlst : l.stackTraces = false) (AX : Nat → Prop) (z : Nat) (S : sC) (n : Int32) : kXv l yX8_requireWord wsX8_requireWord ({ frames := 7, cells := 1, slots := 6, locals := 111 }) D vwCl (tyL cI cW cZ cL) ad 90 AX z [.ref (ad 0), .int n] (PC cI cW ad S) (tWord S n) (PC cI cW ad S) 1 6 := by
  refine vv_enterX (cc := cX8_requireWord) (maxL := 2) (ret := none) (own := RX8) (lv := [(0, .ref (ad 0)), (1, .int n)]) (by decide +kernel) rfl rfl hJ (Nat.le_of_ble_eq_true rfl) rfl ?_
  intro p e s m args below meth c hC hK hW hr hlk hsz hAX hE hout
  refine vv_iload_n hC 1 dX8_requireWord_0 rfl rfl (q := 1) rfl ?_
  refine vv_aload_n hC 0 dX8_requireWord_1 rfl rfl (q := 2) rfl ?_
  refine vv_get hC hK (K := RX8) (T := TX8) (N := 9) (ci := 8) inwX8_requireWord_X8 0 (kl8 (by decide +kernel)) (oc8 (by decide +kernel)) rfl 1 (by decide) (List.mem_of_getElem? (i := 1) rfl) rfl (v := .ref (ad 2)) rfl dX8_requireWord_2 (q := 5) rfl ?_
  refine vv_calli hC hK (fun _ h => Or.inl h) (As := []) 2 (kl6 (by decide +kernel)) (or6 (by decide +kernel)) rfl (c6_count l hJ S) (cwV 0 hC.2.2.2.2 gX8_requireWord_X6_count rfl rfl rfl hdX6_count ⟨Nat.le_of_ble_eq_true rfl, Nat.le_of_ble_eq_true rfl⟩) rfl rfl (Nat.le_of_ble_eq_true rfl) ⟨Nat.le_of_ble_eq_true rfl, Nat.le_of_ble_eq_true rfl⟩ dX8_requireWord_5 (q := 8) rfl ?_
  refine vv_xcallsv hC hK hlk hout hE hAX (fun _ h9 => RAs.mono (by rw [← hsz]; exact h9)) (As := [.int n, .int (nI (S.1 3).length)]) (fun z => c8_requireIndex l hJ hlst AX z S n (nI (S.1 3).length)) (va_cwS 2 hC.2.2.2.2 gX8_requireWord_X8_requireIndex rfl rfl rfl hsX8_requireIndex ⟨Nat.le_of_ble_eq_true rfl, Nat.le_of_ble_eq_true rfl⟩) rfl rfl (Nat.le_of_ble_eq_true rfl) ⟨Nat.le_of_ble_eq_true rfl, Nat.le_of_ble_eq_true rfl⟩ ⟨Nat.le_of_ble_eq_true rfl, Nat.le_of_ble_eq_true rfl⟩ (fun _ h => h) (fun h9 => by simp only [tWord, tor_ne _ h9, tor_0, tor_3, tor_2, tB2, tB3, tSt, tArg, Bool.not_false, Bool.not_true, if_true, if_false, Bool.false_eq_true, reduceIte]) dX8_requireWord_8 (q := 11) rfl (fun t8 => ?_)
  exact vv_xvret hC hK hr hlk (by simp only [tWord, t8, tor_0, tor_3, tor_2, tB2, tB3, tSt, tArg, Bool.not_false, Bool.not_true, if_true, if_false, Bool.false_eq_true, reduceIte]) ⟨Nat.le_of_ble_eq_true rfl, Nat.le_of_ble_eq_true rfl⟩ (fun _ h => h) dX8_requireWord_11
theorem inwX8_requireTextPlace_X8 : ∀ w ∈ wsX80, w ∈ wsX8_requireTextPlace := fun _ h => List.mem_cons_of_mem _ (List.mem_append_left _ (List.mem_append_left _ (List.mem_append_left _ (List.mem_append_right _ h))))
theorem inwX8_requireTextPlace_X2 : ∀ w ∈ wsX20, w ∈ wsX8_requireTextPlace := fun _ h => List.mem_cons_of_mem _ (List.mem_append_left _ (List.mem_append_left _ (List.mem_append_right _ h)))
theorem inwX8_requireTextPlace_X5 : ∀ w ∈ wsX50, w ∈ wsX8_requireTextPlace := fun _ h => List.mem_cons_of_mem _ (List.mem_append_left _ (List.mem_append_right _ h))
theorem hdX8_requireTextPlace : yX8_requireTextPlace.cls = RX8 ∧ yX8_requireTextPlace.cls ≠ "java/lang/invoke/MethodHandle" ∧ yX8_requireTextPlace.cls ≠ "java/lang/invoke/VarHandle" ∧ (parseMethodDescriptor yX8_requireTextPlace.desc).map (fun d => d.parameters.length) = some 1 := by decide +kernel
set_option maxRecDepth 100000 in
set_option maxHeartbeats 4000000 in
theorem c8_requireTextPlace (l : Launch) {D : va_G} {cI cW cZ cL : ClassId} {ad : Nat → Nat} (hJ : injA ad 90) (hlst : l.stackTraces = false) (AX : Nat → Prop) (z : Nat) (S : sC) (n : Int32) : kXv l yX8_requireTextPlace wsX8_requireTextPlace ({ frames := 7, cells := 1, slots := 6, locals := 111 }) D vwCl (tyL cI cW cZ cL) ad 90 AX z [.ref (ad 0), .int n] (PC cI cW ad S) (tText S n) (PC cI cW ad S) 1 6 := by
  refine vv_enterX (cc := cX8_requireTextPlace) (maxL := 2) (ret := none) (own := RX8) (lv := [(0, .ref (ad 0)), (1, .int n)]) (by decide +kernel) rfl rfl hJ (Nat.le_of_ble_eq_true rfl) rfl ?_
  intro p e s m args below meth c hC hK hW hr hlk hsz hAX hE hout
  refine vv_iload_n hC 1 dX8_requireTextPlace_0 rfl rfl (q := 1) rfl ?_
  refine vv_aload_n hC 0 dX8_requireTextPlace_1 rfl rfl (q := 2) rfl ?_
  refine vv_get hC hK (K := RX8) (T := TX8) (N := 9) (ci := 8) inwX8_requireTextPlace_X8 0 (kl8 (by decide +kernel)) (oc8 (by decide +kernel)) rfl 0 (by decide) (List.mem_of_getElem? (i := 1) rfl) rfl (v := .ref (ad 1)) rfl dX8_requireTextPlace_2 (q := 5) rfl ?_
  refine vv_callr hC hK (fun _ h => Or.inl h) (As := []) 1 (kl2 (by decide +kernel)) (or2 (by decide +kernel)) rfl (c2_text l hJ S) (cwV 0 hC.2.2.2.2 gX8_requireTextPlace_X2_text rfl rfl rfl hdX2_text ⟨Nat.le_of_ble_eq_true rfl, Nat.le_of_ble_eq_true rfl⟩) rfl rfl (Nat.le_of_ble_eq_true rfl) ⟨Nat.le_of_ble_eq_true rfl, Nat.le_of_ble_eq_true rfl⟩ dX8_requireTextPlace_5 (q := 8) rfl ?_
  refine vv_calli hC hK (fun _ h => Or.inl h) (As := []) 17 (kl5 (by decide +kernel)) (or5 (by decide +kernel)) rfl (c5_size l hJ S 17 (by decide +kernel)) (cwV 0 hC.2.2.2.2 gX8_requireTextPlace_X5_size rfl rfl rfl hdX5_size ⟨Nat.le_of_ble_eq_true rfl, Nat.le_of_ble_eq_true rfl⟩) rfl rfl (Nat.le_of_ble_eq_true rfl) ⟨Nat.le_of_ble_eq_true rfl, Nat.le_of_ble_eq_true rfl⟩ dX8_requireTextPlace_8 (q := 11) rfl ?_
  refine vv_xcallsv hC hK hlk hout hE hAX (fun _ h9 => RAs.mono (by rw [← hsz]; exact h9)) (As := [.int n, .int (nI (S.1 17).length)]) (fun z => c8_requireIndex l hJ hlst AX z S n (nI (S.1 17).length)) (va_cwS 2 hC.2.2.2.2 gX8_requireTextPlace_X8_requireIndex rfl rfl rfl hsX8_requireIndex ⟨Nat.le_of_ble_eq_true rfl, Nat.le_of_ble_eq_true rfl⟩) rfl rfl (Nat.le_of_ble_eq_true rfl) ⟨Nat.le_of_ble_eq_true rfl, Nat.le_of_ble_eq_true rfl⟩ ⟨Nat.le_of_ble_eq_true rfl, Nat.le_of_ble_eq_true rfl⟩ (fun _ h => h) (fun h9 => by simp only [tText, tor_ne _ h9, tor_0, tor_3, tor_2, tB2, tB3, tSt, tArg, Bool.not_false, Bool.not_true, if_true, if_false, Bool.false_eq_true, reduceIte]) dX8_requireTextPlace_11 (q := 14) rfl (fun t11 => ?_)
  exact vv_xvret hC hK hr hlk (by simp only [tText, t11, tor_0, tor_3, tor_2, tB2, tB3, tSt, tArg, Bool.not_false, Bool.not_true, if_true, if_false, Bool.false_eq_true, reduceIte]) ⟨Nat.le_of_ble_eq_true rfl, Nat.le_of_ble_eq_true rfl⟩ (fun _ h => h) dX8_requireTextPlace_14
theorem inwX8_requireSpan_X8 : ∀ w ∈ wsX80, w ∈ wsX8_requireSpan := fun _ h => List.mem_cons_of_mem _ (List.mem_append_left _ (List.mem_append_left _ (List.mem_append_left _ (List.mem_append_left _ (List.mem_append_right _ h)))))
theorem inwX8_requireSpan_X2 : ∀ w ∈ wsX20, w ∈ wsX8_requireSpan := fun _ h => List.mem_cons_of_mem _ (List.mem_append_left _ (List.mem_append_left _ (List.mem_append_left _ (List.mem_append_right _ h))))
theorem inwX8_requireSpan_X5 : ∀ w ∈ wsX50, w ∈ wsX8_requireSpan := fun _ h => List.mem_cons_of_mem _ (List.mem_append_left _ (List.mem_append_left _ (List.mem_append_right _ h)))
theorem hdX8_requireSpan : yX8_requireSpan.cls = RX8 ∧ yX8_requireSpan.cls ≠ "java/lang/invoke/MethodHandle" ∧ yX8_requireSpan.cls ≠ "java/lang/invoke/VarHandle" ∧ (parseMethodDescriptor yX8_requireSpan.desc).map (fun d => d.parameters.length) = some 2 := by decide +kernel
set_option maxRecDepth 100000 in
set_option maxHeartbeats 4000000 in
theorem c8_requireSpan (l : Launch) {D : va_G} {cI cW cZ cL : ClassId} {ad : Nat → Nat} (hJ : injA ad 90) (hlst : l.stackTraces = false) (AX : Nat → Prop) (z : Nat) (S : sC) (a b : Int32) : kXv l yX8_requireSpan wsX8_requireSpan ({ frames := 8, cells := 3, slots := 18, locals := 132 }) D vwCl (tyL cI cW cZ cL) ad 90 AX z [.ref (ad 0), .int a, .int b] (PC cI cW ad S) (tSpan S a b) (PC cI cW ad S) 3 18 := by
  refine vv_enterX (cc := cX8_requireSpan) (maxL := 3) (ret := none) (own := RX8) (lv := [(0, .ref (ad 0)), (1, .int a), (2, .int b)]) (by decide +kernel) rfl rfl hJ (Nat.le_of_ble_eq_true rfl) rfl ?_
  intro p e s m args below meth c hC hK hW hr hlk hsz hAX hE hout
  refine vv_aload_n hC 0 dX8_requireSpan_0 rfl rfl (q := 1) rfl ?_
  refine vv_iload_n hC 1 dX8_requireSpan_1 rfl rfl (q := 2) rfl ?_
  refine vv_xcallv hC hK hlk hout hE hAX (fun _ h9 => RAs.mono (by rw [← hsz]; exact h9)) (As := [.int a]) 0 (kl8 (by decide +kernel)) (or8 (by decide +kernel)) rfl (fun z => c8_requireTextPlace l hJ hlst AX z S a) (cwV 1 hC.2.2.2.2 gX8_requireSpan_X8_requireTextPlace rfl rfl rfl hdX8_requireTextPlace ⟨Nat.le_of_ble_eq_true rfl, Nat.le_of_ble_eq_true rfl⟩) rfl rfl (Nat.le_of_ble_eq_true rfl) ⟨Nat.le_of_ble_eq_true rfl, Nat.le_of_ble_eq_true rfl⟩ ⟨Nat.le_of_ble_eq_true rfl, Nat.le_of_ble_eq_true rfl⟩ (fun _ h => h) (fun h9 => by simp only [tSpan, tor_ne _ h9, tor_0, tor_3, tor_2, tB2, tB3, tSt, tArg, Bool.not_false, Bool.not_true, if_true, if_false, Bool.false_eq_true, reduceIte]) dX8_requireSpan_2 (q := 5) rfl (fun t2 => ?_)
  refine vv_aload_n hC 0 dX8_requireSpan_5 rfl rfl (q := 6) rfl ?_
  refine vv_iload_n hC 2 dX8_requireSpan_6 rfl rfl (q := 7) rfl ?_
  refine vv_xcallv hC hK hlk hout hE hAX (fun _ h9 => RAs.mono (by rw [← hsz]; exact h9)) (As := [.int b]) 0 (kl8 (by decide +kernel)) (or8 (by decide +kernel)) rfl (fun z => c8_requireTextPlace l hJ hlst AX z S b) (cwV 1 hC.2.2.2.2 gX8_requireSpan_X8_requireTextPlace rfl rfl rfl hdX8_requireTextPlace ⟨Nat.le_of_ble_eq_true rfl, Nat.le_of_ble_eq_true rfl⟩) rfl rfl (Nat.le_of_ble_eq_true rfl) ⟨Nat.le_of_ble_eq_true rfl, Nat.le_of_ble_eq_true rfl⟩ ⟨Nat.le_of_ble_eq_true rfl, Nat.le_of_ble_eq_true rfl⟩ (fun _ h => h) (fun h9 => by simp only [tSpan, t2, tor_ne _ h9, tor_0, tor_3, tor_2, tB2, tB3, tSt, tArg, Bool.not_false, Bool.not_true, if_true, if_false, Bool.false_eq_true, reduceIte]) dX8_requireSpan_7 (q := 10) rfl (fun t7 => ?_)
  refine vv_iload_n hC 1 dX8_requireSpan_10 rfl rfl (q := 11) rfl ?_
  refine vv_iload_n hC 2 dX8_requireSpan_11 rfl rfl (q := 12) rfl ?_
  refine vv_icmp_gt hC (tgt := 19) dX8_requireSpan_12 (by decide) (q := 15) rfl (fun h12 => ?_) (fun h12 => ?_)
  · skip
    refine vv_iconst hC (v := 0) dX8_requireSpan_19 rfl (q := 20) rfl ?_
    refine vv_xcallsv hC hK hlk hout hE hAX (fun _ h9 => RAs.mono (by rw [← hsz]; exact h9)) (As := [.int 0]) (fun z => c8_requireArgument l hJ hlst AX z S 0) (va_cwS 1 hC.2.2.2.2 gX8_requireSpan_X8_requireArgument rfl rfl rfl hsX8_requireArgument ⟨Nat.le_of_ble_eq_true rfl, Nat.le_of_ble_eq_true rfl⟩) rfl rfl (Nat.le_of_ble_eq_true rfl) ⟨Nat.le_of_ble_eq_true rfl, Nat.le_of_ble_eq_true rfl⟩ ⟨Nat.le_of_ble_eq_true rfl, Nat.le_of_ble_eq_true rfl⟩ (fun _ h => h) (fun h9 => by simp only [tSpan, t2, t7, decide_eq_true h12, tor_ne _ h9, tor_0, tor_3, tor_2, tB2, tB3, tSt, tArg, Bool.not_false, Bool.not_true, if_true, if_false, Bool.false_eq_true, reduceIte]) dX8_requireSpan_20 (q := 23) rfl (fun t20 => ?_)
    exact absurd t20 (by decide)
  · skip
    refine vv_iconst hC (v := 1) dX8_requireSpan_15 rfl (q := 16) rfl ?_
    refine vv_goto hC (tgt := 20) dX8_requireSpan_16 (by decide) ?_
    refine vv_xcallsv hC hK hlk hout hE hAX (fun _ h9 => RAs.mono (by rw [← hsz]; exact h9)) (As := [.int 1]) (fun z => c8_requireArgument l hJ hlst AX z S 1) (va_cwS 1 hC.2.2.2.2 gX8_requireSpan_X8_requireArgument rfl rfl rfl hsX8_requireArgument ⟨Nat.le_of_ble_eq_true rfl, Nat.le_of_ble_eq_true rfl⟩) rfl rfl (Nat.le_of_ble_eq_true rfl) ⟨Nat.le_of_ble_eq_true rfl, Nat.le_of_ble_eq_true rfl⟩ ⟨Nat.le_of_ble_eq_true rfl, Nat.le_of_ble_eq_true rfl⟩ (fun _ h => h) (fun h9 => absurd rfl h9) dX8_requireSpan_20 (q := 23) rfl (fun t20 => ?_)
    exact vv_xvret hC hK hr hlk (by simp only [tSpan, t2, t7, decide_eq_false h12, tor_0, tor_3, tor_2, tB2, tB3, tSt, tArg, Bool.not_false, Bool.not_true, if_true, if_false, Bool.false_eq_true, reduceIte]) ⟨Nat.le_of_ble_eq_true rfl, Nat.le_of_ble_eq_true rfl⟩ (fun _ h => h) dX8_requireSpan_23
theorem inwX8_printReview_X8 : ∀ w ∈ wsX80, w ∈ wsX8_printReview := fun _ h => List.mem_cons_of_mem _ (List.mem_append_left _ (List.mem_append_left _ (List.mem_append_left _ (List.mem_append_right _ h))))
theorem inwX8_printReview_X4 : ∀ w ∈ wsX40, w ∈ wsX8_printReview := fun _ h => List.mem_cons_of_mem _ (List.mem_append_left _ (List.mem_append_left _ (List.mem_append_right _ h)))
theorem inwX8_printReview_X5 : ∀ w ∈ wsX50, w ∈ wsX8_printReview := fun _ h => List.mem_cons_of_mem _ (List.mem_append_left _ (List.mem_append_right _ h))
theorem inwX8_printReview_X6 : ∀ w ∈ wsX60, w ∈ wsX8_printReview := fun _ h => List.mem_cons_of_mem _ (List.mem_append_right _ h)
theorem hdX8_printReview : yX8_printReview.cls = RX8 ∧ yX8_printReview.cls ≠ "java/lang/invoke/MethodHandle" ∧ yX8_printReview.cls ≠ "java/lang/invoke/VarHandle" ∧ (parseMethodDescriptor yX8_printReview.desc).map (fun d => d.parameters.length) = some 1 := by decide +kernel
set_option maxRecDepth 100000 in
set_option maxHeartbeats 4000000 in
theorem c8_printReview (l : Launch) {D : va_G} {cI cW cZ cL : ClassId} {ad : Nat → Nat} (hJ : injA ad 90) (S : sC) (r : Int32) : kMi l yX8_printReview wsX8_printReview ({ frames := 4, cells := 0, slots := 0, locals := 86 }) D vwCl (tyL cI cW cZ cL) ad 90 [.ref (ad 0), .int r] (PC cI cW ad S) (nI (prR S r).1) (PC cI cW ad ((prR S r).2)) := by
  refine vv_enter (cc := cX8_printReview) (maxL := 3) (ret := (some .int)) (own := RX8) (lv := [(0, .ref (ad 0)), (1, .int r)]) (by decide +kernel) rfl rfl hJ (Nat.le_of_ble_eq_true rfl) rfl ?_
  intro p e s m args below meth c hC hK hW hr hlk
  refine vv_aload_n hC 0 dX8_printReview_0 rfl rfl (q := 1) rfl ?_
  refine vv_get hC hK (K := RX8) (T := TX8) (N := 9) (ci := 8) inwX8_printReview_X8 0 (kl8 (by decide +kernel)) (oc8 (by decide +kernel)) rfl 4 (by decide) (List.mem_of_getElem? (i := 1) rfl) rfl (v := .ref (ad 61)) rfl dX8_printReview_1 (q := 4) rfl ?_
  refine vv_callv hC hK (fun _ h => h) (As := []) 61 (kl4 (by decide +kernel)) (or4 (by decide +kernel)) rfl (c4_printFirst l hJ S) (cwV 0 hC.2.2.2.2 gX8_printReview_X4_printFirst rfl rfl rfl hdX4_printFirst ⟨Nat.le_of_ble_eq_true rfl, Nat.le_of_ble_eq_true rfl⟩) rfl rfl (Nat.le_of_ble_eq_true rfl) ⟨Nat.le_of_ble_eq_true rfl, Nat.le_of_ble_eq_true rfl⟩ dX8_printReview_4 (q := 7) rfl ?_
  refine vv_iconst hC (v := 0) dX8_printReview_7 rfl (q := 8) rfl ?_
  refine vv_istore_n hC (i := 2) (lv' := [(2, .int 0), (0, .ref (ad 0)), (1, .int r)]) dX8_printReview_8 rfl (by decide) rfl (q := 9) rfl ?_
  have loop9 : ∀ (fu : Nat) (n : Nat) (T : sC), (T.1 3).length < n + fu → n ≤ (T.1 3).length → prF r fu n T = prF r ((S.1 3).length + 1) 0 (rvPrint S) → vv p l e (headSpec wsX8_printReview ({ frames := 4, cells := 0, slots := 0, locals := 86 })).room s m args below meth c 3 (RA ad 90) s.heap 0 0 (MQ below (va_Qi (fun r' (_ : Unit) => r' = (nI (prR S r).1)) (fun _ => ws0 D vwCl (tyL cI cW cZ cL) ad 90 (PC cI cW ad ((prR S r).2))) (RA ad 90)) args s 0 0 (RA ad 90)) (wq D vwCl ad 90 (PC cI cW ad T)) 9 [(0, .ref (ad 0)), (1, .int r), (2, .int (nI n))] [] := by
    intro fu
    induction fu with
    | zero =>
      intro n T hfu hn hres
      exact absurd hfu (by omega)
    | succ fu ih =>
      intro n T hfu hn hres
      refine vv_pure (P := wfC T) (fun H hB => by obtain ⟨f, hf, -⟩ := hB; exact oc_wf f hf) (fun hwf => ?_)
      have hw := hwf 3 rfl
      have hc := cap_le 3
      refine vv_iload_n hC 2 dX8_printReview_9 rfl rfl (q := 10) rfl ?_
      refine vv_aload_n hC 0 dX8_printReview_10 rfl rfl (q := 11) rfl ?_
      refine vv_get hC hK (K := RX8) (T := TX8) (N := 9) (ci := 8) inwX8_printReview_X8 0 (kl8 (by decide +kernel)) (oc8 (by decide +kernel)) rfl 1 (by decide) (List.mem_of_getElem? (i := 2) rfl) rfl (v := .ref (ad 2)) rfl dX8_printReview_11 (q := 14) rfl ?_
      refine vv_calli hC hK (fun _ h => h) (As := []) 2 (kl6 (by decide +kernel)) (or6 (by decide +kernel)) rfl (c6_count l hJ T) (cwV 0 hC.2.2.2.2 gX8_printReview_X6_count rfl rfl rfl hdX6_count ⟨Nat.le_of_ble_eq_true rfl, Nat.le_of_ble_eq_true rfl⟩) rfl rfl (Nat.le_of_ble_eq_true rfl) ⟨Nat.le_of_ble_eq_true rfl, Nat.le_of_ble_eq_true rfl⟩ dX8_printReview_14 (q := 17) rfl ?_
      refine vv_icmp_ge hC (tgt := 54) dX8_printReview_17 (by decide) (q := 20) rfl (fun h17 => ?_) (fun h17 => ?_)
      · skip
        refine vv_aload_n hC 0 dX8_printReview_54 rfl rfl (q := 55) rfl ?_
        refine vv_get hC hK (K := RX8) (T := TX8) (N := 9) (ci := 8) inwX8_printReview_X8 0 (kl8 (by decide +kernel)) (oc8 (by decide +kernel)) rfl 1 (by decide) (List.mem_of_getElem? (i := 2) rfl) rfl (v := .ref (ad 2)) rfl dX8_printReview_55 (q := 58) rfl ?_
        refine vv_iload_n hC 1 dX8_printReview_58 rfl rfl (q := 59) rfl ?_
        refine vv_calli hC hK (fun _ h => h) (As := [.int r]) 2 (kl6 (by decide +kernel)) (or6 (by decide +kernel)) rfl (c6_unfreeze l hJ T r) (cwV 1 hC.2.2.2.2 gX8_printReview_X6_unfreeze rfl rfl rfl hdX6_unfreeze ⟨Nat.le_of_ble_eq_true rfl, Nat.le_of_ble_eq_true rfl⟩) rfl rfl (Nat.le_of_ble_eq_true rfl) ⟨Nat.le_of_ble_eq_true rfl, Nat.le_of_ble_eq_true rfl⟩ dX8_printReview_59 (q := 62) rfl ?_
        exact vv_iret hC hK hr hlk (by rw [prR, ← hres, prF, if_neg (by rw [nI_leI (by omega) (by omega)] at h17; omega)]) (fun f h => by rw [prR, ← hres, prF, if_neg (by rw [nI_leI (by omega) (by omega)] at h17; omega)]; exact h) dX8_printReview_62
      · skip
        refine vv_aload_n hC 0 dX8_printReview_20 rfl rfl (q := 21) rfl ?_
        refine vv_get hC hK (K := RX8) (T := TX8) (N := 9) (ci := 8) inwX8_printReview_X8 0 (kl8 (by decide +kernel)) (oc8 (by decide +kernel)) rfl 1 (by decide) (List.mem_of_getElem? (i := 2) rfl) rfl (v := .ref (ad 2)) rfl dX8_printReview_21 (q := 24) rfl ?_
        refine vv_iload_n hC 2 dX8_printReview_24 rfl rfl (q := 25) rfl ?_
        refine vv_calli hC hK (fun _ h => h) (As := [.int (nI n)]) 2 (kl6 (by decide +kernel)) (or6 (by decide +kernel)) rfl (c6_reviewOf l hJ T (nI n)) (cwV 1 hC.2.2.2.2 gX8_printReview_X6_reviewOf rfl rfl rfl hdX6_reviewOf ⟨Nat.le_of_ble_eq_true rfl, Nat.le_of_ble_eq_true rfl⟩) rfl rfl (Nat.le_of_ble_eq_true rfl) ⟨Nat.le_of_ble_eq_true rfl, Nat.le_of_ble_eq_true rfl⟩ dX8_printReview_25 (q := 28) rfl ?_
        refine vv_iload_n hC 1 dX8_printReview_28 rfl rfl (q := 29) rfl ?_
        refine vv_icmp_ne hC (tgt := 48) dX8_printReview_29 (by decide) (q := 32) rfl (fun h29 => ?_) (fun h29 => ?_)
        · skip
          refine vv_iinc hC (i := 2) (v := nI (n + 1)) (lv' := [(2, .int (nI (n + 1))), (0, .ref (ad 0)), (1, .int r)]) 2 dX8_printReview_48 rfl (nI_1 n) (by decide) rfl (q := 51) rfl ?_
          refine vv_goto hC (tgt := 9) dX8_printReview_51 (by decide) ?_
          exact vv_lv [1, 2, 0] rfl (ih (n + 1) T (by omega) (by rw [nI_leI (by omega) (by omega)] at h17; omega) (by rw [← hres, prF, if_pos (by rw [nI_leI (by omega) (by omega)] at h17; omega), if_neg h29]))
        · skip
          refine vv_aload_n hC 0 dX8_printReview_32 rfl rfl (q := 33) rfl ?_
          refine vv_get hC hK (K := RX8) (T := TX8) (N := 9) (ci := 8) inwX8_printReview_X8 0 (kl8 (by decide +kernel)) (oc8 (by decide +kernel)) rfl 3 (by decide) (List.mem_of_getElem? (i := 3) rfl) rfl (v := .ref (ad 59)) rfl dX8_printReview_33 (q := 36) rfl ?_
          refine vv_aload_n hC 0 dX8_printReview_36 rfl rfl (q := 37) rfl ?_
          refine vv_get hC hK (K := RX8) (T := TX8) (N := 9) (ci := 8) inwX8_printReview_X8 0 (kl8 (by decide +kernel)) (oc8 (by decide +kernel)) rfl 1 (by decide) (List.mem_of_getElem? (i := 2) rfl) rfl (v := .ref (ad 2)) rfl dX8_printReview_37 (q := 40) rfl ?_
          refine vv_iload_n hC 2 dX8_printReview_40 rfl rfl (q := 41) rfl ?_
          refine vv_calli hC hK (fun _ h => h) (As := [.int (nI n)]) 2 (kl6 (by decide +kernel)) (or6 (by decide +kernel)) rfl (c6_writerOf l hJ T (nI n)) (cwV 1 hC.2.2.2.2 gX8_printReview_X6_writerOf rfl rfl rfl hdX6_writerOf ⟨Nat.le_of_ble_eq_true rfl, Nat.le_of_ble_eq_true rfl⟩) rfl rfl (Nat.le_of_ble_eq_true rfl) ⟨Nat.le_of_ble_eq_true rfl, Nat.le_of_ble_eq_true rfl⟩ dX8_printReview_41 (q := 44) rfl ?_
          refine vv_iconst hC (v := 5) dX8_printReview_44 rfl (q := 45) rfl ?_
          refine vv_callv hC hK (fun _ h => h) (As := [.int (rAt (T.1 5) (nI n)), .int 5]) 59 (kl5 (by decide +kernel)) (or5 (by decide +kernel)) rfl (c5_raise l hJ T 59 (by decide +kernel) (rAt (T.1 5) (nI n)) 5) (cwV 2 hC.2.2.2.2 gX8_printReview_X5_raise rfl rfl rfl hdX5_raise ⟨Nat.le_of_ble_eq_true rfl, Nat.le_of_ble_eq_true rfl⟩) rfl rfl (Nat.le_of_ble_eq_true rfl) ⟨Nat.le_of_ble_eq_true rfl, Nat.le_of_ble_eq_true rfl⟩ dX8_printReview_45 (q := 48) rfl ?_
          refine vv_iinc hC (i := 2) (v := nI (n + 1)) (lv' := [(2, .int (nI (n + 1))), (0, .ref (ad 0)), (1, .int r)]) 2 dX8_printReview_48 rfl (nI_1 n) (by decide) rfl (q := 51) rfl ?_
          refine vv_goto hC (tgt := 9) dX8_printReview_51 (by decide) ?_
          exact vv_lv [1, 2, 0] rfl (ih (n + 1) _ (by show (T.1 3).length < _; omega) (by show n + 1 ≤ (T.1 3).length; exact (by rw [nI_leI (by omega) (by omega)] at h17; omega)) (by rw [← hres, prF, if_pos (by rw [nI_leI (by omega) (by omega)] at h17; omega), if_pos h29]))
  exact vv_lv [1, 2, 0] rfl (loop9 _ 0 (rvPrint S) (by show (S.1 3).length < _; omega) (Nat.zero_le _) rfl)
theorem inwX8_printIssue_X8 : ∀ w ∈ wsX80, w ∈ wsX8_printIssue := fun _ h => List.mem_cons_of_mem _ (List.mem_append_left _ (List.mem_append_left _ (List.mem_append_left _ (List.mem_append_left _ (List.mem_append_right _ h)))))
theorem inwX8_printIssue_X3 : ∀ w ∈ wsX30, w ∈ wsX8_printIssue := fun _ h => List.mem_cons_of_mem _ (List.mem_append_left _ (List.mem_append_left _ (List.mem_append_left _ (List.mem_append_right _ h))))
theorem inwX8_printIssue_X5 : ∀ w ∈ wsX50, w ∈ wsX8_printIssue := fun _ h => List.mem_cons_of_mem _ (List.mem_append_left _ (List.mem_append_left _ (List.mem_append_right _ h)))
theorem inwX8_printIssue_X4 : ∀ w ∈ wsX40, w ∈ wsX8_printIssue := fun _ h => List.mem_cons_of_mem _ (List.mem_append_left _ (List.mem_append_right _ h))
theorem inwX8_printIssue_X6 : ∀ w ∈ wsX60, w ∈ wsX8_printIssue := fun _ h => List.mem_cons_of_mem _ (List.mem_append_right _ h)
theorem hdX8_printIssue : yX8_printIssue.cls = RX8 ∧ yX8_printIssue.cls ≠ "java/lang/invoke/MethodHandle" ∧ yX8_printIssue.cls ≠ "java/lang/invoke/VarHandle" ∧ (parseMethodDescriptor yX8_printIssue.desc).map (fun d => d.parameters.length) = some 1 := by decide +kernel
set_option maxRecDepth 100000 in
set_option maxHeartbeats 4000000 in
theorem c8_printIssue (l : Launch) {D : va_G} {cI cW cZ cL : ClassId} {ad : Nat → Nat} (hJ : injA ad 90) (S : sC) (i : Int32) : kMi l yX8_printIssue wsX8_printIssue ({ frames := 5, cells := 0, slots := 0, locals := 108 }) D vwCl (tyL cI cW cZ cL) ad 90 [.ref (ad 0), .int i] (PC cI cW ad S) ((prI S i).1) (PC cI cW ad (sPrI S i)) := by
  refine vv_enter (cc := cX8_printIssue) (maxL := 6) (ret := (some .int)) (own := RX8) (lv := [(0, .ref (ad 0)), (1, .int i)]) (by decide +kernel) rfl rfl hJ (Nat.le_of_ble_eq_true rfl) rfl ?_
  intro p e s m args below meth c hC hK hW hr hlk
  refine vv_aload_n hC 0 dX8_printIssue_0 rfl rfl (q := 1) rfl ?_
  refine vv_get hC hK (K := RX8) (T := TX8) (N := 9) (ci := 8) inwX8_printIssue_X8 0 (kl8 (by decide +kernel)) (oc8 (by decide +kernel)) rfl 5 (by decide) (List.mem_of_getElem? (i := 1) rfl) rfl (v := .ref (ad 78)) rfl dX8_printIssue_1 (q := 4) rfl ?_
  refine vv_iload_n hC 1 dX8_printIssue_4 rfl rfl (q := 5) rfl ?_
  refine vv_calli hC hK (fun _ h => h) (As := [.int i]) 78 (kl3 (by decide +kernel)) (or3 (by decide +kernel)) rfl (c3_roomOf l hJ S i) (cwV 1 hC.2.2.2.2 gX8_printIssue_X3_roomOf rfl rfl rfl hdX3_roomOf ⟨Nat.le_of_ble_eq_true rfl, Nat.le_of_ble_eq_true rfl⟩) rfl rfl (Nat.le_of_ble_eq_true rfl) ⟨Nat.le_of_ble_eq_true rfl, Nat.le_of_ble_eq_true rfl⟩ dX8_printIssue_5 (q := 8) rfl ?_
  refine vv_istore_n hC (i := 2) (lv' := [(2, .int (rAt (S.1 81) i)), (0, .ref (ad 0)), (1, .int i)]) dX8_printIssue_8 rfl (by decide) rfl (q := 9) rfl ?_
  refine vv_iconst hC (v := 0) dX8_printIssue_9 rfl (q := 10) rfl ?_
  refine vv_istore_n hC (i := 3) (lv' := [(3, .int 0), (2, .int (rAt (S.1 81) i)), (0, .ref (ad 0)), (1, .int i)]) dX8_printIssue_10 rfl (by decide) rfl (q := 11) rfl ?_
  refine vv_iconst hC (v := 0) dX8_printIssue_11 rfl (q := 12) rfl ?_
  refine vv_istore hC (i := 4) (lv' := [(4, .int 0), (3, .int 0), (2, .int (rAt (S.1 81) i)), (0, .ref (ad 0)), (1, .int i)]) dX8_printIssue_12 (by decide) rfl (q := 14) rfl ?_
  have loop14 : ∀ (fu : Nat) (k : Nat) (r : Nat) (lf : Int32) (sm : Int32) (T : sC), r < fu → k + r = 30 → piF r lf sm T = prI S i → vv p l e (headSpec wsX8_printIssue ({ frames := 5, cells := 0, slots := 0, locals := 108 })).room s m args below meth c 6 (RA ad 90) s.heap 0 0 (MQ below (va_Qi (fun r' (_ : Unit) => r' = ((prI S i).1)) (fun _ => ws0 D vwCl (tyL cI cW cZ cL) ad 90 (PC cI cW ad (sPrI S i))) (RA ad 90)) args s 0 0 (RA ad 90)) (wq D vwCl ad 90 (PC cI cW ad T)) 14 [(0, .ref (ad 0)), (1, .int i), (2, .int lf), (3, .int sm), (4, .int (nI k))] [] := by
    intro fu
    induction fu with
    | zero =>
      intro k r lf sm T hfu hk hres
      exact absurd hfu (Nat.not_lt_zero _)
    | succ fu ih =>
      intro k r lf sm T hfu hk hres
      refine vv_iload hC 4 dX8_printIssue_14 rfl (q := 16) rfl ?_
      refine vv_bipush hC (v := nI 30) dX8_printIssue_16 rfl (q := 18) rfl ?_
      refine vv_icmp_ge hC (tgt := 80) dX8_printIssue_18 (by decide) (q := 21) rfl (fun h18 => ?_) (fun h18 => ?_)
      · skip
        refine vv_aload_n hC 0 dX8_printIssue_80 rfl rfl (q := 81) rfl ?_
        refine vv_get hC hK (K := RX8) (T := TX8) (N := 9) (ci := 8) inwX8_printIssue_X8 0 (kl8 (by decide +kernel)) (oc8 (by decide +kernel)) rfl 5 (by decide) (List.mem_of_getElem? (i := 1) rfl) rfl (v := .ref (ad 78)) rfl dX8_printIssue_81 (q := 84) rfl ?_
        refine vv_iload_n hC 1 dX8_printIssue_84 rfl rfl (q := 85) rfl ?_
        refine vv_iload_n hC 3 dX8_printIssue_85 rfl rfl (q := 86) rfl ?_
        refine vv_callv hC hK (fun _ h => h) (As := [.int i, .int sm]) 78 (kl3 (by decide +kernel)) (or3 (by decide +kernel)) rfl (c3_setPrinted l hJ T i sm) (cwV 2 hC.2.2.2.2 gX8_printIssue_X3_setPrinted rfl rfl rfl hdX3_setPrinted ⟨Nat.le_of_ble_eq_true rfl, Nat.le_of_ble_eq_true rfl⟩) rfl rfl (Nat.le_of_ble_eq_true rfl) ⟨Nat.le_of_ble_eq_true rfl, Nat.le_of_ble_eq_true rfl⟩ dX8_printIssue_86 (q := 89) rfl ?_
        refine vv_iload_n hC 3 dX8_printIssue_89 rfl rfl (q := 90) rfl ?_
        exact vv_iret hC hK hr hlk (by have e1 : prI S i = (sm, T) := (by rw [nI_leI (by omega) (by omega)] at h18; obtain rfl : r = 0 := (by omega); exact hres.symm); rw [e1]) (fun f h => by have e1 : prI S i = (sm, T) := (by rw [nI_leI (by omega) (by omega)] at h18; obtain rfl : r = 0 := (by omega); exact hres.symm); rw [sPrI, e1]; exact h) dX8_printIssue_90
      · skip
        obtain ⟨r, rfl⟩ : ∃ r2, r = r2 + 1 := ⟨r - 1, by rw [nI_leI (by omega) (by omega)] at h18; omega⟩
        refine vv_aload_n hC 0 dX8_printIssue_21 rfl rfl (q := 22) rfl ?_
        refine vv_get hC hK (K := RX8) (T := TX8) (N := 9) (ci := 8) inwX8_printIssue_X8 0 (kl8 (by decide +kernel)) (oc8 (by decide +kernel)) rfl 4 (by decide) (List.mem_of_getElem? (i := 2) rfl) rfl (v := .ref (ad 61)) rfl dX8_printIssue_22 (q := 25) rfl ?_
        refine vv_iconst hC (v := 0) dX8_printIssue_25 rfl (q := 26) rfl ?_
        refine vv_calli hC hK (fun _ h => h) (As := [.int 0]) 61 (kl4 (by decide +kernel)) (or4 (by decide +kernel)) rfl (c4_waitingAt l hJ T 0) (cwV 1 hC.2.2.2.2 gX8_printIssue_X4_waitingAt rfl rfl rfl hdX4_waitingAt ⟨Nat.le_of_ble_eq_true rfl, Nat.le_of_ble_eq_true rfl⟩) rfl rfl (Nat.le_of_ble_eq_true rfl) ⟨Nat.le_of_ble_eq_true rfl, Nat.le_of_ble_eq_true rfl⟩ dX8_printIssue_26 (q := 29) rfl ?_
        refine vv_istore hC (i := 5) (lv' := [(5, .int (rAt (T.1 72) 0)), (0, .ref (ad 0)), (1, .int i), (2, .int lf), (3, .int sm), (4, .int (nI k))]) dX8_printIssue_29 (by decide) rfl (q := 31) rfl ?_
        refine vv_iload hC 0 dX8_printIssue_31 rfl (q := 33) rfl ?_
        refine vv_iconst hC (v := (-1)) dX8_printIssue_33 rfl (q := 34) rfl ?_
        refine vv_icmp_eq hC (tgt := 80) dX8_printIssue_34 (by decide) (q := 37) rfl (fun h34 => ?_) (fun h34 => ?_)
        · skip
          refine vv_aload_n hC 1 dX8_printIssue_80 rfl rfl (q := 81) rfl ?_
          refine vv_get hC hK (K := RX8) (T := TX8) (N := 9) (ci := 8) inwX8_printIssue_X8 0 (kl8 (by decide +kernel)) (oc8 (by decide +kernel)) rfl 5 (by decide) (List.mem_of_getElem? (i := 1) rfl) rfl (v := .ref (ad 78)) rfl dX8_printIssue_81 (q := 84) rfl ?_
          refine vv_iload_n hC 2 dX8_printIssue_84 rfl rfl (q := 85) rfl ?_
          refine vv_iload_n hC 4 dX8_printIssue_85 rfl rfl (q := 86) rfl ?_
          refine vv_callv hC hK (fun _ h => h) (As := [.int i, .int sm]) 78 (kl3 (by decide +kernel)) (or3 (by decide +kernel)) rfl (c3_setPrinted l hJ T i sm) (cwV 2 hC.2.2.2.2 gX8_printIssue_X3_setPrinted rfl rfl rfl hdX3_setPrinted ⟨Nat.le_of_ble_eq_true rfl, Nat.le_of_ble_eq_true rfl⟩) rfl rfl (Nat.le_of_ble_eq_true rfl) ⟨Nat.le_of_ble_eq_true rfl, Nat.le_of_ble_eq_true rfl⟩ dX8_printIssue_86 (q := 89) rfl ?_
          refine vv_iload_n hC 4 dX8_printIssue_89 rfl rfl (q := 90) rfl ?_
          exact vv_iret hC hK hr hlk (by have e1 : prI S i = (sm, T) := (by rw [← hres, piF, if_pos h34]); rw [e1]) (fun f h => by have e1 : prI S i = (sm, T) := (by rw [← hres, piF, if_pos h34]); rw [sPrI, e1]; exact h) dX8_printIssue_90
        · skip
          refine vv_aload_n hC 1 dX8_printIssue_37 rfl rfl (q := 38) rfl ?_
          refine vv_get hC hK (K := RX8) (T := TX8) (N := 9) (ci := 8) inwX8_printIssue_X8 0 (kl8 (by decide +kernel)) (oc8 (by decide +kernel)) rfl 4 (by decide) (List.mem_of_getElem? (i := 2) rfl) rfl (v := .ref (ad 61)) rfl dX8_printIssue_38 (q := 41) rfl ?_
          refine vv_iload hC 0 dX8_printIssue_41 rfl (q := 43) rfl ?_
          refine vv_calli hC hK (fun _ h => h) (As := [.int (rAt (T.1 72) 0)]) 61 (kl4 (by decide +kernel)) (or4 (by decide +kernel)) rfl (c4_sizeOf l hJ T (rAt (T.1 72) 0)) (cwV 1 hC.2.2.2.2 gX8_printIssue_X4_sizeOf rfl rfl rfl hdX4_sizeOf ⟨Nat.le_of_ble_eq_true rfl, Nat.le_of_ble_eq_true rfl⟩) rfl rfl (Nat.le_of_ble_eq_true rfl) ⟨Nat.le_of_ble_eq_true rfl, Nat.le_of_ble_eq_true rfl⟩ dX8_printIssue_43 (q := 46) rfl ?_
          refine vv_iload_n hC 3 dX8_printIssue_46 rfl rfl (q := 47) rfl ?_
          refine vv_icmp_le hC (tgt := 53) dX8_printIssue_47 (by decide) (q := 50) rfl (fun h47 => ?_) (fun h47 => ?_)
          · skip
            refine vv_iload_n hC 3 dX8_printIssue_53 rfl rfl (q := 54) rfl ?_
            refine vv_aload_n hC 1 dX8_printIssue_54 rfl rfl (q := 55) rfl ?_
            refine vv_get hC hK (K := RX8) (T := TX8) (N := 9) (ci := 8) inwX8_printIssue_X8 0 (kl8 (by decide +kernel)) (oc8 (by decide +kernel)) rfl 4 (by decide) (List.mem_of_getElem? (i := 2) rfl) rfl (v := .ref (ad 61)) rfl dX8_printIssue_55 (q := 58) rfl ?_
            refine vv_iload hC 0 dX8_printIssue_58 rfl (q := 60) rfl ?_
            refine vv_calli hC hK (fun _ h => h) (As := [.int (rAt (T.1 72) 0)]) 61 (kl4 (by decide +kernel)) (or4 (by decide +kernel)) rfl (c4_sizeOf l hJ T (rAt (T.1 72) 0)) (cwV 1 hC.2.2.2.2 gX8_printIssue_X4_sizeOf rfl rfl rfl hdX4_sizeOf ⟨Nat.le_of_ble_eq_true rfl, Nat.le_of_ble_eq_true rfl⟩) rfl rfl (Nat.le_of_ble_eq_true rfl) ⟨Nat.le_of_ble_eq_true rfl, Nat.le_of_ble_eq_true rfl⟩ dX8_printIssue_60 (q := 63) rfl ?_
            refine vv_isub hC dX8_printIssue_63 (q := 64) rfl ?_
            refine vv_istore_n hC (i := 2) (lv' := [(2, .int (lf - (rAt (T.1 64) (rAt (T.1 72) 0)))), (5, .int (rAt (T.1 72) 0)), (0, .ref (ad 0)), (1, .int i), (3, .int sm), (4, .int (nI k))]) dX8_printIssue_64 rfl (by decide) rfl (q := 65) rfl ?_
            refine vv_iload_n hC 4 dX8_printIssue_65 rfl rfl (q := 66) rfl ?_
            refine vv_aload_n hC 2 dX8_printIssue_66 rfl rfl (q := 67) rfl ?_
            refine vv_iload hC 1 dX8_printIssue_67 rfl (q := 69) rfl ?_
            refine vv_calli hC hK (fun _ h => h) (As := [.int (rAt (T.1 72) 0)]) 0 (kl8 (by decide +kernel)) (or8 (by decide +kernel)) rfl (c8_printReview l hJ T (rAt (T.1 72) 0)) (cwV 1 hC.2.2.2.2 gX8_printIssue_X8_printReview rfl rfl rfl hdX8_printReview ⟨Nat.le_of_ble_eq_true rfl, Nat.le_of_ble_eq_true rfl⟩) rfl rfl (Nat.le_of_ble_eq_true rfl) ⟨Nat.le_of_ble_eq_true rfl, Nat.le_of_ble_eq_true rfl⟩ dX8_printIssue_69 (q := 72) rfl ?_
            refine vv_iadd hC dX8_printIssue_72 (q := 73) rfl ?_
            refine vv_istore_n hC (i := 3) (lv' := [(3, .int (sm + (nI (prR T (rAt (T.1 72) 0)).1))), (2, .int (lf - (rAt (T.1 64) (rAt (T.1 72) 0)))), (5, .int (rAt (T.1 72) 0)), (0, .ref (ad 0)), (1, .int i), (4, .int (nI k))]) dX8_printIssue_73 rfl (by decide) rfl (q := 74) rfl ?_
            refine vv_iinc hC (i := 4) (v := nI (k + 1)) (lv' := [(4, .int (nI (k + 1))), (3, .int (sm + (nI (prR T (rAt (T.1 72) 0)).1))), (2, .int (lf - (rAt (T.1 64) (rAt (T.1 72) 0)))), (5, .int (rAt (T.1 72) 0)), (0, .ref (ad 0)), (1, .int i)]) 5 dX8_printIssue_74 rfl (nI_1 k) (by decide) rfl (q := 77) rfl ?_
            refine vv_goto hC (tgt := 14) dX8_printIssue_77 (by decide) ?_
            exact vv_lv [4, 5, 2, 1, 0] rfl (ih (k + 1) r _ _ _ (by omega) (by omega) (by rw [← hres, piF, if_neg h34, if_neg (fun h => absurd h47 (Int32.not_le.mpr h))]))
          · skip
            refine vv_goto hC (tgt := 80) dX8_printIssue_50 (by decide) ?_
            refine vv_aload_n hC 1 dX8_printIssue_80 rfl rfl (q := 81) rfl ?_
            refine vv_get hC hK (K := RX8) (T := TX8) (N := 9) (ci := 8) inwX8_printIssue_X8 0 (kl8 (by decide +kernel)) (oc8 (by decide +kernel)) rfl 5 (by decide) (List.mem_of_getElem? (i := 1) rfl) rfl (v := .ref (ad 78)) rfl dX8_printIssue_81 (q := 84) rfl ?_
            refine vv_iload_n hC 2 dX8_printIssue_84 rfl rfl (q := 85) rfl ?_
            refine vv_iload_n hC 4 dX8_printIssue_85 rfl rfl (q := 86) rfl ?_
            refine vv_callv hC hK (fun _ h => h) (As := [.int i, .int sm]) 78 (kl3 (by decide +kernel)) (or3 (by decide +kernel)) rfl (c3_setPrinted l hJ T i sm) (cwV 2 hC.2.2.2.2 gX8_printIssue_X3_setPrinted rfl rfl rfl hdX3_setPrinted ⟨Nat.le_of_ble_eq_true rfl, Nat.le_of_ble_eq_true rfl⟩) rfl rfl (Nat.le_of_ble_eq_true rfl) ⟨Nat.le_of_ble_eq_true rfl, Nat.le_of_ble_eq_true rfl⟩ dX8_printIssue_86 (q := 89) rfl ?_
            refine vv_iload_n hC 4 dX8_printIssue_89 rfl rfl (q := 90) rfl ?_
            exact vv_iret hC hK hr hlk (by have e1 : prI S i = (sm, T) := (by rw [← hres, piF, if_neg h34, if_pos (Int32.not_le.mp h47)]); rw [e1]) (fun f h => by have e1 : prI S i = (sm, T) := (by rw [← hres, piF, if_neg h34, if_pos (Int32.not_le.mp h47)]); rw [sPrI, e1]; exact h) dX8_printIssue_90
  exact vv_lv [3, 4, 2, 1, 0] rfl (loop14 31 0 30 _ _ S (by omega) rfl rfl)
theorem inwX8_length_X8 : ∀ w ∈ wsX80, w ∈ wsX8_length := fun _ h => List.mem_cons_of_mem _ (List.mem_append_left _ (List.mem_append_left _ (List.mem_append_right _ h)))
theorem inwX8_length_X2 : ∀ w ∈ wsX20, w ∈ wsX8_length := fun _ h => List.mem_cons_of_mem _ (List.mem_append_left _ (List.mem_append_right _ h))
theorem inwX8_length_X5 : ∀ w ∈ wsX50, w ∈ wsX8_length := fun _ h => List.mem_cons_of_mem _ (List.mem_append_right _ h)
theorem hdX8_length : yX8_length.cls = RX8 ∧ yX8_length.cls ≠ "java/lang/invoke/MethodHandle" ∧ yX8_length.cls ≠ "java/lang/invoke/VarHandle" ∧ (parseMethodDescriptor yX8_length.desc).map (fun d => d.parameters.length) = some 0 := by decide +kernel
set_option maxRecDepth 100000 in
set_option maxHeartbeats 4000000 in
theorem c8_length (l : Launch) {D : va_G} {cI cW cZ cL : ClassId} {ad : Nat → Nat} (hJ : injA ad 90) (S : sC)  : kMi l yX8_length wsX8_length ({ frames := 1, cells := 0, slots := 0, locals := 20 }) D vwCl (tyL cI cW cZ cL) ad 90 [.ref (ad 0)] (PC cI cW ad S) (nI (S.1 17).length) (PC cI cW ad S) := by
  refine vv_enter (cc := cX8_length) (maxL := 1) (ret := (some .int)) (own := RX8) (lv := [(0, .ref (ad 0))]) (by decide +kernel) rfl rfl hJ (Nat.le_of_ble_eq_true rfl) rfl ?_
  intro p e s m args below meth c hC hK hW hr hlk
  refine vv_aload_n hC 0 dX8_length_0 rfl rfl (q := 1) rfl ?_
  refine vv_get hC hK (K := RX8) (T := TX8) (N := 9) (ci := 8) inwX8_length_X8 0 (kl8 (by decide +kernel)) (oc8 (by decide +kernel)) rfl 0 (by decide) (List.mem_of_getElem? (i := 1) rfl) rfl (v := .ref (ad 1)) rfl dX8_length_1 (q := 4) rfl ?_
  refine vv_callr hC hK (fun _ h => h) (As := []) 1 (kl2 (by decide +kernel)) (or2 (by decide +kernel)) rfl (c2_text l hJ S) (cwV 0 hC.2.2.2.2 gX8_length_X2_text rfl rfl rfl hdX2_text ⟨Nat.le_of_ble_eq_true rfl, Nat.le_of_ble_eq_true rfl⟩) rfl rfl (Nat.le_of_ble_eq_true rfl) ⟨Nat.le_of_ble_eq_true rfl, Nat.le_of_ble_eq_true rfl⟩ dX8_length_4 (q := 7) rfl ?_
  refine vv_calli hC hK (fun _ h => h) (As := []) 17 (kl5 (by decide +kernel)) (or5 (by decide +kernel)) rfl (c5_size l hJ S 17 (by decide +kernel)) (cwV 0 hC.2.2.2.2 gX8_length_X5_size rfl rfl rfl hdX5_size ⟨Nat.le_of_ble_eq_true rfl, Nat.le_of_ble_eq_true rfl⟩) rfl rfl (Nat.le_of_ble_eq_true rfl) ⟨Nat.le_of_ble_eq_true rfl, Nat.le_of_ble_eq_true rfl⟩ dX8_length_7 (q := 10) rfl ?_
  exact vv_iret hC hK hr hlk rfl (fun _ h => h) dX8_length_10
theorem inwX8_today_X8 : ∀ w ∈ wsX80, w ∈ wsX8_today := fun _ h => List.mem_cons_of_mem _ (List.mem_append_right _ h)
theorem hdX8_today : yX8_today.cls = RX8 ∧ yX8_today.cls ≠ "java/lang/invoke/MethodHandle" ∧ yX8_today.cls ≠ "java/lang/invoke/VarHandle" ∧ (parseMethodDescriptor yX8_today.desc).map (fun d => d.parameters.length) = some 0 := by decide +kernel
set_option maxRecDepth 100000 in
set_option maxHeartbeats 4000000 in
theorem c8_today (l : Launch) {D : va_G} {cI cW cZ cL : ClassId} {ad : Nat → Nat} (hJ : injA ad 90) (S : sC)  : kMi l yX8_today wsX8_today ({ frames := 0, cells := 0, slots := 0, locals := 0 }) D vwCl (tyL cI cW cZ cL) ad 90 [.ref (ad 0)] (PC cI cW ad S) S.2.2 (PC cI cW ad S) := by
  refine vv_enter (cc := cX8_today) (maxL := 1) (ret := (some .int)) (own := RX8) (lv := [(0, .ref (ad 0))]) (by decide +kernel) rfl rfl hJ (Nat.le_of_ble_eq_true rfl) rfl ?_
  intro p e s m args below meth c hC hK hW hr hlk
  refine vv_aload_n hC 0 dX8_today_0 rfl rfl (q := 1) rfl ?_
  refine vv_get hC hK (K := RX8) (T := TX8) (N := 9) (ci := 8) inwX8_today_X8 0 (kl8 (by decide +kernel)) (oc8 (by decide +kernel)) rfl 8 (by decide) (List.mem_of_getElem? (i := 1) rfl) rfl (v := .int S.2.2) rfl dX8_today_1 (q := 4) rfl ?_
  exact vv_iret hC hK hr hlk rfl (fun _ h => h) dX8_today_4
theorem inwX8_type_X8 : ∀ w ∈ wsX80, w ∈ wsX8_type := fun _ h => List.mem_cons_of_mem _ (List.mem_append_left _ (List.mem_append_left _ (List.mem_append_left _ (List.mem_append_left _ (List.mem_append_left _ (List.mem_append_left _ (List.mem_append_left _ (List.mem_append_right _ h))))))))
theorem inwX8_type_X7 : ∀ w ∈ wsX70, w ∈ wsX8_type := fun _ h => List.mem_cons_of_mem _ (List.mem_append_left _ (List.mem_append_left _ (List.mem_append_left _ (List.mem_append_left _ (List.mem_append_left _ (List.mem_append_left _ (List.mem_append_right _ h)))))))
theorem inwX8_type_X5 : ∀ w ∈ wsX50, w ∈ wsX8_type := fun _ h => List.mem_cons_of_mem _ (List.mem_append_left _ (List.mem_append_left _ (List.mem_append_left _ (List.mem_append_left _ (List.mem_append_left _ (List.mem_append_right _ h))))))
theorem inwX8_type_X6 : ∀ w ∈ wsX60, w ∈ wsX8_type := fun _ h => List.mem_cons_of_mem _ (List.mem_append_left _ (List.mem_append_left _ (List.mem_append_left _ (List.mem_append_left _ (List.mem_append_right _ h)))))
theorem inwX8_type_X0 : ∀ w ∈ wsX00, w ∈ wsX8_type := fun _ h => List.mem_cons_of_mem _ (List.mem_append_left _ (List.mem_append_left _ (List.mem_append_left _ (List.mem_append_right _ h))))
theorem hdX8_type : yX8_type.cls = RX8 ∧ yX8_type.cls ≠ "java/lang/invoke/MethodHandle" ∧ yX8_type.cls ≠ "java/lang/invoke/VarHandle" ∧ (parseMethodDescriptor yX8_type.desc).map (fun d => d.parameters.length) = some 3 := by decide +kernel
set_option maxRecDepth 100000 in
set_option maxHeartbeats 4000000 in
theorem c8_type (l : Launch) {D : va_G} {cI cW cZ cL : ClassId} {ad : Nat → Nat} (hJ : injA ad 90) (hlst : l.stackTraces = false) (AX : Nat → Prop) (z : Nat) (S : sC) (w pp x : Int32) : kXi l yX8_type wsX8_type ({ frames := 8, cells := 4, slots := 24, locals := 132 }) D vwCl (tyL cI cW cZ cL) ad 90 AX z [.ref (ad 0), .int w, .int pp, .int x] (PC cI cW ad S) (tType S w pp x) (rType S w pp x) (PC cI cW ad (sType S w pp x)) 4 24 := by
  refine vv_enterX (cc := cX8_type) (maxL := 7) (ret := (some .int)) (own := RX8) (lv := [(0, .ref (ad 0)), (1, .int w), (2, .int pp), (3, .int x)]) (by decide +kernel) rfl rfl hJ (Nat.le_of_ble_eq_true rfl) rfl ?_
  intro p e s m args below meth c hC hK hW hr hlk hsz hAX hE hout
  refine vv_aload_n hC 0 dX8_type_0 rfl rfl (q := 1) rfl ?_
  refine vv_iload_n hC 1 dX8_type_1 rfl rfl (q := 2) rfl ?_
  refine vv_xcallr hC hK hlk hout hE hAX (fun _ h9 => RAs.mono (by rw [← hsz]; exact h9)) (As := [.int w]) 0 (kl8 (by decide +kernel)) (or8 (by decide +kernel)) rfl (fun z => c8_writerAt l hJ hlst AX z S w) (cwV 1 hC.2.2.2.2 gX8_type_X8_writerAt rfl rfl rfl hdX8_writerAt ⟨Nat.le_of_ble_eq_true rfl, Nat.le_of_ble_eq_true rfl⟩) rfl rfl (Nat.le_of_ble_eq_true rfl) ⟨Nat.le_of_ble_eq_true rfl, Nat.le_of_ble_eq_true rfl⟩ ⟨Nat.le_of_ble_eq_true rfl, Nat.le_of_ble_eq_true rfl⟩ (fun _ h => h) (fun h9 => by simp only [tType, tor_ne _ h9, tor_0, tor_3, tor_2, tB2, tB3, tSt, tArg, Bool.not_false, Bool.not_true, if_true, if_false, Bool.false_eq_true, reduceIte]) dX8_type_2 (q := 5) rfl (fun t2 => ?_)
  have hk := kdWi t2
  change kd (pW w) = 7 at hk
  refine vv_astore hC (i := 4) (lv' := [(4, .ref (ad (pW w))), (0, .ref (ad 0)), (1, .int w), (2, .int pp), (3, .int x)]) dX8_type_5 (by decide) rfl (q := 7) rfl ?_
  refine vv_iload_n hC 3 dX8_type_7 rfl rfl (q := 8) rfl ?_
  refine vv_aload hC 0 dX8_type_8 rfl (q := 10) rfl ?_
  refine vv_callr hC hK (fun _ h => Or.inl h) (As := []) (pW w) (kl7 hk) (or7 hk) rfl (c7_copied l hJ S (pW w) hk) (cwV 0 hC.2.2.2.2 gX8_type_X7_copied rfl rfl rfl hdX7_copied ⟨Nat.le_of_ble_eq_true rfl, Nat.le_of_ble_eq_true rfl⟩) rfl rfl (Nat.le_of_ble_eq_true rfl) ⟨Nat.le_of_ble_eq_true rfl, Nat.le_of_ble_eq_true rfl⟩ dX8_type_10 (q := 13) rfl ?_
  refine vv_calli hC hK (fun _ h => Or.inl h) (As := []) ((pW w) + 1) (kl5 (kd7 _ (kl7 hk) hk).1) (or5 (kd7 _ (kl7 hk) hk).1) rfl (c5_size l hJ S ((pW w) + 1) (kd7 _ (kl7 hk) hk).1) (cwV 0 hC.2.2.2.2 gX8_type_X5_size rfl rfl rfl hdX5_size ⟨Nat.le_of_ble_eq_true rfl, Nat.le_of_ble_eq_true rfl⟩) rfl rfl (Nat.le_of_ble_eq_true rfl) ⟨Nat.le_of_ble_eq_true rfl, Nat.le_of_ble_eq_true rfl⟩ dX8_type_13 (q := 16) rfl ?_
  refine vv_iconst hC (v := 1) dX8_type_16 rfl (q := 17) rfl ?_
  refine vv_iadd hC dX8_type_17 (q := 18) rfl ?_
  refine vv_xcallsv hC hK hlk hout hE hAX (fun _ h9 => RAs.mono (by rw [← hsz]; exact h9)) (As := [.int pp, .int ((nI (S.1 ((pW w) + 1)).length) + 1)]) (fun z => c8_requireIndex l hJ hlst AX z S pp ((nI (S.1 ((pW w) + 1)).length) + 1)) (va_cwS 2 hC.2.2.2.2 gX8_type_X8_requireIndex rfl rfl rfl hsX8_requireIndex ⟨Nat.le_of_ble_eq_true rfl, Nat.le_of_ble_eq_true rfl⟩) rfl rfl (Nat.le_of_ble_eq_true rfl) ⟨Nat.le_of_ble_eq_true rfl, Nat.le_of_ble_eq_true rfl⟩ ⟨Nat.le_of_ble_eq_true rfl, Nat.le_of_ble_eq_true rfl⟩ (fun _ h => h) (fun h9 => by simp only [tType, t2, tor_ne _ h9, tor_0, tor_3, tor_2, tB2, tB3, tSt, tArg, Bool.not_false, Bool.not_true, if_true, if_false, Bool.false_eq_true, reduceIte]) dX8_type_18 (q := 21) rfl (fun t18 => ?_)
  refine vv_iload_n hC 4 dX8_type_21 rfl rfl (q := 22) rfl ?_
  refine vv_iconst hC (v := 0) dX8_type_22 rfl (q := 23) rfl ?_
  refine vv_sipush hC (v := 999) dX8_type_23 rfl (q := 26) rfl ?_
  refine vv_xcallsv hC hK hlk hout hE hAX (fun _ h9 => RAs.mono (by rw [← hsz]; exact h9)) (As := [.int x, .int 0, .int 999]) (fun z => c8_requireRange l hJ hlst AX z S x 0 999) (va_cwS 3 hC.2.2.2.2 gX8_type_X8_requireRange rfl rfl rfl hsX8_requireRange ⟨Nat.le_of_ble_eq_true rfl, Nat.le_of_ble_eq_true rfl⟩) rfl rfl (Nat.le_of_ble_eq_true rfl) ⟨Nat.le_of_ble_eq_true rfl, Nat.le_of_ble_eq_true rfl⟩ ⟨Nat.le_of_ble_eq_true rfl, Nat.le_of_ble_eq_true rfl⟩ (fun _ h => h) (fun h9 => by simp only [tType, t2, t18, tor_ne _ h9, tor_0, tor_3, tor_2, tB2, tB3, tSt, tArg, Bool.not_false, Bool.not_true, if_true, if_false, Bool.false_eq_true, reduceIte]) dX8_type_26 (q := 29) rfl (fun t26 => ?_)
  refine vv_aload_n hC 1 dX8_type_29 rfl rfl (q := 30) rfl ?_
  refine vv_get hC hK (K := RX8) (T := TX8) (N := 9) (ci := 8) inwX8_type_X8 0 (kl8 (by decide +kernel)) (oc8 (by decide +kernel)) rfl 1 (by decide) (List.mem_of_getElem? (i := 1) rfl) rfl (v := .ref (ad 2)) rfl dX8_type_30 (q := 33) rfl ?_
  refine vv_calli hC hK (fun _ h => Or.inl h) (As := []) 2 (kl6 (by decide +kernel)) (or6 (by decide +kernel)) rfl (c6_count l hJ S) (cwV 0 hC.2.2.2.2 gX8_type_X6_count rfl rfl rfl hdX6_count ⟨Nat.le_of_ble_eq_true rfl, Nat.le_of_ble_eq_true rfl⟩) rfl rfl (Nat.le_of_ble_eq_true rfl) ⟨Nat.le_of_ble_eq_true rfl, Nat.le_of_ble_eq_true rfl⟩ dX8_type_33 (q := 36) rfl ?_
  refine vv_sipush hC (v := 300) dX8_type_36 rfl (q := 39) rfl ?_
  refine vv_icmp_ge hC (tgt := 46) dX8_type_39 (by decide) (q := 42) rfl (fun h39 => ?_) (fun h39 => ?_)
  · skip
    refine vv_iconst hC (v := 0) dX8_type_46 rfl (q := 47) rfl ?_
    refine vv_xcallsv hC hK hlk hout hE hAX (fun _ h9 => RAs.mono (by rw [← hsz]; exact h9)) (As := [.int 0]) (fun z => c8_requireState l hJ hlst AX z S 0) (va_cwS 1 hC.2.2.2.2 gX8_type_X8_requireState rfl rfl rfl hsX8_requireState ⟨Nat.le_of_ble_eq_true rfl, Nat.le_of_ble_eq_true rfl⟩) rfl rfl (Nat.le_of_ble_eq_true rfl) ⟨Nat.le_of_ble_eq_true rfl, Nat.le_of_ble_eq_true rfl⟩ ⟨Nat.le_of_ble_eq_true rfl, Nat.le_of_ble_eq_true rfl⟩ (fun _ h => h) (fun h9 => by simp only [tType, t2, t18, t26, decide_eq_true h39, tor_ne _ h9, tor_0, tor_3, tor_2, tB2, tB3, tSt, tArg, Bool.not_false, Bool.not_true, if_true, if_false, Bool.false_eq_true, reduceIte]) dX8_type_47 (q := 50) rfl (fun t47 => ?_)
    exact absurd t47 (by decide)
  · skip
    refine vv_iconst hC (v := 1) dX8_type_42 rfl (q := 43) rfl ?_
    refine vv_goto hC (tgt := 47) dX8_type_43 (by decide) ?_
    refine vv_xcallsv hC hK hlk hout hE hAX (fun _ h9 => RAs.mono (by rw [← hsz]; exact h9)) (As := [.int 1]) (fun z => c8_requireState l hJ hlst AX z S 1) (va_cwS 1 hC.2.2.2.2 gX8_type_X8_requireState rfl rfl rfl hsX8_requireState ⟨Nat.le_of_ble_eq_true rfl, Nat.le_of_ble_eq_true rfl⟩) rfl rfl (Nat.le_of_ble_eq_true rfl) ⟨Nat.le_of_ble_eq_true rfl, Nat.le_of_ble_eq_true rfl⟩ ⟨Nat.le_of_ble_eq_true rfl, Nat.le_of_ble_eq_true rfl⟩ (fun _ h => h) (fun h9 => absurd rfl h9) dX8_type_47 (q := 50) rfl (fun t47 => ?_)
    refine vv_aload hC 0 dX8_type_50 rfl (q := 52) rfl ?_
    refine vv_callr hC hK (fun _ h => Or.inl h) (As := []) (pW w) (kl7 hk) (or7 hk) rfl (c7_copied l hJ S (pW w) hk) (cwV 0 hC.2.2.2.2 gX8_type_X7_copied rfl rfl rfl hdX7_copied ⟨Nat.le_of_ble_eq_true rfl, Nat.le_of_ble_eq_true rfl⟩) rfl rfl (Nat.le_of_ble_eq_true rfl) ⟨Nat.le_of_ble_eq_true rfl, Nat.le_of_ble_eq_true rfl⟩ dX8_type_52 (q := 55) rfl ?_
    refine vv_iload_n hC 3 dX8_type_55 rfl rfl (q := 56) rfl ?_
    refine vv_iconst hC (v := 1) dX8_type_56 rfl (q := 57) rfl ?_
    refine vv_isub hC dX8_type_57 (q := 58) rfl ?_
    refine vv_calli hC hK (fun _ h => Or.inl h) (As := [.int (pp - 1)]) ((pW w) + 1) (kl5 (kd7 _ (kl7 hk) hk).1) (or5 (kd7 _ (kl7 hk) hk).1) rfl (c5_at l hJ S ((pW w) + 1) (kd7 _ (kl7 hk) hk).1 (pp - 1)) (cwV 1 hC.2.2.2.2 gX8_type_X5_at rfl rfl rfl hdX5_at ⟨Nat.le_of_ble_eq_true rfl, Nat.le_of_ble_eq_true rfl⟩) rfl rfl (Nat.le_of_ble_eq_true rfl) ⟨Nat.le_of_ble_eq_true rfl, Nat.le_of_ble_eq_true rfl⟩ dX8_type_58 (q := 61) rfl ?_
    refine vv_istore hC (i := 5) (lv' := [(5, .int (rAt (S.1 ((pW w) + 1)) (pp - 1))), (4, .ref (ad (pW w))), (0, .ref (ad 0)), (1, .int w), (2, .int pp), (3, .int x)]) dX8_type_61 (by decide) rfl (q := 63) rfl ?_
    refine vv_aload_n hC 2 dX8_type_63 rfl rfl (q := 64) rfl ?_
    refine vv_get hC hK (K := RX8) (T := TX8) (N := 9) (ci := 8) inwX8_type_X8 0 (kl8 (by decide +kernel)) (oc8 (by decide +kernel)) rfl 1 (by decide) (List.mem_of_getElem? (i := 1) rfl) rfl (v := .ref (ad 2)) rfl dX8_type_64 (q := 67) rfl ?_
    refine vv_iload_n hC 3 dX8_type_67 rfl rfl (q := 68) rfl ?_
    refine vv_iload_n hC 5 dX8_type_68 rfl rfl (q := 69) rfl ?_
    refine vv_iload hC 0 dX8_type_69 rfl (q := 71) rfl ?_
    refine vv_calli hC hK (fun _ h => Or.inl h) (As := [.int w, .int x, .int (rAt (S.1 ((pW w) + 1)) (pp - 1))]) 2 (kl6 (by decide +kernel)) (or6 (by decide +kernel)) rfl (c6_add l hJ S w x (rAt (S.1 ((pW w) + 1)) (pp - 1))) (cwV 3 hC.2.2.2.2 gX8_type_X6_add rfl rfl rfl hdX6_add ⟨Nat.le_of_ble_eq_true rfl, Nat.le_of_ble_eq_true rfl⟩) rfl rfl (Nat.le_of_ble_eq_true rfl) ⟨Nat.le_of_ble_eq_true rfl, Nat.le_of_ble_eq_true rfl⟩ dX8_type_71 (q := 74) rfl ?_
    refine vv_istore hC (i := 6) (lv' := [(6, .int (nI ((wAdd S w x (rAt (S.1 ((pW w) + 1)) (pp - 1))).1 3).length - 1)), (5, .int (rAt (S.1 ((pW w) + 1)) (pp - 1))), (4, .ref (ad (pW w))), (0, .ref (ad 0)), (1, .int w), (2, .int pp), (3, .int x)]) dX8_type_74 (by decide) rfl (q := 76) rfl ?_
    refine vv_aload hC 2 dX8_type_76 rfl (q := 78) rfl ?_
    refine vv_iload_n hC 5 dX8_type_78 rfl rfl (q := 79) rfl ?_
    refine vv_iload hC 0 dX8_type_79 rfl (q := 81) rfl ?_
    refine vv_callv hC hK (fun _ h => Or.inl h) (As := [.int pp, .int (nI ((wAdd S w x (rAt (S.1 ((pW w) + 1)) (pp - 1))).1 3).length - 1)]) (pW w) (kl7 hk) (or7 hk) rfl (c7_putIn l hJ (wAdd S w x (rAt (S.1 ((pW w) + 1)) (pp - 1))) (pW w) hk pp (nI ((wAdd S w x (rAt (S.1 ((pW w) + 1)) (pp - 1))).1 3).length - 1)) (cwV 2 hC.2.2.2.2 gX8_type_X7_putIn rfl rfl rfl hdX7_putIn ⟨Nat.le_of_ble_eq_true rfl, Nat.le_of_ble_eq_true rfl⟩) rfl rfl (Nat.le_of_ble_eq_true rfl) ⟨Nat.le_of_ble_eq_true rfl, Nat.le_of_ble_eq_true rfl⟩ dX8_type_81 (q := 84) rfl ?_
    refine vv_iload hC 0 dX8_type_84 rfl (q := 86) rfl ?_
    exact vv_xiret hC hK hr hlk (by simp only [tType, t2, t18, t26, decide_eq_false h39, tor_0, tor_3, tor_2, tB2, tB3, tSt, tArg, Bool.not_false, Bool.not_true, if_true, if_false, Bool.false_eq_true, reduceIte]) rfl ⟨Nat.le_of_ble_eq_true rfl, Nat.le_of_ble_eq_true rfl⟩ (fun _ h => h) dX8_type_86
theorem inwX8_delete_X8 : ∀ w ∈ wsX80, w ∈ wsX8_delete := fun _ h => List.mem_cons_of_mem _ (List.mem_append_left _ (List.mem_append_left _ (List.mem_append_left _ (List.mem_append_left _ (List.mem_append_right _ h)))))
theorem inwX8_delete_X7 : ∀ w ∈ wsX70, w ∈ wsX8_delete := fun _ h => List.mem_cons_of_mem _ (List.mem_append_left _ (List.mem_append_left _ (List.mem_append_left _ (List.mem_append_right _ h))))
theorem inwX8_delete_X5 : ∀ w ∈ wsX50, w ∈ wsX8_delete := fun _ h => List.mem_cons_of_mem _ (List.mem_append_left _ (List.mem_append_left _ (List.mem_append_right _ h)))
theorem inwX8_delete_X0 : ∀ w ∈ wsX00, w ∈ wsX8_delete := fun _ h => List.mem_cons_of_mem _ (List.mem_append_left _ (List.mem_append_right _ h))
theorem hdX8_delete : yX8_delete.cls = RX8 ∧ yX8_delete.cls ≠ "java/lang/invoke/MethodHandle" ∧ yX8_delete.cls ≠ "java/lang/invoke/VarHandle" ∧ (parseMethodDescriptor yX8_delete.desc).map (fun d => d.parameters.length) = some 2 := by decide +kernel
set_option maxRecDepth 100000 in
set_option maxHeartbeats 4000000 in
theorem c8_delete (l : Launch) {D : va_G} {cI cW cZ cL : ClassId} {ad : Nat → Nat} (hJ : injA ad 90) (hlst : l.stackTraces = false) (AX : Nat → Prop) (z : Nat) (S : sC) (w pp : Int32) : kXi l yX8_delete wsX8_delete ({ frames := 7, cells := 2, slots := 12, locals := 126 }) D vwCl (tyL cI cW cZ cL) ad 90 AX z [.ref (ad 0), .int w, .int pp] (PC cI cW ad S) (tCopyAt S w pp) (rAt (S.1 (pW w + 1)) pp) (PC cI cW ad (wTake S (pW w) pp)) 2 12 := by
  refine vv_enterX (cc := cX8_delete) (maxL := 4) (ret := (some .int)) (own := RX8) (lv := [(0, .ref (ad 0)), (1, .int w), (2, .int pp)]) (by decide +kernel) rfl rfl hJ (Nat.le_of_ble_eq_true rfl) rfl ?_
  intro p e s m args below meth c hC hK hW hr hlk hsz hAX hE hout
  refine vv_aload_n hC 0 dX8_delete_0 rfl rfl (q := 1) rfl ?_
  refine vv_iload_n hC 1 dX8_delete_1 rfl rfl (q := 2) rfl ?_
  refine vv_xcallr hC hK hlk hout hE hAX (fun _ h9 => RAs.mono (by rw [← hsz]; exact h9)) (As := [.int w]) 0 (kl8 (by decide +kernel)) (or8 (by decide +kernel)) rfl (fun z => c8_writerAt l hJ hlst AX z S w) (cwV 1 hC.2.2.2.2 gX8_delete_X8_writerAt rfl rfl rfl hdX8_writerAt ⟨Nat.le_of_ble_eq_true rfl, Nat.le_of_ble_eq_true rfl⟩) rfl rfl (Nat.le_of_ble_eq_true rfl) ⟨Nat.le_of_ble_eq_true rfl, Nat.le_of_ble_eq_true rfl⟩ ⟨Nat.le_of_ble_eq_true rfl, Nat.le_of_ble_eq_true rfl⟩ (fun _ h => h) (fun h9 => by simp only [tCopyAt, tor_ne _ h9, tor_0, tor_3, tor_2, tB2, tB3, tSt, tArg, Bool.not_false, Bool.not_true, if_true, if_false, Bool.false_eq_true, reduceIte]) dX8_delete_2 (q := 5) rfl (fun t2 => ?_)
  have hk := kdWi t2
  change kd (pW w) = 7 at hk
  refine vv_astore_n hC (i := 3) (lv' := [(3, .ref (ad (pW w))), (0, .ref (ad 0)), (1, .int w), (2, .int pp)]) dX8_delete_5 rfl (by decide) rfl (q := 6) rfl ?_
  refine vv_iload_n hC 3 dX8_delete_6 rfl rfl (q := 7) rfl ?_
  refine vv_aload_n hC 0 dX8_delete_7 rfl rfl (q := 8) rfl ?_
  refine vv_callr hC hK (fun _ h => Or.inl h) (As := []) (pW w) (kl7 hk) (or7 hk) rfl (c7_copied l hJ S (pW w) hk) (cwV 0 hC.2.2.2.2 gX8_delete_X7_copied rfl rfl rfl hdX7_copied ⟨Nat.le_of_ble_eq_true rfl, Nat.le_of_ble_eq_true rfl⟩) rfl rfl (Nat.le_of_ble_eq_true rfl) ⟨Nat.le_of_ble_eq_true rfl, Nat.le_of_ble_eq_true rfl⟩ dX8_delete_8 (q := 11) rfl ?_
  refine vv_calli hC hK (fun _ h => Or.inl h) (As := []) ((pW w) + 1) (kl5 (kd7 _ (kl7 hk) hk).1) (or5 (kd7 _ (kl7 hk) hk).1) rfl (c5_size l hJ S ((pW w) + 1) (kd7 _ (kl7 hk) hk).1) (cwV 0 hC.2.2.2.2 gX8_delete_X5_size rfl rfl rfl hdX5_size ⟨Nat.le_of_ble_eq_true rfl, Nat.le_of_ble_eq_true rfl⟩) rfl rfl (Nat.le_of_ble_eq_true rfl) ⟨Nat.le_of_ble_eq_true rfl, Nat.le_of_ble_eq_true rfl⟩ dX8_delete_11 (q := 14) rfl ?_
  refine vv_xcallsv hC hK hlk hout hE hAX (fun _ h9 => RAs.mono (by rw [← hsz]; exact h9)) (As := [.int pp, .int (nI (S.1 ((pW w) + 1)).length)]) (fun z => c8_requireIndex l hJ hlst AX z S pp (nI (S.1 ((pW w) + 1)).length)) (va_cwS 2 hC.2.2.2.2 gX8_delete_X8_requireIndex rfl rfl rfl hsX8_requireIndex ⟨Nat.le_of_ble_eq_true rfl, Nat.le_of_ble_eq_true rfl⟩) rfl rfl (Nat.le_of_ble_eq_true rfl) ⟨Nat.le_of_ble_eq_true rfl, Nat.le_of_ble_eq_true rfl⟩ ⟨Nat.le_of_ble_eq_true rfl, Nat.le_of_ble_eq_true rfl⟩ (fun _ h => h) (fun h9 => by simp only [tCopyAt, t2, tor_ne _ h9, tor_0, tor_3, tor_2, tB2, tB3, tSt, tArg, Bool.not_false, Bool.not_true, if_true, if_false, Bool.false_eq_true, reduceIte]) dX8_delete_14 (q := 17) rfl (fun t14 => ?_)
  refine vv_aload_n hC 0 dX8_delete_17 rfl rfl (q := 18) rfl ?_
  refine vv_iload_n hC 3 dX8_delete_18 rfl rfl (q := 19) rfl ?_
  refine vv_calli hC hK (fun _ h => Or.inl h) (As := [.int pp]) (pW w) (kl7 hk) (or7 hk) rfl (c7_takeOut l hJ S (pW w) hk pp) (cwV 1 hC.2.2.2.2 gX8_delete_X7_takeOut rfl rfl rfl hdX7_takeOut ⟨Nat.le_of_ble_eq_true rfl, Nat.le_of_ble_eq_true rfl⟩) rfl rfl (Nat.le_of_ble_eq_true rfl) ⟨Nat.le_of_ble_eq_true rfl, Nat.le_of_ble_eq_true rfl⟩ dX8_delete_19 (q := 22) rfl ?_
  exact vv_xiret hC hK hr hlk (by simp only [tCopyAt, t2, t14, tor_0, tor_3, tor_2, tB2, tB3, tSt, tArg, Bool.not_false, Bool.not_true, if_true, if_false, Bool.false_eq_true, reduceIte]) rfl ⟨Nat.le_of_ble_eq_true rfl, Nat.le_of_ble_eq_true rfl⟩ (fun _ h => h) dX8_delete_22
theorem inwX8_merge_X8 : ∀ w ∈ wsX80, w ∈ wsX8_merge := fun _ h => List.mem_cons_of_mem _ (List.mem_append_left _ (List.mem_append_left _ (List.mem_append_left _ (List.mem_append_left _ (List.mem_append_left _ (List.mem_append_left _ (List.mem_append_right _ h)))))))
theorem inwX8_merge_X7 : ∀ w ∈ wsX70, w ∈ wsX8_merge := fun _ h => List.mem_cons_of_mem _ (List.mem_append_left _ (List.mem_append_left _ (List.mem_append_left _ (List.mem_append_left _ (List.mem_append_left _ (List.mem_append_right _ h))))))
theorem inwX8_merge_X0 : ∀ w ∈ wsX00, w ∈ wsX8_merge := fun _ h => List.mem_cons_of_mem _ (List.mem_append_left _ (List.mem_append_left _ (List.mem_append_left _ (List.mem_append_left _ (List.mem_append_right _ h)))))
theorem inwX8_merge_X5 : ∀ w ∈ wsX50, w ∈ wsX8_merge := fun _ h => List.mem_cons_of_mem _ (List.mem_append_left _ (List.mem_append_left _ (List.mem_append_left _ (List.mem_append_right _ h))))
theorem inwX8_merge_X2 : ∀ w ∈ wsX20, w ∈ wsX8_merge := fun _ h => List.mem_cons_of_mem _ (List.mem_append_left _ (List.mem_append_left _ (List.mem_append_right _ h)))
theorem inwX8_merge_X6 : ∀ w ∈ wsX60, w ∈ wsX8_merge := fun _ h => List.mem_cons_of_mem _ (List.mem_append_left _ (List.mem_append_right _ h))
theorem hdX8_merge : yX8_merge.cls = RX8 ∧ yX8_merge.cls ≠ "java/lang/invoke/MethodHandle" ∧ yX8_merge.cls ≠ "java/lang/invoke/VarHandle" ∧ (parseMethodDescriptor yX8_merge.desc).map (fun d => d.parameters.length) = some 1 := by decide +kernel
set_option maxRecDepth 100000 in
set_option maxHeartbeats 4000000 in
theorem c8_merge (l : Launch) {D : va_G} {cI cW cZ cL : ClassId} {ad : Nat → Nat} (hJ : injA ad 90) (hlst : l.stackTraces = false) (AX : Nat → Prop) (z : Nat) (S : sC) (w : Int32) : kXi l yX8_merge wsX8_merge ({ frames := 7, cells := 1, slots := 6, locals := 152 }) D vwCl (tyL cI cW cZ cL) ad 90 AX z [.ref (ad 0), .int w] (PC cI cW ad S) (tIx w 6) (nI (mrg S (pW w)).1) (PC cI cW ad (sMerge S w)) 1 6 := by
  refine vv_enterX (cc := cX8_merge) (maxL := 2) (ret := (some .int)) (own := RX8) (lv := [(0, .ref (ad 0)), (1, .int w)]) (by decide +kernel) rfl rfl hJ (Nat.le_of_ble_eq_true rfl) rfl ?_
  intro p e s m args below meth c hC hK hW hr hlk hsz hAX hE hout
  refine vv_aload_n hC 0 dX8_merge_0 rfl rfl (q := 1) rfl ?_
  refine vv_iload_n hC 1 dX8_merge_1 rfl rfl (q := 2) rfl ?_
  refine vv_xcallr hC hK hlk hout hE hAX (fun _ h9 => RAs.mono (by rw [← hsz]; exact h9)) (As := [.int w]) 0 (kl8 (by decide +kernel)) (or8 (by decide +kernel)) rfl (fun z => c8_writerAt l hJ hlst AX z S w) (cwV 1 hC.2.2.2.2 gX8_merge_X8_writerAt rfl rfl rfl hdX8_writerAt ⟨Nat.le_of_ble_eq_true rfl, Nat.le_of_ble_eq_true rfl⟩) rfl rfl (Nat.le_of_ble_eq_true rfl) ⟨Nat.le_of_ble_eq_true rfl, Nat.le_of_ble_eq_true rfl⟩ ⟨Nat.le_of_ble_eq_true rfl, Nat.le_of_ble_eq_true rfl⟩ (fun _ h => h) (fun h9 => by simp only [tIx, tor_ne _ h9, tor_0, tor_3, tor_2, tB2, tB3, tSt, tArg, Bool.not_false, Bool.not_true, if_true, if_false, Bool.false_eq_true, reduceIte]) dX8_merge_2 (q := 5) rfl (fun t2 => ?_)
  have hk := kdWi t2
  change kd (pW w) = 7 at hk
  refine vv_aload_n hC 0 dX8_merge_5 rfl rfl (q := 6) rfl ?_
  refine vv_get hC hK (K := RX8) (T := TX8) (N := 9) (ci := 8) inwX8_merge_X8 0 (kl8 (by decide +kernel)) (oc8 (by decide +kernel)) rfl 0 (by decide) (List.mem_of_getElem? (i := 1) rfl) rfl (v := .ref (ad 1)) rfl dX8_merge_6 (q := 9) rfl ?_
  refine vv_calli hC hK (fun _ h => Or.inl h) (As := [.ref (ad 1)]) (pW w) (kl7 hk) (or7 hk) rfl (c7_mergeInto l hJ S (pW w) hk) (cwV 1 hC.2.2.2.2 gX8_merge_X7_mergeInto rfl rfl rfl hdX7_mergeInto ⟨Nat.le_of_ble_eq_true rfl, Nat.le_of_ble_eq_true rfl⟩) rfl rfl (Nat.le_of_ble_eq_true rfl) ⟨Nat.le_of_ble_eq_true rfl, Nat.le_of_ble_eq_true rfl⟩ dX8_merge_9 (q := 12) rfl ?_
  exact vv_xiret hC hK hr hlk t2 rfl ⟨Nat.le_of_ble_eq_true rfl, Nat.le_of_ble_eq_true rfl⟩ (fun _ h => h) dX8_merge_12
theorem inwX8_copy_X8 : ∀ w ∈ wsX80, w ∈ wsX8_copy := fun _ h => List.mem_cons_of_mem _ (List.mem_append_left _ (List.mem_append_left _ (List.mem_append_left _ (List.mem_append_right _ h))))
theorem inwX8_copy_X7 : ∀ w ∈ wsX70, w ∈ wsX8_copy := fun _ h => List.mem_cons_of_mem _ (List.mem_append_left _ (List.mem_append_left _ (List.mem_append_right _ h)))
theorem inwX8_copy_X5 : ∀ w ∈ wsX50, w ∈ wsX8_copy := fun _ h => List.mem_cons_of_mem _ (List.mem_append_left _ (List.mem_append_right _ h))
theorem hdX8_copy : yX8_copy.cls = RX8 ∧ yX8_copy.cls ≠ "java/lang/invoke/MethodHandle" ∧ yX8_copy.cls ≠ "java/lang/invoke/VarHandle" ∧ (parseMethodDescriptor yX8_copy.desc).map (fun d => d.parameters.length) = some 1 := by decide +kernel
set_option maxRecDepth 100000 in
set_option maxHeartbeats 4000000 in
theorem c8_copy (l : Launch) {D : va_G} {cI cW cZ cL : ClassId} {ad : Nat → Nat} (hJ : injA ad 90) (hlst : l.stackTraces = false) (AX : Nat → Prop) (z : Nat) (S : sC) (w : Int32) : kXi l yX8_copy wsX8_copy ({ frames := 7, cells := 1, slots := 6, locals := 112 }) D vwCl (tyL cI cW cZ cL) ad 90 AX z [.ref (ad 0), .int w] (PC cI cW ad S) (tIx w 6) (nI (S.1 (pW w + 1)).length) (PC cI cW ad S) 1 6 := by
  refine vv_enterX (cc := cX8_copy) (maxL := 2) (ret := (some .int)) (own := RX8) (lv := [(0, .ref (ad 0)), (1, .int w)]) (by decide +kernel) rfl rfl hJ (Nat.le_of_ble_eq_true rfl) rfl ?_
  intro p e s m args below meth c hC hK hW hr hlk hsz hAX hE hout
  refine vv_aload_n hC 0 dX8_copy_0 rfl rfl (q := 1) rfl ?_
  refine vv_iload_n hC 1 dX8_copy_1 rfl rfl (q := 2) rfl ?_
  refine vv_xcallr hC hK hlk hout hE hAX (fun _ h9 => RAs.mono (by rw [← hsz]; exact h9)) (As := [.int w]) 0 (kl8 (by decide +kernel)) (or8 (by decide +kernel)) rfl (fun z => c8_writerAt l hJ hlst AX z S w) (cwV 1 hC.2.2.2.2 gX8_copy_X8_writerAt rfl rfl rfl hdX8_writerAt ⟨Nat.le_of_ble_eq_true rfl, Nat.le_of_ble_eq_true rfl⟩) rfl rfl (Nat.le_of_ble_eq_true rfl) ⟨Nat.le_of_ble_eq_true rfl, Nat.le_of_ble_eq_true rfl⟩ ⟨Nat.le_of_ble_eq_true rfl, Nat.le_of_ble_eq_true rfl⟩ (fun _ h => h) (fun h9 => by simp only [tIx, tor_ne _ h9, tor_0, tor_3, tor_2, tB2, tB3, tSt, tArg, Bool.not_false, Bool.not_true, if_true, if_false, Bool.false_eq_true, reduceIte]) dX8_copy_2 (q := 5) rfl (fun t2 => ?_)
  have hk := kdWi t2
  change kd (pW w) = 7 at hk
  refine vv_callr hC hK (fun _ h => Or.inl h) (As := []) (pW w) (kl7 hk) (or7 hk) rfl (c7_copied l hJ S (pW w) hk) (cwV 0 hC.2.2.2.2 gX8_copy_X7_copied rfl rfl rfl hdX7_copied ⟨Nat.le_of_ble_eq_true rfl, Nat.le_of_ble_eq_true rfl⟩) rfl rfl (Nat.le_of_ble_eq_true rfl) ⟨Nat.le_of_ble_eq_true rfl, Nat.le_of_ble_eq_true rfl⟩ dX8_copy_5 (q := 8) rfl ?_
  refine vv_calli hC hK (fun _ h => Or.inl h) (As := []) ((pW w) + 1) (kl5 (kd7 _ (kl7 hk) hk).1) (or5 (kd7 _ (kl7 hk) hk).1) rfl (c5_size l hJ S ((pW w) + 1) (kd7 _ (kl7 hk) hk).1) (cwV 0 hC.2.2.2.2 gX8_copy_X5_size rfl rfl rfl hdX5_size ⟨Nat.le_of_ble_eq_true rfl, Nat.le_of_ble_eq_true rfl⟩) rfl rfl (Nat.le_of_ble_eq_true rfl) ⟨Nat.le_of_ble_eq_true rfl, Nat.le_of_ble_eq_true rfl⟩ dX8_copy_8 (q := 11) rfl ?_
  exact vv_xiret hC hK hr hlk t2 rfl ⟨Nat.le_of_ble_eq_true rfl, Nat.le_of_ble_eq_true rfl⟩ (fun _ h => h) dX8_copy_11
theorem inwX8_copyAt_X8 : ∀ w ∈ wsX80, w ∈ wsX8_copyAt := fun _ h => List.mem_cons_of_mem _ (List.mem_append_left _ (List.mem_append_left _ (List.mem_append_left _ (List.mem_append_right _ h))))
theorem inwX8_copyAt_X7 : ∀ w ∈ wsX70, w ∈ wsX8_copyAt := fun _ h => List.mem_cons_of_mem _ (List.mem_append_left _ (List.mem_append_left _ (List.mem_append_right _ h)))
theorem inwX8_copyAt_X5 : ∀ w ∈ wsX50, w ∈ wsX8_copyAt := fun _ h => List.mem_cons_of_mem _ (List.mem_append_left _ (List.mem_append_right _ h))
theorem hdX8_copyAt : yX8_copyAt.cls = RX8 ∧ yX8_copyAt.cls ≠ "java/lang/invoke/MethodHandle" ∧ yX8_copyAt.cls ≠ "java/lang/invoke/VarHandle" ∧ (parseMethodDescriptor yX8_copyAt.desc).map (fun d => d.parameters.length) = some 2 := by decide +kernel
set_option maxRecDepth 100000 in
set_option maxHeartbeats 4000000 in
theorem c8_copyAt (l : Launch) {D : va_G} {cI cW cZ cL : ClassId} {ad : Nat → Nat} (hJ : injA ad 90) (hlst : l.stackTraces = false) (AX : Nat → Prop) (z : Nat) (S : sC) (w pp : Int32) : kXi l yX8_copyAt wsX8_copyAt ({ frames := 7, cells := 2, slots := 12, locals := 112 }) D vwCl (tyL cI cW cZ cL) ad 90 AX z [.ref (ad 0), .int w, .int pp] (PC cI cW ad S) (tCopyAt S w pp) (rAt (S.1 (pW w + 1)) pp) (PC cI cW ad S) 2 12 := by
  refine vv_enterX (cc := cX8_copyAt) (maxL := 4) (ret := (some .int)) (own := RX8) (lv := [(0, .ref (ad 0)), (1, .int w), (2, .int pp)]) (by decide +kernel) rfl rfl hJ (Nat.le_of_ble_eq_true rfl) rfl ?_
  intro p e s m args below meth c hC hK hW hr hlk hsz hAX hE hout
  refine vv_aload_n hC 0 dX8_copyAt_0 rfl rfl (q := 1) rfl ?_
  refine vv_iload_n hC 1 dX8_copyAt_1 rfl rfl (q := 2) rfl ?_
  refine vv_xcallr hC hK hlk hout hE hAX (fun _ h9 => RAs.mono (by rw [← hsz]; exact h9)) (As := [.int w]) 0 (kl8 (by decide +kernel)) (or8 (by decide +kernel)) rfl (fun z => c8_writerAt l hJ hlst AX z S w) (cwV 1 hC.2.2.2.2 gX8_copyAt_X8_writerAt rfl rfl rfl hdX8_writerAt ⟨Nat.le_of_ble_eq_true rfl, Nat.le_of_ble_eq_true rfl⟩) rfl rfl (Nat.le_of_ble_eq_true rfl) ⟨Nat.le_of_ble_eq_true rfl, Nat.le_of_ble_eq_true rfl⟩ ⟨Nat.le_of_ble_eq_true rfl, Nat.le_of_ble_eq_true rfl⟩ (fun _ h => h) (fun h9 => by simp only [tCopyAt, tor_ne _ h9, tor_0, tor_3, tor_2, tB2, tB3, tSt, tArg, Bool.not_false, Bool.not_true, if_true, if_false, Bool.false_eq_true, reduceIte]) dX8_copyAt_2 (q := 5) rfl (fun t2 => ?_)
  have hk := kdWi t2
  change kd (pW w) = 7 at hk
  refine vv_callr hC hK (fun _ h => Or.inl h) (As := []) (pW w) (kl7 hk) (or7 hk) rfl (c7_copied l hJ S (pW w) hk) (cwV 0 hC.2.2.2.2 gX8_copyAt_X7_copied rfl rfl rfl hdX7_copied ⟨Nat.le_of_ble_eq_true rfl, Nat.le_of_ble_eq_true rfl⟩) rfl rfl (Nat.le_of_ble_eq_true rfl) ⟨Nat.le_of_ble_eq_true rfl, Nat.le_of_ble_eq_true rfl⟩ dX8_copyAt_5 (q := 8) rfl ?_
  refine vv_astore_n hC (i := 3) (lv' := [(3, .ref (ad ((pW w) + 1))), (0, .ref (ad 0)), (1, .int w), (2, .int pp)]) dX8_copyAt_8 rfl (by decide) rfl (q := 9) rfl ?_
  refine vv_iload_n hC 3 dX8_copyAt_9 rfl rfl (q := 10) rfl ?_
  refine vv_aload_n hC 0 dX8_copyAt_10 rfl rfl (q := 11) rfl ?_
  refine vv_calli hC hK (fun _ h => Or.inl h) (As := []) ((pW w) + 1) (kl5 (kd7 _ (kl7 hk) hk).1) (or5 (kd7 _ (kl7 hk) hk).1) rfl (c5_size l hJ S ((pW w) + 1) (kd7 _ (kl7 hk) hk).1) (cwV 0 hC.2.2.2.2 gX8_copyAt_X5_size rfl rfl rfl hdX5_size ⟨Nat.le_of_ble_eq_true rfl, Nat.le_of_ble_eq_true rfl⟩) rfl rfl (Nat.le_of_ble_eq_true rfl) ⟨Nat.le_of_ble_eq_true rfl, Nat.le_of_ble_eq_true rfl⟩ dX8_copyAt_11 (q := 14) rfl ?_
  refine vv_xcallsv hC hK hlk hout hE hAX (fun _ h9 => RAs.mono (by rw [← hsz]; exact h9)) (As := [.int pp, .int (nI (S.1 ((pW w) + 1)).length)]) (fun z => c8_requireIndex l hJ hlst AX z S pp (nI (S.1 ((pW w) + 1)).length)) (va_cwS 2 hC.2.2.2.2 gX8_copyAt_X8_requireIndex rfl rfl rfl hsX8_requireIndex ⟨Nat.le_of_ble_eq_true rfl, Nat.le_of_ble_eq_true rfl⟩) rfl rfl (Nat.le_of_ble_eq_true rfl) ⟨Nat.le_of_ble_eq_true rfl, Nat.le_of_ble_eq_true rfl⟩ ⟨Nat.le_of_ble_eq_true rfl, Nat.le_of_ble_eq_true rfl⟩ (fun _ h => h) (fun h9 => by simp only [tCopyAt, t2, tor_ne _ h9, tor_0, tor_3, tor_2, tB2, tB3, tSt, tArg, Bool.not_false, Bool.not_true, if_true, if_false, Bool.false_eq_true, reduceIte]) dX8_copyAt_14 (q := 17) rfl (fun t14 => ?_)
  refine vv_aload_n hC 0 dX8_copyAt_17 rfl rfl (q := 18) rfl ?_
  refine vv_iload_n hC 3 dX8_copyAt_18 rfl rfl (q := 19) rfl ?_
  refine vv_calli hC hK (fun _ h => Or.inl h) (As := [.int pp]) ((pW w) + 1) (kl5 (kd7 _ (kl7 hk) hk).1) (or5 (kd7 _ (kl7 hk) hk).1) rfl (c5_at l hJ S ((pW w) + 1) (kd7 _ (kl7 hk) hk).1 pp) (cwV 1 hC.2.2.2.2 gX8_copyAt_X5_at rfl rfl rfl hdX5_at ⟨Nat.le_of_ble_eq_true rfl, Nat.le_of_ble_eq_true rfl⟩) rfl rfl (Nat.le_of_ble_eq_true rfl) ⟨Nat.le_of_ble_eq_true rfl, Nat.le_of_ble_eq_true rfl⟩ dX8_copyAt_19 (q := 22) rfl ?_
  exact vv_xiret hC hK hr hlk (by simp only [tCopyAt, t2, t14, tor_0, tor_3, tor_2, tB2, tB3, tSt, tArg, Bool.not_false, Bool.not_true, if_true, if_false, Bool.false_eq_true, reduceIte]) rfl ⟨Nat.le_of_ble_eq_true rfl, Nat.le_of_ble_eq_true rfl⟩ (fun _ h => h) dX8_copyAt_22
theorem inwX8_changes_X8 : ∀ w ∈ wsX80, w ∈ wsX8_changes := fun _ h => List.mem_cons_of_mem _ (List.mem_append_left _ (List.mem_append_left _ (List.mem_append_left _ (List.mem_append_left _ (List.mem_append_right _ h)))))
theorem inwX8_changes_X7 : ∀ w ∈ wsX70, w ∈ wsX8_changes := fun _ h => List.mem_cons_of_mem _ (List.mem_append_left _ (List.mem_append_left _ (List.mem_append_left _ (List.mem_append_right _ h))))
theorem inwX8_changes_X0 : ∀ w ∈ wsX00, w ∈ wsX8_changes := fun _ h => List.mem_cons_of_mem _ (List.mem_append_left _ (List.mem_append_left _ (List.mem_append_right _ h)))
theorem inwX8_changes_X5 : ∀ w ∈ wsX50, w ∈ wsX8_changes := fun _ h => List.mem_cons_of_mem _ (List.mem_append_left _ (List.mem_append_right _ h))
theorem hdX8_changes : yX8_changes.cls = RX8 ∧ yX8_changes.cls ≠ "java/lang/invoke/MethodHandle" ∧ yX8_changes.cls ≠ "java/lang/invoke/VarHandle" ∧ (parseMethodDescriptor yX8_changes.desc).map (fun d => d.parameters.length) = some 1 := by decide +kernel
set_option maxRecDepth 100000 in
set_option maxHeartbeats 4000000 in
theorem c8_changes (l : Launch) {D : va_G} {cI cW cZ cL : ClassId} {ad : Nat → Nat} (hJ : injA ad 90) (hlst : l.stackTraces = false) (AX : Nat → Prop) (z : Nat) (S : sC) (w : Int32) : kXi l yX8_changes wsX8_changes ({ frames := 7, cells := 1, slots := 6, locals := 112 }) D vwCl (tyL cI cW cZ cL) ad 90 AX z [.ref (ad 0), .int w] (PC cI cW ad S) (tIx w 6) (nI (S.1 (pW w + 4)).length) (PC cI cW ad S) 1 6 := by
  refine vv_enterX (cc := cX8_changes) (maxL := 2) (ret := (some .int)) (own := RX8) (lv := [(0, .ref (ad 0)), (1, .int w)]) (by decide +kernel) rfl rfl hJ (Nat.le_of_ble_eq_true rfl) rfl ?_
  intro p e s m args below meth c hC hK hW hr hlk hsz hAX hE hout
  refine vv_aload_n hC 0 dX8_changes_0 rfl rfl (q := 1) rfl ?_
  refine vv_iload_n hC 1 dX8_changes_1 rfl rfl (q := 2) rfl ?_
  refine vv_xcallr hC hK hlk hout hE hAX (fun _ h9 => RAs.mono (by rw [← hsz]; exact h9)) (As := [.int w]) 0 (kl8 (by decide +kernel)) (or8 (by decide +kernel)) rfl (fun z => c8_writerAt l hJ hlst AX z S w) (cwV 1 hC.2.2.2.2 gX8_changes_X8_writerAt rfl rfl rfl hdX8_writerAt ⟨Nat.le_of_ble_eq_true rfl, Nat.le_of_ble_eq_true rfl⟩) rfl rfl (Nat.le_of_ble_eq_true rfl) ⟨Nat.le_of_ble_eq_true rfl, Nat.le_of_ble_eq_true rfl⟩ ⟨Nat.le_of_ble_eq_true rfl, Nat.le_of_ble_eq_true rfl⟩ (fun _ h => h) (fun h9 => by simp only [tIx, tor_ne _ h9, tor_0, tor_3, tor_2, tB2, tB3, tSt, tArg, Bool.not_false, Bool.not_true, if_true, if_false, Bool.false_eq_true, reduceIte]) dX8_changes_2 (q := 5) rfl (fun t2 => ?_)
  have hk := kdWi t2
  change kd (pW w) = 7 at hk
  refine vv_calli hC hK (fun _ h => Or.inl h) (As := []) (pW w) (kl7 hk) (or7 hk) rfl (c7_unmerged l hJ S (pW w) hk) (cwV 0 hC.2.2.2.2 gX8_changes_X7_unmerged rfl rfl rfl hdX7_unmerged ⟨Nat.le_of_ble_eq_true rfl, Nat.le_of_ble_eq_true rfl⟩) rfl rfl (Nat.le_of_ble_eq_true rfl) ⟨Nat.le_of_ble_eq_true rfl, Nat.le_of_ble_eq_true rfl⟩ dX8_changes_5 (q := 8) rfl ?_
  exact vv_xiret hC hK hr hlk t2 rfl ⟨Nat.le_of_ble_eq_true rfl, Nat.le_of_ble_eq_true rfl⟩ (fun _ h => h) dX8_changes_8
theorem inwX8_wordAt_X8 : ∀ w ∈ wsX80, w ∈ wsX8_wordAt := fun _ h => List.mem_cons_of_mem _ (List.mem_append_left _ (List.mem_append_left _ (List.mem_append_left _ (List.mem_append_right _ h))))
theorem inwX8_wordAt_X2 : ∀ w ∈ wsX20, w ∈ wsX8_wordAt := fun _ h => List.mem_cons_of_mem _ (List.mem_append_left _ (List.mem_append_left _ (List.mem_append_right _ h)))
theorem inwX8_wordAt_X5 : ∀ w ∈ wsX50, w ∈ wsX8_wordAt := fun _ h => List.mem_cons_of_mem _ (List.mem_append_left _ (List.mem_append_right _ h))
theorem hdX8_wordAt : yX8_wordAt.cls = RX8 ∧ yX8_wordAt.cls ≠ "java/lang/invoke/MethodHandle" ∧ yX8_wordAt.cls ≠ "java/lang/invoke/VarHandle" ∧ (parseMethodDescriptor yX8_wordAt.desc).map (fun d => d.parameters.length) = some 1 := by decide +kernel
set_option maxRecDepth 100000 in
set_option maxHeartbeats 4000000 in
theorem c8_wordAt (l : Launch) {D : va_G} {cI cW cZ cL : ClassId} {ad : Nat → Nat} (hJ : injA ad 90) (hlst : l.stackTraces = false) (AX : Nat → Prop) (z : Nat) (S : sC) (n : Int32) : kXi l yX8_wordAt wsX8_wordAt ({ frames := 8, cells := 1, slots := 6, locals := 132 }) D vwCl (tyL cI cW cZ cL) ad 90 AX z [.ref (ad 0), .int n] (PC cI cW ad S) (tText S n) (rAt (S.1 17) n) (PC cI cW ad S) 1 6 := by
  refine vv_enterX (cc := cX8_wordAt) (maxL := 2) (ret := (some .int)) (own := RX8) (lv := [(0, .ref (ad 0)), (1, .int n)]) (by decide +kernel) rfl rfl hJ (Nat.le_of_ble_eq_true rfl) rfl ?_
  intro p e s m args below meth c hC hK hW hr hlk hsz hAX hE hout
  refine vv_aload_n hC 0 dX8_wordAt_0 rfl rfl (q := 1) rfl ?_
  refine vv_iload_n hC 1 dX8_wordAt_1 rfl rfl (q := 2) rfl ?_
  refine vv_xcallv hC hK hlk hout hE hAX (fun _ h9 => RAs.mono (by rw [← hsz]; exact h9)) (As := [.int n]) 0 (kl8 (by decide +kernel)) (or8 (by decide +kernel)) rfl (fun z => c8_requireTextPlace l hJ hlst AX z S n) (cwV 1 hC.2.2.2.2 gX8_wordAt_X8_requireTextPlace rfl rfl rfl hdX8_requireTextPlace ⟨Nat.le_of_ble_eq_true rfl, Nat.le_of_ble_eq_true rfl⟩) rfl rfl (Nat.le_of_ble_eq_true rfl) ⟨Nat.le_of_ble_eq_true rfl, Nat.le_of_ble_eq_true rfl⟩ ⟨Nat.le_of_ble_eq_true rfl, Nat.le_of_ble_eq_true rfl⟩ (fun _ h => h) (fun h9 => by simp only [tText, tor_ne _ h9, tor_0, tor_3, tor_2, tB2, tB3, tSt, tArg, Bool.not_false, Bool.not_true, if_true, if_false, Bool.false_eq_true, reduceIte]) dX8_wordAt_2 (q := 5) rfl (fun t2 => ?_)
  refine vv_aload_n hC 0 dX8_wordAt_5 rfl rfl (q := 6) rfl ?_
  refine vv_get hC hK (K := RX8) (T := TX8) (N := 9) (ci := 8) inwX8_wordAt_X8 0 (kl8 (by decide +kernel)) (oc8 (by decide +kernel)) rfl 0 (by decide) (List.mem_of_getElem? (i := 1) rfl) rfl (v := .ref (ad 1)) rfl dX8_wordAt_6 (q := 9) rfl ?_
  refine vv_callr hC hK (fun _ h => Or.inl h) (As := []) 1 (kl2 (by decide +kernel)) (or2 (by decide +kernel)) rfl (c2_text l hJ S) (cwV 0 hC.2.2.2.2 gX8_wordAt_X2_text rfl rfl rfl hdX2_text ⟨Nat.le_of_ble_eq_true rfl, Nat.le_of_ble_eq_true rfl⟩) rfl rfl (Nat.le_of_ble_eq_true rfl) ⟨Nat.le_of_ble_eq_true rfl, Nat.le_of_ble_eq_true rfl⟩ dX8_wordAt_9 (q := 12) rfl ?_
  refine vv_iload_n hC 1 dX8_wordAt_12 rfl rfl (q := 13) rfl ?_
  refine vv_calli hC hK (fun _ h => Or.inl h) (As := [.int n]) 17 (kl5 (by decide +kernel)) (or5 (by decide +kernel)) rfl (c5_at l hJ S 17 (by decide +kernel) n) (cwV 1 hC.2.2.2.2 gX8_wordAt_X5_at rfl rfl rfl hdX5_at ⟨Nat.le_of_ble_eq_true rfl, Nat.le_of_ble_eq_true rfl⟩) rfl rfl (Nat.le_of_ble_eq_true rfl) ⟨Nat.le_of_ble_eq_true rfl, Nat.le_of_ble_eq_true rfl⟩ dX8_wordAt_13 (q := 16) rfl ?_
  exact vv_xiret hC hK hr hlk t2 rfl ⟨Nat.le_of_ble_eq_true rfl, Nat.le_of_ble_eq_true rfl⟩ (fun _ h => h) dX8_wordAt_16
theorem inwX8_word_X8 : ∀ w ∈ wsX80, w ∈ wsX8_word := fun _ h => List.mem_cons_of_mem _ (List.mem_append_left _ (List.mem_append_left _ (List.mem_append_left _ (List.mem_append_right _ h))))
theorem inwX8_word_X6 : ∀ w ∈ wsX60, w ∈ wsX8_word := fun _ h => List.mem_cons_of_mem _ (List.mem_append_left _ (List.mem_append_left _ (List.mem_append_right _ h)))
theorem inwX8_word_X5 : ∀ w ∈ wsX50, w ∈ wsX8_word := fun _ h => List.mem_cons_of_mem _ (List.mem_append_left _ (List.mem_append_right _ h))
theorem hdX8_word : yX8_word.cls = RX8 ∧ yX8_word.cls ≠ "java/lang/invoke/MethodHandle" ∧ yX8_word.cls ≠ "java/lang/invoke/VarHandle" ∧ (parseMethodDescriptor yX8_word.desc).map (fun d => d.parameters.length) = some 1 := by decide +kernel
set_option maxRecDepth 100000 in
set_option maxHeartbeats 4000000 in
theorem c8_word (l : Launch) {D : va_G} {cI cW cZ cL : ClassId} {ad : Nat → Nat} (hJ : injA ad 90) (hlst : l.stackTraces = false) (AX : Nat → Prop) (z : Nat) (S : sC) (n : Int32) : kXi l yX8_word wsX8_word ({ frames := 8, cells := 1, slots := 6, locals := 132 }) D vwCl (tyL cI cW cZ cL) ad 90 AX z [.ref (ad 0), .int n] (PC cI cW ad S) (tWord S n) (1000 * rAt (S.1 5) n + rAt (S.1 3) n) (PC cI cW ad S) 1 6 := by
  refine vv_enterX (cc := cX8_word) (maxL := 2) (ret := (some .int)) (own := RX8) (lv := [(0, .ref (ad 0)), (1, .int n)]) (by decide +kernel) rfl rfl hJ (Nat.le_of_ble_eq_true rfl) rfl ?_
  intro p e s m args below meth c hC hK hW hr hlk hsz hAX hE hout
  refine vv_aload_n hC 0 dX8_word_0 rfl rfl (q := 1) rfl ?_
  refine vv_iload_n hC 1 dX8_word_1 rfl rfl (q := 2) rfl ?_
  refine vv_xcallv hC hK hlk hout hE hAX (fun _ h9 => RAs.mono (by rw [← hsz]; exact h9)) (As := [.int n]) 0 (kl8 (by decide +kernel)) (or8 (by decide +kernel)) rfl (fun z => c8_requireWord l hJ hlst AX z S n) (cwV 1 hC.2.2.2.2 gX8_word_X8_requireWord rfl rfl rfl hdX8_requireWord ⟨Nat.le_of_ble_eq_true rfl, Nat.le_of_ble_eq_true rfl⟩) rfl rfl (Nat.le_of_ble_eq_true rfl) ⟨Nat.le_of_ble_eq_true rfl, Nat.le_of_ble_eq_true rfl⟩ ⟨Nat.le_of_ble_eq_true rfl, Nat.le_of_ble_eq_true rfl⟩ (fun _ h => h) (fun h9 => by simp only [tWord, tor_ne _ h9, tor_0, tor_3, tor_2, tB2, tB3, tSt, tArg, Bool.not_false, Bool.not_true, if_true, if_false, Bool.false_eq_true, reduceIte]) dX8_word_2 (q := 5) rfl (fun t2 => ?_)
  refine vv_sipush hC (v := 1000) dX8_word_5 rfl (q := 8) rfl ?_
  refine vv_aload_n hC 0 dX8_word_8 rfl rfl (q := 9) rfl ?_
  refine vv_get hC hK (K := RX8) (T := TX8) (N := 9) (ci := 8) inwX8_word_X8 0 (kl8 (by decide +kernel)) (oc8 (by decide +kernel)) rfl 1 (by decide) (List.mem_of_getElem? (i := 1) rfl) rfl (v := .ref (ad 2)) rfl dX8_word_9 (q := 12) rfl ?_
  refine vv_iload_n hC 1 dX8_word_12 rfl rfl (q := 13) rfl ?_
  refine vv_calli hC hK (fun _ h => Or.inl h) (As := [.int n]) 2 (kl6 (by decide +kernel)) (or6 (by decide +kernel)) rfl (c6_writerOf l hJ S n) (cwV 1 hC.2.2.2.2 gX8_word_X6_writerOf rfl rfl rfl hdX6_writerOf ⟨Nat.le_of_ble_eq_true rfl, Nat.le_of_ble_eq_true rfl⟩) rfl rfl (Nat.le_of_ble_eq_true rfl) ⟨Nat.le_of_ble_eq_true rfl, Nat.le_of_ble_eq_true rfl⟩ dX8_word_13 (q := 16) rfl ?_
  refine vv_imul hC dX8_word_16 (q := 17) rfl ?_
  refine vv_aload_n hC 0 dX8_word_17 rfl rfl (q := 18) rfl ?_
  refine vv_get hC hK (K := RX8) (T := TX8) (N := 9) (ci := 8) inwX8_word_X8 0 (kl8 (by decide +kernel)) (oc8 (by decide +kernel)) rfl 1 (by decide) (List.mem_of_getElem? (i := 1) rfl) rfl (v := .ref (ad 2)) rfl dX8_word_18 (q := 21) rfl ?_
  refine vv_iload_n hC 1 dX8_word_21 rfl rfl (q := 22) rfl ?_
  refine vv_calli hC hK (fun _ h => Or.inl h) (As := [.int n]) 2 (kl6 (by decide +kernel)) (or6 (by decide +kernel)) rfl (c6_signOf l hJ S n) (cwV 1 hC.2.2.2.2 gX8_word_X6_signOf rfl rfl rfl hdX6_signOf ⟨Nat.le_of_ble_eq_true rfl, Nat.le_of_ble_eq_true rfl⟩) rfl rfl (Nat.le_of_ble_eq_true rfl) ⟨Nat.le_of_ble_eq_true rfl, Nat.le_of_ble_eq_true rfl⟩ dX8_word_22 (q := 25) rfl ?_
  refine vv_iadd hC dX8_word_25 (q := 26) rfl ?_
  exact vv_xiret hC hK hr hlk t2 rfl ⟨Nat.le_of_ble_eq_true rfl, Nat.le_of_ble_eq_true rfl⟩ (fun _ h => h) dX8_word_26
theorem inwX8_placeOf_X8 : ∀ w ∈ wsX80, w ∈ wsX8_placeOf := fun _ h => List.mem_cons_of_mem _ (List.mem_append_left _ (List.mem_append_left _ (List.mem_append_left _ (List.mem_append_left _ (List.mem_append_right _ h)))))
theorem inwX8_placeOf_X6 : ∀ w ∈ wsX60, w ∈ wsX8_placeOf := fun _ h => List.mem_cons_of_mem _ (List.mem_append_left _ (List.mem_append_left _ (List.mem_append_left _ (List.mem_append_right _ h))))
theorem inwX8_placeOf_X5 : ∀ w ∈ wsX50, w ∈ wsX8_placeOf := fun _ h => List.mem_cons_of_mem _ (List.mem_append_left _ (List.mem_append_left _ (List.mem_append_right _ h)))
theorem inwX8_placeOf_X2 : ∀ w ∈ wsX20, w ∈ wsX8_placeOf := fun _ h => List.mem_cons_of_mem _ (List.mem_append_left _ (List.mem_append_right _ h))
theorem hdX8_placeOf : yX8_placeOf.cls = RX8 ∧ yX8_placeOf.cls ≠ "java/lang/invoke/MethodHandle" ∧ yX8_placeOf.cls ≠ "java/lang/invoke/VarHandle" ∧ (parseMethodDescriptor yX8_placeOf.desc).map (fun d => d.parameters.length) = some 1 := by decide +kernel
set_option maxRecDepth 100000 in
set_option maxHeartbeats 4000000 in
theorem c8_placeOf (l : Launch) {D : va_G} {cI cW cZ cL : ClassId} {ad : Nat → Nat} (hJ : injA ad 90) (hlst : l.stackTraces = false) (AX : Nat → Prop) (z : Nat) (S : sC) (n : Int32) : kXi l yX8_placeOf wsX8_placeOf ({ frames := 8, cells := 1, slots := 6, locals := 132 }) D vwCl (tyL cI cW cZ cL) ad 90 AX z [.ref (ad 0), .int n] (PC cI cW ad S) (tWord S n) (rIdx (S.1 17) n) (PC cI cW ad S) 1 6 := by
  refine vv_enterX (cc := cX8_placeOf) (maxL := 2) (ret := (some .int)) (own := RX8) (lv := [(0, .ref (ad 0)), (1, .int n)]) (by decide +kernel) rfl rfl hJ (Nat.le_of_ble_eq_true rfl) rfl ?_
  intro p e s m args below meth c hC hK hW hr hlk hsz hAX hE hout
  refine vv_aload_n hC 0 dX8_placeOf_0 rfl rfl (q := 1) rfl ?_
  refine vv_iload_n hC 1 dX8_placeOf_1 rfl rfl (q := 2) rfl ?_
  refine vv_xcallv hC hK hlk hout hE hAX (fun _ h9 => RAs.mono (by rw [← hsz]; exact h9)) (As := [.int n]) 0 (kl8 (by decide +kernel)) (or8 (by decide +kernel)) rfl (fun z => c8_requireWord l hJ hlst AX z S n) (cwV 1 hC.2.2.2.2 gX8_placeOf_X8_requireWord rfl rfl rfl hdX8_requireWord ⟨Nat.le_of_ble_eq_true rfl, Nat.le_of_ble_eq_true rfl⟩) rfl rfl (Nat.le_of_ble_eq_true rfl) ⟨Nat.le_of_ble_eq_true rfl, Nat.le_of_ble_eq_true rfl⟩ ⟨Nat.le_of_ble_eq_true rfl, Nat.le_of_ble_eq_true rfl⟩ (fun _ h => h) (fun h9 => by simp only [tWord, tor_ne _ h9, tor_0, tor_3, tor_2, tB2, tB3, tSt, tArg, Bool.not_false, Bool.not_true, if_true, if_false, Bool.false_eq_true, reduceIte]) dX8_placeOf_2 (q := 5) rfl (fun t2 => ?_)
  refine vv_aload_n hC 0 dX8_placeOf_5 rfl rfl (q := 6) rfl ?_
  refine vv_get hC hK (K := RX8) (T := TX8) (N := 9) (ci := 8) inwX8_placeOf_X8 0 (kl8 (by decide +kernel)) (oc8 (by decide +kernel)) rfl 0 (by decide) (List.mem_of_getElem? (i := 1) rfl) rfl (v := .ref (ad 1)) rfl dX8_placeOf_6 (q := 9) rfl ?_
  refine vv_callr hC hK (fun _ h => Or.inl h) (As := []) 1 (kl2 (by decide +kernel)) (or2 (by decide +kernel)) rfl (c2_text l hJ S) (cwV 0 hC.2.2.2.2 gX8_placeOf_X2_text rfl rfl rfl hdX2_text ⟨Nat.le_of_ble_eq_true rfl, Nat.le_of_ble_eq_true rfl⟩) rfl rfl (Nat.le_of_ble_eq_true rfl) ⟨Nat.le_of_ble_eq_true rfl, Nat.le_of_ble_eq_true rfl⟩ dX8_placeOf_9 (q := 12) rfl ?_
  refine vv_iload_n hC 1 dX8_placeOf_12 rfl rfl (q := 13) rfl ?_
  refine vv_calli hC hK (fun _ h => Or.inl h) (As := [.int n]) 17 (kl5 (by decide +kernel)) (or5 (by decide +kernel)) rfl (c5_indexOf l hJ S 17 (by decide +kernel) n) (cwV 1 hC.2.2.2.2 gX8_placeOf_X5_indexOf rfl rfl rfl hdX5_indexOf ⟨Nat.le_of_ble_eq_true rfl, Nat.le_of_ble_eq_true rfl⟩) rfl rfl (Nat.le_of_ble_eq_true rfl) ⟨Nat.le_of_ble_eq_true rfl, Nat.le_of_ble_eq_true rfl⟩ dX8_placeOf_13 (q := 16) rfl ?_
  exact vv_xiret hC hK hr hlk t2 rfl ⟨Nat.le_of_ble_eq_true rfl, Nat.le_of_ble_eq_true rfl⟩ (fun _ h => h) dX8_placeOf_16
theorem inwX8_share_X8 : ∀ w ∈ wsX80, w ∈ wsX8_share := fun _ h => List.mem_cons_of_mem _ (List.mem_append_left _ (List.mem_append_left _ (List.mem_append_left _ (List.mem_append_left _ (List.mem_append_right _ h)))))
theorem inwX8_share_X2 : ∀ w ∈ wsX20, w ∈ wsX8_share := fun _ h => List.mem_cons_of_mem _ (List.mem_append_left _ (List.mem_append_left _ (List.mem_append_left _ (List.mem_append_right _ h))))
theorem inwX8_share_X5 : ∀ w ∈ wsX50, w ∈ wsX8_share := fun _ h => List.mem_cons_of_mem _ (List.mem_append_left _ (List.mem_append_left _ (List.mem_append_right _ h)))
theorem inwX8_share_X6 : ∀ w ∈ wsX60, w ∈ wsX8_share := fun _ h => List.mem_cons_of_mem _ (List.mem_append_left _ (List.mem_append_right _ h))
theorem hdX8_share : yX8_share.cls = RX8 ∧ yX8_share.cls ≠ "java/lang/invoke/MethodHandle" ∧ yX8_share.cls ≠ "java/lang/invoke/VarHandle" ∧ (parseMethodDescriptor yX8_share.desc).map (fun d => d.parameters.length) = some 1 := by decide +kernel
set_option maxRecDepth 100000 in
set_option maxHeartbeats 4000000 in
theorem c8_share (l : Launch) {D : va_G} {cI cW cZ cL : ClassId} {ad : Nat → Nat} (hJ : injA ad 90) (hlst : l.stackTraces = false) (AX : Nat → Prop) (z : Nat) (S : sC) (w : Int32) : kXi l yX8_share wsX8_share ({ frames := 7, cells := 1, slots := 6, locals := 111 }) D vwCl (tyL cI cW cZ cL) ad 90 AX z [.ref (ad 0), .int w] (PC cI cW ad S) (tIx w 6) (nI (cntBy S w)) (PC cI cW ad S) 1 6 := by
  refine vv_enterX (cc := cX8_share) (maxL := 2) (ret := (some .int)) (own := RX8) (lv := [(0, .ref (ad 0)), (1, .int w)]) (by decide +kernel) rfl rfl hJ (Nat.le_of_ble_eq_true rfl) rfl ?_
  intro p e s m args below meth c hC hK hW hr hlk hsz hAX hE hout
  refine vv_iload_n hC 1 dX8_share_0 rfl rfl (q := 1) rfl ?_
  refine vv_bipush hC (v := 6) dX8_share_1 rfl (q := 3) rfl ?_
  refine vv_xcallsv hC hK hlk hout hE hAX (fun _ h9 => RAs.mono (by rw [← hsz]; exact h9)) (As := [.int w, .int 6]) (fun z => c8_requireIndex l hJ hlst AX z S w 6) (va_cwS 2 hC.2.2.2.2 gX8_share_X8_requireIndex rfl rfl rfl hsX8_requireIndex ⟨Nat.le_of_ble_eq_true rfl, Nat.le_of_ble_eq_true rfl⟩) rfl rfl (Nat.le_of_ble_eq_true rfl) ⟨Nat.le_of_ble_eq_true rfl, Nat.le_of_ble_eq_true rfl⟩ ⟨Nat.le_of_ble_eq_true rfl, Nat.le_of_ble_eq_true rfl⟩ (fun _ h => h) (fun h9 => by simp only [tIx, tor_ne _ h9, tor_0, tor_3, tor_2, tB2, tB3, tSt, tArg, Bool.not_false, Bool.not_true, if_true, if_false, Bool.false_eq_true, reduceIte]) dX8_share_3 (q := 6) rfl (fun t3 => ?_)
  refine vv_aload_n hC 0 dX8_share_6 rfl rfl (q := 7) rfl ?_
  refine vv_get hC hK (K := RX8) (T := TX8) (N := 9) (ci := 8) inwX8_share_X8 0 (kl8 (by decide +kernel)) (oc8 (by decide +kernel)) rfl 0 (by decide) (List.mem_of_getElem? (i := 1) rfl) rfl (v := .ref (ad 1)) rfl dX8_share_7 (q := 10) rfl ?_
  refine vv_iload_n hC 1 dX8_share_10 rfl rfl (q := 11) rfl ?_
  refine vv_calli hC hK (fun _ h => Or.inl h) (As := [.int w]) 1 (kl2 (by decide +kernel)) (or2 (by decide +kernel)) rfl (c2_countBy l hJ S w) (cwV 1 hC.2.2.2.2 gX8_share_X2_countBy rfl rfl rfl hdX2_countBy ⟨Nat.le_of_ble_eq_true rfl, Nat.le_of_ble_eq_true rfl⟩) rfl rfl (Nat.le_of_ble_eq_true rfl) ⟨Nat.le_of_ble_eq_true rfl, Nat.le_of_ble_eq_true rfl⟩ dX8_share_11 (q := 14) rfl ?_
  exact vv_xiret hC hK hr hlk t3 rfl ⟨Nat.le_of_ble_eq_true rfl, Nat.le_of_ble_eq_true rfl⟩ (fun _ h => h) dX8_share_14
theorem inwX8_shareAnew_X8 : ∀ w ∈ wsX80, w ∈ wsX8_shareAnew := fun _ h => List.mem_cons_of_mem _ (List.mem_append_left _ (List.mem_append_left _ (List.mem_append_left _ (List.mem_append_left _ (List.mem_append_left _ (List.mem_append_right _ h))))))
theorem inwX8_shareAnew_X2 : ∀ w ∈ wsX20, w ∈ wsX8_shareAnew := fun _ h => List.mem_cons_of_mem _ (List.mem_append_left _ (List.mem_append_left _ (List.mem_append_left _ (List.mem_append_left _ (List.mem_append_right _ h)))))
theorem inwX8_shareAnew_X0 : ∀ w ∈ wsX00, w ∈ wsX8_shareAnew := fun _ h => List.mem_cons_of_mem _ (List.mem_append_left _ (List.mem_append_left _ (List.mem_append_left _ (List.mem_append_right _ h))))
theorem inwX8_shareAnew_X5 : ∀ w ∈ wsX50, w ∈ wsX8_shareAnew := fun _ h => List.mem_cons_of_mem _ (List.mem_append_left _ (List.mem_append_left _ (List.mem_append_right _ h)))
theorem inwX8_shareAnew_X6 : ∀ w ∈ wsX60, w ∈ wsX8_shareAnew := fun _ h => List.mem_cons_of_mem _ (List.mem_append_left _ (List.mem_append_right _ h))
theorem hdX8_shareAnew : yX8_shareAnew.cls = RX8 ∧ yX8_shareAnew.cls ≠ "java/lang/invoke/MethodHandle" ∧ yX8_shareAnew.cls ≠ "java/lang/invoke/VarHandle" ∧ (parseMethodDescriptor yX8_shareAnew.desc).map (fun d => d.parameters.length) = some 1 := by decide +kernel
set_option maxRecDepth 100000 in
set_option maxHeartbeats 4000000 in
theorem c8_shareAnew (l : Launch) {D : va_G} {cI cW cZ cL : ClassId} {ad : Nat → Nat} (hJ : injA ad 90) (hlst : l.stackTraces = false) (AX : Nat → Prop) (z : Nat) (S : sC) (w : Int32) : kXi l yX8_shareAnew wsX8_shareAnew ({ frames := 7, cells := 1, slots := 6, locals := 111 }) D vwCl (tyL cI cW cZ cL) ad 90 AX z [.ref (ad 0), .int w] (PC cI cW ad S) (tIx w 6) (anewBy S w) (PC cI cW ad S) 1 6 := by
  refine vv_enterX (cc := cX8_shareAnew) (maxL := 2) (ret := (some .int)) (own := RX8) (lv := [(0, .ref (ad 0)), (1, .int w)]) (by decide +kernel) rfl rfl hJ (Nat.le_of_ble_eq_true rfl) rfl ?_
  intro p e s m args below meth c hC hK hW hr hlk hsz hAX hE hout
  refine vv_iload_n hC 1 dX8_shareAnew_0 rfl rfl (q := 1) rfl ?_
  refine vv_bipush hC (v := 6) dX8_shareAnew_1 rfl (q := 3) rfl ?_
  refine vv_xcallsv hC hK hlk hout hE hAX (fun _ h9 => RAs.mono (by rw [← hsz]; exact h9)) (As := [.int w, .int 6]) (fun z => c8_requireIndex l hJ hlst AX z S w 6) (va_cwS 2 hC.2.2.2.2 gX8_shareAnew_X8_requireIndex rfl rfl rfl hsX8_requireIndex ⟨Nat.le_of_ble_eq_true rfl, Nat.le_of_ble_eq_true rfl⟩) rfl rfl (Nat.le_of_ble_eq_true rfl) ⟨Nat.le_of_ble_eq_true rfl, Nat.le_of_ble_eq_true rfl⟩ ⟨Nat.le_of_ble_eq_true rfl, Nat.le_of_ble_eq_true rfl⟩ (fun _ h => h) (fun h9 => by simp only [tIx, tor_ne _ h9, tor_0, tor_3, tor_2, tB2, tB3, tSt, tArg, Bool.not_false, Bool.not_true, if_true, if_false, Bool.false_eq_true, reduceIte]) dX8_shareAnew_3 (q := 6) rfl (fun t3 => ?_)
  refine vv_aload_n hC 0 dX8_shareAnew_6 rfl rfl (q := 7) rfl ?_
  refine vv_get hC hK (K := RX8) (T := TX8) (N := 9) (ci := 8) inwX8_shareAnew_X8 0 (kl8 (by decide +kernel)) (oc8 (by decide +kernel)) rfl 0 (by decide) (List.mem_of_getElem? (i := 1) rfl) rfl (v := .ref (ad 1)) rfl dX8_shareAnew_7 (q := 10) rfl ?_
  refine vv_iload_n hC 1 dX8_shareAnew_10 rfl rfl (q := 11) rfl ?_
  refine vv_calli hC hK (fun _ h => Or.inl h) (As := [.int w]) 1 (kl2 (by decide +kernel)) (or2 (by decide +kernel)) rfl (c2_countAnewBy l hJ S w) (cwV 1 hC.2.2.2.2 gX8_shareAnew_X2_countAnewBy rfl rfl rfl hdX2_countAnewBy ⟨Nat.le_of_ble_eq_true rfl, Nat.le_of_ble_eq_true rfl⟩) rfl rfl (Nat.le_of_ble_eq_true rfl) ⟨Nat.le_of_ble_eq_true rfl, Nat.le_of_ble_eq_true rfl⟩ dX8_shareAnew_11 (q := 14) rfl ?_
  exact vv_xiret hC hK hr hlk t3 rfl ⟨Nat.le_of_ble_eq_true rfl, Nat.le_of_ble_eq_true rfl⟩ (fun _ h => h) dX8_shareAnew_14
theorem inwX8_setRate_X8 : ∀ w ∈ wsX80, w ∈ wsX8_setRate := fun _ h => List.mem_cons_of_mem _ (List.mem_append_left _ (List.mem_append_left _ (List.mem_append_left _ (List.mem_append_left _ (List.mem_append_right _ h)))))
theorem inwX8_setRate_X4 : ∀ w ∈ wsX40, w ∈ wsX8_setRate := fun _ h => List.mem_cons_of_mem _ (List.mem_append_left _ (List.mem_append_left _ (List.mem_append_left _ (List.mem_append_right _ h))))
theorem inwX8_setRate_X5 : ∀ w ∈ wsX50, w ∈ wsX8_setRate := fun _ h => List.mem_cons_of_mem _ (List.mem_append_left _ (List.mem_append_left _ (List.mem_append_right _ h)))
theorem hdX8_setRate : yX8_setRate.cls = RX8 ∧ yX8_setRate.cls ≠ "java/lang/invoke/MethodHandle" ∧ yX8_setRate.cls ≠ "java/lang/invoke/VarHandle" ∧ (parseMethodDescriptor yX8_setRate.desc).map (fun d => d.parameters.length) = some 2 := by decide +kernel
set_option maxRecDepth 100000 in
set_option maxHeartbeats 4000000 in
theorem c8_setRate (l : Launch) {D : va_G} {cI cW cZ cL : ClassId} {ad : Nat → Nat} (hJ : injA ad 90) (hlst : l.stackTraces = false) (AX : Nat → Prop) (z : Nat) (S : sC) (r v : Int32) : kXi l yX8_setRate wsX8_setRate ({ frames := 8, cells := 2, slots := 12, locals := 132 }) D vwCl (tyL cI cW cZ cL) ad 90 AX z [.ref (ad 0), .int r, .int v] (PC cI cW ad S) (tRate r v) (rAt (S.1 74) r) (PC cI cW ad (sSet S 74 (rSet (S.1 74) r v))) 2 12 := by
  refine vv_enterX (cc := cX8_setRate) (maxL := 3) (ret := (some .int)) (own := RX8) (lv := [(0, .ref (ad 0)), (1, .int r), (2, .int v)]) (by decide +kernel) rfl rfl hJ (Nat.le_of_ble_eq_true rfl) rfl ?_
  intro p e s m args below meth c hC hK hW hr hlk hsz hAX hE hout
  refine vv_iload_n hC 1 dX8_setRate_0 rfl rfl (q := 1) rfl ?_
  refine vv_iconst hC (v := 4) dX8_setRate_1 rfl (q := 2) rfl ?_
  refine vv_xcallsv hC hK hlk hout hE hAX (fun _ h9 => RAs.mono (by rw [← hsz]; exact h9)) (As := [.int r, .int 4]) (fun z => c8_requireIndex l hJ hlst AX z S r 4) (va_cwS 2 hC.2.2.2.2 gX8_setRate_X8_requireIndex rfl rfl rfl hsX8_requireIndex ⟨Nat.le_of_ble_eq_true rfl, Nat.le_of_ble_eq_true rfl⟩) rfl rfl (Nat.le_of_ble_eq_true rfl) ⟨Nat.le_of_ble_eq_true rfl, Nat.le_of_ble_eq_true rfl⟩ ⟨Nat.le_of_ble_eq_true rfl, Nat.le_of_ble_eq_true rfl⟩ (fun _ h => h) (fun h9 => by simp only [tRate, tor_ne _ h9, tor_0, tor_3, tor_2, tB2, tB3, tSt, tArg, Bool.not_false, Bool.not_true, if_true, if_false, Bool.false_eq_true, reduceIte]) dX8_setRate_2 (q := 5) rfl (fun t2 => ?_)
  refine vv_iload_n hC 2 dX8_setRate_5 rfl rfl (q := 6) rfl ?_
  refine vv_iconst hC (v := 0) dX8_setRate_6 rfl (q := 7) rfl ?_
  refine vv_bipush hC (v := 100) dX8_setRate_7 rfl (q := 9) rfl ?_
  refine vv_xcallsv hC hK hlk hout hE hAX (fun _ h9 => RAs.mono (by rw [← hsz]; exact h9)) (As := [.int v, .int 0, .int 100]) (fun z => c8_requireRange l hJ hlst AX z S v 0 100) (va_cwS 3 hC.2.2.2.2 gX8_setRate_X8_requireRange rfl rfl rfl hsX8_requireRange ⟨Nat.le_of_ble_eq_true rfl, Nat.le_of_ble_eq_true rfl⟩) rfl rfl (Nat.le_of_ble_eq_true rfl) ⟨Nat.le_of_ble_eq_true rfl, Nat.le_of_ble_eq_true rfl⟩ ⟨Nat.le_of_ble_eq_true rfl, Nat.le_of_ble_eq_true rfl⟩ (fun _ h => h) (fun h9 => by simp only [tRate, t2, tor_ne _ h9, tor_0, tor_3, tor_2, tB2, tB3, tSt, tArg, Bool.not_false, Bool.not_true, if_true, if_false, Bool.false_eq_true, reduceIte]) dX8_setRate_9 (q := 12) rfl (fun t9 => ?_)
  refine vv_aload_n hC 0 dX8_setRate_12 rfl rfl (q := 13) rfl ?_
  refine vv_get hC hK (K := RX8) (T := TX8) (N := 9) (ci := 8) inwX8_setRate_X8 0 (kl8 (by decide +kernel)) (oc8 (by decide +kernel)) rfl 4 (by decide) (List.mem_of_getElem? (i := 1) rfl) rfl (v := .ref (ad 61)) rfl dX8_setRate_13 (q := 16) rfl ?_
  refine vv_iload_n hC 1 dX8_setRate_16 rfl rfl (q := 17) rfl ?_
  refine vv_iload_n hC 2 dX8_setRate_17 rfl rfl (q := 18) rfl ?_
  refine vv_calli hC hK (fun _ h => Or.inl h) (As := [.int r, .int v]) 61 (kl4 (by decide +kernel)) (or4 (by decide +kernel)) rfl (c4_changeRate l hJ S r v) (cwV 2 hC.2.2.2.2 gX8_setRate_X4_changeRate rfl rfl rfl hdX4_changeRate ⟨Nat.le_of_ble_eq_true rfl, Nat.le_of_ble_eq_true rfl⟩) rfl rfl (Nat.le_of_ble_eq_true rfl) ⟨Nat.le_of_ble_eq_true rfl, Nat.le_of_ble_eq_true rfl⟩ dX8_setRate_18 (q := 21) rfl ?_
  exact vv_xiret hC hK hr hlk (by simp only [tRate, t2, t9, tor_0, tor_3, tor_2, tB2, tB3, tSt, tArg, Bool.not_false, Bool.not_true, if_true, if_false, Bool.false_eq_true, reduceIte]) rfl ⟨Nat.le_of_ble_eq_true rfl, Nat.le_of_ble_eq_true rfl⟩ (fun _ h => h) dX8_setRate_21
theorem inwX8_order_X8 : ∀ w ∈ wsX80, w ∈ wsX8_order := fun _ h => List.mem_cons_of_mem _ (List.mem_append_left _ (List.mem_append_left _ (List.mem_append_left _ (List.mem_append_left _ (List.mem_append_left _ (List.mem_append_left _ (List.mem_append_left _ (List.mem_append_right _ h))))))))
theorem inwX8_order_X2 : ∀ w ∈ wsX20, w ∈ wsX8_order := fun _ h => List.mem_cons_of_mem _ (List.mem_append_left _ (List.mem_append_left _ (List.mem_append_left _ (List.mem_append_left _ (List.mem_append_left _ (List.mem_append_left _ (List.mem_append_right _ h)))))))
theorem inwX8_order_X5 : ∀ w ∈ wsX50, w ∈ wsX8_order := fun _ h => List.mem_cons_of_mem _ (List.mem_append_left _ (List.mem_append_left _ (List.mem_append_left _ (List.mem_append_left _ (List.mem_append_left _ (List.mem_append_right _ h))))))
theorem inwX8_order_X6 : ∀ w ∈ wsX60, w ∈ wsX8_order := fun _ h => List.mem_cons_of_mem _ (List.mem_append_left _ (List.mem_append_left _ (List.mem_append_left _ (List.mem_append_left _ (List.mem_append_right _ h)))))
theorem inwX8_order_X4 : ∀ w ∈ wsX40, w ∈ wsX8_order := fun _ h => List.mem_cons_of_mem _ (List.mem_append_left _ (List.mem_append_left _ (List.mem_append_left _ (List.mem_append_right _ h))))
theorem hdX8_order : yX8_order.cls = RX8 ∧ yX8_order.cls ≠ "java/lang/invoke/MethodHandle" ∧ yX8_order.cls ≠ "java/lang/invoke/VarHandle" ∧ (parseMethodDescriptor yX8_order.desc).map (fun d => d.parameters.length) = some 3 := by decide +kernel
set_option maxRecDepth 100000 in
set_option maxHeartbeats 4000000 in
theorem c8_order (l : Launch) {D : va_G} {cI cW cZ cL : ClassId} {ad : Nat → Nat} (hJ : injA ad 90) (hlst : l.stackTraces = false) (AX : Nat → Prop) (z : Nat) (S : sC) (r a b : Int32) : kXi l yX8_order wsX8_order ({ frames := 9, cells := 6, slots := 36, locals := 154 }) D vwCl (tyL cI cW cZ cL) ad 90 AX z [.ref (ad 0), .int r, .int a, .int b] (PC cI cW ad S) (tOrder S r a b) (rOrder S r a b) (PC cI cW ad (sOrder S r a b)) 6 36 := by
  refine vv_enterX (cc := cX8_order) (maxL := 5) (ret := (some .int)) (own := RX8) (lv := [(0, .ref (ad 0)), (1, .int r), (2, .int a), (3, .int b)]) (by decide +kernel) rfl rfl hJ (Nat.le_of_ble_eq_true rfl) rfl ?_
  intro p e s m args below meth c hC hK hW hr hlk hsz hAX hE hout
  refine vv_iload_n hC 1 dX8_order_0 rfl rfl (q := 1) rfl ?_
  refine vv_iconst hC (v := 4) dX8_order_1 rfl (q := 2) rfl ?_
  refine vv_xcallsv hC hK hlk hout hE hAX (fun _ h9 => RAs.mono (by rw [← hsz]; exact h9)) (As := [.int r, .int 4]) (fun z => c8_requireIndex l hJ hlst AX z S r 4) (va_cwS 2 hC.2.2.2.2 gX8_order_X8_requireIndex rfl rfl rfl hsX8_requireIndex ⟨Nat.le_of_ble_eq_true rfl, Nat.le_of_ble_eq_true rfl⟩) rfl rfl (Nat.le_of_ble_eq_true rfl) ⟨Nat.le_of_ble_eq_true rfl, Nat.le_of_ble_eq_true rfl⟩ ⟨Nat.le_of_ble_eq_true rfl, Nat.le_of_ble_eq_true rfl⟩ (fun _ h => h) (fun h9 => by simp only [tOrder, tor_ne _ h9, tor_0, tor_3, tor_2, tB2, tB3, tSt, tArg, Bool.not_false, Bool.not_true, if_true, if_false, Bool.false_eq_true, reduceIte]) dX8_order_2 (q := 5) rfl (fun t2 => ?_)
  refine vv_aload_n hC 0 dX8_order_5 rfl rfl (q := 6) rfl ?_
  refine vv_iload_n hC 2 dX8_order_6 rfl rfl (q := 7) rfl ?_
  refine vv_iload_n hC 3 dX8_order_7 rfl rfl (q := 8) rfl ?_
  refine vv_xcallv hC hK hlk hout hE hAX (fun _ h9 => RAs.mono (by rw [← hsz]; exact h9)) (As := [.int a, .int b]) 0 (kl8 (by decide +kernel)) (or8 (by decide +kernel)) rfl (fun z => c8_requireSpan l hJ hlst AX z S a b) (cwV 2 hC.2.2.2.2 gX8_order_X8_requireSpan rfl rfl rfl hdX8_requireSpan ⟨Nat.le_of_ble_eq_true rfl, Nat.le_of_ble_eq_true rfl⟩) rfl rfl (Nat.le_of_ble_eq_true rfl) ⟨Nat.le_of_ble_eq_true rfl, Nat.le_of_ble_eq_true rfl⟩ ⟨Nat.le_of_ble_eq_true rfl, Nat.le_of_ble_eq_true rfl⟩ (fun _ h => h) (fun h9 => by simp only [tOrder, t2, tor_ne _ h9, tor_0, tor_3, tor_2, tB2, tB3, tSt, tArg, Bool.not_false, Bool.not_true, if_true, if_false, Bool.false_eq_true, reduceIte]) dX8_order_8 (q := 11) rfl (fun t8 => ?_)
  obtain ⟨ta, tb, hba⟩ := tSpan_0 t8
  refine vv_pure (P := wfC S) (fun H hB => by obtain ⟨f, hf, -⟩ := hB; exact oc_wf f hf) (fun hwf => ?_)
  have hw17 := hwf 17 rfl
  have hc17 := cap_le 17
  obtain ⟨hal, hae⟩ := tIx_n (by omega) ta
  refine vv_aload_n hC 0 dX8_order_11 rfl rfl (q := 12) rfl ?_
  refine vv_get hC hK (K := RX8) (T := TX8) (N := 9) (ci := 8) inwX8_order_X8 0 (kl8 (by decide +kernel)) (oc8 (by decide +kernel)) rfl 0 (by decide) (List.mem_of_getElem? (i := 1) rfl) rfl (v := .ref (ad 1)) rfl dX8_order_12 (q := 15) rfl ?_
  refine vv_iload_n hC 2 dX8_order_15 rfl rfl (q := 16) rfl ?_
  refine vv_iload_n hC 3 dX8_order_16 rfl rfl (q := 17) rfl ?_
  refine vv_eqv (st' := [.int b, .int (nI a.toNatClampNeg), .ref (ad 1)]) (by rw [← hae]) ?_
  refine vv_calli hC hK (fun _ h => Or.inl h) (As := [.int (nI a.toNatClampNeg), .int b]) 1 (kl2 (by decide +kernel)) (or2 (by decide +kernel)) rfl (c2_hasFrozen l hJ S a.toNatClampNeg b (Nat.le_of_lt hal)) (cwV 2 hC.2.2.2.2 gX8_order_X2_hasFrozen rfl rfl rfl hdX2_hasFrozen ⟨Nat.le_of_ble_eq_true rfl, Nat.le_of_ble_eq_true rfl⟩) rfl rfl (Nat.le_of_ble_eq_true rfl) ⟨Nat.le_of_ble_eq_true rfl, Nat.le_of_ble_eq_true rfl⟩ dX8_order_17 (q := 20) rfl ?_
  refine vv_if_ne hC (tgt := 27) dX8_order_20 (by decide) (q := 23) rfl (fun h20 => ?_) (fun h20 => ?_)
  · skip
    refine vv_iconst hC (v := 0) dX8_order_27 rfl (q := 28) rfl ?_
    refine vv_xcallsv hC hK hlk hout hE hAX (fun _ h9 => RAs.mono (by rw [← hsz]; exact h9)) (As := [.int 0]) (fun z => c8_requireState l hJ hlst AX z S 0) (va_cwS 1 hC.2.2.2.2 gX8_order_X8_requireState rfl rfl rfl hsX8_requireState ⟨Nat.le_of_ble_eq_true rfl, Nat.le_of_ble_eq_true rfl⟩) rfl rfl (Nat.le_of_ble_eq_true rfl) ⟨Nat.le_of_ble_eq_true rfl, Nat.le_of_ble_eq_true rfl⟩ ⟨Nat.le_of_ble_eq_true rfl, Nat.le_of_ble_eq_true rfl⟩ (fun _ h => h) (fun h9 => by simp only [tOrder, t2, t8, bI_1 h20, tor_ne _ h9, tor_0, tor_3, tor_2, tB2, tB3, tSt, tArg, Bool.not_false, Bool.not_true, if_true, if_false, Bool.false_eq_true, reduceIte]) dX8_order_28 (q := 31) rfl (fun t28 => ?_)
    exact absurd t28 (by decide)
  · skip
    refine vv_iconst hC (v := 1) dX8_order_23 rfl (q := 24) rfl ?_
    refine vv_goto hC (tgt := 28) dX8_order_24 (by decide) ?_
    refine vv_xcallsv hC hK hlk hout hE hAX (fun _ h9 => RAs.mono (by rw [← hsz]; exact h9)) (As := [.int 1]) (fun z => c8_requireState l hJ hlst AX z S 1) (va_cwS 1 hC.2.2.2.2 gX8_order_X8_requireState rfl rfl rfl hsX8_requireState ⟨Nat.le_of_ble_eq_true rfl, Nat.le_of_ble_eq_true rfl⟩) rfl rfl (Nat.le_of_ble_eq_true rfl) ⟨Nat.le_of_ble_eq_true rfl, Nat.le_of_ble_eq_true rfl⟩ ⟨Nat.le_of_ble_eq_true rfl, Nat.le_of_ble_eq_true rfl⟩ (fun _ h => h) (fun h9 => absurd rfl h9) dX8_order_28 (q := 31) rfl (fun t28 => ?_)
    refine vv_aload_n hC 0 dX8_order_31 rfl rfl (q := 32) rfl ?_
    refine vv_get hC hK (K := RX8) (T := TX8) (N := 9) (ci := 8) inwX8_order_X8 0 (kl8 (by decide +kernel)) (oc8 (by decide +kernel)) rfl 4 (by decide) (List.mem_of_getElem? (i := 2) rfl) rfl (v := .ref (ad 61)) rfl dX8_order_32 (q := 35) rfl ?_
    refine vv_calli hC hK (fun _ h => Or.inl h) (As := []) 61 (kl4 (by decide +kernel)) (or4 (by decide +kernel)) rfl (c4_count l hJ S) (cwV 0 hC.2.2.2.2 gX8_order_X4_count rfl rfl rfl hdX4_count ⟨Nat.le_of_ble_eq_true rfl, Nat.le_of_ble_eq_true rfl⟩) rfl rfl (Nat.le_of_ble_eq_true rfl) ⟨Nat.le_of_ble_eq_true rfl, Nat.le_of_ble_eq_true rfl⟩ dX8_order_35 (q := 38) rfl ?_
    refine vv_bipush hC (v := 30) dX8_order_38 rfl (q := 40) rfl ?_
    refine vv_icmp_ge hC (tgt := 47) dX8_order_40 (by decide) (q := 43) rfl (fun h40 => ?_) (fun h40 => ?_)
    · skip
      refine vv_iconst hC (v := 0) dX8_order_47 rfl (q := 48) rfl ?_
      refine vv_xcallsv hC hK hlk hout hE hAX (fun _ h9 => RAs.mono (by rw [← hsz]; exact h9)) (As := [.int 0]) (fun z => c8_requireState l hJ hlst AX z S 0) (va_cwS 1 hC.2.2.2.2 gX8_order_X8_requireState rfl rfl rfl hsX8_requireState ⟨Nat.le_of_ble_eq_true rfl, Nat.le_of_ble_eq_true rfl⟩) rfl rfl (Nat.le_of_ble_eq_true rfl) ⟨Nat.le_of_ble_eq_true rfl, Nat.le_of_ble_eq_true rfl⟩ ⟨Nat.le_of_ble_eq_true rfl, Nat.le_of_ble_eq_true rfl⟩ (fun _ h => h) (fun h9 => by simp only [tOrder, t2, t8, bI_0.mp h20, decide_eq_true h40, tor_ne _ h9, tor_0, tor_3, tor_2, tB2, tB3, tSt, tArg, Bool.not_false, Bool.not_true, if_true, if_false, Bool.false_eq_true, reduceIte]) dX8_order_48 (q := 51) rfl (fun t48 => ?_)
      exact absurd t48 (by decide)
    · skip
      refine vv_iconst hC (v := 1) dX8_order_43 rfl (q := 44) rfl ?_
      refine vv_goto hC (tgt := 48) dX8_order_44 (by decide) ?_
      refine vv_xcallsv hC hK hlk hout hE hAX (fun _ h9 => RAs.mono (by rw [← hsz]; exact h9)) (As := [.int 1]) (fun z => c8_requireState l hJ hlst AX z S 1) (va_cwS 1 hC.2.2.2.2 gX8_order_X8_requireState rfl rfl rfl hsX8_requireState ⟨Nat.le_of_ble_eq_true rfl, Nat.le_of_ble_eq_true rfl⟩) rfl rfl (Nat.le_of_ble_eq_true rfl) ⟨Nat.le_of_ble_eq_true rfl, Nat.le_of_ble_eq_true rfl⟩ ⟨Nat.le_of_ble_eq_true rfl, Nat.le_of_ble_eq_true rfl⟩ (fun _ h => h) (fun h9 => absurd rfl h9) dX8_order_48 (q := 51) rfl (fun t48 => ?_)
      refine vv_aload_n hC 0 dX8_order_51 rfl rfl (q := 52) rfl ?_
      refine vv_get hC hK (K := RX8) (T := TX8) (N := 9) (ci := 8) inwX8_order_X8 0 (kl8 (by decide +kernel)) (oc8 (by decide +kernel)) rfl 4 (by decide) (List.mem_of_getElem? (i := 2) rfl) rfl (v := .ref (ad 61)) rfl dX8_order_52 (q := 55) rfl ?_
      refine vv_iload_n hC 1 dX8_order_55 rfl rfl (q := 56) rfl ?_
      refine vv_iload_n hC 3 dX8_order_56 rfl rfl (q := 57) rfl ?_
      refine vv_iload_n hC 2 dX8_order_57 rfl rfl (q := 58) rfl ?_
      refine vv_isub hC dX8_order_58 (q := 59) rfl ?_
      refine vv_iconst hC (v := 1) dX8_order_59 rfl (q := 60) rfl ?_
      refine vv_iadd hC dX8_order_60 (q := 61) rfl ?_
      refine vv_calli hC hK (fun _ h => Or.inl h) (As := [.int r, .int ((b - a) + 1)]) 61 (kl4 (by decide +kernel)) (or4 (by decide +kernel)) rfl (c4_add l hJ S r ((b - a) + 1)) (cwV 2 hC.2.2.2.2 gX8_order_X4_add rfl rfl rfl hdX4_add ⟨Nat.le_of_ble_eq_true rfl, Nat.le_of_ble_eq_true rfl⟩) rfl rfl (Nat.le_of_ble_eq_true rfl) ⟨Nat.le_of_ble_eq_true rfl, Nat.le_of_ble_eq_true rfl⟩ dX8_order_61 (q := 64) rfl ?_
      refine vv_istore hC (i := 4) (lv' := [(4, .int (nI ((rvAdd S r ((b - a) + 1)).1 62).length - 1)), (0, .ref (ad 0)), (1, .int r), (2, .int a), (3, .int b)]) dX8_order_64 (by decide) rfl (q := 66) rfl ?_
      refine vv_aload_n hC 1 dX8_order_66 rfl rfl (q := 67) rfl ?_
      refine vv_get hC hK (K := RX8) (T := TX8) (N := 9) (ci := 8) inwX8_order_X8 0 (kl8 (by decide +kernel)) (oc8 (by decide +kernel)) rfl 0 (by decide) (List.mem_of_getElem? (i := 1) rfl) rfl (v := .ref (ad 1)) rfl dX8_order_67 (q := 70) rfl ?_
      refine vv_iload_n hC 3 dX8_order_70 rfl rfl (q := 71) rfl ?_
      refine vv_iload_n hC 4 dX8_order_71 rfl rfl (q := 72) rfl ?_
      refine vv_iload hC 0 dX8_order_72 rfl (q := 74) rfl ?_
      refine vv_eqv (st' := [.int (nI ((rvAdd S r ((b - a) + 1)).1 62).length - 1), .int b, .int (nI a.toNatClampNeg), .ref (ad 1)]) (by rw [← hae]) ?_
      refine vv_callv hC hK (fun _ h => Or.inl h) (As := [.int (nI a.toNatClampNeg), .int b, .int (nI ((rvAdd S r ((b - a) + 1)).1 62).length - 1)]) 1 (kl2 (by decide +kernel)) (or2 (by decide +kernel)) rfl (c2_freeze l hJ (rvAdd S r ((b - a) + 1)) a.toNatClampNeg b (nI ((rvAdd S r ((b - a) + 1)).1 62).length - 1) (Nat.le_of_lt hal)) (cwV 3 hC.2.2.2.2 gX8_order_X2_freeze rfl rfl rfl hdX2_freeze ⟨Nat.le_of_ble_eq_true rfl, Nat.le_of_ble_eq_true rfl⟩) rfl rfl (Nat.le_of_ble_eq_true rfl) ⟨Nat.le_of_ble_eq_true rfl, Nat.le_of_ble_eq_true rfl⟩ dX8_order_74 (q := 77) rfl ?_
      refine vv_iload hC 0 dX8_order_77 rfl (q := 79) rfl ?_
      exact vv_xiret hC hK hr hlk (by simp only [tOrder, t2, t8, bI_0.mp h20, decide_eq_false h40, tor_0, tor_3, tor_2, tB2, tB3, tSt, tArg, Bool.not_false, Bool.not_true, if_true, if_false, Bool.false_eq_true, reduceIte]) rfl ⟨Nat.le_of_ble_eq_true rfl, Nat.le_of_ble_eq_true rfl⟩ (fun _ h => h) dX8_order_79
theorem inwX8_finish_X8 : ∀ w ∈ wsX80, w ∈ wsX8_finish := fun _ h => List.mem_cons_of_mem _ (List.mem_append_left _ (List.mem_append_left _ (List.mem_append_left _ (List.mem_append_left _ (List.mem_append_left _ (List.mem_append_right _ h))))))
theorem inwX8_finish_X4 : ∀ w ∈ wsX40, w ∈ wsX8_finish := fun _ h => List.mem_cons_of_mem _ (List.mem_append_left _ (List.mem_append_left _ (List.mem_append_left _ (List.mem_append_left _ (List.mem_append_right _ h)))))
theorem inwX8_finish_X5 : ∀ w ∈ wsX50, w ∈ wsX8_finish := fun _ h => List.mem_cons_of_mem _ (List.mem_append_left _ (List.mem_append_left _ (List.mem_append_left _ (List.mem_append_right _ h))))
theorem hdX8_finish : yX8_finish.cls = RX8 ∧ yX8_finish.cls ≠ "java/lang/invoke/MethodHandle" ∧ yX8_finish.cls ≠ "java/lang/invoke/VarHandle" ∧ (parseMethodDescriptor yX8_finish.desc).map (fun d => d.parameters.length) = some 2 := by decide +kernel
set_option maxRecDepth 100000 in
set_option maxHeartbeats 4000000 in
theorem c8_finish (l : Launch) {D : va_G} {cI cW cZ cL : ClassId} {ad : Nat → Nat} (hJ : injA ad 90) (hlst : l.stackTraces = false) (AX : Nat → Prop) (z : Nat) (S : sC) (r u : Int32) : kXi l yX8_finish wsX8_finish ({ frames := 8, cells := 3, slots := 18, locals := 132 }) D vwCl (tyL cI cW cZ cL) ad 90 AX z [.ref (ad 0), .int r, .int u] (PC cI cW ad S) (tFinish S r u) (rAt ((rvDone S r u).1 76) (rAt (S.1 62) r)) (PC cI cW ad (rvDone S r u)) 3 18 := by
  refine vv_enterX (cc := cX8_finish) (maxL := 3) (ret := (some .int)) (own := RX8) (lv := [(0, .ref (ad 0)), (1, .int r), (2, .int u)]) (by decide +kernel) rfl rfl hJ (Nat.le_of_ble_eq_true rfl) rfl ?_
  intro p e s m args below meth c hC hK hW hr hlk hsz hAX hE hout
  refine vv_iload_n hC 1 dX8_finish_0 rfl rfl (q := 1) rfl ?_
  refine vv_aload_n hC 0 dX8_finish_1 rfl rfl (q := 2) rfl ?_
  refine vv_get hC hK (K := RX8) (T := TX8) (N := 9) (ci := 8) inwX8_finish_X8 0 (kl8 (by decide +kernel)) (oc8 (by decide +kernel)) rfl 4 (by decide) (List.mem_of_getElem? (i := 1) rfl) rfl (v := .ref (ad 61)) rfl dX8_finish_2 (q := 5) rfl ?_
  refine vv_calli hC hK (fun _ h => Or.inl h) (As := []) 61 (kl4 (by decide +kernel)) (or4 (by decide +kernel)) rfl (c4_count l hJ S) (cwV 0 hC.2.2.2.2 gX8_finish_X4_count rfl rfl rfl hdX4_count ⟨Nat.le_of_ble_eq_true rfl, Nat.le_of_ble_eq_true rfl⟩) rfl rfl (Nat.le_of_ble_eq_true rfl) ⟨Nat.le_of_ble_eq_true rfl, Nat.le_of_ble_eq_true rfl⟩ dX8_finish_5 (q := 8) rfl ?_
  refine vv_xcallsv hC hK hlk hout hE hAX (fun _ h9 => RAs.mono (by rw [← hsz]; exact h9)) (As := [.int r, .int (nI (S.1 62).length)]) (fun z => c8_requireIndex l hJ hlst AX z S r (nI (S.1 62).length)) (va_cwS 2 hC.2.2.2.2 gX8_finish_X8_requireIndex rfl rfl rfl hsX8_requireIndex ⟨Nat.le_of_ble_eq_true rfl, Nat.le_of_ble_eq_true rfl⟩) rfl rfl (Nat.le_of_ble_eq_true rfl) ⟨Nat.le_of_ble_eq_true rfl, Nat.le_of_ble_eq_true rfl⟩ ⟨Nat.le_of_ble_eq_true rfl, Nat.le_of_ble_eq_true rfl⟩ (fun _ h => h) (fun h9 => by simp only [tFinish, tor_ne _ h9, tor_0, tor_3, tor_2, tB2, tB3, tSt, tArg, Bool.not_false, Bool.not_true, if_true, if_false, Bool.false_eq_true, reduceIte]) dX8_finish_8 (q := 11) rfl (fun t8 => ?_)
  refine vv_iload_n hC 2 dX8_finish_11 rfl rfl (q := 12) rfl ?_
  refine vv_iconst hC (v := 0) dX8_finish_12 rfl (q := 13) rfl ?_
  refine vv_bipush hC (v := 9) dX8_finish_13 rfl (q := 15) rfl ?_
  refine vv_xcallsv hC hK hlk hout hE hAX (fun _ h9 => RAs.mono (by rw [← hsz]; exact h9)) (As := [.int u, .int 0, .int 9]) (fun z => c8_requireRange l hJ hlst AX z S u 0 9) (va_cwS 3 hC.2.2.2.2 gX8_finish_X8_requireRange rfl rfl rfl hsX8_requireRange ⟨Nat.le_of_ble_eq_true rfl, Nat.le_of_ble_eq_true rfl⟩) rfl rfl (Nat.le_of_ble_eq_true rfl) ⟨Nat.le_of_ble_eq_true rfl, Nat.le_of_ble_eq_true rfl⟩ ⟨Nat.le_of_ble_eq_true rfl, Nat.le_of_ble_eq_true rfl⟩ (fun _ h => h) (fun h9 => by simp only [tFinish, t8, tor_ne _ h9, tor_0, tor_3, tor_2, tB2, tB3, tSt, tArg, Bool.not_false, Bool.not_true, if_true, if_false, Bool.false_eq_true, reduceIte]) dX8_finish_15 (q := 18) rfl (fun t15 => ?_)
  refine vv_aload_n hC 0 dX8_finish_18 rfl rfl (q := 19) rfl ?_
  refine vv_get hC hK (K := RX8) (T := TX8) (N := 9) (ci := 8) inwX8_finish_X8 0 (kl8 (by decide +kernel)) (oc8 (by decide +kernel)) rfl 4 (by decide) (List.mem_of_getElem? (i := 1) rfl) rfl (v := .ref (ad 61)) rfl dX8_finish_19 (q := 22) rfl ?_
  refine vv_iload_n hC 1 dX8_finish_22 rfl rfl (q := 23) rfl ?_
  refine vv_calli hC hK (fun _ h => Or.inl h) (As := [.int r]) 61 (kl4 (by decide +kernel)) (or4 (by decide +kernel)) rfl (c4_stateAt l hJ S r) (cwV 1 hC.2.2.2.2 gX8_finish_X4_stateAt rfl rfl rfl hdX4_stateAt ⟨Nat.le_of_ble_eq_true rfl, Nat.le_of_ble_eq_true rfl⟩) rfl rfl (Nat.le_of_ble_eq_true rfl) ⟨Nat.le_of_ble_eq_true rfl, Nat.le_of_ble_eq_true rfl⟩ dX8_finish_23 (q := 26) rfl ?_
  refine vv_if_ne hC (tgt := 33) dX8_finish_26 (by decide) (q := 29) rfl (fun h26 => ?_) (fun h26 => ?_)
  · skip
    refine vv_iconst hC (v := 0) dX8_finish_33 rfl (q := 34) rfl ?_
    refine vv_xcallsv hC hK hlk hout hE hAX (fun _ h9 => RAs.mono (by rw [← hsz]; exact h9)) (As := [.int 0]) (fun z => c8_requireState l hJ hlst AX z S 0) (va_cwS 1 hC.2.2.2.2 gX8_finish_X8_requireState rfl rfl rfl hsX8_requireState ⟨Nat.le_of_ble_eq_true rfl, Nat.le_of_ble_eq_true rfl⟩) rfl rfl (Nat.le_of_ble_eq_true rfl) ⟨Nat.le_of_ble_eq_true rfl, Nat.le_of_ble_eq_true rfl⟩ ⟨Nat.le_of_ble_eq_true rfl, Nat.le_of_ble_eq_true rfl⟩ (fun _ h => h) (fun h9 => by simp only [tFinish, t8, t15, decide_eq_false h26, tor_ne _ h9, tor_0, tor_3, tor_2, tB2, tB3, tSt, tArg, Bool.not_false, Bool.not_true, if_true, if_false, Bool.false_eq_true, reduceIte]) dX8_finish_34 (q := 37) rfl (fun t34 => ?_)
    exact absurd t34 (by decide)
  · skip
    refine vv_iconst hC (v := 1) dX8_finish_29 rfl (q := 30) rfl ?_
    refine vv_goto hC (tgt := 34) dX8_finish_30 (by decide) ?_
    refine vv_xcallsv hC hK hlk hout hE hAX (fun _ h9 => RAs.mono (by rw [← hsz]; exact h9)) (As := [.int 1]) (fun z => c8_requireState l hJ hlst AX z S 1) (va_cwS 1 hC.2.2.2.2 gX8_finish_X8_requireState rfl rfl rfl hsX8_requireState ⟨Nat.le_of_ble_eq_true rfl, Nat.le_of_ble_eq_true rfl⟩) rfl rfl (Nat.le_of_ble_eq_true rfl) ⟨Nat.le_of_ble_eq_true rfl, Nat.le_of_ble_eq_true rfl⟩ ⟨Nat.le_of_ble_eq_true rfl, Nat.le_of_ble_eq_true rfl⟩ (fun _ h => h) (fun h9 => absurd rfl h9) dX8_finish_34 (q := 37) rfl (fun t34 => ?_)
    refine vv_aload_n hC 0 dX8_finish_37 rfl rfl (q := 38) rfl ?_
    refine vv_get hC hK (K := RX8) (T := TX8) (N := 9) (ci := 8) inwX8_finish_X8 0 (kl8 (by decide +kernel)) (oc8 (by decide +kernel)) rfl 4 (by decide) (List.mem_of_getElem? (i := 1) rfl) rfl (v := .ref (ad 61)) rfl dX8_finish_38 (q := 41) rfl ?_
    refine vv_iload_n hC 1 dX8_finish_41 rfl rfl (q := 42) rfl ?_
    refine vv_iload_n hC 2 dX8_finish_42 rfl rfl (q := 43) rfl ?_
    refine vv_calli hC hK (fun _ h => Or.inl h) (As := [.int r, .int u]) 61 (kl4 (by decide +kernel)) (or4 (by decide +kernel)) rfl (c4_setDone l hJ S r u) (cwV 2 hC.2.2.2.2 gX8_finish_X4_setDone rfl rfl rfl hdX4_setDone ⟨Nat.le_of_ble_eq_true rfl, Nat.le_of_ble_eq_true rfl⟩) rfl rfl (Nat.le_of_ble_eq_true rfl) ⟨Nat.le_of_ble_eq_true rfl, Nat.le_of_ble_eq_true rfl⟩ dX8_finish_43 (q := 46) rfl ?_
    exact vv_xiret hC hK hr hlk (by simp only [tFinish, t8, t15, decide_eq_true h26, tor_0, tor_3, tor_2, tB2, tB3, tSt, tArg, Bool.not_false, Bool.not_true, if_true, if_false, Bool.false_eq_true, reduceIte]) rfl ⟨Nat.le_of_ble_eq_true rfl, Nat.le_of_ble_eq_true rfl⟩ (fun _ h => h) dX8_finish_46
theorem inwX8_cancel_X8 : ∀ w ∈ wsX80, w ∈ wsX8_cancel := fun _ h => List.mem_cons_of_mem _ (List.mem_append_left _ (List.mem_append_left _ (List.mem_append_left _ (List.mem_append_left _ (List.mem_append_left _ (List.mem_append_right _ h))))))
theorem inwX8_cancel_X4 : ∀ w ∈ wsX40, w ∈ wsX8_cancel := fun _ h => List.mem_cons_of_mem _ (List.mem_append_left _ (List.mem_append_left _ (List.mem_append_left _ (List.mem_append_left _ (List.mem_append_right _ h)))))
theorem inwX8_cancel_X5 : ∀ w ∈ wsX50, w ∈ wsX8_cancel := fun _ h => List.mem_cons_of_mem _ (List.mem_append_left _ (List.mem_append_left _ (List.mem_append_left _ (List.mem_append_right _ h))))
theorem inwX8_cancel_X6 : ∀ w ∈ wsX60, w ∈ wsX8_cancel := fun _ h => List.mem_cons_of_mem _ (List.mem_append_left _ (List.mem_append_left _ (List.mem_append_right _ h)))
theorem hdX8_cancel : yX8_cancel.cls = RX8 ∧ yX8_cancel.cls ≠ "java/lang/invoke/MethodHandle" ∧ yX8_cancel.cls ≠ "java/lang/invoke/VarHandle" ∧ (parseMethodDescriptor yX8_cancel.desc).map (fun d => d.parameters.length) = some 1 := by decide +kernel
set_option maxRecDepth 100000 in
set_option maxHeartbeats 4000000 in
theorem c8_cancel (l : Launch) {D : va_G} {cI cW cZ cL : ClassId} {ad : Nat → Nat} (hJ : injA ad 90) (hlst : l.stackTraces = false) (AX : Nat → Prop) (z : Nat) (S : sC) (r : Int32) : kXi l yX8_cancel wsX8_cancel ({ frames := 7, cells := 2, slots := 12, locals := 111 }) D vwCl (tyL cI cW cZ cL) ad 90 AX z [.ref (ad 0), .int r] (PC cI cW ad S) (tCancel S r) (nI (unfreeze (sSet S 68 (rSet (S.1 68) r 2)) r).1) (PC cI cW ad ((unfreeze (sSet S 68 (rSet (S.1 68) r 2)) r).2)) 2 12 := by
  refine vv_enterX (cc := cX8_cancel) (maxL := 2) (ret := (some .int)) (own := RX8) (lv := [(0, .ref (ad 0)), (1, .int r)]) (by decide +kernel) rfl rfl hJ (Nat.le_of_ble_eq_true rfl) rfl ?_
  intro p e s m args below meth c hC hK hW hr hlk hsz hAX hE hout
  refine vv_iload_n hC 1 dX8_cancel_0 rfl rfl (q := 1) rfl ?_
  refine vv_aload_n hC 0 dX8_cancel_1 rfl rfl (q := 2) rfl ?_
  refine vv_get hC hK (K := RX8) (T := TX8) (N := 9) (ci := 8) inwX8_cancel_X8 0 (kl8 (by decide +kernel)) (oc8 (by decide +kernel)) rfl 4 (by decide) (List.mem_of_getElem? (i := 1) rfl) rfl (v := .ref (ad 61)) rfl dX8_cancel_2 (q := 5) rfl ?_
  refine vv_calli hC hK (fun _ h => Or.inl h) (As := []) 61 (kl4 (by decide +kernel)) (or4 (by decide +kernel)) rfl (c4_count l hJ S) (cwV 0 hC.2.2.2.2 gX8_cancel_X4_count rfl rfl rfl hdX4_count ⟨Nat.le_of_ble_eq_true rfl, Nat.le_of_ble_eq_true rfl⟩) rfl rfl (Nat.le_of_ble_eq_true rfl) ⟨Nat.le_of_ble_eq_true rfl, Nat.le_of_ble_eq_true rfl⟩ dX8_cancel_5 (q := 8) rfl ?_
  refine vv_xcallsv hC hK hlk hout hE hAX (fun _ h9 => RAs.mono (by rw [← hsz]; exact h9)) (As := [.int r, .int (nI (S.1 62).length)]) (fun z => c8_requireIndex l hJ hlst AX z S r (nI (S.1 62).length)) (va_cwS 2 hC.2.2.2.2 gX8_cancel_X8_requireIndex rfl rfl rfl hsX8_requireIndex ⟨Nat.le_of_ble_eq_true rfl, Nat.le_of_ble_eq_true rfl⟩) rfl rfl (Nat.le_of_ble_eq_true rfl) ⟨Nat.le_of_ble_eq_true rfl, Nat.le_of_ble_eq_true rfl⟩ ⟨Nat.le_of_ble_eq_true rfl, Nat.le_of_ble_eq_true rfl⟩ (fun _ h => h) (fun h9 => by simp only [tCancel, tor_ne _ h9, tor_0, tor_3, tor_2, tB2, tB3, tSt, tArg, Bool.not_false, Bool.not_true, if_true, if_false, Bool.false_eq_true, reduceIte]) dX8_cancel_8 (q := 11) rfl (fun t8 => ?_)
  refine vv_aload_n hC 0 dX8_cancel_11 rfl rfl (q := 12) rfl ?_
  refine vv_get hC hK (K := RX8) (T := TX8) (N := 9) (ci := 8) inwX8_cancel_X8 0 (kl8 (by decide +kernel)) (oc8 (by decide +kernel)) rfl 4 (by decide) (List.mem_of_getElem? (i := 1) rfl) rfl (v := .ref (ad 61)) rfl dX8_cancel_12 (q := 15) rfl ?_
  refine vv_iload_n hC 1 dX8_cancel_15 rfl rfl (q := 16) rfl ?_
  refine vv_calli hC hK (fun _ h => Or.inl h) (As := [.int r]) 61 (kl4 (by decide +kernel)) (or4 (by decide +kernel)) rfl (c4_stateAt l hJ S r) (cwV 1 hC.2.2.2.2 gX8_cancel_X4_stateAt rfl rfl rfl hdX4_stateAt ⟨Nat.le_of_ble_eq_true rfl, Nat.le_of_ble_eq_true rfl⟩) rfl rfl (Nat.le_of_ble_eq_true rfl) ⟨Nat.le_of_ble_eq_true rfl, Nat.le_of_ble_eq_true rfl⟩ dX8_cancel_16 (q := 19) rfl ?_
  refine vv_if_ne hC (tgt := 26) dX8_cancel_19 (by decide) (q := 22) rfl (fun h19 => ?_) (fun h19 => ?_)
  · skip
    refine vv_iconst hC (v := 0) dX8_cancel_26 rfl (q := 27) rfl ?_
    refine vv_xcallsv hC hK hlk hout hE hAX (fun _ h9 => RAs.mono (by rw [← hsz]; exact h9)) (As := [.int 0]) (fun z => c8_requireState l hJ hlst AX z S 0) (va_cwS 1 hC.2.2.2.2 gX8_cancel_X8_requireState rfl rfl rfl hsX8_requireState ⟨Nat.le_of_ble_eq_true rfl, Nat.le_of_ble_eq_true rfl⟩) rfl rfl (Nat.le_of_ble_eq_true rfl) ⟨Nat.le_of_ble_eq_true rfl, Nat.le_of_ble_eq_true rfl⟩ ⟨Nat.le_of_ble_eq_true rfl, Nat.le_of_ble_eq_true rfl⟩ (fun _ h => h) (fun h9 => by simp only [tCancel, t8, decide_eq_false h19, tor_ne _ h9, tor_0, tor_3, tor_2, tB2, tB3, tSt, tArg, Bool.not_false, Bool.not_true, if_true, if_false, Bool.false_eq_true, reduceIte]) dX8_cancel_27 (q := 30) rfl (fun t27 => ?_)
    exact absurd t27 (by decide)
  · skip
    refine vv_iconst hC (v := 1) dX8_cancel_22 rfl (q := 23) rfl ?_
    refine vv_goto hC (tgt := 27) dX8_cancel_23 (by decide) ?_
    refine vv_xcallsv hC hK hlk hout hE hAX (fun _ h9 => RAs.mono (by rw [← hsz]; exact h9)) (As := [.int 1]) (fun z => c8_requireState l hJ hlst AX z S 1) (va_cwS 1 hC.2.2.2.2 gX8_cancel_X8_requireState rfl rfl rfl hsX8_requireState ⟨Nat.le_of_ble_eq_true rfl, Nat.le_of_ble_eq_true rfl⟩) rfl rfl (Nat.le_of_ble_eq_true rfl) ⟨Nat.le_of_ble_eq_true rfl, Nat.le_of_ble_eq_true rfl⟩ ⟨Nat.le_of_ble_eq_true rfl, Nat.le_of_ble_eq_true rfl⟩ (fun _ h => h) (fun h9 => absurd rfl h9) dX8_cancel_27 (q := 30) rfl (fun t27 => ?_)
    refine vv_aload_n hC 0 dX8_cancel_30 rfl rfl (q := 31) rfl ?_
    refine vv_get hC hK (K := RX8) (T := TX8) (N := 9) (ci := 8) inwX8_cancel_X8 0 (kl8 (by decide +kernel)) (oc8 (by decide +kernel)) rfl 4 (by decide) (List.mem_of_getElem? (i := 1) rfl) rfl (v := .ref (ad 61)) rfl dX8_cancel_31 (q := 34) rfl ?_
    refine vv_iload_n hC 1 dX8_cancel_34 rfl rfl (q := 35) rfl ?_
    refine vv_callv hC hK (fun _ h => Or.inl h) (As := [.int r]) 61 (kl4 (by decide +kernel)) (or4 (by decide +kernel)) rfl (c4_setCancelled l hJ S r) (cwV 1 hC.2.2.2.2 gX8_cancel_X4_setCancelled rfl rfl rfl hdX4_setCancelled ⟨Nat.le_of_ble_eq_true rfl, Nat.le_of_ble_eq_true rfl⟩) rfl rfl (Nat.le_of_ble_eq_true rfl) ⟨Nat.le_of_ble_eq_true rfl, Nat.le_of_ble_eq_true rfl⟩ dX8_cancel_35 (q := 38) rfl ?_
    refine vv_aload_n hC 0 dX8_cancel_38 rfl rfl (q := 39) rfl ?_
    refine vv_get hC hK (K := RX8) (T := TX8) (N := 9) (ci := 8) inwX8_cancel_X8 0 (kl8 (by decide +kernel)) (oc8 (by decide +kernel)) rfl 1 (by decide) (List.mem_of_getElem? (i := 2) rfl) rfl (v := .ref (ad 2)) rfl dX8_cancel_39 (q := 42) rfl ?_
    refine vv_iload_n hC 1 dX8_cancel_42 rfl rfl (q := 43) rfl ?_
    refine vv_calli hC hK (fun _ h => Or.inl h) (As := [.int r]) 2 (kl6 (by decide +kernel)) (or6 (by decide +kernel)) rfl (c6_unfreeze l hJ (sSet S 68 (rSet (S.1 68) r 2)) r) (cwV 1 hC.2.2.2.2 gX8_cancel_X6_unfreeze rfl rfl rfl hdX6_unfreeze ⟨Nat.le_of_ble_eq_true rfl, Nat.le_of_ble_eq_true rfl⟩) rfl rfl (Nat.le_of_ble_eq_true rfl) ⟨Nat.le_of_ble_eq_true rfl, Nat.le_of_ble_eq_true rfl⟩ dX8_cancel_43 (q := 46) rfl ?_
    exact vv_xiret hC hK hr hlk (by simp only [tCancel, t8, decide_eq_true h19, tor_0, tor_3, tor_2, tB2, tB3, tSt, tArg, Bool.not_false, Bool.not_true, if_true, if_false, Bool.false_eq_true, reduceIte]) rfl ⟨Nat.le_of_ble_eq_true rfl, Nat.le_of_ble_eq_true rfl⟩ (fun _ h => h) dX8_cancel_46
theorem inwX8_stateOf_X8 : ∀ w ∈ wsX80, w ∈ wsX8_stateOf := fun _ h => List.mem_cons_of_mem _ (List.mem_append_left _ (List.mem_append_left _ (List.mem_append_left _ (List.mem_append_right _ h))))
theorem inwX8_stateOf_X4 : ∀ w ∈ wsX40, w ∈ wsX8_stateOf := fun _ h => List.mem_cons_of_mem _ (List.mem_append_left _ (List.mem_append_left _ (List.mem_append_right _ h)))
theorem inwX8_stateOf_X5 : ∀ w ∈ wsX50, w ∈ wsX8_stateOf := fun _ h => List.mem_cons_of_mem _ (List.mem_append_left _ (List.mem_append_right _ h))
theorem hdX8_stateOf : yX8_stateOf.cls = RX8 ∧ yX8_stateOf.cls ≠ "java/lang/invoke/MethodHandle" ∧ yX8_stateOf.cls ≠ "java/lang/invoke/VarHandle" ∧ (parseMethodDescriptor yX8_stateOf.desc).map (fun d => d.parameters.length) = some 1 := by decide +kernel
set_option maxRecDepth 100000 in
set_option maxHeartbeats 4000000 in
theorem c8_stateOf (l : Launch) {D : va_G} {cI cW cZ cL : ClassId} {ad : Nat → Nat} (hJ : injA ad 90) (hlst : l.stackTraces = false) (AX : Nat → Prop) (z : Nat) (S : sC) (r : Int32) : kXi l yX8_stateOf wsX8_stateOf ({ frames := 7, cells := 1, slots := 6, locals := 111 }) D vwCl (tyL cI cW cZ cL) ad 90 AX z [.ref (ad 0), .int r] (PC cI cW ad S) (tIx r (nI (S.1 62).length)) (rAt (S.1 68) r) (PC cI cW ad S) 1 6 := by
  refine vv_enterX (cc := cX8_stateOf) (maxL := 2) (ret := (some .int)) (own := RX8) (lv := [(0, .ref (ad 0)), (1, .int r)]) (by decide +kernel) rfl rfl hJ (Nat.le_of_ble_eq_true rfl) rfl ?_
  intro p e s m args below meth c hC hK hW hr hlk hsz hAX hE hout
  refine vv_iload_n hC 1 dX8_stateOf_0 rfl rfl (q := 1) rfl ?_
  refine vv_aload_n hC 0 dX8_stateOf_1 rfl rfl (q := 2) rfl ?_
  refine vv_get hC hK (K := RX8) (T := TX8) (N := 9) (ci := 8) inwX8_stateOf_X8 0 (kl8 (by decide +kernel)) (oc8 (by decide +kernel)) rfl 4 (by decide) (List.mem_of_getElem? (i := 1) rfl) rfl (v := .ref (ad 61)) rfl dX8_stateOf_2 (q := 5) rfl ?_
  refine vv_calli hC hK (fun _ h => Or.inl h) (As := []) 61 (kl4 (by decide +kernel)) (or4 (by decide +kernel)) rfl (c4_count l hJ S) (cwV 0 hC.2.2.2.2 gX8_stateOf_X4_count rfl rfl rfl hdX4_count ⟨Nat.le_of_ble_eq_true rfl, Nat.le_of_ble_eq_true rfl⟩) rfl rfl (Nat.le_of_ble_eq_true rfl) ⟨Nat.le_of_ble_eq_true rfl, Nat.le_of_ble_eq_true rfl⟩ dX8_stateOf_5 (q := 8) rfl ?_
  refine vv_xcallsv hC hK hlk hout hE hAX (fun _ h9 => RAs.mono (by rw [← hsz]; exact h9)) (As := [.int r, .int (nI (S.1 62).length)]) (fun z => c8_requireIndex l hJ hlst AX z S r (nI (S.1 62).length)) (va_cwS 2 hC.2.2.2.2 gX8_stateOf_X8_requireIndex rfl rfl rfl hsX8_requireIndex ⟨Nat.le_of_ble_eq_true rfl, Nat.le_of_ble_eq_true rfl⟩) rfl rfl (Nat.le_of_ble_eq_true rfl) ⟨Nat.le_of_ble_eq_true rfl, Nat.le_of_ble_eq_true rfl⟩ ⟨Nat.le_of_ble_eq_true rfl, Nat.le_of_ble_eq_true rfl⟩ (fun _ h => h) (fun h9 => by simp only [tIx, tor_ne _ h9, tor_0, tor_3, tor_2, tB2, tB3, tSt, tArg, Bool.not_false, Bool.not_true, if_true, if_false, Bool.false_eq_true, reduceIte]) dX8_stateOf_8 (q := 11) rfl (fun t8 => ?_)
  refine vv_aload_n hC 0 dX8_stateOf_11 rfl rfl (q := 12) rfl ?_
  refine vv_get hC hK (K := RX8) (T := TX8) (N := 9) (ci := 8) inwX8_stateOf_X8 0 (kl8 (by decide +kernel)) (oc8 (by decide +kernel)) rfl 4 (by decide) (List.mem_of_getElem? (i := 1) rfl) rfl (v := .ref (ad 61)) rfl dX8_stateOf_12 (q := 15) rfl ?_
  refine vv_iload_n hC 1 dX8_stateOf_15 rfl rfl (q := 16) rfl ?_
  refine vv_calli hC hK (fun _ h => Or.inl h) (As := [.int r]) 61 (kl4 (by decide +kernel)) (or4 (by decide +kernel)) rfl (c4_stateAt l hJ S r) (cwV 1 hC.2.2.2.2 gX8_stateOf_X4_stateAt rfl rfl rfl hdX4_stateAt ⟨Nat.le_of_ble_eq_true rfl, Nat.le_of_ble_eq_true rfl⟩) rfl rfl (Nat.le_of_ble_eq_true rfl) ⟨Nat.le_of_ble_eq_true rfl, Nat.le_of_ble_eq_true rfl⟩ dX8_stateOf_16 (q := 19) rfl ?_
  exact vv_xiret hC hK hr hlk t8 rfl ⟨Nat.le_of_ble_eq_true rfl, Nat.le_of_ble_eq_true rfl⟩ (fun _ h => h) dX8_stateOf_19
theorem inwX8_frozenBy_X8 : ∀ w ∈ wsX80, w ∈ wsX8_frozenBy := fun _ h => List.mem_cons_of_mem _ (List.mem_append_left _ (List.mem_append_left _ (List.mem_append_left _ (List.mem_append_right _ h))))
theorem inwX8_frozenBy_X6 : ∀ w ∈ wsX60, w ∈ wsX8_frozenBy := fun _ h => List.mem_cons_of_mem _ (List.mem_append_left _ (List.mem_append_left _ (List.mem_append_right _ h)))
theorem inwX8_frozenBy_X5 : ∀ w ∈ wsX50, w ∈ wsX8_frozenBy := fun _ h => List.mem_cons_of_mem _ (List.mem_append_left _ (List.mem_append_right _ h))
theorem hdX8_frozenBy : yX8_frozenBy.cls = RX8 ∧ yX8_frozenBy.cls ≠ "java/lang/invoke/MethodHandle" ∧ yX8_frozenBy.cls ≠ "java/lang/invoke/VarHandle" ∧ (parseMethodDescriptor yX8_frozenBy.desc).map (fun d => d.parameters.length) = some 1 := by decide +kernel
set_option maxRecDepth 100000 in
set_option maxHeartbeats 4000000 in
theorem c8_frozenBy (l : Launch) {D : va_G} {cI cW cZ cL : ClassId} {ad : Nat → Nat} (hJ : injA ad 90) (hlst : l.stackTraces = false) (AX : Nat → Prop) (z : Nat) (S : sC) (n : Int32) : kXi l yX8_frozenBy wsX8_frozenBy ({ frames := 8, cells := 1, slots := 6, locals := 132 }) D vwCl (tyL cI cW cZ cL) ad 90 AX z [.ref (ad 0), .int n] (PC cI cW ad S) (tWord S n) (rAt (S.1 11) n) (PC cI cW ad S) 1 6 := by
  refine vv_enterX (cc := cX8_frozenBy) (maxL := 2) (ret := (some .int)) (own := RX8) (lv := [(0, .ref (ad 0)), (1, .int n)]) (by decide +kernel) rfl rfl hJ (Nat.le_of_ble_eq_true rfl) rfl ?_
  intro p e s m args below meth c hC hK hW hr hlk hsz hAX hE hout
  refine vv_aload_n hC 0 dX8_frozenBy_0 rfl rfl (q := 1) rfl ?_
  refine vv_iload_n hC 1 dX8_frozenBy_1 rfl rfl (q := 2) rfl ?_
  refine vv_xcallv hC hK hlk hout hE hAX (fun _ h9 => RAs.mono (by rw [← hsz]; exact h9)) (As := [.int n]) 0 (kl8 (by decide +kernel)) (or8 (by decide +kernel)) rfl (fun z => c8_requireWord l hJ hlst AX z S n) (cwV 1 hC.2.2.2.2 gX8_frozenBy_X8_requireWord rfl rfl rfl hdX8_requireWord ⟨Nat.le_of_ble_eq_true rfl, Nat.le_of_ble_eq_true rfl⟩) rfl rfl (Nat.le_of_ble_eq_true rfl) ⟨Nat.le_of_ble_eq_true rfl, Nat.le_of_ble_eq_true rfl⟩ ⟨Nat.le_of_ble_eq_true rfl, Nat.le_of_ble_eq_true rfl⟩ (fun _ h => h) (fun h9 => by simp only [tWord, tor_ne _ h9, tor_0, tor_3, tor_2, tB2, tB3, tSt, tArg, Bool.not_false, Bool.not_true, if_true, if_false, Bool.false_eq_true, reduceIte]) dX8_frozenBy_2 (q := 5) rfl (fun t2 => ?_)
  refine vv_aload_n hC 0 dX8_frozenBy_5 rfl rfl (q := 6) rfl ?_
  refine vv_get hC hK (K := RX8) (T := TX8) (N := 9) (ci := 8) inwX8_frozenBy_X8 0 (kl8 (by decide +kernel)) (oc8 (by decide +kernel)) rfl 1 (by decide) (List.mem_of_getElem? (i := 1) rfl) rfl (v := .ref (ad 2)) rfl dX8_frozenBy_6 (q := 9) rfl ?_
  refine vv_iload_n hC 1 dX8_frozenBy_9 rfl rfl (q := 10) rfl ?_
  refine vv_calli hC hK (fun _ h => Or.inl h) (As := [.int n]) 2 (kl6 (by decide +kernel)) (or6 (by decide +kernel)) rfl (c6_reviewOf l hJ S n) (cwV 1 hC.2.2.2.2 gX8_frozenBy_X6_reviewOf rfl rfl rfl hdX6_reviewOf ⟨Nat.le_of_ble_eq_true rfl, Nat.le_of_ble_eq_true rfl⟩) rfl rfl (Nat.le_of_ble_eq_true rfl) ⟨Nat.le_of_ble_eq_true rfl, Nat.le_of_ble_eq_true rfl⟩ dX8_frozenBy_10 (q := 13) rfl ?_
  exact vv_xiret hC hK hr hlk t2 rfl ⟨Nat.le_of_ble_eq_true rfl, Nat.le_of_ble_eq_true rfl⟩ (fun _ h => h) dX8_frozenBy_13
theorem inwX8_earned_X8 : ∀ w ∈ wsX80, w ∈ wsX8_earned := fun _ h => List.mem_cons_of_mem _ (List.mem_append_left _ (List.mem_append_left _ (List.mem_append_left _ (List.mem_append_right _ h))))
theorem inwX8_earned_X4 : ∀ w ∈ wsX40, w ∈ wsX8_earned := fun _ h => List.mem_cons_of_mem _ (List.mem_append_left _ (List.mem_append_left _ (List.mem_append_right _ h)))
theorem inwX8_earned_X5 : ∀ w ∈ wsX50, w ∈ wsX8_earned := fun _ h => List.mem_cons_of_mem _ (List.mem_append_left _ (List.mem_append_right _ h))
theorem hdX8_earned : yX8_earned.cls = RX8 ∧ yX8_earned.cls ≠ "java/lang/invoke/MethodHandle" ∧ yX8_earned.cls ≠ "java/lang/invoke/VarHandle" ∧ (parseMethodDescriptor yX8_earned.desc).map (fun d => d.parameters.length) = some 1 := by decide +kernel
set_option maxRecDepth 100000 in
set_option maxHeartbeats 4000000 in
theorem c8_earned (l : Launch) {D : va_G} {cI cW cZ cL : ClassId} {ad : Nat → Nat} (hJ : injA ad 90) (hlst : l.stackTraces = false) (AX : Nat → Prop) (z : Nat) (S : sC) (r : Int32) : kXi l yX8_earned wsX8_earned ({ frames := 7, cells := 1, slots := 6, locals := 111 }) D vwCl (tyL cI cW cZ cL) ad 90 AX z [.ref (ad 0), .int r] (PC cI cW ad S) (tIx r 4) (rAt (S.1 76) r) (PC cI cW ad S) 1 6 := by
  refine vv_enterX (cc := cX8_earned) (maxL := 2) (ret := (some .int)) (own := RX8) (lv := [(0, .ref (ad 0)), (1, .int r)]) (by decide +kernel) rfl rfl hJ (Nat.le_of_ble_eq_true rfl) rfl ?_
  intro p e s m args below meth c hC hK hW hr hlk hsz hAX hE hout
  refine vv_iload_n hC 1 dX8_earned_0 rfl rfl (q := 1) rfl ?_
  refine vv_iconst hC (v := 4) dX8_earned_1 rfl (q := 2) rfl ?_
  refine vv_xcallsv hC hK hlk hout hE hAX (fun _ h9 => RAs.mono (by rw [← hsz]; exact h9)) (As := [.int r, .int 4]) (fun z => c8_requireIndex l hJ hlst AX z S r 4) (va_cwS 2 hC.2.2.2.2 gX8_earned_X8_requireIndex rfl rfl rfl hsX8_requireIndex ⟨Nat.le_of_ble_eq_true rfl, Nat.le_of_ble_eq_true rfl⟩) rfl rfl (Nat.le_of_ble_eq_true rfl) ⟨Nat.le_of_ble_eq_true rfl, Nat.le_of_ble_eq_true rfl⟩ ⟨Nat.le_of_ble_eq_true rfl, Nat.le_of_ble_eq_true rfl⟩ (fun _ h => h) (fun h9 => by simp only [tIx, tor_ne _ h9, tor_0, tor_3, tor_2, tB2, tB3, tSt, tArg, Bool.not_false, Bool.not_true, if_true, if_false, Bool.false_eq_true, reduceIte]) dX8_earned_2 (q := 5) rfl (fun t2 => ?_)
  refine vv_aload_n hC 0 dX8_earned_5 rfl rfl (q := 6) rfl ?_
  refine vv_get hC hK (K := RX8) (T := TX8) (N := 9) (ci := 8) inwX8_earned_X8 0 (kl8 (by decide +kernel)) (oc8 (by decide +kernel)) rfl 4 (by decide) (List.mem_of_getElem? (i := 1) rfl) rfl (v := .ref (ad 61)) rfl dX8_earned_6 (q := 9) rfl ?_
  refine vv_iload_n hC 1 dX8_earned_9 rfl rfl (q := 10) rfl ?_
  refine vv_calli hC hK (fun _ h => Or.inl h) (As := [.int r]) 61 (kl4 (by decide +kernel)) (or4 (by decide +kernel)) rfl (c4_earnedBy l hJ S r) (cwV 1 hC.2.2.2.2 gX8_earned_X4_earnedBy rfl rfl rfl hdX4_earnedBy ⟨Nat.le_of_ble_eq_true rfl, Nat.le_of_ble_eq_true rfl⟩) rfl rfl (Nat.le_of_ble_eq_true rfl) ⟨Nat.le_of_ble_eq_true rfl, Nat.le_of_ble_eq_true rfl⟩ dX8_earned_10 (q := 13) rfl ?_
  exact vv_xiret hC hK hr hlk t2 rfl ⟨Nat.le_of_ble_eq_true rfl, Nat.le_of_ble_eq_true rfl⟩ (fun _ h => h) dX8_earned_13
theorem inwX8_addIssue_X8 : ∀ w ∈ wsX80, w ∈ wsX8_addIssue := fun _ h => List.mem_cons_of_mem _ (List.mem_append_left _ (List.mem_append_left _ (List.mem_append_left _ (List.mem_append_left _ (List.mem_append_right _ h)))))
theorem inwX8_addIssue_X3 : ∀ w ∈ wsX30, w ∈ wsX8_addIssue := fun _ h => List.mem_cons_of_mem _ (List.mem_append_left _ (List.mem_append_left _ (List.mem_append_left _ (List.mem_append_right _ h))))
theorem inwX8_addIssue_X5 : ∀ w ∈ wsX50, w ∈ wsX8_addIssue := fun _ h => List.mem_cons_of_mem _ (List.mem_append_left _ (List.mem_append_left _ (List.mem_append_right _ h)))
theorem hdX8_addIssue : yX8_addIssue.cls = RX8 ∧ yX8_addIssue.cls ≠ "java/lang/invoke/MethodHandle" ∧ yX8_addIssue.cls ≠ "java/lang/invoke/VarHandle" ∧ (parseMethodDescriptor yX8_addIssue.desc).map (fun d => d.parameters.length) = some 2 := by decide +kernel
set_option maxRecDepth 100000 in
set_option maxHeartbeats 4000000 in
theorem c8_addIssue (l : Launch) {D : va_G} {cI cW cZ cL : ClassId} {ad : Nat → Nat} (hJ : injA ad 90) (hlst : l.stackTraces = false) (AX : Nat → Prop) (z : Nat) (S : sC) (d z0 : Int32) : kXi l yX8_addIssue wsX8_addIssue ({ frames := 8, cells := 4, slots := 24, locals := 132 }) D vwCl (tyL cI cW cZ cL) ad 90 AX z [.ref (ad 0), .int d, .int z0] (PC cI cW ad S) (tIssue S d z0) (nI ((isAdd S d z0).1 79).length - 1) (PC cI cW ad (isAdd S d z0)) 4 24 := by
  refine vv_enterX (cc := cX8_addIssue) (maxL := 3) (ret := (some .int)) (own := RX8) (lv := [(0, .ref (ad 0)), (1, .int d), (2, .int z0)]) (by decide +kernel) rfl rfl hJ (Nat.le_of_ble_eq_true rfl) rfl ?_
  intro p e s m args below meth c hC hK hW hr hlk hsz hAX hE hout
  refine vv_iload_n hC 1 dX8_addIssue_0 rfl rfl (q := 1) rfl ?_
  refine vv_aload_n hC 0 dX8_addIssue_1 rfl rfl (q := 2) rfl ?_
  refine vv_get hC hK (K := RX8) (T := TX8) (N := 9) (ci := 8) inwX8_addIssue_X8 0 (kl8 (by decide +kernel)) (oc8 (by decide +kernel)) rfl 8 (by decide) (List.mem_of_getElem? (i := 1) rfl) rfl (v := .int S.2.2) rfl dX8_addIssue_2 (q := 5) rfl ?_
  refine vv_iconst hC (v := 1) dX8_addIssue_5 rfl (q := 6) rfl ?_
  refine vv_iadd hC dX8_addIssue_6 (q := 7) rfl ?_
  refine vv_sipush hC (v := 1000) dX8_addIssue_7 rfl (q := 10) rfl ?_
  refine vv_xcallsv hC hK hlk hout hE hAX (fun _ h9 => RAs.mono (by rw [← hsz]; exact h9)) (As := [.int d, .int (S.2.2 + 1), .int 1000]) (fun z => c8_requireRange l hJ hlst AX z S d (S.2.2 + 1) 1000) (va_cwS 3 hC.2.2.2.2 gX8_addIssue_X8_requireRange rfl rfl rfl hsX8_requireRange ⟨Nat.le_of_ble_eq_true rfl, Nat.le_of_ble_eq_true rfl⟩) rfl rfl (Nat.le_of_ble_eq_true rfl) ⟨Nat.le_of_ble_eq_true rfl, Nat.le_of_ble_eq_true rfl⟩ ⟨Nat.le_of_ble_eq_true rfl, Nat.le_of_ble_eq_true rfl⟩ (fun _ h => h) (fun h9 => by simp only [tIssue, tor_ne _ h9, tor_0, tor_3, tor_2, tB2, tB3, tSt, tArg, Bool.not_false, Bool.not_true, if_true, if_false, Bool.false_eq_true, reduceIte]) dX8_addIssue_10 (q := 13) rfl (fun t10 => ?_)
  refine vv_iload_n hC 2 dX8_addIssue_13 rfl rfl (q := 14) rfl ?_
  refine vv_iconst hC (v := 1) dX8_addIssue_14 rfl (q := 15) rfl ?_
  refine vv_sipush hC (v := 200) dX8_addIssue_15 rfl (q := 18) rfl ?_
  refine vv_xcallsv hC hK hlk hout hE hAX (fun _ h9 => RAs.mono (by rw [← hsz]; exact h9)) (As := [.int z0, .int 1, .int 200]) (fun z => c8_requireRange l hJ hlst AX z S z0 1 200) (va_cwS 3 hC.2.2.2.2 gX8_addIssue_X8_requireRange rfl rfl rfl hsX8_requireRange ⟨Nat.le_of_ble_eq_true rfl, Nat.le_of_ble_eq_true rfl⟩) rfl rfl (Nat.le_of_ble_eq_true rfl) ⟨Nat.le_of_ble_eq_true rfl, Nat.le_of_ble_eq_true rfl⟩ ⟨Nat.le_of_ble_eq_true rfl, Nat.le_of_ble_eq_true rfl⟩ (fun _ h => h) (fun h9 => by simp only [tIssue, t10, tor_ne _ h9, tor_0, tor_3, tor_2, tB2, tB3, tSt, tArg, Bool.not_false, Bool.not_true, if_true, if_false, Bool.false_eq_true, reduceIte]) dX8_addIssue_18 (q := 21) rfl (fun t18 => ?_)
  refine vv_aload_n hC 0 dX8_addIssue_21 rfl rfl (q := 22) rfl ?_
  refine vv_get hC hK (K := RX8) (T := TX8) (N := 9) (ci := 8) inwX8_addIssue_X8 0 (kl8 (by decide +kernel)) (oc8 (by decide +kernel)) rfl 5 (by decide) (List.mem_of_getElem? (i := 2) rfl) rfl (v := .ref (ad 78)) rfl dX8_addIssue_22 (q := 25) rfl ?_
  refine vv_calli hC hK (fun _ h => Or.inl h) (As := []) 78 (kl3 (by decide +kernel)) (or3 (by decide +kernel)) rfl (c3_count l hJ S) (cwV 0 hC.2.2.2.2 gX8_addIssue_X3_count rfl rfl rfl hdX3_count ⟨Nat.le_of_ble_eq_true rfl, Nat.le_of_ble_eq_true rfl⟩) rfl rfl (Nat.le_of_ble_eq_true rfl) ⟨Nat.le_of_ble_eq_true rfl, Nat.le_of_ble_eq_true rfl⟩ dX8_addIssue_25 (q := 28) rfl ?_
  refine vv_bipush hC (v := 12) dX8_addIssue_28 rfl (q := 30) rfl ?_
  refine vv_icmp_ge hC (tgt := 37) dX8_addIssue_30 (by decide) (q := 33) rfl (fun h30 => ?_) (fun h30 => ?_)
  · skip
    refine vv_iconst hC (v := 0) dX8_addIssue_37 rfl (q := 38) rfl ?_
    refine vv_xcallsv hC hK hlk hout hE hAX (fun _ h9 => RAs.mono (by rw [← hsz]; exact h9)) (As := [.int 0]) (fun z => c8_requireState l hJ hlst AX z S 0) (va_cwS 1 hC.2.2.2.2 gX8_addIssue_X8_requireState rfl rfl rfl hsX8_requireState ⟨Nat.le_of_ble_eq_true rfl, Nat.le_of_ble_eq_true rfl⟩) rfl rfl (Nat.le_of_ble_eq_true rfl) ⟨Nat.le_of_ble_eq_true rfl, Nat.le_of_ble_eq_true rfl⟩ ⟨Nat.le_of_ble_eq_true rfl, Nat.le_of_ble_eq_true rfl⟩ (fun _ h => h) (fun h9 => by simp only [tIssue, t10, t18, decide_eq_true h30, tor_ne _ h9, tor_0, tor_3, tor_2, tB2, tB3, tSt, tArg, Bool.not_false, Bool.not_true, if_true, if_false, Bool.false_eq_true, reduceIte]) dX8_addIssue_38 (q := 41) rfl (fun t38 => ?_)
    exact absurd t38 (by decide)
  · skip
    refine vv_iconst hC (v := 1) dX8_addIssue_33 rfl (q := 34) rfl ?_
    refine vv_goto hC (tgt := 38) dX8_addIssue_34 (by decide) ?_
    refine vv_xcallsv hC hK hlk hout hE hAX (fun _ h9 => RAs.mono (by rw [← hsz]; exact h9)) (As := [.int 1]) (fun z => c8_requireState l hJ hlst AX z S 1) (va_cwS 1 hC.2.2.2.2 gX8_addIssue_X8_requireState rfl rfl rfl hsX8_requireState ⟨Nat.le_of_ble_eq_true rfl, Nat.le_of_ble_eq_true rfl⟩) rfl rfl (Nat.le_of_ble_eq_true rfl) ⟨Nat.le_of_ble_eq_true rfl, Nat.le_of_ble_eq_true rfl⟩ ⟨Nat.le_of_ble_eq_true rfl, Nat.le_of_ble_eq_true rfl⟩ (fun _ h => h) (fun h9 => absurd rfl h9) dX8_addIssue_38 (q := 41) rfl (fun t38 => ?_)
    refine vv_aload_n hC 0 dX8_addIssue_41 rfl rfl (q := 42) rfl ?_
    refine vv_get hC hK (K := RX8) (T := TX8) (N := 9) (ci := 8) inwX8_addIssue_X8 0 (kl8 (by decide +kernel)) (oc8 (by decide +kernel)) rfl 5 (by decide) (List.mem_of_getElem? (i := 2) rfl) rfl (v := .ref (ad 78)) rfl dX8_addIssue_42 (q := 45) rfl ?_
    refine vv_iload_n hC 1 dX8_addIssue_45 rfl rfl (q := 46) rfl ?_
    refine vv_calli hC hK (fun _ h => Or.inl h) (As := [.int d]) 78 (kl3 (by decide +kernel)) (or3 (by decide +kernel)) rfl (c3_ofDay l hJ S d) (cwV 1 hC.2.2.2.2 gX8_addIssue_X3_ofDay rfl rfl rfl hdX3_ofDay ⟨Nat.le_of_ble_eq_true rfl, Nat.le_of_ble_eq_true rfl⟩) rfl rfl (Nat.le_of_ble_eq_true rfl) ⟨Nat.le_of_ble_eq_true rfl, Nat.le_of_ble_eq_true rfl⟩ dX8_addIssue_46 (q := 49) rfl ?_
    refine vv_iconst hC (v := (-1)) dX8_addIssue_49 rfl (q := 50) rfl ?_
    refine vv_icmp_ne hC (tgt := 57) dX8_addIssue_50 (by decide) (q := 53) rfl (fun h50 => ?_) (fun h50 => ?_)
    · skip
      refine vv_iconst hC (v := 0) dX8_addIssue_57 rfl (q := 58) rfl ?_
      refine vv_xcallsv hC hK hlk hout hE hAX (fun _ h9 => RAs.mono (by rw [← hsz]; exact h9)) (As := [.int 0]) (fun z => c8_requireState l hJ hlst AX z S 0) (va_cwS 1 hC.2.2.2.2 gX8_addIssue_X8_requireState rfl rfl rfl hsX8_requireState ⟨Nat.le_of_ble_eq_true rfl, Nat.le_of_ble_eq_true rfl⟩) rfl rfl (Nat.le_of_ble_eq_true rfl) ⟨Nat.le_of_ble_eq_true rfl, Nat.le_of_ble_eq_true rfl⟩ ⟨Nat.le_of_ble_eq_true rfl, Nat.le_of_ble_eq_true rfl⟩ (fun _ h => h) (fun h9 => by simp only [tIssue, t10, t18, decide_eq_false h30, decide_eq_false h50, tor_ne _ h9, tor_0, tor_3, tor_2, tB2, tB3, tSt, tArg, Bool.not_false, Bool.not_true, if_true, if_false, Bool.false_eq_true, reduceIte]) dX8_addIssue_58 (q := 61) rfl (fun t58 => ?_)
      exact absurd t58 (by decide)
    · skip
      refine vv_iconst hC (v := 1) dX8_addIssue_53 rfl (q := 54) rfl ?_
      refine vv_goto hC (tgt := 58) dX8_addIssue_54 (by decide) ?_
      refine vv_xcallsv hC hK hlk hout hE hAX (fun _ h9 => RAs.mono (by rw [← hsz]; exact h9)) (As := [.int 1]) (fun z => c8_requireState l hJ hlst AX z S 1) (va_cwS 1 hC.2.2.2.2 gX8_addIssue_X8_requireState rfl rfl rfl hsX8_requireState ⟨Nat.le_of_ble_eq_true rfl, Nat.le_of_ble_eq_true rfl⟩) rfl rfl (Nat.le_of_ble_eq_true rfl) ⟨Nat.le_of_ble_eq_true rfl, Nat.le_of_ble_eq_true rfl⟩ ⟨Nat.le_of_ble_eq_true rfl, Nat.le_of_ble_eq_true rfl⟩ (fun _ h => h) (fun h9 => absurd rfl h9) dX8_addIssue_58 (q := 61) rfl (fun t58 => ?_)
      refine vv_aload_n hC 0 dX8_addIssue_61 rfl rfl (q := 62) rfl ?_
      refine vv_get hC hK (K := RX8) (T := TX8) (N := 9) (ci := 8) inwX8_addIssue_X8 0 (kl8 (by decide +kernel)) (oc8 (by decide +kernel)) rfl 5 (by decide) (List.mem_of_getElem? (i := 2) rfl) rfl (v := .ref (ad 78)) rfl dX8_addIssue_62 (q := 65) rfl ?_
      refine vv_iload_n hC 1 dX8_addIssue_65 rfl rfl (q := 66) rfl ?_
      refine vv_iload_n hC 2 dX8_addIssue_66 rfl rfl (q := 67) rfl ?_
      refine vv_calli hC hK (fun _ h => Or.inl h) (As := [.int d, .int z0]) 78 (kl3 (by decide +kernel)) (or3 (by decide +kernel)) rfl (c3_add l hJ S d z0) (cwV 2 hC.2.2.2.2 gX8_addIssue_X3_add rfl rfl rfl hdX3_add ⟨Nat.le_of_ble_eq_true rfl, Nat.le_of_ble_eq_true rfl⟩) rfl rfl (Nat.le_of_ble_eq_true rfl) ⟨Nat.le_of_ble_eq_true rfl, Nat.le_of_ble_eq_true rfl⟩ dX8_addIssue_67 (q := 70) rfl ?_
      exact vv_xiret hC hK hr hlk (by simp only [tIssue, t10, t18, decide_eq_false h30, decide_eq_true h50, tor_0, tor_3, tor_2, tB2, tB3, tSt, tArg, Bool.not_false, Bool.not_true, if_true, if_false, Bool.false_eq_true, reduceIte]) rfl ⟨Nat.le_of_ble_eq_true rfl, Nat.le_of_ble_eq_true rfl⟩ (fun _ h => h) dX8_addIssue_70
theorem inwX8_waiting_X8 : ∀ w ∈ wsX80, w ∈ wsX8_waiting := fun _ h => List.mem_cons_of_mem _ (List.mem_append_left _ (List.mem_append_left _ (List.mem_append_left _ (List.mem_append_right _ h))))
theorem inwX8_waiting_X4 : ∀ w ∈ wsX40, w ∈ wsX8_waiting := fun _ h => List.mem_cons_of_mem _ (List.mem_append_left _ (List.mem_append_left _ (List.mem_append_right _ h)))
theorem inwX8_waiting_X5 : ∀ w ∈ wsX50, w ∈ wsX8_waiting := fun _ h => List.mem_cons_of_mem _ (List.mem_append_left _ (List.mem_append_right _ h))
theorem hdX8_waiting : yX8_waiting.cls = RX8 ∧ yX8_waiting.cls ≠ "java/lang/invoke/MethodHandle" ∧ yX8_waiting.cls ≠ "java/lang/invoke/VarHandle" ∧ (parseMethodDescriptor yX8_waiting.desc).map (fun d => d.parameters.length) = some 1 := by decide +kernel
set_option maxRecDepth 100000 in
set_option maxHeartbeats 4000000 in
theorem c8_waiting (l : Launch) {D : va_G} {cI cW cZ cL : ClassId} {ad : Nat → Nat} (hJ : injA ad 90) (hlst : l.stackTraces = false) (AX : Nat → Prop) (z : Nat) (S : sC) (n : Int32) : kXi l yX8_waiting wsX8_waiting ({ frames := 7, cells := 1, slots := 6, locals := 110 }) D vwCl (tyL cI cW cZ cL) ad 90 AX z [.ref (ad 0), .int n] (PC cI cW ad S) (tB2 (!decide (n < 0))) (rAt (S.1 72) n) (PC cI cW ad S) 1 6 := by
  refine vv_enterX (cc := cX8_waiting) (maxL := 2) (ret := (some .int)) (own := RX8) (lv := [(0, .ref (ad 0)), (1, .int n)]) (by decide +kernel) rfl rfl hJ (Nat.le_of_ble_eq_true rfl) rfl ?_
  intro p e s m args below meth c hC hK hW hr hlk hsz hAX hE hout
  refine vv_iload_n hC 1 dX8_waiting_0 rfl rfl (q := 1) rfl ?_
  refine vv_if_lt hC (tgt := 8) dX8_waiting_1 (by decide) (q := 4) rfl (fun h1 => ?_) (fun h1 => ?_)
  · skip
    refine vv_iconst hC (v := 0) dX8_waiting_8 rfl (q := 9) rfl ?_
    refine vv_xcallsv hC hK hlk hout hE hAX (fun _ h9 => RAs.mono (by rw [← hsz]; exact h9)) (As := [.int 0]) (fun z => c8_requireArgument l hJ hlst AX z S 0) (va_cwS 1 hC.2.2.2.2 gX8_waiting_X8_requireArgument rfl rfl rfl hsX8_requireArgument ⟨Nat.le_of_ble_eq_true rfl, Nat.le_of_ble_eq_true rfl⟩) rfl rfl (Nat.le_of_ble_eq_true rfl) ⟨Nat.le_of_ble_eq_true rfl, Nat.le_of_ble_eq_true rfl⟩ ⟨Nat.le_of_ble_eq_true rfl, Nat.le_of_ble_eq_true rfl⟩ (fun _ h => h) (fun h9 => by simp only [tB2, decide_eq_true h1, tor_ne _ h9, tor_0, tor_3, tor_2, tB2, tB3, tSt, tArg, Bool.not_false, Bool.not_true, if_true, if_false, Bool.false_eq_true, reduceIte]) dX8_waiting_9 (q := 12) rfl (fun t9 => ?_)
    exact absurd t9 (by decide)
  · skip
    refine vv_iconst hC (v := 1) dX8_waiting_4 rfl (q := 5) rfl ?_
    refine vv_goto hC (tgt := 9) dX8_waiting_5 (by decide) ?_
    refine vv_xcallsv hC hK hlk hout hE hAX (fun _ h9 => RAs.mono (by rw [← hsz]; exact h9)) (As := [.int 1]) (fun z => c8_requireArgument l hJ hlst AX z S 1) (va_cwS 1 hC.2.2.2.2 gX8_waiting_X8_requireArgument rfl rfl rfl hsX8_requireArgument ⟨Nat.le_of_ble_eq_true rfl, Nat.le_of_ble_eq_true rfl⟩) rfl rfl (Nat.le_of_ble_eq_true rfl) ⟨Nat.le_of_ble_eq_true rfl, Nat.le_of_ble_eq_true rfl⟩ ⟨Nat.le_of_ble_eq_true rfl, Nat.le_of_ble_eq_true rfl⟩ (fun _ h => h) (fun h9 => absurd rfl h9) dX8_waiting_9 (q := 12) rfl (fun t9 => ?_)
    refine vv_aload_n hC 0 dX8_waiting_12 rfl rfl (q := 13) rfl ?_
    refine vv_get hC hK (K := RX8) (T := TX8) (N := 9) (ci := 8) inwX8_waiting_X8 0 (kl8 (by decide +kernel)) (oc8 (by decide +kernel)) rfl 4 (by decide) (List.mem_of_getElem? (i := 1) rfl) rfl (v := .ref (ad 61)) rfl dX8_waiting_13 (q := 16) rfl ?_
    refine vv_iload_n hC 1 dX8_waiting_16 rfl rfl (q := 17) rfl ?_
    refine vv_calli hC hK (fun _ h => Or.inl h) (As := [.int n]) 61 (kl4 (by decide +kernel)) (or4 (by decide +kernel)) rfl (c4_waitingAt l hJ S n) (cwV 1 hC.2.2.2.2 gX8_waiting_X4_waitingAt rfl rfl rfl hdX4_waitingAt ⟨Nat.le_of_ble_eq_true rfl, Nat.le_of_ble_eq_true rfl⟩) rfl rfl (Nat.le_of_ble_eq_true rfl) ⟨Nat.le_of_ble_eq_true rfl, Nat.le_of_ble_eq_true rfl⟩ dX8_waiting_17 (q := 20) rfl ?_
    exact vv_xiret hC hK hr hlk (by simp only [tB2, decide_eq_false h1, tor_0, tor_3, tor_2, tB2, tB3, tSt, tArg, Bool.not_false, Bool.not_true, if_true, if_false, Bool.false_eq_true, reduceIte]) rfl ⟨Nat.le_of_ble_eq_true rfl, Nat.le_of_ble_eq_true rfl⟩ (fun _ h => h) dX8_waiting_20
theorem inwX8_royalties_X8 : ∀ w ∈ wsX80, w ∈ wsX8_royalties := fun _ h => List.mem_cons_of_mem _ (List.mem_append_left _ (List.mem_append_left _ (List.mem_append_right _ h)))
theorem inwX8_royalties_X5 : ∀ w ∈ wsX50, w ∈ wsX8_royalties := fun _ h => List.mem_cons_of_mem _ (List.mem_append_left _ (List.mem_append_right _ h))
theorem hdX8_royalties : yX8_royalties.cls = RX8 ∧ yX8_royalties.cls ≠ "java/lang/invoke/MethodHandle" ∧ yX8_royalties.cls ≠ "java/lang/invoke/VarHandle" ∧ (parseMethodDescriptor yX8_royalties.desc).map (fun d => d.parameters.length) = some 1 := by decide +kernel
set_option maxRecDepth 100000 in
set_option maxHeartbeats 4000000 in
theorem c8_royalties (l : Launch) {D : va_G} {cI cW cZ cL : ClassId} {ad : Nat → Nat} (hJ : injA ad 90) (hlst : l.stackTraces = false) (AX : Nat → Prop) (z : Nat) (S : sC) (w : Int32) : kXi l yX8_royalties wsX8_royalties ({ frames := 7, cells := 1, slots := 6, locals := 111 }) D vwCl (tyL cI cW cZ cL) ad 90 AX z [.ref (ad 0), .int w] (PC cI cW ad S) (tIx w 6) (rAt (S.1 59) w) (PC cI cW ad S) 1 6 := by
  refine vv_enterX (cc := cX8_royalties) (maxL := 2) (ret := (some .int)) (own := RX8) (lv := [(0, .ref (ad 0)), (1, .int w)]) (by decide +kernel) rfl rfl hJ (Nat.le_of_ble_eq_true rfl) rfl ?_
  intro p e s m args below meth c hC hK hW hr hlk hsz hAX hE hout
  refine vv_iload_n hC 1 dX8_royalties_0 rfl rfl (q := 1) rfl ?_
  refine vv_bipush hC (v := 6) dX8_royalties_1 rfl (q := 3) rfl ?_
  refine vv_xcallsv hC hK hlk hout hE hAX (fun _ h9 => RAs.mono (by rw [← hsz]; exact h9)) (As := [.int w, .int 6]) (fun z => c8_requireIndex l hJ hlst AX z S w 6) (va_cwS 2 hC.2.2.2.2 gX8_royalties_X8_requireIndex rfl rfl rfl hsX8_requireIndex ⟨Nat.le_of_ble_eq_true rfl, Nat.le_of_ble_eq_true rfl⟩) rfl rfl (Nat.le_of_ble_eq_true rfl) ⟨Nat.le_of_ble_eq_true rfl, Nat.le_of_ble_eq_true rfl⟩ ⟨Nat.le_of_ble_eq_true rfl, Nat.le_of_ble_eq_true rfl⟩ (fun _ h => h) (fun h9 => by simp only [tIx, tor_ne _ h9, tor_0, tor_3, tor_2, tB2, tB3, tSt, tArg, Bool.not_false, Bool.not_true, if_true, if_false, Bool.false_eq_true, reduceIte]) dX8_royalties_3 (q := 6) rfl (fun t3 => ?_)
  refine vv_aload_n hC 0 dX8_royalties_6 rfl rfl (q := 7) rfl ?_
  refine vv_get hC hK (K := RX8) (T := TX8) (N := 9) (ci := 8) inwX8_royalties_X8 0 (kl8 (by decide +kernel)) (oc8 (by decide +kernel)) rfl 3 (by decide) (List.mem_of_getElem? (i := 1) rfl) rfl (v := .ref (ad 59)) rfl dX8_royalties_7 (q := 10) rfl ?_
  refine vv_iload_n hC 1 dX8_royalties_10 rfl rfl (q := 11) rfl ?_
  refine vv_calli hC hK (fun _ h => Or.inl h) (As := [.int w]) 59 (kl5 (by decide +kernel)) (or5 (by decide +kernel)) rfl (c5_at l hJ S 59 (by decide +kernel) w) (cwV 1 hC.2.2.2.2 gX8_royalties_X5_at rfl rfl rfl hdX5_at ⟨Nat.le_of_ble_eq_true rfl, Nat.le_of_ble_eq_true rfl⟩) rfl rfl (Nat.le_of_ble_eq_true rfl) ⟨Nat.le_of_ble_eq_true rfl, Nat.le_of_ble_eq_true rfl⟩ dX8_royalties_11 (q := 14) rfl ?_
  exact vv_xiret hC hK hr hlk t3 rfl ⟨Nat.le_of_ble_eq_true rfl, Nat.le_of_ble_eq_true rfl⟩ (fun _ h => h) dX8_royalties_14
theorem inwX8_comment_X8 : ∀ w ∈ wsX80, w ∈ wsX8_comment := fun _ h => List.mem_cons_of_mem _ (List.mem_append_left _ (List.mem_append_left _ (List.mem_append_left _ (List.mem_append_left _ (List.mem_append_left _ (List.mem_append_left _ (List.mem_append_right _ h)))))))
theorem inwX8_comment_X2 : ∀ w ∈ wsX20, w ∈ wsX8_comment := fun _ h => List.mem_cons_of_mem _ (List.mem_append_left _ (List.mem_append_left _ (List.mem_append_left _ (List.mem_append_left _ (List.mem_append_left _ (List.mem_append_right _ h))))))
theorem inwX8_comment_X5 : ∀ w ∈ wsX50, w ∈ wsX8_comment := fun _ h => List.mem_cons_of_mem _ (List.mem_append_left _ (List.mem_append_left _ (List.mem_append_left _ (List.mem_append_left _ (List.mem_append_right _ h)))))
theorem inwX8_comment_X1 : ∀ w ∈ wsX10, w ∈ wsX8_comment := fun _ h => List.mem_cons_of_mem _ (List.mem_append_left _ (List.mem_append_left _ (List.mem_append_left _ (List.mem_append_right _ h))))
theorem hdX8_comment : yX8_comment.cls = RX8 ∧ yX8_comment.cls ≠ "java/lang/invoke/MethodHandle" ∧ yX8_comment.cls ≠ "java/lang/invoke/VarHandle" ∧ (parseMethodDescriptor yX8_comment.desc).map (fun d => d.parameters.length) = some 2 := by decide +kernel
set_option maxRecDepth 100000 in
set_option maxHeartbeats 4000000 in
theorem c8_comment (l : Launch) {D : va_G} {cI cW cZ cL : ClassId} {ad : Nat → Nat} (hJ : injA ad 90) (hlst : l.stackTraces = false) (AX : Nat → Prop) (z : Nat) (S : sC) (a b : Int32) : kXi l yX8_comment wsX8_comment ({ frames := 9, cells := 4, slots := 24, locals := 154 }) D vwCl (tyL cI cW cZ cL) ad 90 AX z [.ref (ad 0), .int a, .int b] (PC cI cW ad S) (tComment S a b) (nI ((sComment S a b).1 86).length - 1) (PC cI cW ad (sComment S a b)) 4 24 := by
  refine vv_enterX (cc := cX8_comment) (maxL := 3) (ret := (some .int)) (own := RX8) (lv := [(0, .ref (ad 0)), (1, .int a), (2, .int b)]) (by decide +kernel) rfl rfl hJ (Nat.le_of_ble_eq_true rfl) rfl ?_
  intro p e s m args below meth c hC hK hW hr hlk hsz hAX hE hout
  refine vv_aload_n hC 0 dX8_comment_0 rfl rfl (q := 1) rfl ?_
  refine vv_iload_n hC 1 dX8_comment_1 rfl rfl (q := 2) rfl ?_
  refine vv_iload_n hC 2 dX8_comment_2 rfl rfl (q := 3) rfl ?_
  refine vv_xcallv hC hK hlk hout hE hAX (fun _ h9 => RAs.mono (by rw [← hsz]; exact h9)) (As := [.int a, .int b]) 0 (kl8 (by decide +kernel)) (or8 (by decide +kernel)) rfl (fun z => c8_requireSpan l hJ hlst AX z S a b) (cwV 2 hC.2.2.2.2 gX8_comment_X8_requireSpan rfl rfl rfl hdX8_requireSpan ⟨Nat.le_of_ble_eq_true rfl, Nat.le_of_ble_eq_true rfl⟩) rfl rfl (Nat.le_of_ble_eq_true rfl) ⟨Nat.le_of_ble_eq_true rfl, Nat.le_of_ble_eq_true rfl⟩ ⟨Nat.le_of_ble_eq_true rfl, Nat.le_of_ble_eq_true rfl⟩ (fun _ h => h) (fun h9 => by simp only [tComment, tor_ne _ h9, tor_0, tor_3, tor_2, tB2, tB3, tSt, tArg, Bool.not_false, Bool.not_true, if_true, if_false, Bool.false_eq_true, reduceIte]) dX8_comment_3 (q := 6) rfl (fun t3 => ?_)
  refine vv_aload_n hC 0 dX8_comment_6 rfl rfl (q := 7) rfl ?_
  refine vv_get hC hK (K := RX8) (T := TX8) (N := 9) (ci := 8) inwX8_comment_X8 0 (kl8 (by decide +kernel)) (oc8 (by decide +kernel)) rfl 6 (by decide) (List.mem_of_getElem? (i := 1) rfl) rfl (v := .ref (ad 85)) rfl dX8_comment_7 (q := 10) rfl ?_
  refine vv_calli hC hK (fun _ h => Or.inl h) (As := []) 85 (kl1 (by decide +kernel)) (or1 (by decide +kernel)) rfl (c1_count l hJ S) (cwV 0 hC.2.2.2.2 gX8_comment_X1_count rfl rfl rfl hdX1_count ⟨Nat.le_of_ble_eq_true rfl, Nat.le_of_ble_eq_true rfl⟩) rfl rfl (Nat.le_of_ble_eq_true rfl) ⟨Nat.le_of_ble_eq_true rfl, Nat.le_of_ble_eq_true rfl⟩ dX8_comment_10 (q := 13) rfl ?_
  refine vv_bipush hC (v := 40) dX8_comment_13 rfl (q := 15) rfl ?_
  refine vv_icmp_ge hC (tgt := 22) dX8_comment_15 (by decide) (q := 18) rfl (fun h15 => ?_) (fun h15 => ?_)
  · skip
    refine vv_iconst hC (v := 0) dX8_comment_22 rfl (q := 23) rfl ?_
    refine vv_xcallsv hC hK hlk hout hE hAX (fun _ h9 => RAs.mono (by rw [← hsz]; exact h9)) (As := [.int 0]) (fun z => c8_requireState l hJ hlst AX z S 0) (va_cwS 1 hC.2.2.2.2 gX8_comment_X8_requireState rfl rfl rfl hsX8_requireState ⟨Nat.le_of_ble_eq_true rfl, Nat.le_of_ble_eq_true rfl⟩) rfl rfl (Nat.le_of_ble_eq_true rfl) ⟨Nat.le_of_ble_eq_true rfl, Nat.le_of_ble_eq_true rfl⟩ ⟨Nat.le_of_ble_eq_true rfl, Nat.le_of_ble_eq_true rfl⟩ (fun _ h => h) (fun h9 => by simp only [tComment, t3, decide_eq_true h15, tor_ne _ h9, tor_0, tor_3, tor_2, tB2, tB3, tSt, tArg, Bool.not_false, Bool.not_true, if_true, if_false, Bool.false_eq_true, reduceIte]) dX8_comment_23 (q := 26) rfl (fun t23 => ?_)
    exact absurd t23 (by decide)
  · skip
    refine vv_iconst hC (v := 1) dX8_comment_18 rfl (q := 19) rfl ?_
    refine vv_goto hC (tgt := 23) dX8_comment_19 (by decide) ?_
    refine vv_xcallsv hC hK hlk hout hE hAX (fun _ h9 => RAs.mono (by rw [← hsz]; exact h9)) (As := [.int 1]) (fun z => c8_requireState l hJ hlst AX z S 1) (va_cwS 1 hC.2.2.2.2 gX8_comment_X8_requireState rfl rfl rfl hsX8_requireState ⟨Nat.le_of_ble_eq_true rfl, Nat.le_of_ble_eq_true rfl⟩) rfl rfl (Nat.le_of_ble_eq_true rfl) ⟨Nat.le_of_ble_eq_true rfl, Nat.le_of_ble_eq_true rfl⟩ ⟨Nat.le_of_ble_eq_true rfl, Nat.le_of_ble_eq_true rfl⟩ (fun _ h => h) (fun h9 => absurd rfl h9) dX8_comment_23 (q := 26) rfl (fun t23 => ?_)
    refine vv_aload_n hC 0 dX8_comment_26 rfl rfl (q := 27) rfl ?_
    refine vv_get hC hK (K := RX8) (T := TX8) (N := 9) (ci := 8) inwX8_comment_X8 0 (kl8 (by decide +kernel)) (oc8 (by decide +kernel)) rfl 6 (by decide) (List.mem_of_getElem? (i := 1) rfl) rfl (v := .ref (ad 85)) rfl dX8_comment_27 (q := 30) rfl ?_
    refine vv_aload_n hC 0 dX8_comment_30 rfl rfl (q := 31) rfl ?_
    refine vv_get hC hK (K := RX8) (T := TX8) (N := 9) (ci := 8) inwX8_comment_X8 0 (kl8 (by decide +kernel)) (oc8 (by decide +kernel)) rfl 0 (by decide) (List.mem_of_getElem? (i := 2) rfl) rfl (v := .ref (ad 1)) rfl dX8_comment_31 (q := 34) rfl ?_
    refine vv_callr hC hK (fun _ h => Or.inl h) (As := []) 1 (kl2 (by decide +kernel)) (or2 (by decide +kernel)) rfl (c2_text l hJ S) (cwV 0 hC.2.2.2.2 gX8_comment_X2_text rfl rfl rfl hdX2_text ⟨Nat.le_of_ble_eq_true rfl, Nat.le_of_ble_eq_true rfl⟩) rfl rfl (Nat.le_of_ble_eq_true rfl) ⟨Nat.le_of_ble_eq_true rfl, Nat.le_of_ble_eq_true rfl⟩ dX8_comment_34 (q := 37) rfl ?_
    refine vv_iload_n hC 1 dX8_comment_37 rfl rfl (q := 38) rfl ?_
    refine vv_calli hC hK (fun _ h => Or.inl h) (As := [.int a]) 17 (kl5 (by decide +kernel)) (or5 (by decide +kernel)) rfl (c5_at l hJ S 17 (by decide +kernel) a) (cwV 1 hC.2.2.2.2 gX8_comment_X5_at rfl rfl rfl hdX5_at ⟨Nat.le_of_ble_eq_true rfl, Nat.le_of_ble_eq_true rfl⟩) rfl rfl (Nat.le_of_ble_eq_true rfl) ⟨Nat.le_of_ble_eq_true rfl, Nat.le_of_ble_eq_true rfl⟩ dX8_comment_38 (q := 41) rfl ?_
    refine vv_aload_n hC 0 dX8_comment_41 rfl rfl (q := 42) rfl ?_
    refine vv_get hC hK (K := RX8) (T := TX8) (N := 9) (ci := 8) inwX8_comment_X8 0 (kl8 (by decide +kernel)) (oc8 (by decide +kernel)) rfl 0 (by decide) (List.mem_of_getElem? (i := 2) rfl) rfl (v := .ref (ad 1)) rfl dX8_comment_42 (q := 45) rfl ?_
    refine vv_callr hC hK (fun _ h => Or.inl h) (As := []) 1 (kl2 (by decide +kernel)) (or2 (by decide +kernel)) rfl (c2_text l hJ S) (cwV 0 hC.2.2.2.2 gX8_comment_X2_text rfl rfl rfl hdX2_text ⟨Nat.le_of_ble_eq_true rfl, Nat.le_of_ble_eq_true rfl⟩) rfl rfl (Nat.le_of_ble_eq_true rfl) ⟨Nat.le_of_ble_eq_true rfl, Nat.le_of_ble_eq_true rfl⟩ dX8_comment_45 (q := 48) rfl ?_
    refine vv_iload_n hC 2 dX8_comment_48 rfl rfl (q := 49) rfl ?_
    refine vv_calli hC hK (fun _ h => Or.inl h) (As := [.int b]) 17 (kl5 (by decide +kernel)) (or5 (by decide +kernel)) rfl (c5_at l hJ S 17 (by decide +kernel) b) (cwV 1 hC.2.2.2.2 gX8_comment_X5_at rfl rfl rfl hdX5_at ⟨Nat.le_of_ble_eq_true rfl, Nat.le_of_ble_eq_true rfl⟩) rfl rfl (Nat.le_of_ble_eq_true rfl) ⟨Nat.le_of_ble_eq_true rfl, Nat.le_of_ble_eq_true rfl⟩ dX8_comment_49 (q := 52) rfl ?_
    refine vv_calli hC hK (fun _ h => Or.inl h) (As := [.int (rAt (S.1 17) a), .int (rAt (S.1 17) b)]) 85 (kl1 (by decide +kernel)) (or1 (by decide +kernel)) rfl (c1_add l hJ S (rAt (S.1 17) a) (rAt (S.1 17) b)) (cwV 2 hC.2.2.2.2 gX8_comment_X1_add rfl rfl rfl hdX1_add ⟨Nat.le_of_ble_eq_true rfl, Nat.le_of_ble_eq_true rfl⟩) rfl rfl (Nat.le_of_ble_eq_true rfl) ⟨Nat.le_of_ble_eq_true rfl, Nat.le_of_ble_eq_true rfl⟩ dX8_comment_52 (q := 55) rfl ?_
    exact vv_xiret hC hK hr hlk (by simp only [tComment, t3, decide_eq_false h15, tor_0, tor_3, tor_2, tB2, tB3, tSt, tArg, Bool.not_false, Bool.not_true, if_true, if_false, Bool.false_eq_true, reduceIte]) rfl ⟨Nat.le_of_ble_eq_true rfl, Nat.le_of_ble_eq_true rfl⟩ (fun _ h => h) dX8_comment_55
theorem inwX8_span_X8 : ∀ w ∈ wsX80, w ∈ wsX8_span := fun _ h => List.mem_cons_of_mem _ (List.mem_append_left _ (List.mem_append_left _ (List.mem_append_left _ (List.mem_append_left _ (List.mem_append_left _ (List.mem_append_right _ h))))))
theorem inwX8_span_X1 : ∀ w ∈ wsX10, w ∈ wsX8_span := fun _ h => List.mem_cons_of_mem _ (List.mem_append_left _ (List.mem_append_left _ (List.mem_append_left _ (List.mem_append_left _ (List.mem_append_right _ h)))))
theorem inwX8_span_X5 : ∀ w ∈ wsX50, w ∈ wsX8_span := fun _ h => List.mem_cons_of_mem _ (List.mem_append_left _ (List.mem_append_left _ (List.mem_append_left _ (List.mem_append_right _ h))))
theorem inwX8_span_X2 : ∀ w ∈ wsX20, w ∈ wsX8_span := fun _ h => List.mem_cons_of_mem _ (List.mem_append_left _ (List.mem_append_left _ (List.mem_append_right _ h)))
theorem inwX8_span_X6 : ∀ w ∈ wsX60, w ∈ wsX8_span := fun _ h => List.mem_cons_of_mem _ (List.mem_append_left _ (List.mem_append_right _ h))
theorem hdX8_span : yX8_span.cls = RX8 ∧ yX8_span.cls ≠ "java/lang/invoke/MethodHandle" ∧ yX8_span.cls ≠ "java/lang/invoke/VarHandle" ∧ (parseMethodDescriptor yX8_span.desc).map (fun d => d.parameters.length) = some 1 := by decide +kernel
set_option maxRecDepth 100000 in
set_option maxHeartbeats 4000000 in
theorem c8_span (l : Launch) {D : va_G} {cI cW cZ cL : ClassId} {ad : Nat → Nat} (hJ : injA ad 90) (hlst : l.stackTraces = false) (AX : Nat → Prop) (z : Nat) (S : sC) (c0 : Int32) : kXi l yX8_span wsX8_span ({ frames := 7, cells := 1, slots := 6, locals := 111 }) D vwCl (tyL cI cW cZ cL) ad 90 AX z [.ref (ad 0), .int c0] (PC cI cW ad S) (tIx c0 (nI (S.1 86).length)) (rSpan S c0) (PC cI cW ad S) 1 6 := by
  refine vv_enterX (cc := cX8_span) (maxL := 4) (ret := (some .int)) (own := RX8) (lv := [(0, .ref (ad 0)), (1, .int c0)]) (by decide +kernel) rfl rfl hJ (Nat.le_of_ble_eq_true rfl) rfl ?_
  intro p e s m args below meth c hC hK hW hr hlk hsz hAX hE hout
  refine vv_iload_n hC 1 dX8_span_0 rfl rfl (q := 1) rfl ?_
  refine vv_aload_n hC 0 dX8_span_1 rfl rfl (q := 2) rfl ?_
  refine vv_get hC hK (K := RX8) (T := TX8) (N := 9) (ci := 8) inwX8_span_X8 0 (kl8 (by decide +kernel)) (oc8 (by decide +kernel)) rfl 6 (by decide) (List.mem_of_getElem? (i := 1) rfl) rfl (v := .ref (ad 85)) rfl dX8_span_2 (q := 5) rfl ?_
  refine vv_calli hC hK (fun _ h => Or.inl h) (As := []) 85 (kl1 (by decide +kernel)) (or1 (by decide +kernel)) rfl (c1_count l hJ S) (cwV 0 hC.2.2.2.2 gX8_span_X1_count rfl rfl rfl hdX1_count ⟨Nat.le_of_ble_eq_true rfl, Nat.le_of_ble_eq_true rfl⟩) rfl rfl (Nat.le_of_ble_eq_true rfl) ⟨Nat.le_of_ble_eq_true rfl, Nat.le_of_ble_eq_true rfl⟩ dX8_span_5 (q := 8) rfl ?_
  refine vv_xcallsv hC hK hlk hout hE hAX (fun _ h9 => RAs.mono (by rw [← hsz]; exact h9)) (As := [.int c0, .int (nI (S.1 86).length)]) (fun z => c8_requireIndex l hJ hlst AX z S c0 (nI (S.1 86).length)) (va_cwS 2 hC.2.2.2.2 gX8_span_X8_requireIndex rfl rfl rfl hsX8_requireIndex ⟨Nat.le_of_ble_eq_true rfl, Nat.le_of_ble_eq_true rfl⟩) rfl rfl (Nat.le_of_ble_eq_true rfl) ⟨Nat.le_of_ble_eq_true rfl, Nat.le_of_ble_eq_true rfl⟩ ⟨Nat.le_of_ble_eq_true rfl, Nat.le_of_ble_eq_true rfl⟩ (fun _ h => h) (fun h9 => by simp only [tIx, tor_ne _ h9, tor_0, tor_3, tor_2, tB2, tB3, tSt, tArg, Bool.not_false, Bool.not_true, if_true, if_false, Bool.false_eq_true, reduceIte]) dX8_span_8 (q := 11) rfl (fun t8 => ?_)
  refine vv_aload_n hC 0 dX8_span_11 rfl rfl (q := 12) rfl ?_
  refine vv_get hC hK (K := RX8) (T := TX8) (N := 9) (ci := 8) inwX8_span_X8 0 (kl8 (by decide +kernel)) (oc8 (by decide +kernel)) rfl 0 (by decide) (List.mem_of_getElem? (i := 2) rfl) rfl (v := .ref (ad 1)) rfl dX8_span_12 (q := 15) rfl ?_
  refine vv_aload_n hC 0 dX8_span_15 rfl rfl (q := 16) rfl ?_
  refine vv_get hC hK (K := RX8) (T := TX8) (N := 9) (ci := 8) inwX8_span_X8 0 (kl8 (by decide +kernel)) (oc8 (by decide +kernel)) rfl 6 (by decide) (List.mem_of_getElem? (i := 1) rfl) rfl (v := .ref (ad 85)) rfl dX8_span_16 (q := 19) rfl ?_
  refine vv_iload_n hC 1 dX8_span_19 rfl rfl (q := 20) rfl ?_
  refine vv_calli hC hK (fun _ h => Or.inl h) (As := [.int c0]) 85 (kl1 (by decide +kernel)) (or1 (by decide +kernel)) rfl (c1_firstOf l hJ S c0) (cwV 1 hC.2.2.2.2 gX8_span_X1_firstOf rfl rfl rfl hdX1_firstOf ⟨Nat.le_of_ble_eq_true rfl, Nat.le_of_ble_eq_true rfl⟩) rfl rfl (Nat.le_of_ble_eq_true rfl) ⟨Nat.le_of_ble_eq_true rfl, Nat.le_of_ble_eq_true rfl⟩ dX8_span_20 (q := 23) rfl ?_
  refine vv_aload_n hC 0 dX8_span_23 rfl rfl (q := 24) rfl ?_
  refine vv_get hC hK (K := RX8) (T := TX8) (N := 9) (ci := 8) inwX8_span_X8 0 (kl8 (by decide +kernel)) (oc8 (by decide +kernel)) rfl 6 (by decide) (List.mem_of_getElem? (i := 1) rfl) rfl (v := .ref (ad 85)) rfl dX8_span_24 (q := 27) rfl ?_
  refine vv_iload_n hC 1 dX8_span_27 rfl rfl (q := 28) rfl ?_
  refine vv_calli hC hK (fun _ h => Or.inl h) (As := [.int c0]) 85 (kl1 (by decide +kernel)) (or1 (by decide +kernel)) rfl (c1_lastOf l hJ S c0) (cwV 1 hC.2.2.2.2 gX8_span_X1_lastOf rfl rfl rfl hdX1_lastOf ⟨Nat.le_of_ble_eq_true rfl, Nat.le_of_ble_eq_true rfl⟩) rfl rfl (Nat.le_of_ble_eq_true rfl) ⟨Nat.le_of_ble_eq_true rfl, Nat.le_of_ble_eq_true rfl⟩ dX8_span_28 (q := 31) rfl ?_
  refine vv_calli hC hK (fun _ h => Or.inl h) (As := [.int (rAt (S.1 86) c0), .int (rAt (S.1 88) c0)]) 1 (kl2 (by decide +kernel)) (or2 (by decide +kernel)) rfl (c2_firstBetween l hJ S (rAt (S.1 86) c0) (rAt (S.1 88) c0)) (cwV 2 hC.2.2.2.2 gX8_span_X2_firstBetween rfl rfl rfl hdX2_firstBetween ⟨Nat.le_of_ble_eq_true rfl, Nat.le_of_ble_eq_true rfl⟩) rfl rfl (Nat.le_of_ble_eq_true rfl) ⟨Nat.le_of_ble_eq_true rfl, Nat.le_of_ble_eq_true rfl⟩ dX8_span_31 (q := 34) rfl ?_
  refine vv_istore_n hC (i := 2) (lv' := [(2, .int (firstB S (rAt (S.1 86) c0) (rAt (S.1 88) c0))), (0, .ref (ad 0)), (1, .int c0)]) dX8_span_34 rfl (by decide) rfl (q := 35) rfl ?_
  refine vv_iload_n hC 0 dX8_span_35 rfl rfl (q := 36) rfl ?_
  refine vv_iconst hC (v := (-1)) dX8_span_36 rfl (q := 37) rfl ?_
  refine vv_icmp_ne hC (tgt := 42) dX8_span_37 (by decide) (q := 40) rfl (fun h37 => ?_) (fun h37 => ?_)
  · skip
    refine vv_aload_n hC 1 dX8_span_42 rfl rfl (q := 43) rfl ?_
    refine vv_get hC hK (K := RX8) (T := TX8) (N := 9) (ci := 8) inwX8_span_X8 0 (kl8 (by decide +kernel)) (oc8 (by decide +kernel)) rfl 0 (by decide) (List.mem_of_getElem? (i := 2) rfl) rfl (v := .ref (ad 1)) rfl dX8_span_43 (q := 46) rfl ?_
    refine vv_aload_n hC 1 dX8_span_46 rfl rfl (q := 47) rfl ?_
    refine vv_get hC hK (K := RX8) (T := TX8) (N := 9) (ci := 8) inwX8_span_X8 0 (kl8 (by decide +kernel)) (oc8 (by decide +kernel)) rfl 6 (by decide) (List.mem_of_getElem? (i := 1) rfl) rfl (v := .ref (ad 85)) rfl dX8_span_47 (q := 50) rfl ?_
    refine vv_iload_n hC 2 dX8_span_50 rfl rfl (q := 51) rfl ?_
    refine vv_calli hC hK (fun _ h => Or.inl h) (As := [.int c0]) 85 (kl1 (by decide +kernel)) (or1 (by decide +kernel)) rfl (c1_firstOf l hJ S c0) (cwV 1 hC.2.2.2.2 gX8_span_X1_firstOf rfl rfl rfl hdX1_firstOf ⟨Nat.le_of_ble_eq_true rfl, Nat.le_of_ble_eq_true rfl⟩) rfl rfl (Nat.le_of_ble_eq_true rfl) ⟨Nat.le_of_ble_eq_true rfl, Nat.le_of_ble_eq_true rfl⟩ dX8_span_51 (q := 54) rfl ?_
    refine vv_aload_n hC 1 dX8_span_54 rfl rfl (q := 55) rfl ?_
    refine vv_get hC hK (K := RX8) (T := TX8) (N := 9) (ci := 8) inwX8_span_X8 0 (kl8 (by decide +kernel)) (oc8 (by decide +kernel)) rfl 6 (by decide) (List.mem_of_getElem? (i := 1) rfl) rfl (v := .ref (ad 85)) rfl dX8_span_55 (q := 58) rfl ?_
    refine vv_iload_n hC 2 dX8_span_58 rfl rfl (q := 59) rfl ?_
    refine vv_calli hC hK (fun _ h => Or.inl h) (As := [.int c0]) 85 (kl1 (by decide +kernel)) (or1 (by decide +kernel)) rfl (c1_lastOf l hJ S c0) (cwV 1 hC.2.2.2.2 gX8_span_X1_lastOf rfl rfl rfl hdX1_lastOf ⟨Nat.le_of_ble_eq_true rfl, Nat.le_of_ble_eq_true rfl⟩) rfl rfl (Nat.le_of_ble_eq_true rfl) ⟨Nat.le_of_ble_eq_true rfl, Nat.le_of_ble_eq_true rfl⟩ dX8_span_59 (q := 62) rfl ?_
    refine vv_calli hC hK (fun _ h => Or.inl h) (As := [.int (rAt (S.1 86) c0), .int (rAt (S.1 88) c0)]) 1 (kl2 (by decide +kernel)) (or2 (by decide +kernel)) rfl (c2_countBetween l hJ S (rAt (S.1 86) c0) (rAt (S.1 88) c0)) (cwV 2 hC.2.2.2.2 gX8_span_X2_countBetween rfl rfl rfl hdX2_countBetween ⟨Nat.le_of_ble_eq_true rfl, Nat.le_of_ble_eq_true rfl⟩) rfl rfl (Nat.le_of_ble_eq_true rfl) ⟨Nat.le_of_ble_eq_true rfl, Nat.le_of_ble_eq_true rfl⟩ dX8_span_62 (q := 65) rfl ?_
    refine vv_istore_n hC (i := 3) (lv' := [(3, .int (nI (countB S (rAt (S.1 86) c0) (rAt (S.1 88) c0)))), (2, .int (firstB S (rAt (S.1 86) c0) (rAt (S.1 88) c0))), (0, .ref (ad 0)), (1, .int c0)]) dX8_span_65 rfl (by decide) rfl (q := 66) rfl ?_
    refine vv_sipush hC (v := 1000) dX8_span_66 rfl (q := 69) rfl ?_
    refine vv_aload_n hC 2 dX8_span_69 rfl rfl (q := 70) rfl ?_
    refine vv_get hC hK (K := RX8) (T := TX8) (N := 9) (ci := 8) inwX8_span_X8 0 (kl8 (by decide +kernel)) (oc8 (by decide +kernel)) rfl 0 (by decide) (List.mem_of_getElem? (i := 2) rfl) rfl (v := .ref (ad 1)) rfl dX8_span_70 (q := 73) rfl ?_
    refine vv_callr hC hK (fun _ h => Or.inl h) (As := []) 1 (kl2 (by decide +kernel)) (or2 (by decide +kernel)) rfl (c2_text l hJ S) (cwV 0 hC.2.2.2.2 gX8_span_X2_text rfl rfl rfl hdX2_text ⟨Nat.le_of_ble_eq_true rfl, Nat.le_of_ble_eq_true rfl⟩) rfl rfl (Nat.le_of_ble_eq_true rfl) ⟨Nat.le_of_ble_eq_true rfl, Nat.le_of_ble_eq_true rfl⟩ dX8_span_73 (q := 76) rfl ?_
    refine vv_iload_n hC 1 dX8_span_76 rfl rfl (q := 77) rfl ?_
    refine vv_calli hC hK (fun _ h => Or.inl h) (As := [.int (firstB S (rAt (S.1 86) c0) (rAt (S.1 88) c0))]) 17 (kl5 (by decide +kernel)) (or5 (by decide +kernel)) rfl (c5_indexOf l hJ S 17 (by decide +kernel) (firstB S (rAt (S.1 86) c0) (rAt (S.1 88) c0))) (cwV 1 hC.2.2.2.2 gX8_span_X5_indexOf rfl rfl rfl hdX5_indexOf ⟨Nat.le_of_ble_eq_true rfl, Nat.le_of_ble_eq_true rfl⟩) rfl rfl (Nat.le_of_ble_eq_true rfl) ⟨Nat.le_of_ble_eq_true rfl, Nat.le_of_ble_eq_true rfl⟩ dX8_span_77 (q := 80) rfl ?_
    refine vv_imul hC dX8_span_80 (q := 81) rfl ?_
    refine vv_iload_n hC 0 dX8_span_81 rfl rfl (q := 82) rfl ?_
    refine vv_iadd hC dX8_span_82 (q := 83) rfl ?_
    exact vv_xiret hC hK hr hlk t8 (by rw [rSpan, if_neg h37]) ⟨Nat.le_of_ble_eq_true rfl, Nat.le_of_ble_eq_true rfl⟩ (fun _ h => h) dX8_span_83
  · skip
    refine vv_iconst hC (v := (-1)) dX8_span_40 rfl (q := 41) rfl ?_
    exact vv_xiret hC hK hr hlk t8 (by rw [rSpan, if_pos h37]) ⟨Nat.le_of_ble_eq_true rfl, Nat.le_of_ble_eq_true rfl⟩ (fun _ h => h) dX8_span_41
theorem inwX8_keep_X8 : ∀ w ∈ wsX80, w ∈ wsX8_keep := fun _ h => List.mem_cons_of_mem _ (List.mem_append_left _ (List.mem_append_left _ (List.mem_append_left _ (List.mem_append_right _ h))))
theorem inwX8_keep_X6 : ∀ w ∈ wsX60, w ∈ wsX8_keep := fun _ h => List.mem_cons_of_mem _ (List.mem_append_left _ (List.mem_append_left _ (List.mem_append_right _ h)))
theorem inwX8_keep_X5 : ∀ w ∈ wsX50, w ∈ wsX8_keep := fun _ h => List.mem_cons_of_mem _ (List.mem_append_left _ (List.mem_append_right _ h))
theorem hdX8_keep : yX8_keep.cls = RX8 ∧ yX8_keep.cls ≠ "java/lang/invoke/MethodHandle" ∧ yX8_keep.cls ≠ "java/lang/invoke/VarHandle" ∧ (parseMethodDescriptor yX8_keep.desc).map (fun d => d.parameters.length) = some 0 := by decide +kernel
set_option maxRecDepth 100000 in
set_option maxHeartbeats 4000000 in
theorem c8_keep (l : Launch) {D : va_G} {cI cW cZ cL : ClassId} {ad : Nat → Nat} (hJ : injA ad 90) (hlst : l.stackTraces = false) (AX : Nat → Prop) (z : Nat) (S : sC)  : kXi l yX8_keep wsX8_keep ({ frames := 7, cells := 1, slots := 6, locals := 110 }) D vwCl (tyL cI cW cZ cL) ad 90 AX z [.ref (ad 0)] (PC cI cW ad S) (tKeep S) S.2.1 (PC cI cW ad (sKeep S)) 1 6 := by
  refine vv_enterX (cc := cX8_keep) (maxL := 2) (ret := (some .int)) (own := RX8) (lv := [(0, .ref (ad 0))]) (by decide +kernel) rfl rfl hJ (Nat.le_of_ble_eq_true rfl) rfl ?_
  intro p e s m args below meth c hC hK hW hr hlk hsz hAX hE hout
  refine vv_aload_n hC 0 dX8_keep_0 rfl rfl (q := 1) rfl ?_
  refine vv_get hC hK (K := RX8) (T := TX8) (N := 9) (ci := 8) inwX8_keep_X8 0 (kl8 (by decide +kernel)) (oc8 (by decide +kernel)) rfl 7 (by decide) (List.mem_of_getElem? (i := 1) rfl) rfl (v := .int S.2.1) rfl dX8_keep_1 (q := 4) rfl ?_
  refine vv_bipush hC (v := 20) dX8_keep_4 rfl (q := 6) rfl ?_
  refine vv_icmp_ge hC (tgt := 13) dX8_keep_6 (by decide) (q := 9) rfl (fun h6 => ?_) (fun h6 => ?_)
  · skip
    refine vv_iconst hC (v := 0) dX8_keep_13 rfl (q := 14) rfl ?_
    refine vv_xcallsv hC hK hlk hout hE hAX (fun _ h9 => RAs.mono (by rw [← hsz]; exact h9)) (As := [.int 0]) (fun z => c8_requireState l hJ hlst AX z S 0) (va_cwS 1 hC.2.2.2.2 gX8_keep_X8_requireState rfl rfl rfl hsX8_requireState ⟨Nat.le_of_ble_eq_true rfl, Nat.le_of_ble_eq_true rfl⟩) rfl rfl (Nat.le_of_ble_eq_true rfl) ⟨Nat.le_of_ble_eq_true rfl, Nat.le_of_ble_eq_true rfl⟩ ⟨Nat.le_of_ble_eq_true rfl, Nat.le_of_ble_eq_true rfl⟩ (fun _ h => h) (fun h9 => by simp only [tKeep, decide_eq_true h6, tor_ne _ h9, tor_0, tor_3, tor_2, tB2, tB3, tSt, tArg, Bool.not_false, Bool.not_true, if_true, if_false, Bool.false_eq_true, reduceIte]) dX8_keep_14 (q := 17) rfl (fun t14 => ?_)
    exact absurd t14 (by decide)
  · skip
    refine vv_iconst hC (v := 1) dX8_keep_9 rfl (q := 10) rfl ?_
    refine vv_goto hC (tgt := 14) dX8_keep_10 (by decide) ?_
    refine vv_xcallsv hC hK hlk hout hE hAX (fun _ h9 => RAs.mono (by rw [← hsz]; exact h9)) (As := [.int 1]) (fun z => c8_requireState l hJ hlst AX z S 1) (va_cwS 1 hC.2.2.2.2 gX8_keep_X8_requireState rfl rfl rfl hsX8_requireState ⟨Nat.le_of_ble_eq_true rfl, Nat.le_of_ble_eq_true rfl⟩) rfl rfl (Nat.le_of_ble_eq_true rfl) ⟨Nat.le_of_ble_eq_true rfl, Nat.le_of_ble_eq_true rfl⟩ ⟨Nat.le_of_ble_eq_true rfl, Nat.le_of_ble_eq_true rfl⟩ (fun _ h => h) (fun h9 => absurd rfl h9) dX8_keep_14 (q := 17) rfl (fun t14 => ?_)
    refine vv_aload_n hC 0 dX8_keep_17 rfl rfl (q := 18) rfl ?_
    refine vv_get hC hK (K := RX8) (T := TX8) (N := 9) (ci := 8) inwX8_keep_X8 0 (kl8 (by decide +kernel)) (oc8 (by decide +kernel)) rfl 7 (by decide) (List.mem_of_getElem? (i := 1) rfl) rfl (v := .int S.2.1) rfl dX8_keep_18 (q := 21) rfl ?_
    refine vv_istore_n hC (i := 1) (lv' := [(1, .int S.2.1), (0, .ref (ad 0))]) dX8_keep_21 rfl (by decide) rfl (q := 22) rfl ?_
    refine vv_aload_n hC 1 dX8_keep_22 rfl rfl (q := 23) rfl ?_
    refine vv_get hC hK (K := RX8) (T := TX8) (N := 9) (ci := 8) inwX8_keep_X8 0 (kl8 (by decide +kernel)) (oc8 (by decide +kernel)) rfl 1 (by decide) (List.mem_of_getElem? (i := 2) rfl) rfl (v := .ref (ad 2)) rfl dX8_keep_23 (q := 26) rfl ?_
    refine vv_iload_n hC 0 dX8_keep_26 rfl rfl (q := 27) rfl ?_
    refine vv_callv hC hK (fun _ h => Or.inl h) (As := [.int S.2.1]) 2 (kl6 (by decide +kernel)) (or6 (by decide +kernel)) rfl (c6_keepIn l hJ S S.2.1) (cwV 1 hC.2.2.2.2 gX8_keep_X6_keepIn rfl rfl rfl hdX6_keepIn ⟨Nat.le_of_ble_eq_true rfl, Nat.le_of_ble_eq_true rfl⟩) rfl rfl (Nat.le_of_ble_eq_true rfl) ⟨Nat.le_of_ble_eq_true rfl, Nat.le_of_ble_eq_true rfl⟩ dX8_keep_27 (q := 30) rfl ?_
    refine vv_aload_n hC 1 dX8_keep_30 rfl rfl (q := 31) rfl ?_
    refine vv_dup hC dX8_keep_31 rfl (q := 32) rfl ?_
    refine vv_get hC hK (K := RX8) (T := TX8) (N := 9) (ci := 8) inwX8_keep_X8 0 (kl8 (by decide +kernel)) (oc8 (by decide +kernel)) rfl 7 (by decide) (List.mem_of_getElem? (i := 1) rfl) rfl (v := .int ((keepIn S S.2.1).2.1)) rfl dX8_keep_32 (q := 35) rfl ?_
    refine vv_iconst hC (v := 1) dX8_keep_35 rfl (q := 36) rfl ?_
    refine vv_iadd hC dX8_keep_36 (q := 37) rfl ?_
    refine vv_put hC hK hW (P1 := PC cI cW ad (sVer (keepIn S S.2.1) (((keepIn S S.2.1).2.1) + 1))) (K := RX8) (T := TX8) (N := 9) (ci := 8) inwX8_keep_X8 tyX8 tyX8_ok nmX8 0 (by decide) (oc8 (by decide +kernel)) rfl (ty := .int) 7 (by decide) (List.mem_of_getElem? (i := 1) rfl) rfl rfl (by decide +kernel) rfl rfl (Nat.le_of_ble_eq_true rfl) (fun f h => oc_day h _ _) dX8_keep_37 (q := 40) rfl ?_
    refine vv_iload_n hC 0 dX8_keep_40 rfl rfl (q := 41) rfl ?_
    exact vv_xiret hC hK hr hlk (by simp only [tKeep, decide_eq_false h6, tor_0, tor_3, tor_2, tB2, tB3, tSt, tArg, Bool.not_false, Bool.not_true, if_true, if_false, Bool.false_eq_true, reduceIte]) rfl ⟨Nat.le_of_ble_eq_true rfl, Nat.le_of_ble_eq_true rfl⟩ (fun _ h => h) dX8_keep_41
theorem inwX8_pass_X8 : ∀ w ∈ wsX80, w ∈ wsX8_pass := fun _ h => List.mem_cons_of_mem _ (List.mem_append_left _ (List.mem_append_left _ (List.mem_append_left _ (List.mem_append_left _ (List.mem_append_left _ (List.mem_append_left _ (List.mem_append_right _ h)))))))
theorem inwX8_pass_X3 : ∀ w ∈ wsX30, w ∈ wsX8_pass := fun _ h => List.mem_cons_of_mem _ (List.mem_append_left _ (List.mem_append_left _ (List.mem_append_left _ (List.mem_append_left _ (List.mem_append_left _ (List.mem_append_right _ h))))))
theorem inwX8_pass_X5 : ∀ w ∈ wsX50, w ∈ wsX8_pass := fun _ h => List.mem_cons_of_mem _ (List.mem_append_left _ (List.mem_append_left _ (List.mem_append_left _ (List.mem_append_left _ (List.mem_append_right _ h)))))
theorem inwX8_pass_X4 : ∀ w ∈ wsX40, w ∈ wsX8_pass := fun _ h => List.mem_cons_of_mem _ (List.mem_append_left _ (List.mem_append_left _ (List.mem_append_left _ (List.mem_append_right _ h))))
theorem inwX8_pass_X6 : ∀ w ∈ wsX60, w ∈ wsX8_pass := fun _ h => List.mem_cons_of_mem _ (List.mem_append_left _ (List.mem_append_left _ (List.mem_append_right _ h)))
theorem hdX8_pass : yX8_pass.cls = RX8 ∧ yX8_pass.cls ≠ "java/lang/invoke/MethodHandle" ∧ yX8_pass.cls ≠ "java/lang/invoke/VarHandle" ∧ (parseMethodDescriptor yX8_pass.desc).map (fun d => d.parameters.length) = some 1 := by decide +kernel
set_option maxRecDepth 100000 in
set_option maxHeartbeats 4000000 in
theorem c8_pass (l : Launch) {D : va_G} {cI cW cZ cL : ClassId} {ad : Nat → Nat} (hJ : injA ad 90) (hlst : l.stackTraces = false) (AX : Nat → Prop) (z : Nat) (S : sC) (d : Int32) : kXi l yX8_pass wsX8_pass ({ frames := 8, cells := 2, slots := 12, locals := 133 }) D vwCl (tyL cI cW cZ cL) ad 90 AX z [.ref (ad 0), .int d] (PC cI cW ad S) (tPass S d) ((paD S d).1) (PC cI cW ad ((paD S d).2)) 2 12 := by
  refine vv_enterX (cc := cX8_pass) (maxL := 5) (ret := (some .int)) (own := RX8) (lv := [(0, .ref (ad 0)), (1, .int d)]) (by decide +kernel) rfl rfl hJ (Nat.le_of_ble_eq_true rfl) rfl ?_
  intro p e s m args below meth c hC hK hW hr hlk hsz hAX hE hout
  refine vv_iload_n hC 1 dX8_pass_0 rfl rfl (q := 1) rfl ?_
  refine vv_iconst hC (v := 1) dX8_pass_1 rfl (q := 2) rfl ?_
  refine vv_bipush hC (v := 100) dX8_pass_2 rfl (q := 4) rfl ?_
  refine vv_xcallsv hC hK hlk hout hE hAX (fun _ h9 => RAs.mono (by rw [← hsz]; exact h9)) (As := [.int d, .int 1, .int 100]) (fun z => c8_requireRange l hJ hlst AX z S d 1 100) (va_cwS 3 hC.2.2.2.2 gX8_pass_X8_requireRange rfl rfl rfl hsX8_requireRange ⟨Nat.le_of_ble_eq_true rfl, Nat.le_of_ble_eq_true rfl⟩) rfl rfl (Nat.le_of_ble_eq_true rfl) ⟨Nat.le_of_ble_eq_true rfl, Nat.le_of_ble_eq_true rfl⟩ ⟨Nat.le_of_ble_eq_true rfl, Nat.le_of_ble_eq_true rfl⟩ (fun _ h => h) (fun h9 => by simp only [tPass, tor_ne _ h9, tor_0, tor_3, tor_2, tB2, tB3, tSt, tArg, Bool.not_false, Bool.not_true, if_true, if_false, Bool.false_eq_true, reduceIte]) dX8_pass_4 (q := 7) rfl (fun t4 => ?_)
  refine vv_aload_n hC 0 dX8_pass_7 rfl rfl (q := 8) rfl ?_
  refine vv_get hC hK (K := RX8) (T := TX8) (N := 9) (ci := 8) inwX8_pass_X8 0 (kl8 (by decide +kernel)) (oc8 (by decide +kernel)) rfl 8 (by decide) (List.mem_of_getElem? (i := 1) rfl) rfl (v := .int S.2.2) rfl dX8_pass_8 (q := 11) rfl ?_
  refine vv_iload_n hC 1 dX8_pass_11 rfl rfl (q := 12) rfl ?_
  refine vv_iadd hC dX8_pass_12 (q := 13) rfl ?_
  refine vv_sipush hC (v := 1000) dX8_pass_13 rfl (q := 16) rfl ?_
  refine vv_icmp_gt hC (tgt := 23) dX8_pass_16 (by decide) (q := 19) rfl (fun h16 => ?_) (fun h16 => ?_)
  · skip
    refine vv_iconst hC (v := 0) dX8_pass_23 rfl (q := 24) rfl ?_
    refine vv_xcallsv hC hK hlk hout hE hAX (fun _ h9 => RAs.mono (by rw [← hsz]; exact h9)) (As := [.int 0]) (fun z => c8_requireState l hJ hlst AX z S 0) (va_cwS 1 hC.2.2.2.2 gX8_pass_X8_requireState rfl rfl rfl hsX8_requireState ⟨Nat.le_of_ble_eq_true rfl, Nat.le_of_ble_eq_true rfl⟩) rfl rfl (Nat.le_of_ble_eq_true rfl) ⟨Nat.le_of_ble_eq_true rfl, Nat.le_of_ble_eq_true rfl⟩ ⟨Nat.le_of_ble_eq_true rfl, Nat.le_of_ble_eq_true rfl⟩ (fun _ h => h) (fun h9 => by simp only [tPass, t4, decide_eq_true h16, tor_ne _ h9, tor_0, tor_3, tor_2, tB2, tB3, tSt, tArg, Bool.not_false, Bool.not_true, if_true, if_false, Bool.false_eq_true, reduceIte]) dX8_pass_24 (q := 27) rfl (fun t24 => ?_)
    exact absurd t24 (by decide)
  · skip
    refine vv_iconst hC (v := 1) dX8_pass_19 rfl (q := 20) rfl ?_
    refine vv_goto hC (tgt := 24) dX8_pass_20 (by decide) ?_
    refine vv_xcallsv hC hK hlk hout hE hAX (fun _ h9 => RAs.mono (by rw [← hsz]; exact h9)) (As := [.int 1]) (fun z => c8_requireState l hJ hlst AX z S 1) (va_cwS 1 hC.2.2.2.2 gX8_pass_X8_requireState rfl rfl rfl hsX8_requireState ⟨Nat.le_of_ble_eq_true rfl, Nat.le_of_ble_eq_true rfl⟩) rfl rfl (Nat.le_of_ble_eq_true rfl) ⟨Nat.le_of_ble_eq_true rfl, Nat.le_of_ble_eq_true rfl⟩ ⟨Nat.le_of_ble_eq_true rfl, Nat.le_of_ble_eq_true rfl⟩ (fun _ h => h) (fun h9 => absurd rfl h9) dX8_pass_24 (q := 27) rfl (fun t24 => ?_)
    have h4 := tRg_0 t4
    have hd0 : ¬ d < 0 := fun h => h4.1 (Int32.lt_trans h (by decide))
    obtain ⟨dn, hdn, hde⟩ := nI_of2 (n := 100) (by decide) hd0 (Int32.not_lt.mp h4.2)
    have hdc : d.toNatClampNeg = dn := by rw [hde, nI_clamp (by omega)]
    refine vv_iconst hC (v := 0) dX8_pass_27 rfl (q := 28) rfl ?_
    refine vv_istore_n hC (i := 2) (lv' := [(2, .int 0), (0, .ref (ad 0)), (1, .int d)]) dX8_pass_28 rfl (by decide) rfl (q := 29) rfl ?_
    refine vv_iconst hC (v := 0) dX8_pass_29 rfl (q := 30) rfl ?_
    refine vv_istore_n hC (i := 3) (lv' := [(3, .int 0), (2, .int 0), (0, .ref (ad 0)), (1, .int d)]) dX8_pass_30 rfl (by decide) rfl (q := 31) rfl ?_
    have loop31 : ∀ (fu : Nat) (n : Nat) (r : Nat) (sm : Int32) (T : sC), r < fu → n + r = dn → paF r sm T = paD S d → vv p l e (headSpec wsX8_pass ({ frames := 8, cells := 2, slots := 12, locals := 133 })).room s m args below meth c 5 (RAs ad 90 z) s.heap 2 12 (vx_MQ below (va_Qi (fun r' (_ : Unit) => tPass S d = 0 ∧ r' = ((paD S d).1)) (fun _ => ws0 D vwCl (tyL cI cW cZ cL) ad 90 (PC cI cW ad ((paD S d).2))) (RAs ad 90 z)) (xXC D vwCl (tyL cI cW cZ cL) ad 90 (RAs ad 90 z) (tPass S d) (PC cI cW ad S)) args s 2 12 (RAs ad 90 z)) (wq D vwCl ad 90 (PC cI cW ad T)) 31 [(0, .ref (ad 0)), (1, .int d), (2, .int sm), (3, .int (nI n))] [] := by
      intro fu
      induction fu with
      | zero =>
        intro n r sm T hfu hn hres
        exact absurd hfu (Nat.not_lt_zero _)
      | succ fu ih =>
        intro n r sm T hfu hn hres
        refine vv_iload_n hC 3 dX8_pass_31 rfl rfl (q := 32) rfl ?_
        refine vv_iload_n hC 1 dX8_pass_32 rfl rfl (q := 33) rfl ?_
        refine vv_icmp_ge hC (tgt := 80) dX8_pass_33 (by decide) (q := 36) rfl (fun h33 => ?_) (fun h33 => ?_)
        · skip
          refine vv_iload_n hC 2 dX8_pass_80 rfl rfl (q := 81) rfl ?_
          exact vv_xiret hC hK hr hlk (by simp only [tPass, t4, decide_eq_false h16, tor_0, tB3, Bool.not_false, if_true]) (by have e1 : paD S d = (sm, T) := (by rw [hde, nI_leI (by omega) (by omega)] at h33; obtain rfl : r = 0 := (by omega); exact hres.symm); rw [e1]) ⟨Nat.le_of_ble_eq_true rfl, Nat.le_of_ble_eq_true rfl⟩ (fun f h => by have e1 : paD S d = (sm, T) := (by rw [hde, nI_leI (by omega) (by omega)] at h33; obtain rfl : r = 0 := (by omega); exact hres.symm); rw [e1]; exact h) dX8_pass_81
        · skip
          obtain ⟨r, rfl⟩ : ∃ r2, r = r2 + 1 := ⟨r - 1, by rw [hde, nI_leI (by omega) (by omega)] at h33; omega⟩
          refine vv_aload_n hC 0 dX8_pass_36 rfl rfl (q := 37) rfl ?_
          refine vv_dup hC dX8_pass_37 rfl (q := 38) rfl ?_
          refine vv_get hC hK (K := RX8) (T := TX8) (N := 9) (ci := 8) inwX8_pass_X8 0 (kl8 (by decide +kernel)) (oc8 (by decide +kernel)) rfl 8 (by decide) (List.mem_of_getElem? (i := 1) rfl) rfl (v := .int T.2.2) rfl dX8_pass_38 (q := 41) rfl ?_
          refine vv_iconst hC (v := 1) dX8_pass_41 rfl (q := 42) rfl ?_
          refine vv_iadd hC dX8_pass_42 (q := 43) rfl ?_
          refine vv_put hC hK hW (P1 := PC cI cW ad (sDay T (T.2.2 + 1))) (K := RX8) (T := TX8) (N := 9) (ci := 8) inwX8_pass_X8 tyX8 tyX8_ok nmX8 0 (by decide) (oc8 (by decide +kernel)) rfl (ty := .int) 8 (by decide) (List.mem_of_getElem? (i := 1) rfl) rfl rfl (by decide +kernel) rfl rfl (Nat.le_of_ble_eq_true rfl) (fun f h => oc_day h _ _) dX8_pass_43 (q := 46) rfl ?_
          refine vv_aload_n hC 0 dX8_pass_46 rfl rfl (q := 47) rfl ?_
          refine vv_get hC hK (K := RX8) (T := TX8) (N := 9) (ci := 8) inwX8_pass_X8 0 (kl8 (by decide +kernel)) (oc8 (by decide +kernel)) rfl 5 (by decide) (List.mem_of_getElem? (i := 2) rfl) rfl (v := .ref (ad 78)) rfl dX8_pass_47 (q := 50) rfl ?_
          refine vv_aload_n hC 0 dX8_pass_50 rfl rfl (q := 51) rfl ?_
          refine vv_get hC hK (K := RX8) (T := TX8) (N := 9) (ci := 8) inwX8_pass_X8 0 (kl8 (by decide +kernel)) (oc8 (by decide +kernel)) rfl 8 (by decide) (List.mem_of_getElem? (i := 1) rfl) rfl (v := .int ((sDay T (T.2.2 + 1)).2.2)) rfl dX8_pass_51 (q := 54) rfl ?_
          refine vv_calli hC hK (fun _ h => Or.inl h) (As := [.int ((sDay T (T.2.2 + 1)).2.2)]) 78 (kl3 (by decide +kernel)) (or3 (by decide +kernel)) rfl (c3_ofDay l hJ (sDay T (T.2.2 + 1)) ((sDay T (T.2.2 + 1)).2.2)) (cwV 1 hC.2.2.2.2 gX8_pass_X3_ofDay rfl rfl rfl hdX3_ofDay ⟨Nat.le_of_ble_eq_true rfl, Nat.le_of_ble_eq_true rfl⟩) rfl rfl (Nat.le_of_ble_eq_true rfl) ⟨Nat.le_of_ble_eq_true rfl, Nat.le_of_ble_eq_true rfl⟩ dX8_pass_54 (q := 57) rfl ?_
          refine vv_istore hC (i := 4) (lv' := [(4, .int (rIdx ((sDay T (T.2.2 + 1)).1 79) ((sDay T (T.2.2 + 1)).2.2))), (0, .ref (ad 0)), (1, .int d), (2, .int sm), (3, .int (nI n))]) dX8_pass_57 (by decide) rfl (q := 59) rfl ?_
          refine vv_iload hC 0 dX8_pass_59 rfl (q := 61) rfl ?_
          refine vv_iconst hC (v := (-1)) dX8_pass_61 rfl (q := 62) rfl ?_
          refine vv_icmp_eq hC (tgt := 74) dX8_pass_62 (by decide) (q := 65) rfl (fun h62 => ?_) (fun h62 => ?_)
          · skip
            refine vv_iinc hC (i := 3) (v := nI (n + 1)) (lv' := [(3, .int (nI (n + 1))), (4, .int (rIdx ((sDay T (T.2.2 + 1)).1 79) ((sDay T (T.2.2 + 1)).2.2))), (0, .ref (ad 0)), (1, .int d), (2, .int sm)]) 4 dX8_pass_74 rfl (nI_1 n) (by decide) rfl (q := 77) rfl ?_
            refine vv_goto hC (tgt := 31) dX8_pass_77 (by decide) ?_
            exact vv_lv [2, 3, 4, 0] rfl (ih (n + 1) r _ _ (by omega) (by omega) (by rw [← hres, paF, if_pos (show rIdx (T.1 79) (T.2.2 + 1) = -1 from h62)]))
          · skip
            refine vv_iload_n hC 3 dX8_pass_65 rfl rfl (q := 66) rfl ?_
            refine vv_aload_n hC 1 dX8_pass_66 rfl rfl (q := 67) rfl ?_
            refine vv_iload hC 0 dX8_pass_67 rfl (q := 69) rfl ?_
            refine vv_calli hC hK (fun _ h => Or.inl h) (As := [.int (rIdx ((sDay T (T.2.2 + 1)).1 79) ((sDay T (T.2.2 + 1)).2.2))]) 0 (kl8 (by decide +kernel)) (or8 (by decide +kernel)) rfl (c8_printIssue l hJ (sDay T (T.2.2 + 1)) (rIdx ((sDay T (T.2.2 + 1)).1 79) ((sDay T (T.2.2 + 1)).2.2))) (cwV 1 hC.2.2.2.2 gX8_pass_X8_printIssue rfl rfl rfl hdX8_printIssue ⟨Nat.le_of_ble_eq_true rfl, Nat.le_of_ble_eq_true rfl⟩) rfl rfl (Nat.le_of_ble_eq_true rfl) ⟨Nat.le_of_ble_eq_true rfl, Nat.le_of_ble_eq_true rfl⟩ dX8_pass_69 (q := 72) rfl ?_
            refine vv_iadd hC dX8_pass_72 (q := 73) rfl ?_
            refine vv_istore_n hC (i := 2) (lv' := [(2, .int (sm + ((prI (sDay T (T.2.2 + 1)) (rIdx ((sDay T (T.2.2 + 1)).1 79) ((sDay T (T.2.2 + 1)).2.2))).1))), (4, .int (rIdx ((sDay T (T.2.2 + 1)).1 79) ((sDay T (T.2.2 + 1)).2.2))), (0, .ref (ad 0)), (1, .int d), (3, .int (nI n))]) dX8_pass_73 rfl (by decide) rfl (q := 74) rfl ?_
            refine vv_iinc hC (i := 3) (v := nI (n + 1)) (lv' := [(3, .int (nI (n + 1))), (2, .int (sm + ((prI (sDay T (T.2.2 + 1)) (rIdx ((sDay T (T.2.2 + 1)).1 79) ((sDay T (T.2.2 + 1)).2.2))).1))), (4, .int (rIdx ((sDay T (T.2.2 + 1)).1 79) ((sDay T (T.2.2 + 1)).2.2))), (0, .ref (ad 0)), (1, .int d)]) 4 dX8_pass_74 rfl (nI_1 n) (by decide) rfl (q := 77) rfl ?_
            refine vv_goto hC (tgt := 31) dX8_pass_77 (by decide) ?_
            exact vv_lv [3, 4, 1, 0] rfl (ih (n + 1) r _ _ (by omega) (by omega) (by rw [← hres, paF, if_neg (show ¬ rIdx (T.1 79) (T.2.2 + 1) = -1 from h62)]; rfl))
    exact vv_lv [2, 3, 1, 0] rfl (loop31 (dn + 1) 0 dn 0 S (Nat.lt_succ_self _) (Nat.zero_add _) (by rw [paD, hdc]))
