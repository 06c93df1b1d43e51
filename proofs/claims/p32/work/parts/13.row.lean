/-! the rows: a contract a method -/
theorem inwX5_size_X5 : ∀ w ∈ wsX50, w ∈ wsX5_size := fun _ h => List.mem_cons_of_mem _ (List.mem_append_right _ h)
theorem hdX5_size : yX5_size.cls = RX5 ∧ yX5_size.cls ≠ "java/lang/invoke/MethodHandle" ∧ yX5_size.cls ≠ "java/lang/invoke/VarHandle" ∧ (parseMethodDescriptor yX5_size.desc).map (fun d => d.parameters.length) = some 0 := by decide +kernel
set_option maxRecDepth 100000 in
set_option maxHeartbeats 4000000 in
theorem c5_size (l : Launch) {D : va_G} {cI cW cZ cL : ClassId} {ad : Nat → Nat} (hJ : injA ad 90) (S : sC) (j : Nat) (hk : kd j = 5)  : kMi l yX5_size wsX5_size ({ frames := 0, cells := 0, slots := 0, locals := 0 }) D vwCl (tyL cI cW cZ cL) ad 90 [.ref (ad j)] (PC cI cW ad S) (nI (S.1 j).length) (PC cI cW ad S) := by
  refine vv_enter (cc := cX5_size) (maxL := 1) (ret := (some .int)) (own := RX5) (lv := [(0, .ref (ad j))]) (by decide +kernel) rfl rfl hJ (Nat.le_of_ble_eq_true rfl) rfl ?_
  intro p e s m args below meth c hC hK hW hr hlk
  refine vv_aload_n hC 0 dX5_size_0 rfl rfl (q := 1) rfl ?_
  refine vv_get hC hK (K := RX5) (T := TX5) (N := 2) (ci := 5) inwX5_size_X5 j (kl5 hk) (oc5 hk) rfl 1 (by decide) (List.mem_of_getElem? (i := 1) rfl) rfl (v := .int (nI (S.1 j).length)) rfl dX5_size_1 (q := 4) rfl ?_
  exact vv_iret hC hK hr hlk rfl (fun _ h => h) dX5_size_4
theorem inwX5_has_X5 : ∀ w ∈ wsX50, w ∈ wsX5_has := fun _ h => List.mem_cons_of_mem _ (List.mem_append_right _ h)
theorem hdX5_has : yX5_has.cls = RX5 ∧ yX5_has.cls ≠ "java/lang/invoke/MethodHandle" ∧ yX5_has.cls ≠ "java/lang/invoke/VarHandle" ∧ (parseMethodDescriptor yX5_has.desc).map (fun d => d.parameters.length) = some 1 := by decide +kernel
set_option maxRecDepth 100000 in
set_option maxHeartbeats 4000000 in
theorem c5_has (l : Launch) {D : va_G} {cI cW cZ cL : ClassId} {ad : Nat → Nat} (hJ : injA ad 90) (S : sC) (j : Nat) (hk : kd j = 5) (i : Int32) : kMi l yX5_has wsX5_has ({ frames := 0, cells := 0, slots := 0, locals := 0 }) D vwCl (tyL cI cW cZ cL) ad 90 [.ref (ad j), .int i] (PC cI cW ad S) (bI (rHas (S.1 j) i)) (PC cI cW ad S) := by
  refine vv_enter (cc := cX5_has) (maxL := 2) (ret := (some .boolean)) (own := RX5) (lv := [(0, .ref (ad j)), (1, .int i)]) (by decide +kernel) rfl rfl hJ (Nat.le_of_ble_eq_true rfl) rfl ?_
  intro p e s m args below meth c hC hK hW hr hlk
  refine vv_pure (P := (S.1 j).length ≤ cap j) (fun H hB => by obtain ⟨f, hf, -⟩ := hB; exact oc_wf f hf j hk) (fun hw => ?_)
  have hcp := cap_le j
  refine vv_iload_n hC 1 dX5_has_0 rfl rfl (q := 1) rfl ?_
  refine vv_if_lt hC (tgt := 25) dX5_has_1 (by decide) (q := 4) rfl (fun h1 => ?_) (fun h1 => ?_)
  · skip
    refine vv_iconst hC (v := 0) dX5_has_25 rfl (q := 26) rfl ?_
    exact vv_zret hC hK hr hlk rfl (by simp [rHas, bI, h1]) (fun _ h => h) dX5_has_26
  · skip
    refine vv_iload_n hC 1 dX5_has_4 rfl rfl (q := 5) rfl ?_
    refine vv_aload_n hC 0 dX5_has_5 rfl rfl (q := 6) rfl ?_
    refine vv_get hC hK (K := RX5) (T := TX5) (N := 2) (ci := 5) inwX5_has_X5 j (kl5 hk) (oc5 hk) rfl 1 (by decide) (List.mem_of_getElem? (i := 1) rfl) rfl (v := .int (nI (S.1 j).length)) rfl dX5_has_6 (q := 9) rfl ?_
    refine vv_icmp_ge hC (tgt := 25) dX5_has_9 (by decide) (q := 12) rfl (fun h9 => ?_) (fun h9 => ?_)
    · skip
      refine vv_iconst hC (v := 0) dX5_has_25 rfl (q := 26) rfl ?_
      exact vv_zret hC hK hr hlk rfl (by obtain ⟨n, hn, rfl⟩ := nI_of h1; rw [nI_leI (by omega) hn] at h9; simp [rHas_n hn, bI]; omega) (fun _ h => h) dX5_has_26
    · skip
      refine vv_iload_n hC 1 dX5_has_12 rfl rfl (q := 13) rfl ?_
      refine vv_aload_n hC 0 dX5_has_13 rfl rfl (q := 14) rfl ?_
      refine vv_get hC hK (K := RX5) (T := TX5) (N := 2) (ci := 5) inwX5_has_X5 j (kl5 hk) (oc5 hk) rfl 0 (by decide) (List.mem_of_getElem? (i := 2) rfl) rfl (v := .ref (ad (j + 1))) rfl dX5_has_14 (q := 17) rfl ?_
      refine vv_alen hC hK (j + 1) (kd5 j (kl5 hk) hk).2 0 (x := (cap j, .inl fun _ => 0)) (fun f h => by obtain ⟨g, -, e6, -⟩ := oc_row hk f h; exact ⟨_, e6⟩) rfl (v := nI (cap j)) rfl dX5_has_17 (q := 18) rfl ?_
      refine vv_icmp_ge hC (tgt := 25) dX5_has_18 (by decide) (q := 21) rfl (fun h18 => ?_) (fun h18 => ?_)
      · skip
        refine vv_iconst hC (v := 0) dX5_has_25 rfl (q := 26) rfl ?_
        exact vv_zret hC hK hr hlk rfl (by obtain ⟨n, hn, rfl⟩ := nI_of h1; rw [nI_leI (by omega) hn] at h9 h18; exfalso; omega) (fun _ h => h) dX5_has_26
      · skip
        refine vv_iconst hC (v := 1) dX5_has_21 rfl (q := 22) rfl ?_
        refine vv_goto hC (tgt := 26) dX5_has_22 (by decide) ?_
        exact vv_zret hC hK hr hlk rfl (by obtain ⟨n, hn, rfl⟩ := nI_of h1; rw [nI_leI (by omega) hn] at h9; simp [rHas_n hn, bI]; omega) (fun _ h => h) dX5_has_26
theorem inwX5_at_X5 : ∀ w ∈ wsX50, w ∈ wsX5_at := fun _ h => List.mem_cons_of_mem _ (List.mem_append_right _ h)
theorem hdX5_at : yX5_at.cls = RX5 ∧ yX5_at.cls ≠ "java/lang/invoke/MethodHandle" ∧ yX5_at.cls ≠ "java/lang/invoke/VarHandle" ∧ (parseMethodDescriptor yX5_at.desc).map (fun d => d.parameters.length) = some 1 := by decide +kernel
set_option maxRecDepth 100000 in
set_option maxHeartbeats 4000000 in
theorem c5_at (l : Launch) {D : va_G} {cI cW cZ cL : ClassId} {ad : Nat → Nat} (hJ : injA ad 90) (S : sC) (j : Nat) (hk : kd j = 5) (i : Int32) : kMi l yX5_at wsX5_at ({ frames := 1, cells := 0, slots := 0, locals := 21 }) D vwCl (tyL cI cW cZ cL) ad 90 [.ref (ad j), .int i] (PC cI cW ad S) (rAt (S.1 j) i) (PC cI cW ad S) := by
  refine vv_enter (cc := cX5_at) (maxL := 2) (ret := (some .int)) (own := RX5) (lv := [(0, .ref (ad j)), (1, .int i)]) (by decide +kernel) rfl rfl hJ (Nat.le_of_ble_eq_true rfl) rfl ?_
  intro p e s m args below meth c hC hK hW hr hlk
  refine vv_aload_n hC 0 dX5_at_0 rfl rfl (q := 1) rfl ?_
  refine vv_iload_n hC 1 dX5_at_1 rfl rfl (q := 2) rfl ?_
  refine vv_calli hC hK (fun _ h => h) (As := [.int i]) j (kl5 hk) (or5 hk) rfl (c5_has l hJ S j hk i) (cwV 1 hC.2.2.2.2 gX5_at_X5_has rfl rfl rfl hdX5_has ⟨Nat.le_of_ble_eq_true rfl, Nat.le_of_ble_eq_true rfl⟩) rfl rfl (Nat.le_of_ble_eq_true rfl) ⟨Nat.le_of_ble_eq_true rfl, Nat.le_of_ble_eq_true rfl⟩ dX5_at_2 (q := 5) rfl ?_
  refine vv_if_eq hC (tgt := 17) dX5_at_5 (by decide) (q := 8) rfl (fun h5 => ?_) (fun h5 => ?_)
  · skip
    refine vv_iconst hC (v := (-1)) dX5_at_17 rfl (q := 18) rfl ?_
    exact vv_iret hC hK hr hlk (by rw [rAt, bI_0.mp h5]; rfl) (fun _ h => h) dX5_at_18
  · skip
    have hh := bI_1 h5
    refine vv_ex (fun f hf => ?_)
    obtain ⟨g, e5, e6, eg, ew⟩ := oc_row hk f hf
    refine vv_aload_n hC 0 dX5_at_8 rfl rfl (q := 9) rfl ?_
    refine vv_get hC hK (K := RX5) (T := TX5) (N := 2) (ci := 5) inwX5_at_X5 j (kl5 hk) (fun f2 h2 => (congrFun h2 _).trans e5) rfl 0 (by decide) (List.mem_of_getElem? (i := 1) rfl) rfl (v := .ref (ad (j + 1))) rfl dX5_at_9 (q := 12) rfl ?_
    refine vv_iload_n hC 1 dX5_at_12 rfl rfl (q := 13) rfl ?_
    refine vv_iald hC hK (j + 1) (kd5 j (kl5 hk) hk).2 0 (fun f2 h2 => (congrFun h2 _).trans e6) rfl (vp_in_has hh ew) dX5_at_13 (q := 14) rfl ?_
    refine vv_goto hC (tgt := 18) dX5_at_14 (by decide) ?_
    exact vv_iret hC hK hr hlk (by rw [eg _ (rHas_t hh).2, rAt, if_pos hh]) (fun f2 h2 => h2 ▸ hf) dX5_at_18
theorem inwX5_set_X5 : ∀ w ∈ wsX50, w ∈ wsX5_set := fun _ h => List.mem_cons_of_mem _ (List.mem_append_right _ h)
theorem hdX5_set : yX5_set.cls = RX5 ∧ yX5_set.cls ≠ "java/lang/invoke/MethodHandle" ∧ yX5_set.cls ≠ "java/lang/invoke/VarHandle" ∧ (parseMethodDescriptor yX5_set.desc).map (fun d => d.parameters.length) = some 2 := by decide +kernel
set_option maxRecDepth 100000 in
set_option maxHeartbeats 4000000 in
theorem c5_set (l : Launch) {D : va_G} {cI cW cZ cL : ClassId} {ad : Nat → Nat} (hJ : injA ad 90) (S : sC) (j : Nat) (hk : kd j = 5) (i v : Int32) : kMv l yX5_set wsX5_set ({ frames := 1, cells := 0, slots := 0, locals := 21 }) D vwCl (tyL cI cW cZ cL) ad 90 [.ref (ad j), .int i, .int v] (PC cI cW ad S) (PC cI cW ad (sSet S j (rSet (S.1 j) i v))) := by
  refine vv_enter (cc := cX5_set) (maxL := 3) (ret := none) (own := RX5) (lv := [(0, .ref (ad j)), (1, .int i), (2, .int v)]) (by decide +kernel) rfl rfl hJ (Nat.le_of_ble_eq_true rfl) rfl ?_
  intro p e s m args below meth c hC hK hW hr hlk
  refine vv_aload_n hC 0 dX5_set_0 rfl rfl (q := 1) rfl ?_
  refine vv_iload_n hC 1 dX5_set_1 rfl rfl (q := 2) rfl ?_
  refine vv_calli hC hK (fun _ h => h) (As := [.int i]) j (kl5 hk) (or5 hk) rfl (c5_has l hJ S j hk i) (cwV 1 hC.2.2.2.2 gX5_set_X5_has rfl rfl rfl hdX5_has ⟨Nat.le_of_ble_eq_true rfl, Nat.le_of_ble_eq_true rfl⟩) rfl rfl (Nat.le_of_ble_eq_true rfl) ⟨Nat.le_of_ble_eq_true rfl, Nat.le_of_ble_eq_true rfl⟩ dX5_set_2 (q := 5) rfl ?_
  refine vv_if_eq hC (tgt := 15) dX5_set_5 (by decide) (q := 8) rfl (fun h5 => ?_) (fun h5 => ?_)
  · skip
    exact vv_vret hC hK hr hlk (fun f h => by rw [rSet, bI_0.mp h5, if_neg Bool.false_ne_true, sSet_self]; exact h) dX5_set_15
  · skip
    have hh := bI_1 h5
    refine vv_ex (fun f hf => ?_)
    obtain ⟨g, e5, e6, eg, ew⟩ := oc_row hk f hf
    refine vv_aload_n hC 0 dX5_set_8 rfl rfl (q := 9) rfl ?_
    refine vv_get hC hK (K := RX5) (T := TX5) (N := 2) (ci := 5) inwX5_set_X5 j (kl5 hk) (fun f2 h2 => (congrFun h2 _).trans e5) rfl 0 (by decide) (List.mem_of_getElem? (i := 1) rfl) rfl (v := .ref (ad (j + 1))) rfl dX5_set_9 (q := 12) rfl ?_
    refine vv_iload_n hC 1 dX5_set_12 rfl rfl (q := 13) rfl ?_
    refine vv_iload_n hC 2 dX5_set_13 rfl rfl (q := 14) rfl ?_
    refine vv_iast hC hK hW (P1 := fun f2 => f2 = (ud f (j + 1) (.inl (cI, (cap j, .inl (upd g (Int32.toNatClampNeg i) v)))))) (j + 1) (kd5 j (kl5 hk) hk).2 0 (fun f2 h2 => (congrFun h2 _).trans e6) rfl (vp_in_has hh ew) (fun f2 h2 => by rw [h2]) dX5_set_14 (q := 15) rfl ?_
    exact vv_vret hC hK hr hlk (fun f2 h2 => oc_upd hk hf (x := rSet (S.1 j) i v) (g := upd g i.toNatClampNeg v) (by rw [rSet, if_pos hh, List.length_set]; exact ew) (fun k hk2 => by
      rw [rSet, if_pos hh, List.length_set] at hk2
      rw [rSet, if_pos hh]
      by_cases hkk : k = i.toNatClampNeg
      · subst hkk; simp [upd, hk2]
      · rw [upd, if_neg hkk, eg k hk2]; simp [Ne.symm hkk]) (by rw [h2, ud_ne (by omega), e5, rSet, if_pos hh, List.length_set]) (by rw [h2, ud_eq]) (fun k h3 h4 => by rw [h2, ud_ne h4])) dX5_set_15
theorem inwX5_raise_X5 : ∀ w ∈ wsX50, w ∈ wsX5_raise := fun _ h => List.mem_cons_of_mem _ (List.mem_append_right _ h)
theorem hdX5_raise : yX5_raise.cls = RX5 ∧ yX5_raise.cls ≠ "java/lang/invoke/MethodHandle" ∧ yX5_raise.cls ≠ "java/lang/invoke/VarHandle" ∧ (parseMethodDescriptor yX5_raise.desc).map (fun d => d.parameters.length) = some 2 := by decide +kernel
set_option maxRecDepth 100000 in
set_option maxHeartbeats 4000000 in
theorem c5_raise (l : Launch) {D : va_G} {cI cW cZ cL : ClassId} {ad : Nat → Nat} (hJ : injA ad 90) (S : sC) (j : Nat) (hk : kd j = 5) (i v : Int32) : kMv l yX5_raise wsX5_raise ({ frames := 2, cells := 0, slots := 0, locals := 43 }) D vwCl (tyL cI cW cZ cL) ad 90 [.ref (ad j), .int i, .int v] (PC cI cW ad S) (PC cI cW ad (sSet S j (rSet (S.1 j) i (rAt (S.1 j) i + v)))) := by
  refine vv_enter (cc := cX5_raise) (maxL := 3) (ret := none) (own := RX5) (lv := [(0, .ref (ad j)), (1, .int i), (2, .int v)]) (by decide +kernel) rfl rfl hJ (Nat.le_of_ble_eq_true rfl) rfl ?_
  intro p e s m args below meth c hC hK hW hr hlk
  refine vv_aload_n hC 0 dX5_raise_0 rfl rfl (q := 1) rfl ?_
  refine vv_iload_n hC 1 dX5_raise_1 rfl rfl (q := 2) rfl ?_
  refine vv_aload_n hC 0 dX5_raise_2 rfl rfl (q := 3) rfl ?_
  refine vv_iload_n hC 1 dX5_raise_3 rfl rfl (q := 4) rfl ?_
  refine vv_calli hC hK (fun _ h => h) (As := [.int i]) j (kl5 hk) (or5 hk) rfl (c5_at l hJ S j hk i) (cwV 1 hC.2.2.2.2 gX5_raise_X5_at rfl rfl rfl hdX5_at ⟨Nat.le_of_ble_eq_true rfl, Nat.le_of_ble_eq_true rfl⟩) rfl rfl (Nat.le_of_ble_eq_true rfl) ⟨Nat.le_of_ble_eq_true rfl, Nat.le_of_ble_eq_true rfl⟩ dX5_raise_4 (q := 7) rfl ?_
  refine vv_iload_n hC 2 dX5_raise_7 rfl rfl (q := 8) rfl ?_
  refine vv_iadd hC dX5_raise_8 (q := 9) rfl ?_
  refine vv_callv hC hK (fun _ h => h) (As := [.int i, .int ((rAt (S.1 j) i) + v)]) j (kl5 hk) (or5 hk) rfl (c5_set l hJ S j hk i ((rAt (S.1 j) i) + v)) (cwV 2 hC.2.2.2.2 gX5_raise_X5_set rfl rfl rfl hdX5_set ⟨Nat.le_of_ble_eq_true rfl, Nat.le_of_ble_eq_true rfl⟩) rfl rfl (Nat.le_of_ble_eq_true rfl) ⟨Nat.le_of_ble_eq_true rfl, Nat.le_of_ble_eq_true rfl⟩ dX5_raise_9 (q := 12) rfl ?_
  exact vv_vret hC hK hr hlk (fun _ h => h) dX5_raise_12
theorem inwX5_insert_X5 : ∀ w ∈ wsX50, w ∈ wsX5_insert := fun _ h => List.mem_cons_of_mem _ (List.mem_append_right _ h)
theorem hdX5_insert : yX5_insert.cls = RX5 ∧ yX5_insert.cls ≠ "java/lang/invoke/MethodHandle" ∧ yX5_insert.cls ≠ "java/lang/invoke/VarHandle" ∧ (parseMethodDescriptor yX5_insert.desc).map (fun d => d.parameters.length) = some 2 := by decide +kernel
set_option maxRecDepth 100000 in
set_option maxHeartbeats 4000000 in
theorem c5_insert (l : Launch) {D : va_G} {cI cW cZ cL : ClassId} {ad : Nat → Nat} (hJ : injA ad 90) (S : sC) (j : Nat) (hk : kd j = 5) (i v : Int32) : kMv l yX5_insert wsX5_insert ({ frames := 1, cells := 0, slots := 0, locals := 40 }) D vwCl (tyL cI cW cZ cL) ad 90 [.ref (ad j), .int i, .int v] (PC cI cW ad S) (PC cI cW ad (sSet S j (rIns (S.1 j) (cap j) i v))) := by
  refine vv_enter (cc := cX5_insert) (maxL := 3) (ret := none) (own := RX5) (lv := [(0, .ref (ad j)), (1, .int i), (2, .int v)]) (by decide +kernel) rfl rfl hJ (Nat.le_of_ble_eq_true rfl) rfl ?_
  intro p e s m args below meth c hC hK hW hr hlk
  refine vv_pure (P := (S.1 j).length ≤ cap j) (fun H hB => by obtain ⟨f, hf, -⟩ := hB; exact oc_wf f hf j hk) (fun hw => ?_)
  have hcp := cap_le j
  refine vv_iload_n hC 1 dX5_insert_0 rfl rfl (q := 1) rfl ?_
  refine vv_if_lt hC (tgt := 24) dX5_insert_1 (by decide) (q := 4) rfl (fun h1 => ?_) (fun h1 => ?_)
  · skip
    exact vv_vret hC hK hr hlk (fun f h => by rw [rIns, if_neg (fun hh => hh.1 h1), sSet_self]; exact h) dX5_insert_24
  · skip
    refine vv_iload_n hC 1 dX5_insert_4 rfl rfl (q := 5) rfl ?_
    refine vv_aload_n hC 0 dX5_insert_5 rfl rfl (q := 6) rfl ?_
    refine vv_get hC hK (K := RX5) (T := TX5) (N := 2) (ci := 5) inwX5_insert_X5 j (kl5 hk) (oc5 hk) rfl 1 (by decide) (List.mem_of_getElem? (i := 1) rfl) rfl (v := .int (nI (S.1 j).length)) rfl dX5_insert_6 (q := 9) rfl ?_
    refine vv_icmp_gt hC (tgt := 24) dX5_insert_9 (by decide) (q := 12) rfl (fun h9 => ?_) (fun h9 => ?_)
    · skip
      exact vv_vret hC hK hr hlk (fun f h => by rw [rIns, if_neg (fun hh => by obtain ⟨n, hn, rfl⟩ := nI_of h1; rw [nI_ltI (by omega) hn] at h9; rw [nI_clamp hn] at hh; omega), sSet_self]; exact h) dX5_insert_24
    · skip
      refine vv_aload_n hC 0 dX5_insert_12 rfl rfl (q := 13) rfl ?_
      refine vv_get hC hK (K := RX5) (T := TX5) (N := 2) (ci := 5) inwX5_insert_X5 j (kl5 hk) (oc5 hk) rfl 1 (by decide) (List.mem_of_getElem? (i := 1) rfl) rfl (v := .int (nI (S.1 j).length)) rfl dX5_insert_13 (q := 16) rfl ?_
      refine vv_aload_n hC 0 dX5_insert_16 rfl rfl (q := 17) rfl ?_
      refine vv_get hC hK (K := RX5) (T := TX5) (N := 2) (ci := 5) inwX5_insert_X5 j (kl5 hk) (oc5 hk) rfl 0 (by decide) (List.mem_of_getElem? (i := 2) rfl) rfl (v := .ref (ad (j + 1))) rfl dX5_insert_17 (q := 20) rfl ?_
      refine vv_alen hC hK (j + 1) (kd5 j (kl5 hk) hk).2 0 (x := (cap j, .inl fun _ => 0)) (fun f h => by obtain ⟨g, -, e6, -⟩ := oc_row hk f h; exact ⟨_, e6⟩) rfl (v := nI (cap j)) rfl dX5_insert_20 (q := 21) rfl ?_
      refine vv_icmp_lt hC (tgt := 25) dX5_insert_21 (by decide) (q := 24) rfl (fun h21 => ?_) (fun h21 => ?_)
      · skip
        obtain ⟨n, hn, hin⟩ := nI_of h1
        rw [hin, nI_ltI (by omega) hn] at h9
        rw [nI_ltI (by omega) (by omega)] at h21
        have hx : rIns (S.1 j) (cap j) i v = (S.1 j).take n ++ v :: (S.1 j).drop n := by rw [rIns, hin, nI_clamp hn, if_pos ⟨nI_pos hn, by omega, h21⟩]
        have hxl : (rIns (S.1 j) (cap j) i v).length = (S.1 j).length + 1 := by rw [hx]; simp; omega
        have hii : i.toNatClampNeg = n := by rw [hin, nI_clamp hn]
        have hvp : vp_in i (cap j) := by rw [hin]; exact vp_in_nI (by omega) (by omega)
        refine vv_ex (fun f hf => ?_)
        obtain ⟨g, e5, e6, eg, ew⟩ := oc_row hk f hf
        refine vv_aload_n hC 0 dX5_insert_25 rfl rfl (q := 26) rfl ?_
        refine vv_get hC hK (K := RX5) (T := TX5) (N := 2) (ci := 5) inwX5_insert_X5 j (kl5 hk) (fun f2 h2 => (congrFun h2 _).trans e5) rfl 0 (by decide) (List.mem_of_getElem? (i := 2) rfl) rfl (v := .ref (ad (j + 1))) rfl dX5_insert_26 (q := 29) rfl ?_
        refine vv_iload_n hC 1 dX5_insert_29 rfl rfl (q := 30) rfl ?_
        refine vv_aload_n hC 0 dX5_insert_30 rfl rfl (q := 31) rfl ?_
        refine vv_get hC hK (K := RX5) (T := TX5) (N := 2) (ci := 5) inwX5_insert_X5 j (kl5 hk) (fun f2 h2 => (congrFun h2 _).trans e5) rfl 0 (by decide) (List.mem_of_getElem? (i := 2) rfl) rfl (v := .ref (ad (j + 1))) rfl dX5_insert_31 (q := 34) rfl ?_
        refine vv_iload_n hC 1 dX5_insert_34 rfl rfl (q := 35) rfl ?_
        refine vv_iconst hC (v := 1) dX5_insert_35 rfl (q := 36) rfl ?_
        refine vv_iadd hC dX5_insert_36 (q := 37) rfl ?_
        refine vv_aload_n hC 0 dX5_insert_37 rfl rfl (q := 38) rfl ?_
        refine vv_get hC hK (K := RX5) (T := TX5) (N := 2) (ci := 5) inwX5_insert_X5 j (kl5 hk) (fun f2 h2 => (congrFun h2 _).trans e5) rfl 1 (by decide) (List.mem_of_getElem? (i := 1) rfl) rfl (v := .int (nI (S.1 j).length)) rfl dX5_insert_38 (q := 41) rfl ?_
        refine vv_iload_n hC 1 dX5_insert_41 rfl rfl (q := 42) rfl ?_
        refine vv_isub hC dX5_insert_42 (q := 43) rfl ?_
        refine vv_eqv (st' := [.int (nI ((S.1 j).length - n)), .int (nI (n + 1)), .ref (ad (j + 1)), .int (nI n), .ref (ad (j + 1))]) (by rw [hin, nI_1, pk_sub (by omega)]) ?_
        refine vv_copyi hC hK hW (P1 := fun f2 => f2 = (ud f (j + 1) (.inl (cI, (cap j, .inl (va_cpy g g (nI n).toNatClampNeg (nI (n + 1)).toNatClampNeg (nI ((S.1 j).length - n)).toNatClampNeg)))))) (j + 1) (kd5 j (kl5 hk) hk).2 0 (fun f2 h2 => (congrFun h2 _).trans e6) rfl (nI_pos (by omega)) (nI_pos (by omega)) (nI_pos (by omega)) (by rw [nI_clamp (by omega), nI_clamp (by omega)]; omega) (by rw [nI_clamp (by omega), nI_clamp (by omega)]; omega) (List.mem_of_getElem? (i := 3) rfl) (List.mem_of_getElem? (i := 4) rfl) (List.mem_of_getElem? (i := 5) rfl) (List.mem_of_getElem? (i := 6) rfl) (Nat.le_of_ble_eq_true rfl) (by decide +kernel) (fun f2 h2 => by rw [h2]) dX5_insert_43 (q := 46) rfl ?_
        refine vv_aload_n hC 0 dX5_insert_46 rfl rfl (q := 47) rfl ?_
        refine vv_get hC hK (K := RX5) (T := TX5) (N := 2) (ci := 5) inwX5_insert_X5 j (kl5 hk) (fun f2 h2 => ((congrFun h2 _).trans (ud_ne (by omega))).trans e5) rfl 0 (by decide) (List.mem_of_getElem? (i := 2) rfl) rfl (v := .ref (ad (j + 1))) rfl dX5_insert_47 (q := 50) rfl ?_
        refine vv_iload_n hC 1 dX5_insert_50 rfl rfl (q := 51) rfl ?_
        refine vv_iload_n hC 2 dX5_insert_51 rfl rfl (q := 52) rfl ?_
        refine vv_iast hC hK hW (P1 := fun f2 => f2 = (ud (ud f (j + 1) (.inl (cI, (cap j, .inl (va_cpy g g (nI n).toNatClampNeg (nI (n + 1)).toNatClampNeg (nI ((S.1 j).length - n)).toNatClampNeg))))) (j + 1) (.inl (cI, (cap j, .inl (upd (va_cpy g g (nI n).toNatClampNeg (nI (n + 1)).toNatClampNeg (nI ((S.1 j).length - n)).toNatClampNeg) (Int32.toNatClampNeg i) v)))))) (j + 1) (kd5 j (kl5 hk) hk).2 0 (fun f2 h2 => (congrFun h2 _).trans ud_eq) rfl hvp (fun f2 h2 => by rw [h2]) dX5_insert_52 (q := 53) rfl ?_
        refine vv_aload_n hC 0 dX5_insert_53 rfl rfl (q := 54) rfl ?_
        refine vv_dup hC dX5_insert_54 rfl (q := 55) rfl ?_
        refine vv_get hC hK (K := RX5) (T := TX5) (N := 2) (ci := 5) inwX5_insert_X5 j (kl5 hk) (fun f2 h2 => (((congrFun h2 _).trans (ud_ne (by omega))).trans (ud_ne (by omega))).trans e5) rfl 1 (by decide) (List.mem_of_getElem? (i := 1) rfl) rfl (v := .int (nI (S.1 j).length)) rfl dX5_insert_55 (q := 58) rfl ?_
        refine vv_iconst hC (v := 1) dX5_insert_58 rfl (q := 59) rfl ?_
        refine vv_iadd hC dX5_insert_59 (q := 60) rfl ?_
        refine vv_put hC hK hW (P1 := fun f2 => f2 = (ud (ud (ud f (j + 1) (.inl (cI, (cap j, .inl (va_cpy g g (nI n).toNatClampNeg (nI (n + 1)).toNatClampNeg (nI ((S.1 j).length - n)).toNatClampNeg))))) (j + 1) (.inl (cI, (cap j, .inl (upd (va_cpy g g (nI n).toNatClampNeg (nI (n + 1)).toNatClampNeg (nI ((S.1 j).length - n)).toNatClampNeg) (Int32.toNatClampNeg i) v))))) j (.inr (5, [.ref (ad (j + 1)), .int ((nI (S.1 j).length) + 1)])))) (K := RX5) (T := TX5) (N := 2) (ci := 5) inwX5_insert_X5 tyX5 tyX5_ok nmX5 j (kl5 hk) (fun f2 h2 => (((congrFun h2 _).trans (ud_ne (by omega))).trans (ud_ne (by omega))).trans e5) rfl (ty := .int) 1 (by decide) (List.mem_of_getElem? (i := 1) rfl) rfl rfl (by decide +kernel) rfl rfl (Nat.le_of_ble_eq_true rfl) (fun f2 h2 => by rw [h2]; rfl) dX5_insert_60 (q := 63) rfl ?_
        exact vv_vret hC hK hr hlk (fun f2 h2 => oc_upd hk hf (x := rIns (S.1 j) (cap j) i v) (g := (upd (va_cpy g g (nI n).toNatClampNeg (nI (n + 1)).toNatClampNeg (nI ((S.1 j).length - n)).toNatClampNeg) (Int32.toNatClampNeg i) v)) (by rw [hxl]; exact h21) (fun k hk2 => by
      rw [hxl] at hk2
      rw [hx, hii, nI_clamp (by omega), nI_clamp (by omega), nI_clamp (by omega)]
      rw [ins_getD _ (by omega)]
      by_cases hkk : k = n
      · subst hkk
        rw [upd, if_pos rfl, if_neg (by omega), if_pos rfl]
      · rw [upd, if_neg hkk]
        by_cases hlt : k < n
        · rw [va_cpy, if_neg (by omega), eg k (by omega), if_pos hlt]
        · rw [va_cpy, if_pos (by omega), eg _ (by omega), if_neg hlt, if_neg hkk]
          congr 1
          omega) (by rw [h2, ud_eq, hxl, nI_1]) (by rw [h2, ud_ne (by omega), ud_eq]) (fun k h3 h4 => by rw [h2, ud_ne h3, ud_ne h4, ud_ne h4])) dX5_insert_63
      · skip
        exact vv_vret hC hK hr hlk (fun f h => by rw [rIns, if_neg (fun hh => by rw [nI_ltI (by omega) (by omega)] at h21; exact h21 hh.2.2), sSet_self]; exact h) dX5_insert_24
theorem inwX5_add_X5 : ∀ w ∈ wsX50, w ∈ wsX5_add := fun _ h => List.mem_cons_of_mem _ (List.mem_append_right _ h)
theorem hdX5_add : yX5_add.cls = RX5 ∧ yX5_add.cls ≠ "java/lang/invoke/MethodHandle" ∧ yX5_add.cls ≠ "java/lang/invoke/VarHandle" ∧ (parseMethodDescriptor yX5_add.desc).map (fun d => d.parameters.length) = some 1 := by decide +kernel
set_option maxRecDepth 100000 in
set_option maxHeartbeats 4000000 in
theorem c5_add (l : Launch) {D : va_G} {cI cW cZ cL : ClassId} {ad : Nat → Nat} (hJ : injA ad 90) (S : sC) (j : Nat) (hk : kd j = 5) (v : Int32) : kMv l yX5_add wsX5_add ({ frames := 2, cells := 0, slots := 0, locals := 62 }) D vwCl (tyL cI cW cZ cL) ad 90 [.ref (ad j), .int v] (PC cI cW ad S) (PC cI cW ad (sSet S j (rAdd (S.1 j) (cap j) v))) := by
  refine vv_enter (cc := cX5_add) (maxL := 2) (ret := none) (own := RX5) (lv := [(0, .ref (ad j)), (1, .int v)]) (by decide +kernel) rfl rfl hJ (Nat.le_of_ble_eq_true rfl) rfl ?_
  intro p e s m args below meth c hC hK hW hr hlk
  refine vv_pure (P := (S.1 j).length ≤ cap j) (fun H hB => by obtain ⟨f, hf, -⟩ := hB; exact oc_wf f hf j hk) (fun hw => ?_)
  have hcp := cap_le j
  refine vv_aload_n hC 0 dX5_add_0 rfl rfl (q := 1) rfl ?_
  refine vv_aload_n hC 0 dX5_add_1 rfl rfl (q := 2) rfl ?_
  refine vv_get hC hK (K := RX5) (T := TX5) (N := 2) (ci := 5) inwX5_add_X5 j (kl5 hk) (oc5 hk) rfl 1 (by decide) (List.mem_of_getElem? (i := 1) rfl) rfl (v := .int (nI (S.1 j).length)) rfl dX5_add_2 (q := 5) rfl ?_
  refine vv_iload_n hC 1 dX5_add_5 rfl rfl (q := 6) rfl ?_
  refine vv_callv hC hK (fun _ h => h) (As := [.int (nI (S.1 j).length), .int v]) j (kl5 hk) (or5 hk) rfl (c5_insert l hJ S j hk (nI (S.1 j).length) v) (cwV 2 hC.2.2.2.2 gX5_add_X5_insert rfl rfl rfl hdX5_insert ⟨Nat.le_of_ble_eq_true rfl, Nat.le_of_ble_eq_true rfl⟩) rfl rfl (Nat.le_of_ble_eq_true rfl) ⟨Nat.le_of_ble_eq_true rfl, Nat.le_of_ble_eq_true rfl⟩ dX5_add_6 (q := 9) rfl ?_
  exact vv_vret hC hK hr hlk (fun f h => by rw [← rIns_add (by omega)]; exact h) dX5_add_9
theorem inwX5_remove_X5 : ∀ w ∈ wsX50, w ∈ wsX5_remove := fun _ h => List.mem_cons_of_mem _ (List.mem_append_right _ h)
theorem hdX5_remove : yX5_remove.cls = RX5 ∧ yX5_remove.cls ≠ "java/lang/invoke/MethodHandle" ∧ yX5_remove.cls ≠ "java/lang/invoke/VarHandle" ∧ (parseMethodDescriptor yX5_remove.desc).map (fun d => d.parameters.length) = some 1 := by decide +kernel
set_option maxRecDepth 100000 in
set_option maxHeartbeats 4000000 in
theorem c5_remove (l : Launch) {D : va_G} {cI cW cZ cL : ClassId} {ad : Nat → Nat} (hJ : injA ad 90) (S : sC) (j : Nat) (hk : kd j = 5) (i : Int32) : kMi l yX5_remove wsX5_remove ({ frames := 1, cells := 0, slots := 0, locals := 40 }) D vwCl (tyL cI cW cZ cL) ad 90 [.ref (ad j), .int i] (PC cI cW ad S) (rAt (S.1 j) i) (PC cI cW ad (sSet S j (rRem (S.1 j) i))) := by
  refine vv_enter (cc := cX5_remove) (maxL := 3) (ret := (some .int)) (own := RX5) (lv := [(0, .ref (ad j)), (1, .int i)]) (by decide +kernel) rfl rfl hJ (Nat.le_of_ble_eq_true rfl) rfl ?_
  intro p e s m args below meth c hC hK hW hr hlk
  refine vv_pure (P := (S.1 j).length ≤ cap j) (fun H hB => by obtain ⟨f, hf, -⟩ := hB; exact oc_wf f hf j hk) (fun hw => ?_)
  have hcp := cap_le j
  refine vv_aload_n hC 0 dX5_remove_0 rfl rfl (q := 1) rfl ?_
  refine vv_iload_n hC 1 dX5_remove_1 rfl rfl (q := 2) rfl ?_
  refine vv_calli hC hK (fun _ h => h) (As := [.int i]) j (kl5 hk) (or5 hk) rfl (c5_has l hJ S j hk i) (cwV 1 hC.2.2.2.2 gX5_remove_X5_has rfl rfl rfl hdX5_has ⟨Nat.le_of_ble_eq_true rfl, Nat.le_of_ble_eq_true rfl⟩) rfl rfl (Nat.le_of_ble_eq_true rfl) ⟨Nat.le_of_ble_eq_true rfl, Nat.le_of_ble_eq_true rfl⟩ dX5_remove_2 (q := 5) rfl ?_
  refine vv_if_ne hC (tgt := 10) dX5_remove_5 (by decide) (q := 8) rfl (fun h5 => ?_) (fun h5 => ?_)
  · skip
    have hh := bI_1 h5
    obtain ⟨n, hn, hin⟩ := nI_of (rHas_t hh).1
    have hii : i.toNatClampNeg = n := by rw [hin, nI_clamp hn]
    have hnl := (rHas_t hh).2
    rw [hii] at hnl
    have hxl : (rRem (S.1 j) i).length = (S.1 j).length - 1 := by rw [rRem, if_pos hh, hii, List.length_eraseIdx, if_pos hnl]
    refine vv_ex (fun f hf => ?_)
    obtain ⟨g, e5, e6, eg, ew⟩ := oc_row hk f hf
    refine vv_aload_n hC 0 dX5_remove_10 rfl rfl (q := 11) rfl ?_
    refine vv_get hC hK (K := RX5) (T := TX5) (N := 2) (ci := 5) inwX5_remove_X5 j (kl5 hk) (fun f2 h2 => (congrFun h2 _).trans e5) rfl 0 (by decide) (List.mem_of_getElem? (i := 1) rfl) rfl (v := .ref (ad (j + 1))) rfl dX5_remove_11 (q := 14) rfl ?_
    refine vv_iload_n hC 1 dX5_remove_14 rfl rfl (q := 15) rfl ?_
    refine vv_iald hC hK (j + 1) (kd5 j (kl5 hk) hk).2 0 (fun f2 h2 => (congrFun h2 _).trans e6) rfl (vp_in_has hh ew) dX5_remove_15 (q := 16) rfl ?_
    refine vv_istore_n hC (i := 2) (lv' := [(2, .int (g (Int32.toNatClampNeg i))), (0, .ref (ad j)), (1, .int i)]) dX5_remove_16 rfl (by decide) rfl (q := 17) rfl ?_
    refine vv_aload_n hC 1 dX5_remove_17 rfl rfl (q := 18) rfl ?_
    refine vv_get hC hK (K := RX5) (T := TX5) (N := 2) (ci := 5) inwX5_remove_X5 j (kl5 hk) (fun f2 h2 => (congrFun h2 _).trans e5) rfl 0 (by decide) (List.mem_of_getElem? (i := 1) rfl) rfl (v := .ref (ad (j + 1))) rfl dX5_remove_18 (q := 21) rfl ?_
    refine vv_iload_n hC 2 dX5_remove_21 rfl rfl (q := 22) rfl ?_
    refine vv_iconst hC (v := 1) dX5_remove_22 rfl (q := 23) rfl ?_
    refine vv_iadd hC dX5_remove_23 (q := 24) rfl ?_
    refine vv_aload_n hC 1 dX5_remove_24 rfl rfl (q := 25) rfl ?_
    refine vv_get hC hK (K := RX5) (T := TX5) (N := 2) (ci := 5) inwX5_remove_X5 j (kl5 hk) (fun f2 h2 => (congrFun h2 _).trans e5) rfl 0 (by decide) (List.mem_of_getElem? (i := 1) rfl) rfl (v := .ref (ad (j + 1))) rfl dX5_remove_25 (q := 28) rfl ?_
    refine vv_iload_n hC 2 dX5_remove_28 rfl rfl (q := 29) rfl ?_
    refine vv_aload_n hC 1 dX5_remove_29 rfl rfl (q := 30) rfl ?_
    refine vv_get hC hK (K := RX5) (T := TX5) (N := 2) (ci := 5) inwX5_remove_X5 j (kl5 hk) (fun f2 h2 => (congrFun h2 _).trans e5) rfl 1 (by decide) (List.mem_of_getElem? (i := 2) rfl) rfl (v := .int (nI (S.1 j).length)) rfl dX5_remove_30 (q := 33) rfl ?_
    refine vv_iload_n hC 2 dX5_remove_33 rfl rfl (q := 34) rfl ?_
    refine vv_isub hC dX5_remove_34 (q := 35) rfl ?_
    refine vv_iconst hC (v := 1) dX5_remove_35 rfl (q := 36) rfl ?_
    refine vv_isub hC dX5_remove_36 (q := 37) rfl ?_
    refine vv_eqv (st' := [.int (nI ((S.1 j).length - n - 1)), .int (nI n), .ref (ad (j + 1)), .int (nI (n + 1)), .ref (ad (j + 1))]) (by rw [hin, nI_1, pk_sub (by omega), ← pk_sub (a := (S.1 j).length - n) (b := 1) (by omega)]; rfl) ?_
    refine vv_copyi hC hK hW (P1 := fun f2 => f2 = (ud f (j + 1) (.inl (cI, (cap j, .inl (va_cpy g g (nI (n + 1)).toNatClampNeg (nI n).toNatClampNeg (nI ((S.1 j).length - n - 1)).toNatClampNeg)))))) (j + 1) (kd5 j (kl5 hk) hk).2 0 (fun f2 h2 => (congrFun h2 _).trans e6) rfl (nI_pos (by omega)) (nI_pos (by omega)) (nI_pos (by omega)) (by rw [nI_clamp (by omega), nI_clamp (by omega)]; omega) (by rw [nI_clamp (by omega), nI_clamp (by omega)]; omega) (List.mem_of_getElem? (i := 3) rfl) (List.mem_of_getElem? (i := 4) rfl) (List.mem_of_getElem? (i := 5) rfl) (List.mem_of_getElem? (i := 6) rfl) (Nat.le_of_ble_eq_true rfl) (by decide +kernel) (fun f2 h2 => by rw [h2]) dX5_remove_37 (q := 40) rfl ?_
    refine vv_aload_n hC 1 dX5_remove_40 rfl rfl (q := 41) rfl ?_
    refine vv_dup hC dX5_remove_41 rfl (q := 42) rfl ?_
    refine vv_get hC hK (K := RX5) (T := TX5) (N := 2) (ci := 5) inwX5_remove_X5 j (kl5 hk) (fun f2 h2 => ((congrFun h2 _).trans (ud_ne (by omega))).trans e5) rfl 1 (by decide) (List.mem_of_getElem? (i := 2) rfl) rfl (v := .int (nI (S.1 j).length)) rfl dX5_remove_42 (q := 45) rfl ?_
    refine vv_iconst hC (v := 1) dX5_remove_45 rfl (q := 46) rfl ?_
    refine vv_isub hC dX5_remove_46 (q := 47) rfl ?_
    refine vv_put hC hK hW (P1 := fun f2 => f2 = (ud (ud f (j + 1) (.inl (cI, (cap j, .inl (va_cpy g g (nI (n + 1)).toNatClampNeg (nI n).toNatClampNeg (nI ((S.1 j).length - n - 1)).toNatClampNeg))))) j (.inr (5, [.ref (ad (j + 1)), .int ((nI (S.1 j).length) - 1)])))) (K := RX5) (T := TX5) (N := 2) (ci := 5) inwX5_remove_X5 tyX5 tyX5_ok nmX5 j (kl5 hk) (fun f2 h2 => ((congrFun h2 _).trans (ud_ne (by omega))).trans e5) rfl (ty := .int) 1 (by decide) (List.mem_of_getElem? (i := 2) rfl) rfl rfl (by decide +kernel) rfl rfl (Nat.le_of_ble_eq_true rfl) (fun f2 h2 => by rw [h2]; rfl) dX5_remove_47 (q := 50) rfl ?_
    refine vv_iload_n hC 0 dX5_remove_50 rfl rfl (q := 51) rfl ?_
    exact vv_iret hC hK hr hlk (by rw [rAt, if_pos hh]; exact eg _ (rHas_t hh).2) (fun f2 h2 => oc_upd hk hf (x := rRem (S.1 j) i) (g := (va_cpy g g (nI (n + 1)).toNatClampNeg (nI n).toNatClampNeg (nI ((S.1 j).length - n - 1)).toNatClampNeg)) (by rw [hxl]; omega) (fun k hk2 => by
      rw [hxl] at hk2
      rw [rRem, if_pos hh, hii, nI_clamp (by omega), nI_clamp (by omega), nI_clamp (by omega)]
      simp only [List.getD, List.getElem?_eraseIdx]
      by_cases hlt : k < n
      · rw [va_cpy, if_neg (by omega), eg k (by omega), if_pos hlt]
        simp [List.getD]
      · rw [va_cpy, if_pos (by omega), eg _ (by omega), if_neg hlt]
        simp only [List.getD]
        congr 2
        omega) (by rw [h2, ud_eq, hxl, ← pk_sub (a := (S.1 j).length) (b := 1) (by omega)]; rfl) (by rw [h2, ud_ne (by omega), ud_eq]) (fun k h3 h4 => by rw [h2, ud_ne h3, ud_ne h4])) dX5_remove_51
  · skip
    refine vv_iconst hC (v := (-1)) dX5_remove_8 rfl (q := 9) rfl ?_
    exact vv_iret hC hK hr hlk (by rw [rAt, bI_0.mp h5]; rfl) (fun f h => by rw [rRem, bI_0.mp h5, if_neg Bool.false_ne_true, sSet_self]; exact h) dX5_remove_9
theorem inwX5_indexOf_X5 : ∀ w ∈ wsX50, w ∈ wsX5_indexOf := fun _ h => List.mem_cons_of_mem _ (List.mem_append_right _ h)
theorem hdX5_indexOf : yX5_indexOf.cls = RX5 ∧ yX5_indexOf.cls ≠ "java/lang/invoke/MethodHandle" ∧ yX5_indexOf.cls ≠ "java/lang/invoke/VarHandle" ∧ (parseMethodDescriptor yX5_indexOf.desc).map (fun d => d.parameters.length) = some 1 := by decide +kernel
set_option maxRecDepth 100000 in
set_option maxHeartbeats 4000000 in
theorem c5_indexOf (l : Launch) {D : va_G} {cI cW cZ cL : ClassId} {ad : Nat → Nat} (hJ : injA ad 90) (S : sC) (j : Nat) (hk : kd j = 5) (v : Int32) : kMi l yX5_indexOf wsX5_indexOf ({ frames := 2, cells := 0, slots := 0, locals := 42 }) D vwCl (tyL cI cW cZ cL) ad 90 [.ref (ad j), .int v] (PC cI cW ad S) (rIdx (S.1 j) v) (PC cI cW ad S) := by
  refine vv_enter (cc := cX5_indexOf) (maxL := 3) (ret := (some .int)) (own := RX5) (lv := [(0, .ref (ad j)), (1, .int v)]) (by decide +kernel) rfl rfl hJ (Nat.le_of_ble_eq_true rfl) rfl ?_
  intro p e s m args below meth c hC hK hW hr hlk
  refine vv_pure (P := (S.1 j).length ≤ cap j) (fun H hB => by obtain ⟨f, hf, -⟩ := hB; exact oc_wf f hf j hk) (fun hw => ?_)
  have hcp := cap_le j
  refine vv_iconst hC (v := 0) dX5_indexOf_0 rfl (q := 1) rfl ?_
  refine vv_istore_n hC (i := 2) (lv' := [(2, .int 0), (0, .ref (ad j)), (1, .int v)]) dX5_indexOf_1 rfl (by decide) rfl (q := 2) rfl ?_
  have loop2 : ∀ (fu : Nat) (n : Nat), (S.1 j).length < n + fu → n ≤ (S.1 j).length → rIdxF (S.1 j) v fu n = rIdx (S.1 j) v → vv p l e (headSpec wsX5_indexOf ({ frames := 2, cells := 0, slots := 0, locals := 42 })).room s m args below meth c 3 (RA ad 90) s.heap 0 0 (MQ below (va_Qi (fun r' (_ : Unit) => r' = (rIdx (S.1 j) v)) (fun _ => ws0 D vwCl (tyL cI cW cZ cL) ad 90 (PC cI cW ad S)) (RA ad 90)) args s 0 0 (RA ad 90)) (wq D vwCl ad 90 (PC cI cW ad S)) 2 [(0, .ref (ad j)), (1, .int v), (2, .int (nI n))] [] := by
    intro fu
    induction fu with
    | zero =>
      intro n hfu hn hres
      exact absurd hfu (by omega)
    | succ fu ih =>
      intro n hfu hn hres
      refine vv_iload_n hC 2 dX5_indexOf_2 rfl rfl (q := 3) rfl ?_
      refine vv_aload_n hC 0 dX5_indexOf_3 rfl rfl (q := 4) rfl ?_
      refine vv_get hC hK (K := RX5) (T := TX5) (N := 2) (ci := 5) inwX5_indexOf_X5 j (kl5 hk) (oc5 hk) rfl 1 (by decide) (List.mem_of_getElem? (i := 1) rfl) rfl (v := .int (nI (S.1 j).length)) rfl dX5_indexOf_4 (q := 7) rfl ?_
      refine vv_icmp_ge hC (tgt := 27) dX5_indexOf_7 (by decide) (q := 10) rfl (fun h7 => ?_) (fun h7 => ?_)
      · skip
        refine vv_iconst hC (v := (-1)) dX5_indexOf_27 rfl (q := 28) rfl ?_
        exact vv_iret hC hK hr hlk (by rw [← hres, rIdxF, if_neg (by rw [nI_leI (by omega) (by omega)] at h7; omega)]) (fun _ h => h) dX5_indexOf_28
      · skip
        refine vv_aload_n hC 0 dX5_indexOf_10 rfl rfl (q := 11) rfl ?_
        refine vv_iload_n hC 2 dX5_indexOf_11 rfl rfl (q := 12) rfl ?_
        refine vv_calli hC hK (fun _ h => h) (As := [.int (nI n)]) j (kl5 hk) (or5 hk) rfl (c5_at l hJ S j hk (nI n)) (cwV 1 hC.2.2.2.2 gX5_indexOf_X5_at rfl rfl rfl hdX5_at ⟨Nat.le_of_ble_eq_true rfl, Nat.le_of_ble_eq_true rfl⟩) rfl rfl (Nat.le_of_ble_eq_true rfl) ⟨Nat.le_of_ble_eq_true rfl, Nat.le_of_ble_eq_true rfl⟩ dX5_indexOf_12 (q := 15) rfl ?_
        refine vv_iload_n hC 1 dX5_indexOf_15 rfl rfl (q := 16) rfl ?_
        refine vv_icmp_ne hC (tgt := 21) dX5_indexOf_16 (by decide) (q := 19) rfl (fun h16 => ?_) (fun h16 => ?_)
        · skip
          refine vv_iinc hC (i := 2) (v := nI (n + 1)) (lv' := [(2, .int (nI (n + 1))), (0, .ref (ad j)), (1, .int v)]) 2 dX5_indexOf_21 rfl (nI_1 n) (by decide) rfl (q := 24) rfl ?_
          refine vv_goto hC (tgt := 2) dX5_indexOf_24 (by decide) ?_
          exact vv_lv [1, 2, 0] rfl (ih (n + 1) (by omega) (by rw [nI_leI (by omega) (by omega)] at h7; omega) (by rw [← hres, rIdxF, if_pos (by rw [nI_leI (by omega) (by omega)] at h7; omega), if_neg (by rw [← rAt_lt (by omega) (by rw [nI_leI (by omega) (by omega)] at h7; omega)]; exact h16)]))
        · skip
          refine vv_iload_n hC 2 dX5_indexOf_19 rfl rfl (q := 20) rfl ?_
          exact vv_iret hC hK hr hlk (by rw [← hres, rIdxF, if_pos (by rw [nI_leI (by omega) (by omega)] at h7; omega), if_pos (by rw [← rAt_lt (by omega) (by rw [nI_leI (by omega) (by omega)] at h7; omega)]; exact h16)]) (fun _ h => h) dX5_indexOf_20
  exact vv_lv [1, 2, 0] rfl (loop2 ((S.1 j).length + 1) 0 (by omega) (Nat.zero_le _) rfl)
theorem inwX5_clear_X5 : ∀ w ∈ wsX50, w ∈ wsX5_clear := fun _ h => List.mem_cons_of_mem _ (List.mem_append_right _ h)
theorem hdX5_clear : yX5_clear.cls = RX5 ∧ yX5_clear.cls ≠ "java/lang/invoke/MethodHandle" ∧ yX5_clear.cls ≠ "java/lang/invoke/VarHandle" ∧ (parseMethodDescriptor yX5_clear.desc).map (fun d => d.parameters.length) = some 0 := by decide +kernel
set_option maxRecDepth 100000 in
set_option maxHeartbeats 4000000 in
theorem c5_clear (l : Launch) {D : va_G} {cI cW cZ cL : ClassId} {ad : Nat → Nat} (hJ : injA ad 90) (S : sC) (j : Nat) (hk : kd j = 5)  : kMv l yX5_clear wsX5_clear ({ frames := 0, cells := 0, slots := 0, locals := 0 }) D vwCl (tyL cI cW cZ cL) ad 90 [.ref (ad j)] (PC cI cW ad S) (PC cI cW ad (sSet S j [])) := by
  refine vv_enter (cc := cX5_clear) (maxL := 1) (ret := none) (own := RX5) (lv := [(0, .ref (ad j))]) (by decide +kernel) rfl rfl hJ (Nat.le_of_ble_eq_true rfl) rfl ?_
  intro p e s m args below meth c hC hK hW hr hlk
  refine vv_ex (fun f hf => ?_)
  obtain ⟨g, e5, e6, eg, ew⟩ := oc_row hk f hf
  refine vv_aload_n hC 0 dX5_clear_0 rfl rfl (q := 1) rfl ?_
  refine vv_iconst hC (v := 0) dX5_clear_1 rfl (q := 2) rfl ?_
  refine vv_put hC hK hW (P1 := fun f2 => f2 = (ud f j (.inr (5, [.ref (ad (j + 1)), .int 0])))) (K := RX5) (T := TX5) (N := 2) (ci := 5) inwX5_clear_X5 tyX5 tyX5_ok nmX5 j (kl5 hk) (fun f2 h2 => (congrFun h2 _).trans e5) rfl (ty := .int) 1 (by decide) (List.mem_of_getElem? (i := 1) rfl) rfl rfl (by decide +kernel) rfl rfl (Nat.le_of_ble_eq_true rfl) (fun f2 h2 => by rw [h2]; rfl) dX5_clear_2 (q := 5) rfl ?_
  exact vv_vret hC hK hr hlk (fun f2 h2 => oc_upd hk hf (x := []) (g := g) (Nat.zero_le _) (fun k hk2 => absurd hk2 (Nat.not_lt_zero _)) (by rw [h2, ud_eq]; rfl) (by rw [h2, ud_ne (by omega), e6]) (fun k h3 h4 => by rw [h2, ud_ne h3])) dX5_clear_5
theorem inwX5_become_X5 : ∀ w ∈ wsX50, w ∈ wsX5_become := fun _ h => List.mem_cons_of_mem _ (List.mem_append_right _ h)
theorem hdX5_become : yX5_become.cls = RX5 ∧ yX5_become.cls ≠ "java/lang/invoke/MethodHandle" ∧ yX5_become.cls ≠ "java/lang/invoke/VarHandle" ∧ (parseMethodDescriptor yX5_become.desc).map (fun d => d.parameters.length) = some 1 := by decide +kernel
set_option maxRecDepth 100000 in
set_option maxHeartbeats 4000000 in
theorem c5_become (l : Launch) {D : va_G} {cI cW cZ cL : ClassId} {ad : Nat → Nat} (hJ : injA ad 90) (S : sC) (j : Nat) (hk : kd j = 5) (k : Nat) (hkk : kd k = 5) (hkj : k ≠ j) (hck : cap k ≤ cap j) : kMv l yX5_become wsX5_become ({ frames := 3, cells := 0, slots := 0, locals := 83 }) D vwCl (tyL cI cW cZ cL) ad 90 [.ref (ad j), .ref (ad k)] (PC cI cW ad S) (PC cI cW ad (sSet S j (S.1 k))) := by
  refine vv_enter (cc := cX5_become) (maxL := 3) (ret := none) (own := RX5) (lv := [(0, .ref (ad j)), (1, .ref (ad k))]) (by decide +kernel) rfl rfl hJ (Nat.le_of_ble_eq_true rfl) rfl ?_
  intro p e s m args below meth c hC hK hW hr hlk
  refine vv_pure (P := (S.1 k).length ≤ cap k) (fun H hB => by obtain ⟨f, hf, -⟩ := hB; exact oc_wf f hf k hkk) (fun hw => ?_)
  have hcp := cap_le k
  refine vv_aload_n hC 0 dX5_become_0 rfl rfl (q := 1) rfl ?_
  refine vv_callv hC hK (fun _ h => h) (As := []) j (kl5 hk) (or5 hk) rfl (c5_clear l hJ S j hk) (cwV 0 hC.2.2.2.2 gX5_become_X5_clear rfl rfl rfl hdX5_clear ⟨Nat.le_of_ble_eq_true rfl, Nat.le_of_ble_eq_true rfl⟩) rfl rfl (Nat.le_of_ble_eq_true rfl) ⟨Nat.le_of_ble_eq_true rfl, Nat.le_of_ble_eq_true rfl⟩ dX5_become_1 (q := 4) rfl ?_
  refine vv_iconst hC (v := 0) dX5_become_4 rfl (q := 5) rfl ?_
  refine vv_istore_n hC (i := 2) (lv' := [(2, .int 0), (0, .ref (ad j)), (1, .ref (ad k))]) dX5_become_5 rfl (by decide) rfl (q := 6) rfl ?_
  have loop6 : ∀ (fu : Nat) (n : Nat), (S.1 k).length < n + fu → n ≤ (S.1 k).length → vv p l e (headSpec wsX5_become ({ frames := 3, cells := 0, slots := 0, locals := 83 })).room s m args below meth c 3 (RA ad 90) s.heap 0 0 (MQ below (va_Qv (fun (_ : Unit) => True) (fun _ => ws0 D vwCl (tyL cI cW cZ cL) ad 90 (PC cI cW ad (sSet S j (S.1 k)))) (RA ad 90)) args s 0 0 (RA ad 90)) (wq D vwCl ad 90 (PC cI cW ad (sSet S j ((S.1 k).take n)))) 6 [(0, .ref (ad j)), (1, .ref (ad k)), (2, .int (nI n))] [] := by
    intro fu
    induction fu with
    | zero =>
      intro n hfu hn
      exact absurd hfu (by omega)
    | succ fu ih =>
      intro n hfu hn
      refine vv_iload_n hC 2 dX5_become_6 rfl rfl (q := 7) rfl ?_
      refine vv_aload_n hC 1 dX5_become_7 rfl rfl (q := 8) rfl ?_
      refine vv_get hC hK (K := RX5) (T := TX5) (N := 2) (ci := 5) inwX5_become_X5 k (kl5 hkk) (oc5 hkk) rfl 1 (by decide) (List.mem_of_getElem? (i := 1) rfl) rfl (v := .int (nI ((sSet S j ((S.1 k).take n)).1 k).length)) rfl dX5_become_8 (q := 11) rfl ?_
      refine vv_icmp_ge hC (tgt := 29) dX5_become_11 (by decide) (q := 14) rfl (fun h11 => ?_) (fun h11 => ?_)
      · skip
        exact vv_vret hC hK hr hlk (fun f h => by rw [List.take_of_length_le (by rw [sSet_o hkj, nI_leI (by omega) (by omega)] at h11; exact h11)] at h; exact h) dX5_become_29
      · skip
        refine vv_aload_n hC 0 dX5_become_14 rfl rfl (q := 15) rfl ?_
        refine vv_aload_n hC 1 dX5_become_15 rfl rfl (q := 16) rfl ?_
        refine vv_iload_n hC 2 dX5_become_16 rfl rfl (q := 17) rfl ?_
        refine vv_calli hC hK (fun _ h => h) (As := [.int (nI n)]) k (kl5 hkk) (or5 hkk) rfl (c5_at l hJ (sSet S j ((S.1 k).take n)) k hkk (nI n)) (cwV 1 hC.2.2.2.2 gX5_become_X5_at rfl rfl rfl hdX5_at ⟨Nat.le_of_ble_eq_true rfl, Nat.le_of_ble_eq_true rfl⟩) rfl rfl (Nat.le_of_ble_eq_true rfl) ⟨Nat.le_of_ble_eq_true rfl, Nat.le_of_ble_eq_true rfl⟩ dX5_become_17 (q := 20) rfl ?_
        refine vv_callv hC hK (fun _ h => h) (As := [.int (rAt ((sSet S j ((S.1 k).take n)).1 k) (nI n))]) j (kl5 hk) (or5 hk) rfl (c5_add l hJ (sSet S j ((S.1 k).take n)) j hk (rAt ((sSet S j ((S.1 k).take n)).1 k) (nI n))) (cwV 1 hC.2.2.2.2 gX5_become_X5_add rfl rfl rfl hdX5_add ⟨Nat.le_of_ble_eq_true rfl, Nat.le_of_ble_eq_true rfl⟩) rfl rfl (Nat.le_of_ble_eq_true rfl) ⟨Nat.le_of_ble_eq_true rfl, Nat.le_of_ble_eq_true rfl⟩ dX5_become_20 (q := 23) rfl ?_
        refine vv_iinc hC (i := 2) (v := nI (n + 1)) (lv' := [(2, .int (nI (n + 1))), (0, .ref (ad j)), (1, .ref (ad k))]) 2 dX5_become_23 rfl (nI_1 n) (by decide) rfl (q := 26) rfl ?_
        refine vv_goto hC (tgt := 6) dX5_become_26 (by decide) ?_
        have h7 : n < (S.1 k).length := by rw [sSet_o hkj, nI_leI (by omega) (by omega)] at h11; omega
        refine vv_wq (P1 := PC cI cW ad (sSet S j ((S.1 k).take (n + 1)))) (fun f h => by
        rw [sSet_twice, sSet_1, sSet_o hkj, rAt_n (by omega), rAdd, if_pos (by simp; omega)] at h
        rw [List.take_succ, List.getElem?_eq_getElem h7]
        simpa [List.getD, h7] using h) ?_
        exact vv_lv [1, 2, 0] rfl (ih (n + 1) (by omega) (by omega))
  refine vv_wq (P1 := PC cI cW ad (sSet S j ((S.1 k).take 0))) (fun f h => by rw [List.take_zero]; exact h) ?_
  exact vv_lv [1, 2, 0] rfl (loop6 ((S.1 k).length + 1) 0 (by omega) (Nat.zero_le _))
