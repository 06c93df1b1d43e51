/-! the law's checks, over facts of the state -/
def sum6 (f : Nat → Nat) : Nat → Nat
  | 0 => 0
  | n + 1 => sum6 f n + f n
theorem sum6_le {f : Nat → Nat} {b : Nat} (h : ∀ n, f n ≤ b) : ∀ n, sum6 f n ≤ b * n := by
  intro n
  induction n with
  | zero => exact Nat.zero_le _
  | succ n ih => rw [sum6, Nat.mul_succ]; have := h n; omega
theorem sum6_5 (m : Nat → Nat) : ∀ n, sum6 (fun w => 5 * m w) n = 5 * sum6 m n := by
  intro n
  induction n with
  | zero => rfl
  | succ n ih => rw [sum6, sum6, ih]; omega
def thrN (S : sC) : Nat → Nat
  | 0 => 0
  | n + 1 => thrN S n + if rIdx (S.1 17) (nI n) < 0 then 0 else 1
def dnN (S : sC) : Nat → Nat
  | 0 => 0
  | n + 1 => dnN S n + if rAt (S.1 68) (nI n) = 1 then 1 else 0
theorem dnN_le (S : sC) : ∀ n, dnN S n ≤ n := by
  intro n
  induction n with
  | zero => exact Nat.le_refl 0
  | succ n ih => rw [dnN]; split <;> omega
theorem thrN_le (S : sC) : ∀ n, thrN S n ≤ n := by
  intro n
  induction n with
  | zero => exact Nat.le_refl 0
  | succ n ih => rw [thrN]; split <;> omega
def FT (S : sC) (m : Nat → Nat) : Prop :=
  (∀ w, w < 6 → anewBy S (nI w) = nI (cntBy S (nI w))) ∧ (∀ w, cntBy S (nI w) ≤ 300) ∧ sum6 (fun w => cntBy S (nI w)) 6 = (S.1 17).length ∧
  (∀ w, w < 6 → rAt (S.1 59) (nI w) = nI (5 * m w)) ∧ (∀ w, m w ≤ 9000) ∧
  (∀ i, i < (S.1 17).length → ∃ n, n < (S.1 3).length ∧ rAt (S.1 17) (nI i) = nI n ∧ rIdx (S.1 17) (nI n) = nI i ∧ (rAt (S.1 11) (nI n) = -1 ∨ ∃ r, r < (S.1 62).length ∧ rAt (S.1 11) (nI n) = nI r ∧ (rAt (S.1 68) (nI r) = 0 ∨ rAt (S.1 68) (nI r) = 1))) ∧
  (∀ n, n < (S.1 3).length → (∃ x, x ≤ 5999 ∧ 1000 * rAt (S.1 5) (nI n) + rAt (S.1 3) (nI n) = nI x) ∧ ((∃ k, k < 2 ^ 30 ∧ rIdx (S.1 17) (nI n) = nI k) ∨ (rIdx (S.1 17) (nI n) = -1 ∧ rAt (S.1 11) (nI n) = -1))) ∧
  thrN S (S.1 3).length = (S.1 17).length
def FD (S : sC) : Prop :=
  (∀ c, c < (S.1 86).length → rSpan S (nI c) = -1 ∨ ∃ a b, rSpan S (nI c) = nI (1000 * a + b) ∧ 0 < b ∧ b < 1000 ∧ a + b ≤ (S.1 17).length) ∧
  (∀ i, i < (S.1 72).length → ∃ r, r < (S.1 62).length ∧ rAt (S.1 72) (nI i) = nI r ∧ rAt (S.1 68) (nI r) = 1) ∧
  (∀ r, r < (S.1 62).length → ∃ x, x ≤ 3 ∧ rAt (S.1 68) (nI r) = nI x) ∧ dnN S (S.1 62).length = (S.1 72).length
theorem tIx_in {n N : Nat} (hN : N < 2 ^ 30) (h : n < N) : tIx (nI n) (nI N) = 0 := by
  unfold tIx
  rw [if_neg]
  rintro (h1 | h1)
  · exact nI_pos (by omega) h1
  · exact absurd ((nI_leI (by omega) (by omega)).mp h1) (by omega)
theorem tIx_out {n N : Nat} (hN : N < 2 ^ 30) (h : N ≤ n) (hn : n < 2 ^ 30) : ¬ tIx (nI n) (nI N) = 0 := by
  unfold tIx
  rw [if_pos (Or.inr ((nI_leI (by omega) (by omega)).mpr h))]
  decide
theorem tB2_n {n : Nat} (h : n < 2 ^ 31) : tB2 (!decide (nI n < 0)) = 0 := by rw [decide_eq_false (nI_pos h)]; rfl
theorem wf_l {S : sC} (hw : wfC S) : (S.1 3).length ≤ 300 ∧ (S.1 17).length ≤ 300 ∧ (S.1 62).length ≤ 30 ∧ (S.1 72).length ≤ 30 ∧ (S.1 86).length ≤ 40 := ⟨hw 3 (by decide +kernel), hw 17 (by decide +kernel), hw 62 (by decide +kernel), hw 72 (by decide +kernel), hw 86 (by decide +kernel)⟩
theorem hsL_areAlike : yL_areAlike.cls ≠ "java/lang/invoke/MethodHandle" ∧ yL_areAlike.cls ≠ "java/lang/invoke/VarHandle" ∧ (parseMethodDescriptor yL_areAlike.desc).map (fun d => d.parameters.length) = some 2 := by decide +kernel
set_option maxRecDepth 100000 in
set_option maxHeartbeats 8000000 in
theorem cn_areAlike (l : Launch) {D : va_G} {cI cW cZ cL : ClassId} (hlst : l.stackTraces = false) (z : Nat) (S : sC) : kA l yL_areAlike wsL_areAlike ({ frames := 9, cells := 126, slots := 756, locals := 156 }) D cI cW cZ cL z S 126 756 := by
  refine vv_enter2 (cc := cL_areAlike) (maxL := 4) (ret := some .boolean) (own := RL) (by decide +kernel) rfl rfl (by decide) ?_
  intro p e s m args below meth c hC hK hr hlk hz hE hxN hwf
  obtain ⟨hl3, hl17, hl62, hl72, hl86⟩ := wf_l hwf
  refine vv_aload_n hC 0 dL_areAlike_0 rfl rfl (q := 1) rfl ?_
  refine vv_fcm hC hK hR_o (As := []) Foc_o (c8_length l (adO_inj z) S) (cwV 0 hC.2.2.2.2 gL_areAlike_X8_length rfl rfl rfl hdX8_length ⟨Nat.le_of_ble_eq_true rfl, Nat.le_of_ble_eq_true rfl⟩) rfl rfl (Nat.le_of_ble_eq_true rfl) ⟨by show _ ≤ 126; omega, by show _ ≤ 756; omega⟩ dL_areAlike_1 (q := 4) rfl ?_
  refine vv_aload_n hC 1 dL_areAlike_4 rfl rfl (q := 5) rfl ?_
  refine vv_fcm hC hK hR_p (As := []) Foc_p (c8_length l (adP_inj z) S) (cwV 0 hC.2.2.2.2 gL_areAlike_X8_length rfl rfl rfl hdX8_length ⟨Nat.le_of_ble_eq_true rfl, Nat.le_of_ble_eq_true rfl⟩) rfl rfl (Nat.le_of_ble_eq_true rfl) ⟨by show _ ≤ 126; omega, by show _ ≤ 756; omega⟩ dL_areAlike_5 (q := 8) rfl ?_
  refine vv_icmp_ne hC (tgt := 52) dL_areAlike_8 (by decide) (q := 11) rfl (fun h8 => ?_) (fun h8 => ?_)
  · skip
    exact absurd rfl h8
  · skip
    refine vv_aload_n hC 0 dL_areAlike_11 rfl rfl (q := 12) rfl ?_
    refine vv_fcm hC hK hR_o (As := []) Foc_o (c8_today l (adO_inj z) S) (cwV 0 hC.2.2.2.2 gL_areAlike_X8_today rfl rfl rfl hdX8_today ⟨Nat.le_of_ble_eq_true rfl, Nat.le_of_ble_eq_true rfl⟩) rfl rfl (Nat.le_of_ble_eq_true rfl) ⟨by show _ ≤ 126; omega, by show _ ≤ 756; omega⟩ dL_areAlike_12 (q := 15) rfl ?_
    refine vv_aload_n hC 1 dL_areAlike_15 rfl rfl (q := 16) rfl ?_
    refine vv_fcm hC hK hR_p (As := []) Foc_p (c8_today l (adP_inj z) S) (cwV 0 hC.2.2.2.2 gL_areAlike_X8_today rfl rfl rfl hdX8_today ⟨Nat.le_of_ble_eq_true rfl, Nat.le_of_ble_eq_true rfl⟩) rfl rfl (Nat.le_of_ble_eq_true rfl) ⟨by show _ ≤ 126; omega, by show _ ≤ 756; omega⟩ dL_areAlike_16 (q := 19) rfl ?_
    refine vv_icmp_ne hC (tgt := 52) dL_areAlike_19 (by decide) (q := 22) rfl (fun h19 => ?_) (fun h19 => ?_)
    · skip
      exact absurd rfl h19
    · skip
      refine vv_aload_n hC 0 dL_areAlike_22 rfl rfl (q := 23) rfl ?_
      refine vv_iconst hC (v := 0) dL_areAlike_23 rfl (q := 24) rfl ?_
      refine vv_fcx hC hK hE (fun _ h => h) (hA_o hz) (As := [.int 0]) Foc_o (fun zz => c8_waiting l (adO_inj z) hlst (AZ z) zz S 0) (by decide) (cwV 1 hC.2.2.2.2 gL_areAlike_X8_waiting rfl rfl rfl hdX8_waiting ⟨Nat.le_of_ble_eq_true rfl, Nat.le_of_ble_eq_true rfl⟩) rfl rfl (Nat.le_of_ble_eq_true rfl) ⟨by show _ ≤ 126; omega, by show _ ≤ 756; omega⟩ dL_areAlike_24 (q := 27) rfl ?_
      refine vv_aload_n hC 1 dL_areAlike_27 rfl rfl (q := 28) rfl ?_
      refine vv_iconst hC (v := 0) dL_areAlike_28 rfl (q := 29) rfl ?_
      refine vv_fcx hC hK hE (fun _ h => h) (hA_p hz) (As := [.int 0]) Foc_p (fun zz => c8_waiting l (adP_inj z) hlst (AZ z) zz S 0) (by decide) (cwV 1 hC.2.2.2.2 gL_areAlike_X8_waiting rfl rfl rfl hdX8_waiting ⟨Nat.le_of_ble_eq_true rfl, Nat.le_of_ble_eq_true rfl⟩) rfl rfl (Nat.le_of_ble_eq_true rfl) ⟨by show _ ≤ 126; omega, by show _ ≤ 756; omega⟩ dL_areAlike_29 (q := 32) rfl ?_
      refine vv_icmp_ne hC (tgt := 52) dL_areAlike_32 (by decide) (q := 35) rfl (fun h32 => ?_) (fun h32 => ?_)
      · skip
        exact absurd rfl h32
      · skip
        refine vv_aload_n hC 0 dL_areAlike_35 rfl rfl (q := 36) rfl ?_
        refine vv_iconst hC (v := 1) dL_areAlike_36 rfl (q := 37) rfl ?_
        refine vv_fcx hC hK hE (fun _ h => h) (hA_o hz) (As := [.int 1]) Foc_o (fun zz => c8_waiting l (adO_inj z) hlst (AZ z) zz S 1) (by decide) (cwV 1 hC.2.2.2.2 gL_areAlike_X8_waiting rfl rfl rfl hdX8_waiting ⟨Nat.le_of_ble_eq_true rfl, Nat.le_of_ble_eq_true rfl⟩) rfl rfl (Nat.le_of_ble_eq_true rfl) ⟨by show _ ≤ 126; omega, by show _ ≤ 756; omega⟩ dL_areAlike_37 (q := 40) rfl ?_
        refine vv_aload_n hC 1 dL_areAlike_40 rfl rfl (q := 41) rfl ?_
        refine vv_iconst hC (v := 1) dL_areAlike_41 rfl (q := 42) rfl ?_
        refine vv_fcx hC hK hE (fun _ h => h) (hA_p hz) (As := [.int 1]) Foc_p (fun zz => c8_waiting l (adP_inj z) hlst (AZ z) zz S 1) (by decide) (cwV 1 hC.2.2.2.2 gL_areAlike_X8_waiting rfl rfl rfl hdX8_waiting ⟨Nat.le_of_ble_eq_true rfl, Nat.le_of_ble_eq_true rfl⟩) rfl rfl (Nat.le_of_ble_eq_true rfl) ⟨by show _ ≤ 126; omega, by show _ ≤ 756; omega⟩ dL_areAlike_42 (q := 45) rfl ?_
        refine vv_icmp_ne hC (tgt := 52) dL_areAlike_45 (by decide) (q := 48) rfl (fun h45 => ?_) (fun h45 => ?_)
        · skip
          exact absurd rfl h45
        · skip
          refine vv_iconst hC (v := 1) dL_areAlike_48 rfl (q := 49) rfl ?_
          refine vv_goto hC (tgt := 53) dL_areAlike_49 (by decide) ?_
          refine vv_istore_n hC (i := 2) (lv' := [(2, .int 1), (0, .ref (adO z 0)), (1, .ref (adP z 0))]) dL_areAlike_53 rfl (by decide) rfl (q := 54) rfl ?_
          refine vv_iconst hC (v := nI 0) dL_areAlike_54 rfl (q := 55) rfl ?_
          refine vv_istore_n hC (i := 3) (lv' := [(3, .int (nI 0)), (2, .int 1), (0, .ref (adO z 0)), (1, .ref (adP z 0))]) dL_areAlike_55 rfl (by decide) rfl (q := 56) rfl ?_
          have loop56 : ∀ (fu : Nat) (n : Nat), 6 < n + fu → n ≤ 6 → vv p l e (headSpec wsL_areAlike ({ frames := 9, cells := 126, slots := 756, locals := 156 })).room s m args below meth c 4 (AZ z) s.heap (4 + 8 * n) (24 + 48 * n) (MQ below (va_Qi (fun r' (_ : Unit) => r' = 1) (fun _ U => B2 D cI cW z S S U.heap) (AZ z)) args s 126 756 (AZ z)) (B2 D cI cW z S S) 56 [(2, .int 1), (3, .int (nI n)), (0, .ref (adO z 0)), (1, .ref (adP z 0))] [] := by
            intro fu
            induction fu with
            | zero =>
              intro n hfu hn0
              exact absurd hfu (by omega)
            | succ fu ih =>
              intro n hfu hn0
              refine vv_iload_n hC 1 dL_areAlike_56 rfl rfl (q := 57) rfl ?_
              refine vv_bipush hC (v := nI 6) dL_areAlike_57 rfl (q := 59) rfl ?_
              refine vv_icmpN_ge hC (tgt := 130) (by omega) (by omega) dL_areAlike_59 (by decide) (q := 62) rfl (fun h59 => ?_) (fun h59 => ?_)
              · skip
                refine vv_iconst hC (v := nI 0) dL_areAlike_130 rfl (q := 131) rfl ?_
                refine vv_istore_n hC (i := 3) (lv' := [(3, .int (nI 0)), (2, .int 1), (0, .ref (adO z 0)), (1, .ref (adP z 0))]) dL_areAlike_131 rfl (by decide) rfl (q := 132) rfl ?_
                have loop132 : ∀ (fu : Nat) (n : Nat), 4 < n + fu → n ≤ 4 → vv p l e (headSpec wsL_areAlike ({ frames := 9, cells := 126, slots := 756, locals := 156 })).room s m args below meth c 4 (AZ z) s.heap (52 + 2 * n) (312 + 12 * n) (MQ below (va_Qi (fun r' (_ : Unit) => r' = 1) (fun _ U => B2 D cI cW z S S U.heap) (AZ z)) args s 126 756 (AZ z)) (B2 D cI cW z S S) 132 [(2, .int 1), (3, .int (nI n)), (0, .ref (adO z 0)), (1, .ref (adP z 0))] [] := by
                  intro fu
                  induction fu with
                  | zero =>
                    intro n hfu hn0
                    exact absurd hfu (by omega)
                  | succ fu ih =>
                    intro n hfu hn0
                    refine vv_iload_n hC 1 dL_areAlike_132 rfl rfl (q := 133) rfl ?_
                    refine vv_iconst hC (v := nI 4) dL_areAlike_133 rfl (q := 134) rfl ?_
                    refine vv_icmpN_ge hC (tgt := 166) (by omega) (by omega) dL_areAlike_134 (by decide) (q := 137) rfl (fun h134 => ?_) (fun h134 => ?_)
                    · skip
                      refine vv_iconst hC (v := nI 0) dL_areAlike_166 rfl (q := 167) rfl ?_
                      refine vv_istore_n hC (i := 3) (lv' := [(3, .int (nI 0)), (2, .int 1), (0, .ref (adO z 0)), (1, .ref (adP z 0))]) dL_areAlike_167 rfl (by decide) rfl (q := 168) rfl ?_
                      have loop168 : ∀ (fu : Nat) (n : Nat), 8 < n + fu → n ≤ 8 → vv p l e (headSpec wsL_areAlike ({ frames := 9, cells := 126, slots := 756, locals := 156 })).room s m args below meth c 4 (AZ z) s.heap (60 + 2 * n) (360 + 12 * n) (MQ below (va_Qi (fun r' (_ : Unit) => r' = 1) (fun _ U => B2 D cI cW z S S U.heap) (AZ z)) args s 126 756 (AZ z)) (B2 D cI cW z S S) 168 [(2, .int 1), (3, .int (nI n)), (0, .ref (adO z 0)), (1, .ref (adP z 0))] [] := by
                        intro fu
                        induction fu with
                        | zero =>
                          intro n hfu hn0
                          exact absurd hfu (by omega)
                        | succ fu ih =>
                          intro n hfu hn0
                          refine vv_iload_n hC 1 dL_areAlike_168 rfl rfl (q := 169) rfl ?_
                          refine vv_bipush hC (v := nI 8) dL_areAlike_169 rfl (q := 171) rfl ?_
                          refine vv_icmpN_ge hC (tgt := 203) (by omega) (by omega) dL_areAlike_171 (by decide) (q := 174) rfl (fun h171 => ?_) (fun h171 => ?_)
                          · skip
                            refine vv_iconst hC (v := nI 0) dL_areAlike_203 rfl (q := 204) rfl ?_
                            refine vv_istore_n hC (i := 3) (lv' := [(3, .int (nI 0)), (2, .int 1), (0, .ref (adO z 0)), (1, .ref (adP z 0))]) dL_areAlike_204 rfl (by decide) rfl (q := 205) rfl ?_
                            have loop205 : ∀ (fu : Nat) (n : Nat), 20 < n + fu → n ≤ 20 → vv p l e (headSpec wsL_areAlike ({ frames := 9, cells := 126, slots := 756, locals := 156 })).room s m args below meth c 4 (AZ z) s.heap (76 + 2 * n) (456 + 12 * n) (MQ below (va_Qi (fun r' (_ : Unit) => r' = 1) (fun _ U => B2 D cI cW z S S U.heap) (AZ z)) args s 126 756 (AZ z)) (B2 D cI cW z S S) 205 [(2, .int 1), (3, .int (nI n)), (0, .ref (adO z 0)), (1, .ref (adP z 0))] [] := by
                              intro fu
                              induction fu with
                              | zero =>
                                intro n hfu hn0
                                exact absurd hfu (by omega)
                              | succ fu ih =>
                                intro n hfu hn0
                                refine vv_iload_n hC 1 dL_areAlike_205 rfl rfl (q := 206) rfl ?_
                                refine vv_aload_n hC 2 dL_areAlike_206 rfl rfl (q := 207) rfl ?_
                                refine vv_fcm hC hK hR_o (As := []) Foc_o (c8_length l (adO_inj z) S) (cwV 0 hC.2.2.2.2 gL_areAlike_X8_length rfl rfl rfl hdX8_length ⟨Nat.le_of_ble_eq_true rfl, Nat.le_of_ble_eq_true rfl⟩) rfl rfl (Nat.le_of_ble_eq_true rfl) ⟨by show _ ≤ 126; omega, by show _ ≤ 756; omega⟩ dL_areAlike_207 (q := 210) rfl ?_
                                refine vv_icmpN_ge hC (tgt := 248) (by omega) (by omega) dL_areAlike_210 (by decide) (q := 213) rfl (fun h210 => ?_) (fun h210 => ?_)
                                · skip
                                  refine vv_iconst hC (v := nI 0) dL_areAlike_248 rfl (q := 249) rfl ?_
                                  refine vv_istore_n hC (i := 3) (lv' := [(3, .int (nI 0)), (2, .int 1), (0, .ref (adO z 0)), (1, .ref (adP z 0))]) dL_areAlike_249 rfl (by decide) rfl (q := 250) rfl ?_
                                  have loop250 : ∀ (fu : Nat) (n : Nat), 5 < n + fu → n ≤ 5 → vv p l e (headSpec wsL_areAlike ({ frames := 9, cells := 126, slots := 756, locals := 156 })).room s m args below meth c 4 (AZ z) s.heap (116 + 2 * n) (696 + 12 * n) (MQ below (va_Qi (fun r' (_ : Unit) => r' = 1) (fun _ U => B2 D cI cW z S S U.heap) (AZ z)) args s 126 756 (AZ z)) (B2 D cI cW z S S) 250 [(2, .int 1), (3, .int (nI n)), (0, .ref (adO z 0)), (1, .ref (adP z 0))] [] := by
                                    intro fu
                                    induction fu with
                                    | zero =>
                                      intro n hfu hn0
                                      exact absurd hfu (by omega)
                                    | succ fu ih =>
                                      intro n hfu hn0
                                      refine vv_iload_n hC 1 dL_areAlike_250 rfl rfl (q := 251) rfl ?_
                                      refine vv_iconst hC (v := nI 5) dL_areAlike_251 rfl (q := 252) rfl ?_
                                      refine vv_icmpN_ge hC (tgt := 284) (by omega) (by omega) dL_areAlike_252 (by decide) (q := 255) rfl (fun h252 => ?_) (fun h252 => ?_)
                                      · skip
                                        refine vv_iload_n hC 0 dL_areAlike_284 rfl rfl (q := 285) rfl ?_
                                        exact vv_zret2 hC hr hlk (by omega) dL_areAlike_285
                                      · skip
                                        refine vv_iload_n hC 0 dL_areAlike_255 rfl rfl (q := 256) rfl ?_
                                        refine vv_if_eq hC (tgt := 284) dL_areAlike_256 (by decide) (q := 259) rfl (fun h256 => ?_) (fun h256 => ?_)
                                        · skip
                                          exact absurd h256 (by decide)
                                        · skip
                                          refine vv_aload_n hC 2 dL_areAlike_259 rfl rfl (q := 260) rfl ?_
                                          refine vv_iload_n hC 1 dL_areAlike_260 rfl rfl (q := 261) rfl ?_
                                          refine vv_fcnW hC hK hE hxN (fun _ h => h) (hA_o hz) (As := [.ref (adO z 0), .int (nI n)]) Foc_o (fun zz => cn_span l (adO_inj z) hlst (AZ z) zz S (nI n)) (vx_cwSW 2 hC.2.2.2.2 gL_areAlike_L_span rfl rfl rfl hsL_span ⟨Nat.le_of_ble_eq_true rfl, Nat.le_of_ble_eq_true rfl⟩) rfl rfl (Nat.le_of_ble_eq_true rfl) ⟨by show _ ≤ 126; omega, by show _ ≤ 756; omega⟩ dL_areAlike_261 (q := 264) rfl ?_
                                          refine vv_aload_n hC 3 dL_areAlike_264 rfl rfl (q := 265) rfl ?_
                                          refine vv_iload_n hC 1 dL_areAlike_265 rfl rfl (q := 266) rfl ?_
                                          refine vv_fcnW hC hK hE hxN (fun _ h => h) (hA_p hz) (As := [.ref (adP z 0), .int (nI n)]) Foc_p (fun zz => cn_span l (adP_inj z) hlst (AZ z) zz S (nI n)) (vx_cwSW 2 hC.2.2.2.2 gL_areAlike_L_span rfl rfl rfl hsL_span ⟨Nat.le_of_ble_eq_true rfl, Nat.le_of_ble_eq_true rfl⟩) rfl rfl (Nat.le_of_ble_eq_true rfl) ⟨by show _ ≤ 126; omega, by show _ ≤ 756; omega⟩ dL_areAlike_266 (q := 269) rfl ?_
                                          refine vv_icmp_ne hC (tgt := 276) dL_areAlike_269 (by decide) (q := 272) rfl (fun h269 => ?_) (fun h269 => ?_)
                                          · skip
                                            exact absurd rfl h269
                                          · skip
                                            refine vv_iconst hC (v := 1) dL_areAlike_272 rfl (q := 273) rfl ?_
                                            refine vv_goto hC (tgt := 277) dL_areAlike_273 (by decide) ?_
                                            refine vv_istore_n hC (i := 2) (lv' := [(2, .int 1), (3, .int (nI n)), (0, .ref (adO z 0)), (1, .ref (adP z 0))]) dL_areAlike_277 rfl (by decide) rfl (q := 278) rfl ?_
                                            refine vv_iinc hC (i := 3) (v := nI (n + 1)) (lv' := [(3, .int (nI (n + 1))), (2, .int 1), (0, .ref (adO z 0)), (1, .ref (adP z 0))]) 1 dL_areAlike_278 rfl (by rw [show Int32.ofInt 1 = nI 1 from rfl, nI_add]) (by decide) rfl (q := 281) rfl ?_
                                            refine vv_goto hC (tgt := 250) dL_areAlike_281 (by decide) ?_
                                            exact vv_widen (by omega) (by omega) (vv_lv [1, 0, 2, 3] rfl (ih (n + 1) (by omega) (by omega)))
                                  exact vv_widen (by omega) (by omega) (vv_lv [1, 0, 2, 3] rfl (loop250 6 0 (by omega) (by omega)))
                                · skip
                                  have hn : n < (S.1 17).length := by omega
                                  refine vv_iload_n hC 1 dL_areAlike_213 rfl rfl (q := 214) rfl ?_
                                  refine vv_bipush hC (v := nI 20) dL_areAlike_214 rfl (q := 216) rfl ?_
                                  refine vv_icmpN_ge hC (tgt := 248) (by omega) (by omega) dL_areAlike_216 (by decide) (q := 219) rfl (fun h216 => ?_) (fun h216 => ?_)
                                  · skip
                                    refine vv_iconst hC (v := nI 0) dL_areAlike_248 rfl (q := 249) rfl ?_
                                    refine vv_istore_n hC (i := 3) (lv' := [(3, .int (nI 0)), (2, .int 1), (0, .ref (adO z 0)), (1, .ref (adP z 0))]) dL_areAlike_249 rfl (by decide) rfl (q := 250) rfl ?_
                                    have loop250 : ∀ (fu : Nat) (n : Nat), 5 < n + fu → n ≤ 5 → vv p l e (headSpec wsL_areAlike ({ frames := 9, cells := 126, slots := 756, locals := 156 })).room s m args below meth c 4 (AZ z) s.heap (116 + 2 * n) (696 + 12 * n) (MQ below (va_Qi (fun r' (_ : Unit) => r' = 1) (fun _ U => B2 D cI cW z S S U.heap) (AZ z)) args s 126 756 (AZ z)) (B2 D cI cW z S S) 250 [(2, .int 1), (3, .int (nI n)), (0, .ref (adO z 0)), (1, .ref (adP z 0))] [] := by
                                      intro fu
                                      induction fu with
                                      | zero =>
                                        intro n hfu hn0
                                        exact absurd hfu (by omega)
                                      | succ fu ih =>
                                        intro n hfu hn0
                                        refine vv_iload_n hC 1 dL_areAlike_250 rfl rfl (q := 251) rfl ?_
                                        refine vv_iconst hC (v := nI 5) dL_areAlike_251 rfl (q := 252) rfl ?_
                                        refine vv_icmpN_ge hC (tgt := 284) (by omega) (by omega) dL_areAlike_252 (by decide) (q := 255) rfl (fun h252 => ?_) (fun h252 => ?_)
                                        · skip
                                          refine vv_iload_n hC 0 dL_areAlike_284 rfl rfl (q := 285) rfl ?_
                                          exact vv_zret2 hC hr hlk (by omega) dL_areAlike_285
                                        · skip
                                          refine vv_iload_n hC 0 dL_areAlike_255 rfl rfl (q := 256) rfl ?_
                                          refine vv_if_eq hC (tgt := 284) dL_areAlike_256 (by decide) (q := 259) rfl (fun h256 => ?_) (fun h256 => ?_)
                                          · skip
                                            exact absurd h256 (by decide)
                                          · skip
                                            refine vv_aload_n hC 2 dL_areAlike_259 rfl rfl (q := 260) rfl ?_
                                            refine vv_iload_n hC 1 dL_areAlike_260 rfl rfl (q := 261) rfl ?_
                                            refine vv_fcnW hC hK hE hxN (fun _ h => h) (hA_o hz) (As := [.ref (adO z 0), .int (nI n)]) Foc_o (fun zz => cn_span l (adO_inj z) hlst (AZ z) zz S (nI n)) (vx_cwSW 2 hC.2.2.2.2 gL_areAlike_L_span rfl rfl rfl hsL_span ⟨Nat.le_of_ble_eq_true rfl, Nat.le_of_ble_eq_true rfl⟩) rfl rfl (Nat.le_of_ble_eq_true rfl) ⟨by show _ ≤ 126; omega, by show _ ≤ 756; omega⟩ dL_areAlike_261 (q := 264) rfl ?_
                                            refine vv_aload_n hC 3 dL_areAlike_264 rfl rfl (q := 265) rfl ?_
                                            refine vv_iload_n hC 1 dL_areAlike_265 rfl rfl (q := 266) rfl ?_
                                            refine vv_fcnW hC hK hE hxN (fun _ h => h) (hA_p hz) (As := [.ref (adP z 0), .int (nI n)]) Foc_p (fun zz => cn_span l (adP_inj z) hlst (AZ z) zz S (nI n)) (vx_cwSW 2 hC.2.2.2.2 gL_areAlike_L_span rfl rfl rfl hsL_span ⟨Nat.le_of_ble_eq_true rfl, Nat.le_of_ble_eq_true rfl⟩) rfl rfl (Nat.le_of_ble_eq_true rfl) ⟨by show _ ≤ 126; omega, by show _ ≤ 756; omega⟩ dL_areAlike_266 (q := 269) rfl ?_
                                            refine vv_icmp_ne hC (tgt := 276) dL_areAlike_269 (by decide) (q := 272) rfl (fun h269 => ?_) (fun h269 => ?_)
                                            · skip
                                              exact absurd rfl h269
                                            · skip
                                              refine vv_iconst hC (v := 1) dL_areAlike_272 rfl (q := 273) rfl ?_
                                              refine vv_goto hC (tgt := 277) dL_areAlike_273 (by decide) ?_
                                              refine vv_istore_n hC (i := 2) (lv' := [(2, .int 1), (3, .int (nI n)), (0, .ref (adO z 0)), (1, .ref (adP z 0))]) dL_areAlike_277 rfl (by decide) rfl (q := 278) rfl ?_
                                              refine vv_iinc hC (i := 3) (v := nI (n + 1)) (lv' := [(3, .int (nI (n + 1))), (2, .int 1), (0, .ref (adO z 0)), (1, .ref (adP z 0))]) 1 dL_areAlike_278 rfl (by rw [show Int32.ofInt 1 = nI 1 from rfl, nI_add]) (by decide) rfl (q := 281) rfl ?_
                                              refine vv_goto hC (tgt := 250) dL_areAlike_281 (by decide) ?_
                                              exact vv_widen (by omega) (by omega) (vv_lv [1, 0, 2, 3] rfl (ih (n + 1) (by omega) (by omega)))
                                    exact vv_widen (by omega) (by omega) (vv_lv [1, 0, 2, 3] rfl (loop250 6 0 (by omega) (by omega)))
                                  · skip
                                    refine vv_iload_n hC 0 dL_areAlike_219 rfl rfl (q := 220) rfl ?_
                                    refine vv_if_eq hC (tgt := 248) dL_areAlike_220 (by decide) (q := 223) rfl (fun h220 => ?_) (fun h220 => ?_)
                                    · skip
                                      exact absurd h220 (by decide)
                                    · skip
                                      refine vv_aload_n hC 2 dL_areAlike_223 rfl rfl (q := 224) rfl ?_
                                      refine vv_iload_n hC 1 dL_areAlike_224 rfl rfl (q := 225) rfl ?_
                                      refine vv_fcx hC hK hE (fun _ h => h) (hA_o hz) (As := [.int (nI n)]) Foc_o (fun zz => c8_wordAt l (adO_inj z) hlst (AZ z) zz S (nI n)) (tIx_in (by omega) hn) (cwV 1 hC.2.2.2.2 gL_areAlike_X8_wordAt rfl rfl rfl hdX8_wordAt ⟨Nat.le_of_ble_eq_true rfl, Nat.le_of_ble_eq_true rfl⟩) rfl rfl (Nat.le_of_ble_eq_true rfl) ⟨by show _ ≤ 126; omega, by show _ ≤ 756; omega⟩ dL_areAlike_225 (q := 228) rfl ?_
                                      refine vv_aload_n hC 3 dL_areAlike_228 rfl rfl (q := 229) rfl ?_
                                      refine vv_iload_n hC 1 dL_areAlike_229 rfl rfl (q := 230) rfl ?_
                                      refine vv_fcx hC hK hE (fun _ h => h) (hA_p hz) (As := [.int (nI n)]) Foc_p (fun zz => c8_wordAt l (adP_inj z) hlst (AZ z) zz S (nI n)) (tIx_in (by omega) hn) (cwV 1 hC.2.2.2.2 gL_areAlike_X8_wordAt rfl rfl rfl hdX8_wordAt ⟨Nat.le_of_ble_eq_true rfl, Nat.le_of_ble_eq_true rfl⟩) rfl rfl (Nat.le_of_ble_eq_true rfl) ⟨by show _ ≤ 126; omega, by show _ ≤ 756; omega⟩ dL_areAlike_230 (q := 233) rfl ?_
                                      refine vv_icmp_ne hC (tgt := 240) dL_areAlike_233 (by decide) (q := 236) rfl (fun h233 => ?_) (fun h233 => ?_)
                                      · skip
                                        exact absurd rfl h233
                                      · skip
                                        refine vv_iconst hC (v := 1) dL_areAlike_236 rfl (q := 237) rfl ?_
                                        refine vv_goto hC (tgt := 241) dL_areAlike_237 (by decide) ?_
                                        refine vv_istore_n hC (i := 2) (lv' := [(2, .int 1), (3, .int (nI n)), (0, .ref (adO z 0)), (1, .ref (adP z 0))]) dL_areAlike_241 rfl (by decide) rfl (q := 242) rfl ?_
                                        refine vv_iinc hC (i := 3) (v := nI (n + 1)) (lv' := [(3, .int (nI (n + 1))), (2, .int 1), (0, .ref (adO z 0)), (1, .ref (adP z 0))]) 1 dL_areAlike_242 rfl (by rw [show Int32.ofInt 1 = nI 1 from rfl, nI_add]) (by decide) rfl (q := 245) rfl ?_
                                        refine vv_goto hC (tgt := 205) dL_areAlike_245 (by decide) ?_
                                        exact vv_widen (by omega) (by omega) (vv_lv [1, 0, 2, 3] rfl (ih (n + 1) (by omega) (by omega)))
                            exact vv_widen (by omega) (by omega) (vv_lv [1, 0, 2, 3] rfl (loop205 21 0 (by omega) (by omega)))
                          · skip
                            refine vv_iload_n hC 0 dL_areAlike_174 rfl rfl (q := 175) rfl ?_
                            refine vv_if_eq hC (tgt := 203) dL_areAlike_175 (by decide) (q := 178) rfl (fun h175 => ?_) (fun h175 => ?_)
                            · skip
                              exact absurd h175 (by decide)
                            · skip
                              refine vv_aload_n hC 2 dL_areAlike_178 rfl rfl (q := 179) rfl ?_
                              refine vv_iload_n hC 1 dL_areAlike_179 rfl rfl (q := 180) rfl ?_
                              refine vv_fcnW hC hK hE hxN (fun _ h => h) (hA_o hz) (As := [.ref (adO z 0), .int (nI n)]) Foc_o (fun zz => cn_stateOf l (adO_inj z) hlst (AZ z) zz S (nI n)) (vx_cwSW 2 hC.2.2.2.2 gL_areAlike_L_stateOf rfl rfl rfl hsL_stateOf ⟨Nat.le_of_ble_eq_true rfl, Nat.le_of_ble_eq_true rfl⟩) rfl rfl (Nat.le_of_ble_eq_true rfl) ⟨by show _ ≤ 126; omega, by show _ ≤ 756; omega⟩ dL_areAlike_180 (q := 183) rfl ?_
                              refine vv_aload_n hC 3 dL_areAlike_183 rfl rfl (q := 184) rfl ?_
                              refine vv_iload_n hC 1 dL_areAlike_184 rfl rfl (q := 185) rfl ?_
                              refine vv_fcnW hC hK hE hxN (fun _ h => h) (hA_p hz) (As := [.ref (adP z 0), .int (nI n)]) Foc_p (fun zz => cn_stateOf l (adP_inj z) hlst (AZ z) zz S (nI n)) (vx_cwSW 2 hC.2.2.2.2 gL_areAlike_L_stateOf rfl rfl rfl hsL_stateOf ⟨Nat.le_of_ble_eq_true rfl, Nat.le_of_ble_eq_true rfl⟩) rfl rfl (Nat.le_of_ble_eq_true rfl) ⟨by show _ ≤ 126; omega, by show _ ≤ 756; omega⟩ dL_areAlike_185 (q := 188) rfl ?_
                              refine vv_icmp_ne hC (tgt := 195) dL_areAlike_188 (by decide) (q := 191) rfl (fun h188 => ?_) (fun h188 => ?_)
                              · skip
                                exact absurd rfl h188
                              · skip
                                refine vv_iconst hC (v := 1) dL_areAlike_191 rfl (q := 192) rfl ?_
                                refine vv_goto hC (tgt := 196) dL_areAlike_192 (by decide) ?_
                                refine vv_istore_n hC (i := 2) (lv' := [(2, .int 1), (3, .int (nI n)), (0, .ref (adO z 0)), (1, .ref (adP z 0))]) dL_areAlike_196 rfl (by decide) rfl (q := 197) rfl ?_
                                refine vv_iinc hC (i := 3) (v := nI (n + 1)) (lv' := [(3, .int (nI (n + 1))), (2, .int 1), (0, .ref (adO z 0)), (1, .ref (adP z 0))]) 1 dL_areAlike_197 rfl (by rw [show Int32.ofInt 1 = nI 1 from rfl, nI_add]) (by decide) rfl (q := 200) rfl ?_
                                refine vv_goto hC (tgt := 168) dL_areAlike_200 (by decide) ?_
                                exact vv_widen (by omega) (by omega) (vv_lv [1, 0, 2, 3] rfl (ih (n + 1) (by omega) (by omega)))
                      exact vv_widen (by omega) (by omega) (vv_lv [1, 0, 2, 3] rfl (loop168 9 0 (by omega) (by omega)))
                    · skip
                      have hn : n < 4 := by omega
                      refine vv_iload_n hC 0 dL_areAlike_137 rfl rfl (q := 138) rfl ?_
                      refine vv_if_eq hC (tgt := 166) dL_areAlike_138 (by decide) (q := 141) rfl (fun h138 => ?_) (fun h138 => ?_)
                      · skip
                        exact absurd h138 (by decide)
                      · skip
                        refine vv_aload_n hC 2 dL_areAlike_141 rfl rfl (q := 142) rfl ?_
                        refine vv_iload_n hC 1 dL_areAlike_142 rfl rfl (q := 143) rfl ?_
                        refine vv_fcx hC hK hE (fun _ h => h) (hA_o hz) (As := [.int (nI n)]) Foc_o (fun zz => c8_earned l (adO_inj z) hlst (AZ z) zz S (nI n)) (tIx_in (N := 4) (by omega) hn) (cwV 1 hC.2.2.2.2 gL_areAlike_X8_earned rfl rfl rfl hdX8_earned ⟨Nat.le_of_ble_eq_true rfl, Nat.le_of_ble_eq_true rfl⟩) rfl rfl (Nat.le_of_ble_eq_true rfl) ⟨by show _ ≤ 126; omega, by show _ ≤ 756; omega⟩ dL_areAlike_143 (q := 146) rfl ?_
                        refine vv_aload_n hC 3 dL_areAlike_146 rfl rfl (q := 147) rfl ?_
                        refine vv_iload_n hC 1 dL_areAlike_147 rfl rfl (q := 148) rfl ?_
                        refine vv_fcx hC hK hE (fun _ h => h) (hA_p hz) (As := [.int (nI n)]) Foc_p (fun zz => c8_earned l (adP_inj z) hlst (AZ z) zz S (nI n)) (tIx_in (N := 4) (by omega) hn) (cwV 1 hC.2.2.2.2 gL_areAlike_X8_earned rfl rfl rfl hdX8_earned ⟨Nat.le_of_ble_eq_true rfl, Nat.le_of_ble_eq_true rfl⟩) rfl rfl (Nat.le_of_ble_eq_true rfl) ⟨by show _ ≤ 126; omega, by show _ ≤ 756; omega⟩ dL_areAlike_148 (q := 151) rfl ?_
                        refine vv_icmp_ne hC (tgt := 158) dL_areAlike_151 (by decide) (q := 154) rfl (fun h151 => ?_) (fun h151 => ?_)
                        · skip
                          exact absurd rfl h151
                        · skip
                          refine vv_iconst hC (v := 1) dL_areAlike_154 rfl (q := 155) rfl ?_
                          refine vv_goto hC (tgt := 159) dL_areAlike_155 (by decide) ?_
                          refine vv_istore_n hC (i := 2) (lv' := [(2, .int 1), (3, .int (nI n)), (0, .ref (adO z 0)), (1, .ref (adP z 0))]) dL_areAlike_159 rfl (by decide) rfl (q := 160) rfl ?_
                          refine vv_iinc hC (i := 3) (v := nI (n + 1)) (lv' := [(3, .int (nI (n + 1))), (2, .int 1), (0, .ref (adO z 0)), (1, .ref (adP z 0))]) 1 dL_areAlike_160 rfl (by rw [show Int32.ofInt 1 = nI 1 from rfl, nI_add]) (by decide) rfl (q := 163) rfl ?_
                          refine vv_goto hC (tgt := 132) dL_areAlike_163 (by decide) ?_
                          exact vv_widen (by omega) (by omega) (vv_lv [1, 0, 2, 3] rfl (ih (n + 1) (by omega) (by omega)))
                exact vv_widen (by omega) (by omega) (vv_lv [1, 0, 2, 3] rfl (loop132 5 0 (by omega) (by omega)))
              · skip
                have hn : n < 6 := by omega
                refine vv_iload_n hC 0 dL_areAlike_62 rfl rfl (q := 63) rfl ?_
                refine vv_if_eq hC (tgt := 130) dL_areAlike_63 (by decide) (q := 66) rfl (fun h63 => ?_) (fun h63 => ?_)
                · skip
                  exact absurd h63 (by decide)
                · skip
                  refine vv_aload_n hC 2 dL_areAlike_66 rfl rfl (q := 67) rfl ?_
                  refine vv_iload_n hC 1 dL_areAlike_67 rfl rfl (q := 68) rfl ?_
                  refine vv_fcx hC hK hE (fun _ h => h) (hA_o hz) (As := [.int (nI n)]) Foc_o (fun zz => c8_copy l (adO_inj z) hlst (AZ z) zz S (nI n)) (tIx_in (N := 6) (by omega) hn) (cwV 1 hC.2.2.2.2 gL_areAlike_X8_copy rfl rfl rfl hdX8_copy ⟨Nat.le_of_ble_eq_true rfl, Nat.le_of_ble_eq_true rfl⟩) rfl rfl (Nat.le_of_ble_eq_true rfl) ⟨by show _ ≤ 126; omega, by show _ ≤ 756; omega⟩ dL_areAlike_68 (q := 71) rfl ?_
                  refine vv_aload_n hC 3 dL_areAlike_71 rfl rfl (q := 72) rfl ?_
                  refine vv_iload_n hC 1 dL_areAlike_72 rfl rfl (q := 73) rfl ?_
                  refine vv_fcx hC hK hE (fun _ h => h) (hA_p hz) (As := [.int (nI n)]) Foc_p (fun zz => c8_copy l (adP_inj z) hlst (AZ z) zz S (nI n)) (tIx_in (N := 6) (by omega) hn) (cwV 1 hC.2.2.2.2 gL_areAlike_X8_copy rfl rfl rfl hdX8_copy ⟨Nat.le_of_ble_eq_true rfl, Nat.le_of_ble_eq_true rfl⟩) rfl rfl (Nat.le_of_ble_eq_true rfl) ⟨by show _ ≤ 126; omega, by show _ ≤ 756; omega⟩ dL_areAlike_73 (q := 76) rfl ?_
                  refine vv_icmp_ne hC (tgt := 122) dL_areAlike_76 (by decide) (q := 79) rfl (fun h76 => ?_) (fun h76 => ?_)
                  · skip
                    exact absurd rfl h76
                  · skip
                    refine vv_aload_n hC 2 dL_areAlike_79 rfl rfl (q := 80) rfl ?_
                    refine vv_iload_n hC 1 dL_areAlike_80 rfl rfl (q := 81) rfl ?_
                    refine vv_fcx hC hK hE (fun _ h => h) (hA_o hz) (As := [.int (nI n)]) Foc_o (fun zz => c8_changes l (adO_inj z) hlst (AZ z) zz S (nI n)) (tIx_in (N := 6) (by omega) hn) (cwV 1 hC.2.2.2.2 gL_areAlike_X8_changes rfl rfl rfl hdX8_changes ⟨Nat.le_of_ble_eq_true rfl, Nat.le_of_ble_eq_true rfl⟩) rfl rfl (Nat.le_of_ble_eq_true rfl) ⟨by show _ ≤ 126; omega, by show _ ≤ 756; omega⟩ dL_areAlike_81 (q := 84) rfl ?_
                    refine vv_aload_n hC 3 dL_areAlike_84 rfl rfl (q := 85) rfl ?_
                    refine vv_iload_n hC 1 dL_areAlike_85 rfl rfl (q := 86) rfl ?_
                    refine vv_fcx hC hK hE (fun _ h => h) (hA_p hz) (As := [.int (nI n)]) Foc_p (fun zz => c8_changes l (adP_inj z) hlst (AZ z) zz S (nI n)) (tIx_in (N := 6) (by omega) hn) (cwV 1 hC.2.2.2.2 gL_areAlike_X8_changes rfl rfl rfl hdX8_changes ⟨Nat.le_of_ble_eq_true rfl, Nat.le_of_ble_eq_true rfl⟩) rfl rfl (Nat.le_of_ble_eq_true rfl) ⟨by show _ ≤ 126; omega, by show _ ≤ 756; omega⟩ dL_areAlike_86 (q := 89) rfl ?_
                    refine vv_icmp_ne hC (tgt := 122) dL_areAlike_89 (by decide) (q := 92) rfl (fun h89 => ?_) (fun h89 => ?_)
                    · skip
                      exact absurd rfl h89
                    · skip
                      refine vv_aload_n hC 2 dL_areAlike_92 rfl rfl (q := 93) rfl ?_
                      refine vv_iload_n hC 1 dL_areAlike_93 rfl rfl (q := 94) rfl ?_
                      refine vv_fcx hC hK hE (fun _ h => h) (hA_o hz) (As := [.int (nI n)]) Foc_o (fun zz => c8_share l (adO_inj z) hlst (AZ z) zz S (nI n)) (tIx_in (N := 6) (by omega) hn) (cwV 1 hC.2.2.2.2 gL_areAlike_X8_share rfl rfl rfl hdX8_share ⟨Nat.le_of_ble_eq_true rfl, Nat.le_of_ble_eq_true rfl⟩) rfl rfl (Nat.le_of_ble_eq_true rfl) ⟨by show _ ≤ 126; omega, by show _ ≤ 756; omega⟩ dL_areAlike_94 (q := 97) rfl ?_
                      refine vv_aload_n hC 3 dL_areAlike_97 rfl rfl (q := 98) rfl ?_
                      refine vv_iload_n hC 1 dL_areAlike_98 rfl rfl (q := 99) rfl ?_
                      refine vv_fcx hC hK hE (fun _ h => h) (hA_p hz) (As := [.int (nI n)]) Foc_p (fun zz => c8_share l (adP_inj z) hlst (AZ z) zz S (nI n)) (tIx_in (N := 6) (by omega) hn) (cwV 1 hC.2.2.2.2 gL_areAlike_X8_share rfl rfl rfl hdX8_share ⟨Nat.le_of_ble_eq_true rfl, Nat.le_of_ble_eq_true rfl⟩) rfl rfl (Nat.le_of_ble_eq_true rfl) ⟨by show _ ≤ 126; omega, by show _ ≤ 756; omega⟩ dL_areAlike_99 (q := 102) rfl ?_
                      refine vv_icmp_ne hC (tgt := 122) dL_areAlike_102 (by decide) (q := 105) rfl (fun h102 => ?_) (fun h102 => ?_)
                      · skip
                        exact absurd rfl h102
                      · skip
                        refine vv_aload_n hC 2 dL_areAlike_105 rfl rfl (q := 106) rfl ?_
                        refine vv_iload_n hC 1 dL_areAlike_106 rfl rfl (q := 107) rfl ?_
                        refine vv_fcx hC hK hE (fun _ h => h) (hA_o hz) (As := [.int (nI n)]) Foc_o (fun zz => c8_royalties l (adO_inj z) hlst (AZ z) zz S (nI n)) (tIx_in (N := 6) (by omega) hn) (cwV 1 hC.2.2.2.2 gL_areAlike_X8_royalties rfl rfl rfl hdX8_royalties ⟨Nat.le_of_ble_eq_true rfl, Nat.le_of_ble_eq_true rfl⟩) rfl rfl (Nat.le_of_ble_eq_true rfl) ⟨by show _ ≤ 126; omega, by show _ ≤ 756; omega⟩ dL_areAlike_107 (q := 110) rfl ?_
                        refine vv_aload_n hC 3 dL_areAlike_110 rfl rfl (q := 111) rfl ?_
                        refine vv_iload_n hC 1 dL_areAlike_111 rfl rfl (q := 112) rfl ?_
                        refine vv_fcx hC hK hE (fun _ h => h) (hA_p hz) (As := [.int (nI n)]) Foc_p (fun zz => c8_royalties l (adP_inj z) hlst (AZ z) zz S (nI n)) (tIx_in (N := 6) (by omega) hn) (cwV 1 hC.2.2.2.2 gL_areAlike_X8_royalties rfl rfl rfl hdX8_royalties ⟨Nat.le_of_ble_eq_true rfl, Nat.le_of_ble_eq_true rfl⟩) rfl rfl (Nat.le_of_ble_eq_true rfl) ⟨by show _ ≤ 126; omega, by show _ ≤ 756; omega⟩ dL_areAlike_112 (q := 115) rfl ?_
                        refine vv_icmp_ne hC (tgt := 122) dL_areAlike_115 (by decide) (q := 118) rfl (fun h115 => ?_) (fun h115 => ?_)
                        · skip
                          exact absurd rfl h115
                        · skip
                          refine vv_iconst hC (v := 1) dL_areAlike_118 rfl (q := 119) rfl ?_
                          refine vv_goto hC (tgt := 123) dL_areAlike_119 (by decide) ?_
                          refine vv_istore_n hC (i := 2) (lv' := [(2, .int 1), (3, .int (nI n)), (0, .ref (adO z 0)), (1, .ref (adP z 0))]) dL_areAlike_123 rfl (by decide) rfl (q := 124) rfl ?_
                          refine vv_iinc hC (i := 3) (v := nI (n + 1)) (lv' := [(3, .int (nI (n + 1))), (2, .int 1), (0, .ref (adO z 0)), (1, .ref (adP z 0))]) 1 dL_areAlike_124 rfl (by rw [show Int32.ofInt 1 = nI 1 from rfl, nI_add]) (by decide) rfl (q := 127) rfl ?_
                          refine vv_goto hC (tgt := 56) dL_areAlike_127 (by decide) ?_
                          exact vv_widen (by omega) (by omega) (vv_lv [1, 0, 2, 3] rfl (ih (n + 1) (by omega) (by omega)))
          exact vv_widen (by omega) (by omega) (vv_lv [1, 0, 2, 3] rfl (loop56 7 0 (by omega) (by omega)))
theorem hsL_isTextSo : yL_isTextSo.cls ≠ "java/lang/invoke/MethodHandle" ∧ yL_isTextSo.cls ≠ "java/lang/invoke/VarHandle" ∧ (parseMethodDescriptor yL_isTextSo.desc).map (fun d => d.parameters.length) = some 1 := by decide +kernel
set_option maxRecDepth 100000 in
set_option maxHeartbeats 8000000 in
theorem cn_isTextSo (l : Launch) {D : va_G} {cI cW cZ cL : ClassId} {ad : Nat → Nat} (hJ : injA ad 90) (hlst : l.stackTraces = false) (AX : Nat → Prop) (z : Nat) (S : sC) (mr : Nat → Nat) (hF : FT S mr) : kN l yL_isTextSo wsL_isTextSo ({ frames := 10, cells := 2735, slots := 16410, locals := 175 }) D cI cW cZ cL ad AX z [.ref (ad 0)] S 1 S 2735 16410 := by
  refine vv_enterN (cc := cL_isTextSo) (maxL := 7) (ret := some .boolean) (own := RL) (lv := [(0, .ref (ad 0))]) (by decide +kernel) rfl rfl hJ (Nat.le_of_ble_eq_true rfl) rfl ?_
  intro p e s m args below meth c hC hK hW hr hlk hsz hAX hE hxN
  have hA1 : ∀ zz, s.heap.size ≤ zz → ∀ q, RAs ad 90 zz q → RAs ad 90 z q := fun zz h9 => RAs.mono (by rw [← hsz]; exact h9)
  refine vv_pure (fun H hB => wq_len hB) (fun hwf => ?_)
  obtain ⟨hl3, hl17, hl62, hl72, hl86⟩ := wf_l hwf
  obtain ⟨hnew, hcnt, hsum, hroy, hm, htx, hwd, hthr⟩ := hF
  have hle : sum6 (fun w => 5 * mr w) 6 ≤ 45000 * 6 := sum6_le (fun w => by have := hm w; omega) 6
  have hrem : nI (sum6 (fun w => 5 * mr w) 6) - nI (sum6 (fun w => 5 * mr w) 6) / 5 * 5 = 0 := by
    rw [show (5 : Int32) = nI 5 from rfl, pk_rem (by omega) (by omega) (by omega), sum6_5, Nat.mul_mod_right]; rfl
  refine vv_iconst hC (v := nI 0) dL_isTextSo_0 rfl (q := 1) rfl ?_
  refine vv_istore_n hC (i := 1) (lv' := [(1, .int (nI 0)), (0, .ref (ad 0))]) dL_isTextSo_1 rfl (by decide) rfl (q := 2) rfl ?_
  refine vv_iconst hC (v := nI 0) dL_isTextSo_2 rfl (q := 3) rfl ?_
  refine vv_istore_n hC (i := 2) (lv' := [(2, .int (nI 0)), (1, .int (nI 0)), (0, .ref (ad 0))]) dL_isTextSo_3 rfl (by decide) rfl (q := 4) rfl ?_
  refine vv_iconst hC (v := nI 0) dL_isTextSo_4 rfl (q := 5) rfl ?_
  refine vv_istore_n hC (i := 3) (lv' := [(3, .int (nI 0)), (2, .int (nI 0)), (1, .int (nI 0)), (0, .ref (ad 0))]) dL_isTextSo_5 rfl (by decide) rfl (q := 6) rfl ?_
  have loop6 : ∀ (fu : Nat) (n : Nat), 6 < n + fu → n ≤ 6 → vv p l e (headSpec wsL_isTextSo ({ frames := 10, cells := 2735, slots := 16410, locals := 175 })).room s m args below meth c 7 (RAs ad 90 z) s.heap (5 * n) (30 * n) (MQ below (va_Qi (fun r' (_ : Unit) => r' = 1) (fun _ => ws0 D vwCl (tyL cI cW cZ cL) ad 90 (PC cI cW ad S)) (RAs ad 90 z)) args s 2735 16410 (RAs ad 90 z)) (wq D vwCl ad 90 (PC cI cW ad S)) 6 [(1, .int (nI (sum6 (fun w => cntBy S (nI w)) n))), (2, .int (nI (sum6 (fun w => 5 * mr w) n))), (3, .int (nI n)), (0, .ref (ad 0))] [] := by
    intro fu
    induction fu with
    | zero =>
      intro n hfu hn0
      exact absurd hfu (by omega)
    | succ fu ih =>
      intro n hfu hn0
      refine vv_iload_n hC 2 dL_isTextSo_6 rfl rfl (q := 7) rfl ?_
      refine vv_bipush hC (v := nI 6) dL_isTextSo_7 rfl (q := 9) rfl ?_
      refine vv_icmpN_ge hC (tgt := 57) (by omega) (by omega) dL_isTextSo_9 (by decide) (q := 12) rfl (fun h9 => ?_) (fun h9 => ?_)
      · skip
        obtain rfl : n = 6 := by omega
        refine vv_iconst hC (v := nI 0) dL_isTextSo_57 rfl (q := 58) rfl ?_
        refine vv_istore_n hC (i := 3) (lv' := [(3, .int (nI 0)), (1, .int (nI (sum6 (fun w => cntBy S (nI w)) 6))), (2, .int (nI (sum6 (fun w => 5 * mr w) 6))), (0, .ref (ad 0))]) dL_isTextSo_58 rfl (by decide) rfl (q := 59) rfl ?_
        have loop59 : ∀ (fu : Nat) (i : Nat), (S.1 17).length < i + fu → i ≤ (S.1 17).length → vv p l e (headSpec wsL_isTextSo ({ frames := 10, cells := 2735, slots := 16410, locals := 175 })).room s m args below meth c 7 (RAs ad 90 z) s.heap (30 + 4 * i) (180 + 24 * i) (MQ below (va_Qi (fun r' (_ : Unit) => r' = 1) (fun _ => ws0 D vwCl (tyL cI cW cZ cL) ad 90 (PC cI cW ad S)) (RAs ad 90 z)) args s 2735 16410 (RAs ad 90 z)) (wq D vwCl ad 90 (PC cI cW ad S)) 59 [(3, .int (nI i)), (1, .int (nI (sum6 (fun w => cntBy S (nI w)) 6))), (2, .int (nI (sum6 (fun w => 5 * mr w) 6))), (0, .ref (ad 0))] [] := by
          intro fu
          induction fu with
          | zero =>
            intro i hfu hn0
            exact absurd hfu (by omega)
          | succ fu ih =>
            intro i hfu hn0
            refine vv_iload_n hC 0 dL_isTextSo_59 rfl rfl (q := 60) rfl ?_
            refine vv_aload_n hC 3 dL_isTextSo_60 rfl rfl (q := 61) rfl ?_
            refine vv_fcm hC hK (fun _ h => Or.inl h) (As := []) Foc_1 (c8_length l hJ S) (cwV 0 hC.2.2.2.2 gL_isTextSo_X8_length rfl rfl rfl hdX8_length ⟨Nat.le_of_ble_eq_true rfl, Nat.le_of_ble_eq_true rfl⟩) rfl rfl (Nat.le_of_ble_eq_true rfl) ⟨by show _ ≤ 2735; omega, by show _ ≤ 16410; omega⟩ dL_isTextSo_61 (q := 64) rfl ?_
            refine vv_icmpN_ge hC (tgt := 133) (by omega) (by omega) dL_isTextSo_64 (by decide) (q := 67) rfl (fun h64 => ?_) (fun h64 => ?_)
            · skip
              refine vv_iconst hC (v := nI 0) dL_isTextSo_133 rfl (q := 134) rfl ?_
              refine vv_istore_n hC (i := 3) (lv' := [(3, .int (nI 0)), (1, .int (nI (sum6 (fun w => cntBy S (nI w)) 6))), (2, .int (nI (sum6 (fun w => 5 * mr w) 6))), (0, .ref (ad 0))]) dL_isTextSo_134 rfl (by decide) rfl (q := 135) rfl ?_
              refine vv_iconst hC (v := nI 0) dL_isTextSo_135 rfl (q := 136) rfl ?_
              refine vv_istore hC (i := 4) (lv' := [(4, .int (nI 0)), (3, .int (nI 0)), (1, .int (nI (sum6 (fun w => cntBy S (nI w)) 6))), (2, .int (nI (sum6 (fun w => 5 * mr w) 6))), (0, .ref (ad 0))]) dL_isTextSo_136 (by decide) rfl (q := 138) rfl ?_
              have loop138 : ∀ (fu : Nat) (n : Nat), (S.1 3).length < n + fu → n ≤ (S.1 3).length → vv p l e (headSpec wsL_isTextSo ({ frames := 10, cells := 2735, slots := 16410, locals := 175 })).room s m args below meth c 7 (RAs ad 90 z) s.heap (1230 + 5 * n) (7380 + 30 * n) (MQ below (va_Qi (fun r' (_ : Unit) => r' = 1) (fun _ => ws0 D vwCl (tyL cI cW cZ cL) ad 90 (PC cI cW ad S)) (RAs ad 90 z)) args s 2735 16410 (RAs ad 90 z)) (wq D vwCl ad 90 (PC cI cW ad S)) 138 [(4, .int (nI n)), (3, .int (nI (thrN S n))), (1, .int (nI (sum6 (fun w => cntBy S (nI w)) 6))), (2, .int (nI (sum6 (fun w => 5 * mr w) 6))), (0, .ref (ad 0))] [] := by
                intro fu
                induction fu with
                | zero =>
                  intro n hfu hn0
                  exact absurd hfu (by omega)
                | succ fu ih =>
                  intro n hfu hn0
                  by_cases hn : n < (S.1 3).length
                  · obtain ⟨⟨x, hx5, hx⟩, h6⟩ := hwd n hn
                    rcases h6 with ⟨k, hk, hk2⟩ | ⟨hm1, hf1⟩
                    · skip
                      refine vv_aload_n hC 4 dL_isTextSo_138 rfl rfl (q := 139) rfl ?_
                      refine vv_iload hC 0 dL_isTextSo_139 rfl (q := 141) rfl ?_
                      refine vv_fcnW hC hK hE hxN hAX hA1 (As := [.ref (ad 0), .int (nI n)]) Foc_1 (fun zz => cn_word l hJ hlst AX zz S (nI n)) (vx_cwSW 2 hC.2.2.2.2 gL_isTextSo_L_word rfl rfl rfl hsL_word ⟨Nat.le_of_ble_eq_true rfl, Nat.le_of_ble_eq_true rfl⟩) rfl rfl (Nat.le_of_ble_eq_true rfl) ⟨by show _ ≤ 2735; omega, by show _ ≤ 16410; omega⟩ dL_isTextSo_141 (q := 144) rfl ?_
                      refine vv_val (b := nI x) (by rw [if_pos (show tWord S (nI n) = 0 from tIx_in (by omega) hn)]; exact hx) ?_
                      refine vv_if_lt hC (tgt := 202) dL_isTextSo_144 (by decide) (q := 147) rfl (fun h144 => ?_) (fun h144 => ?_)
                      · skip
                        exact absurd h144 (nI_pos (by omega))
                      · skip
                        refine vv_iload_n hC 1 dL_isTextSo_147 rfl rfl (q := 148) rfl ?_
                        refine vv_aload_n hC 4 dL_isTextSo_148 rfl rfl (q := 149) rfl ?_
                        refine vv_iload hC 0 dL_isTextSo_149 rfl (q := 151) rfl ?_
                        refine vv_fcx hC hK hE hAX hA1 (As := [.int (nI n)]) Foc_1 (fun zz => c8_placeOf l hJ hlst AX zz S (nI n)) (tIx_in (by omega) hn) (cwV 1 hC.2.2.2.2 gL_isTextSo_X8_placeOf rfl rfl rfl hdX8_placeOf ⟨Nat.le_of_ble_eq_true rfl, Nat.le_of_ble_eq_true rfl⟩) rfl rfl (Nat.le_of_ble_eq_true rfl) ⟨by show _ ≤ 2735; omega, by show _ ≤ 16410; omega⟩ dL_isTextSo_151 (q := 154) rfl ?_
                        refine vv_val (b := nI k) hk2 ?_
                        refine vv_if_lt hC (tgt := 161) dL_isTextSo_154 (by decide) (q := 157) rfl (fun h154 => ?_) (fun h154 => ?_)
                        · skip
                          exact absurd h154 (nI_pos (by omega))
                        · skip
                          refine vv_iconst hC (v := nI 1) dL_isTextSo_157 rfl (q := 158) rfl ?_
                          refine vv_goto hC (tgt := 162) dL_isTextSo_158 (by decide) ?_
                          refine vv_iaddN hC dL_isTextSo_162 (q := 163) rfl ?_
                          refine vv_istore_n hC (i := 3) (lv' := [(3, .int (nI ((thrN S n) + 1))), (4, .int (nI n)), (1, .int (nI (sum6 (fun w => cntBy S (nI w)) 6))), (2, .int (nI (sum6 (fun w => 5 * mr w) 6))), (0, .ref (ad 0))]) dL_isTextSo_163 rfl (by decide) rfl (q := 164) rfl ?_
                          refine vv_aload_n hC 4 dL_isTextSo_164 rfl rfl (q := 165) rfl ?_
                          refine vv_iload hC 1 dL_isTextSo_165 rfl (q := 167) rfl ?_
                          refine vv_fcx hC hK hE hAX hA1 (As := [.int (nI n)]) Foc_1 (fun zz => c8_placeOf l hJ hlst AX zz S (nI n)) (tIx_in (by omega) hn) (cwV 1 hC.2.2.2.2 gL_isTextSo_X8_placeOf rfl rfl rfl hdX8_placeOf ⟨Nat.le_of_ble_eq_true rfl, Nat.le_of_ble_eq_true rfl⟩) rfl rfl (Nat.le_of_ble_eq_true rfl) ⟨by show _ ≤ 2735; omega, by show _ ≤ 16410; omega⟩ dL_isTextSo_167 (q := 170) rfl ?_
                          refine vv_val (b := nI k) hk2 ?_
                          refine vv_if_ge hC (tgt := 182) dL_isTextSo_170 (by decide) (q := 173) rfl (fun h170 => ?_) (fun h170 => ?_)
                          · skip
                            refine vv_aload_n hC 4 dL_isTextSo_182 rfl rfl (q := 183) rfl ?_
                            refine vv_iload hC 1 dL_isTextSo_183 rfl (q := 185) rfl ?_
                            refine vv_fcx hC hK hE hAX hA1 (As := [.int (nI n)]) Foc_1 (fun zz => c8_word l hJ hlst AX zz S (nI n)) (tIx_in (by omega) hn) (cwV 1 hC.2.2.2.2 gL_isTextSo_X8_word rfl rfl rfl hdX8_word ⟨Nat.le_of_ble_eq_true rfl, Nat.le_of_ble_eq_true rfl⟩) rfl rfl (Nat.le_of_ble_eq_true rfl) ⟨by show _ ≤ 2735; omega, by show _ ≤ 16410; omega⟩ dL_isTextSo_185 (q := 188) rfl ?_
                            refine vv_val (b := nI x) hx ?_
                            refine vv_sipush hC (v := nI 5999) dL_isTextSo_188 rfl (q := 191) rfl ?_
                            refine vv_icmpN_le hC (tgt := 196) (by omega) (by omega) dL_isTextSo_191 (by decide) (q := 194) rfl (fun h191 => ?_) (fun h191 => ?_)
                            · skip
                              refine vv_iinc hC (i := 4) (v := nI (n + 1)) (lv' := [(4, .int (nI (n + 1))), (3, .int (nI ((thrN S n) + 1))), (1, .int (nI (sum6 (fun w => cntBy S (nI w)) 6))), (2, .int (nI (sum6 (fun w => 5 * mr w) 6))), (0, .ref (ad 0))]) 1 dL_isTextSo_196 rfl (by rw [show Int32.ofInt 1 = nI 1 from rfl, nI_add]) (by decide) rfl (q := 199) rfl ?_
                              refine vv_goto hC (tgt := 138) dL_isTextSo_199 (by decide) ?_
                              have ht : thrN S (n + 1) = thrN S n + 1 := by rw [thrN, if_neg (by rw [hk2]; exact nI_pos (by omega))]
                              have ih2 := ih (n + 1) (by omega) (by omega)
                              rw [ht] at ih2
                              exact vv_widen (by omega) (by omega) (vv_lv [0, 1, 2, 3, 4] rfl (ih2))
                            · skip
                              exact absurd hx5 h191
                          · skip
                            exact absurd (nI_pos' (by omega)) h170
                    · skip
                      refine vv_aload_n hC 4 dL_isTextSo_138 rfl rfl (q := 139) rfl ?_
                      refine vv_iload hC 0 dL_isTextSo_139 rfl (q := 141) rfl ?_
                      refine vv_fcnW hC hK hE hxN hAX hA1 (As := [.ref (ad 0), .int (nI n)]) Foc_1 (fun zz => cn_word l hJ hlst AX zz S (nI n)) (vx_cwSW 2 hC.2.2.2.2 gL_isTextSo_L_word rfl rfl rfl hsL_word ⟨Nat.le_of_ble_eq_true rfl, Nat.le_of_ble_eq_true rfl⟩) rfl rfl (Nat.le_of_ble_eq_true rfl) ⟨by show _ ≤ 2735; omega, by show _ ≤ 16410; omega⟩ dL_isTextSo_141 (q := 144) rfl ?_
                      refine vv_val (b := nI x) (by rw [if_pos (show tWord S (nI n) = 0 from tIx_in (by omega) hn)]; exact hx) ?_
                      refine vv_if_lt hC (tgt := 202) dL_isTextSo_144 (by decide) (q := 147) rfl (fun h144 => ?_) (fun h144 => ?_)
                      · skip
                        exact absurd h144 (nI_pos (by omega))
                      · skip
                        refine vv_iload_n hC 1 dL_isTextSo_147 rfl rfl (q := 148) rfl ?_
                        refine vv_aload_n hC 4 dL_isTextSo_148 rfl rfl (q := 149) rfl ?_
                        refine vv_iload hC 0 dL_isTextSo_149 rfl (q := 151) rfl ?_
                        refine vv_fcx hC hK hE hAX hA1 (As := [.int (nI n)]) Foc_1 (fun zz => c8_placeOf l hJ hlst AX zz S (nI n)) (tIx_in (by omega) hn) (cwV 1 hC.2.2.2.2 gL_isTextSo_X8_placeOf rfl rfl rfl hdX8_placeOf ⟨Nat.le_of_ble_eq_true rfl, Nat.le_of_ble_eq_true rfl⟩) rfl rfl (Nat.le_of_ble_eq_true rfl) ⟨by show _ ≤ 2735; omega, by show _ ≤ 16410; omega⟩ dL_isTextSo_151 (q := 154) rfl ?_
                        refine vv_val (b := (-1)) hm1 ?_
                        refine vv_if_lt hC (tgt := 161) dL_isTextSo_154 (by decide) (q := 157) rfl (fun h154 => ?_) (fun h154 => ?_)
                        · skip
                          refine vv_iconst hC (v := nI 0) dL_isTextSo_161 rfl (q := 162) rfl ?_
                          refine vv_iaddN hC dL_isTextSo_162 (q := 163) rfl ?_
                          refine vv_istore_n hC (i := 3) (lv' := [(3, .int (nI ((thrN S n) + 0))), (4, .int (nI n)), (1, .int (nI (sum6 (fun w => cntBy S (nI w)) 6))), (2, .int (nI (sum6 (fun w => 5 * mr w) 6))), (0, .ref (ad 0))]) dL_isTextSo_163 rfl (by decide) rfl (q := 164) rfl ?_
                          refine vv_aload_n hC 4 dL_isTextSo_164 rfl rfl (q := 165) rfl ?_
                          refine vv_iload hC 1 dL_isTextSo_165 rfl (q := 167) rfl ?_
                          refine vv_fcx hC hK hE hAX hA1 (As := [.int (nI n)]) Foc_1 (fun zz => c8_placeOf l hJ hlst AX zz S (nI n)) (tIx_in (by omega) hn) (cwV 1 hC.2.2.2.2 gL_isTextSo_X8_placeOf rfl rfl rfl hdX8_placeOf ⟨Nat.le_of_ble_eq_true rfl, Nat.le_of_ble_eq_true rfl⟩) rfl rfl (Nat.le_of_ble_eq_true rfl) ⟨by show _ ≤ 2735; omega, by show _ ≤ 16410; omega⟩ dL_isTextSo_167 (q := 170) rfl ?_
                          refine vv_val (b := (-1)) hm1 ?_
                          refine vv_if_ge hC (tgt := 182) dL_isTextSo_170 (by decide) (q := 173) rfl (fun h170 => ?_) (fun h170 => ?_)
                          · skip
                            exact absurd h170 (by decide)
                          · skip
                            refine vv_aload_n hC 4 dL_isTextSo_173 rfl rfl (q := 174) rfl ?_
                            refine vv_iload hC 1 dL_isTextSo_174 rfl (q := 176) rfl ?_
                            refine vv_fcx hC hK hE hAX hA1 (As := [.int (nI n)]) Foc_1 (fun zz => c8_frozenBy l hJ hlst AX zz S (nI n)) (tIx_in (by omega) hn) (cwV 1 hC.2.2.2.2 gL_isTextSo_X8_frozenBy rfl rfl rfl hdX8_frozenBy ⟨Nat.le_of_ble_eq_true rfl, Nat.le_of_ble_eq_true rfl⟩) rfl rfl (Nat.le_of_ble_eq_true rfl) ⟨by show _ ≤ 2735; omega, by show _ ≤ 16410; omega⟩ dL_isTextSo_176 (q := 179) rfl ?_
                            refine vv_val (b := (-1)) hf1 ?_
                            refine vv_if_ge hC (tgt := 194) dL_isTextSo_179 (by decide) (q := 182) rfl (fun h179 => ?_) (fun h179 => ?_)
                            · skip
                              exact absurd h179 (by decide)
                            · skip
                              refine vv_aload_n hC 4 dL_isTextSo_182 rfl rfl (q := 183) rfl ?_
                              refine vv_iload hC 1 dL_isTextSo_183 rfl (q := 185) rfl ?_
                              refine vv_fcx hC hK hE hAX hA1 (As := [.int (nI n)]) Foc_1 (fun zz => c8_word l hJ hlst AX zz S (nI n)) (tIx_in (by omega) hn) (cwV 1 hC.2.2.2.2 gL_isTextSo_X8_word rfl rfl rfl hdX8_word ⟨Nat.le_of_ble_eq_true rfl, Nat.le_of_ble_eq_true rfl⟩) rfl rfl (Nat.le_of_ble_eq_true rfl) ⟨by show _ ≤ 2735; omega, by show _ ≤ 16410; omega⟩ dL_isTextSo_185 (q := 188) rfl ?_
                              refine vv_val (b := nI x) hx ?_
                              refine vv_sipush hC (v := nI 5999) dL_isTextSo_188 rfl (q := 191) rfl ?_
                              refine vv_icmpN_le hC (tgt := 196) (by omega) (by omega) dL_isTextSo_191 (by decide) (q := 194) rfl (fun h191 => ?_) (fun h191 => ?_)
                              · skip
                                refine vv_iinc hC (i := 4) (v := nI (n + 1)) (lv' := [(4, .int (nI (n + 1))), (3, .int (nI ((thrN S n) + 0))), (1, .int (nI (sum6 (fun w => cntBy S (nI w)) 6))), (2, .int (nI (sum6 (fun w => 5 * mr w) 6))), (0, .ref (ad 0))]) 1 dL_isTextSo_196 rfl (by rw [show Int32.ofInt 1 = nI 1 from rfl, nI_add]) (by decide) rfl (q := 199) rfl ?_
                                refine vv_goto hC (tgt := 138) dL_isTextSo_199 (by decide) ?_
                                have ht : thrN S (n + 1) = thrN S n + 0 := by rw [thrN, if_pos (by rw [hm1]; decide)]
                                have ih2 := ih (n + 1) (by omega) (by omega)
                                rw [ht] at ih2
                                exact vv_widen (by omega) (by omega) (vv_lv [0, 1, 2, 3, 4] rfl (ih2))
                              · skip
                                exact absurd hx5 h191
                        · skip
                          exact absurd (by decide) h154
                  · obtain rfl : n = (S.1 3).length := by omega
                    refine vv_aload_n hC 4 dL_isTextSo_138 rfl rfl (q := 139) rfl ?_
                    refine vv_iload hC 0 dL_isTextSo_139 rfl (q := 141) rfl ?_
                    refine vv_fcnW hC hK hE hxN hAX hA1 (As := [.ref (ad 0), .int (nI (S.1 3).length)]) Foc_1 (fun zz => cn_word l hJ hlst AX zz S (nI (S.1 3).length)) (vx_cwSW 2 hC.2.2.2.2 gL_isTextSo_L_word rfl rfl rfl hsL_word ⟨Nat.le_of_ble_eq_true rfl, Nat.le_of_ble_eq_true rfl⟩) rfl rfl (Nat.le_of_ble_eq_true rfl) ⟨by show _ ≤ 2735; omega, by show _ ≤ 16410; omega⟩ dL_isTextSo_141 (q := 144) rfl ?_
                    refine vv_val (b := (-1)) (by rw [if_neg (show ¬ tWord S (nI (S.1 3).length) = 0 from tIx_out (by omega) (Nat.le_refl _) (by omega))]) ?_
                    refine vv_if_lt hC (tgt := 202) dL_isTextSo_144 (by decide) (q := 147) rfl (fun h144 => ?_) (fun h144 => ?_)
                    · skip
                      refine vv_iload_n hC 2 dL_isTextSo_202 rfl rfl (q := 203) rfl ?_
                      refine vv_aload_n hC 4 dL_isTextSo_203 rfl rfl (q := 204) rfl ?_
                      refine vv_fcm hC hK (fun _ h => Or.inl h) (As := []) Foc_1 (c8_length l hJ S) (cwV 0 hC.2.2.2.2 gL_isTextSo_X8_length rfl rfl rfl hdX8_length ⟨Nat.le_of_ble_eq_true rfl, Nat.le_of_ble_eq_true rfl⟩) rfl rfl (Nat.le_of_ble_eq_true rfl) ⟨by show _ ≤ 2735; omega, by show _ ≤ 16410; omega⟩ dL_isTextSo_204 (q := 207) rfl ?_
                      refine vv_icmp_ne hC (tgt := 229) dL_isTextSo_207 (by decide) (q := 210) rfl (fun h207 => ?_) (fun h207 => ?_)
                      · skip
                        exact absurd (by rw [hsum]) h207
                      · skip
                        refine vv_iload_n hC 1 dL_isTextSo_210 rfl rfl (q := 211) rfl ?_
                        refine vv_iload_n hC 2 dL_isTextSo_211 rfl rfl (q := 212) rfl ?_
                        refine vv_icmp_ne hC (tgt := 229) dL_isTextSo_212 (by decide) (q := 215) rfl (fun h212 => ?_) (fun h212 => ?_)
                        · skip
                          exact absurd (by rw [hthr, hsum]) h212
                        · skip
                          refine vv_iload_n hC 3 dL_isTextSo_215 rfl rfl (q := 216) rfl ?_
                          refine vv_if_lt hC (tgt := 229) dL_isTextSo_216 (by decide) (q := 219) rfl (fun h216 => ?_) (fun h216 => ?_)
                          · skip
                            exact absurd h216 (nI_pos (by omega))
                          · skip
                            refine vv_iload_n hC 3 dL_isTextSo_219 rfl rfl (q := 220) rfl ?_
                            refine vv_iconst hC (v := 5) dL_isTextSo_220 rfl (q := 221) rfl ?_
                            refine vv_irem hC dL_isTextSo_221 (by decide) (q := 222) rfl ?_
                            refine vv_if_ne hC (tgt := 229) dL_isTextSo_222 (by decide) (q := 225) rfl (fun h222 => ?_) (fun h222 => ?_)
                            · skip
                              exact absurd hrem h222
                            · skip
                              refine vv_iconst hC (v := 1) dL_isTextSo_225 rfl (q := 226) rfl ?_
                              refine vv_goto hC (tgt := 230) dL_isTextSo_226 (by decide) ?_
                              exact vv_lzret hC hK hr hlk rfl rfl (by omega) (fun f hf => hf) dL_isTextSo_230
                    · skip
                      exact absurd (by decide) h144
              exact vv_widen (by omega) (by omega) (vv_lv [0, 1, 2, 3, 4] rfl (loop138 ((S.1 3).length + 1) 0 (by omega) (by omega)))
            · skip
              have hn : i < (S.1 17).length := by omega
              obtain ⟨nn, f1, f2, f3, f5⟩ := htx i hn
              refine vv_aload_n hC 3 dL_isTextSo_67 rfl rfl (q := 68) rfl ?_
              refine vv_iload_n hC 0 dL_isTextSo_68 rfl rfl (q := 69) rfl ?_
              refine vv_fcx hC hK hE hAX hA1 (As := [.int (nI i)]) Foc_1 (fun zz => c8_wordAt l hJ hlst AX zz S (nI i)) (tIx_in (by omega) hn) (cwV 1 hC.2.2.2.2 gL_isTextSo_X8_wordAt rfl rfl rfl hdX8_wordAt ⟨Nat.le_of_ble_eq_true rfl, Nat.le_of_ble_eq_true rfl⟩) rfl rfl (Nat.le_of_ble_eq_true rfl) ⟨by show _ ≤ 2735; omega, by show _ ≤ 16410; omega⟩ dL_isTextSo_69 (q := 72) rfl ?_
              refine vv_val (b := nI nn) f2 ?_
              refine vv_istore hC (i := 4) (lv' := [(4, .int (nI nn)), (3, .int (nI i)), (1, .int (nI (sum6 (fun w => cntBy S (nI w)) 6))), (2, .int (nI (sum6 (fun w => 5 * mr w) 6))), (0, .ref (ad 0))]) dL_isTextSo_72 (by decide) rfl (q := 74) rfl ?_
              refine vv_aload_n hC 4 dL_isTextSo_74 rfl rfl (q := 75) rfl ?_
              refine vv_iload hC 0 dL_isTextSo_75 rfl (q := 77) rfl ?_
              refine vv_fcx hC hK hE hAX hA1 (As := [.int (nI nn)]) Foc_1 (fun zz => c8_frozenBy l hJ hlst AX zz S (nI nn)) (tIx_in (by omega) f1) (cwV 1 hC.2.2.2.2 gL_isTextSo_X8_frozenBy rfl rfl rfl hdX8_frozenBy ⟨Nat.le_of_ble_eq_true rfl, Nat.le_of_ble_eq_true rfl⟩) rfl rfl (Nat.le_of_ble_eq_true rfl) ⟨by show _ ≤ 2735; omega, by show _ ≤ 16410; omega⟩ dL_isTextSo_77 (q := 80) rfl ?_
              rcases f5 with f5 | ⟨r, f4, f5, f6⟩
              · skip
                refine vv_val (b := (-1)) f5 ?_
                refine vv_istore hC (i := 5) (lv' := [(5, .int (-1)), (4, .int (nI nn)), (3, .int (nI i)), (1, .int (nI (sum6 (fun w => cntBy S (nI w)) 6))), (2, .int (nI (sum6 (fun w => 5 * mr w) 6))), (0, .ref (ad 0))]) dL_isTextSo_80 (by decide) rfl (q := 82) rfl ?_
                refine vv_iload hC 0 dL_isTextSo_82 rfl (q := 84) rfl ?_
                refine vv_if_ge hC (tgt := 91) dL_isTextSo_84 (by decide) (q := 87) rfl (fun h84 => ?_) (fun h84 => ?_)
                · skip
                  exact absurd h84 (by decide)
                · skip
                  refine vv_iconst hC (v := 0) dL_isTextSo_87 rfl (q := 88) rfl ?_
                  refine vv_goto hC (tgt := 97) dL_isTextSo_88 (by decide) ?_
                  refine vv_istore hC (i := 6) (lv' := [(6, .int 0), (5, .int (-1)), (4, .int (nI nn)), (3, .int (nI i)), (1, .int (nI (sum6 (fun w => cntBy S (nI w)) 6))), (2, .int (nI (sum6 (fun w => 5 * mr w) 6))), (0, .ref (ad 0))]) dL_isTextSo_97 (by decide) rfl (q := 99) rfl ?_
                  refine vv_aload_n hC 6 dL_isTextSo_99 rfl rfl (q := 100) rfl ?_
                  refine vv_iload hC 2 dL_isTextSo_100 rfl (q := 102) rfl ?_
                  refine vv_fcx hC hK hE hAX hA1 (As := [.int (nI nn)]) Foc_1 (fun zz => c8_placeOf l hJ hlst AX zz S (nI nn)) (tIx_in (by omega) f1) (cwV 1 hC.2.2.2.2 gL_isTextSo_X8_placeOf rfl rfl rfl hdX8_placeOf ⟨Nat.le_of_ble_eq_true rfl, Nat.le_of_ble_eq_true rfl⟩) rfl rfl (Nat.le_of_ble_eq_true rfl) ⟨by show _ ≤ 2735; omega, by show _ ≤ 16410; omega⟩ dL_isTextSo_102 (q := 105) rfl ?_
                  refine vv_val (b := nI i) f3 ?_
                  refine vv_iload_n hC 3 dL_isTextSo_105 rfl rfl (q := 106) rfl ?_
                  refine vv_icmp_ne hC (tgt := 125) dL_isTextSo_106 (by decide) (q := 109) rfl (fun h106 => ?_) (fun h106 => ?_)
                  · skip
                    exact absurd rfl h106
                  · skip
                    refine vv_iload hC 1 dL_isTextSo_109 rfl (q := 111) rfl ?_
                    refine vv_if_lt hC (tgt := 127) dL_isTextSo_111 (by decide) (q := 114) rfl (fun h111 => ?_) (fun h111 => ?_)
                    · skip
                      refine vv_iinc hC (i := 3) (v := nI (i + 1)) (lv' := [(3, .int (nI (i + 1))), (6, .int 0), (5, .int (-1)), (4, .int (nI nn)), (1, .int (nI (sum6 (fun w => cntBy S (nI w)) 6))), (2, .int (nI (sum6 (fun w => 5 * mr w) 6))), (0, .ref (ad 0))]) 3 dL_isTextSo_127 rfl (by rw [show Int32.ofInt 1 = nI 1 from rfl, nI_add]) (by decide) rfl (q := 130) rfl ?_
                      refine vv_goto hC (tgt := 59) dL_isTextSo_130 (by decide) ?_
                      exact vv_widen (by omega) (by omega) (vv_lv [0, 4, 5, 6] rfl (ih (i + 1) (by omega) (by omega)))
                    · skip
                      exact absurd (by decide) h111
              · rcases f6 with f6 | f6
                · skip
                  refine vv_val (b := nI r) f5 ?_
                  refine vv_istore hC (i := 5) (lv' := [(5, .int (nI r)), (4, .int (nI nn)), (3, .int (nI i)), (1, .int (nI (sum6 (fun w => cntBy S (nI w)) 6))), (2, .int (nI (sum6 (fun w => 5 * mr w) 6))), (0, .ref (ad 0))]) dL_isTextSo_80 (by decide) rfl (q := 82) rfl ?_
                  refine vv_iload hC 0 dL_isTextSo_82 rfl (q := 84) rfl ?_
                  refine vv_if_ge hC (tgt := 91) dL_isTextSo_84 (by decide) (q := 87) rfl (fun h84 => ?_) (fun h84 => ?_)
                  · skip
                    refine vv_aload_n hC 5 dL_isTextSo_91 rfl rfl (q := 92) rfl ?_
                    refine vv_iload hC 0 dL_isTextSo_92 rfl (q := 94) rfl ?_
                    refine vv_fcx hC hK hE hAX hA1 (As := [.int (nI r)]) Foc_1 (fun zz => c8_stateOf l hJ hlst AX zz S (nI r)) (tIx_in (by omega) f4) (cwV 1 hC.2.2.2.2 gL_isTextSo_X8_stateOf rfl rfl rfl hdX8_stateOf ⟨Nat.le_of_ble_eq_true rfl, Nat.le_of_ble_eq_true rfl⟩) rfl rfl (Nat.le_of_ble_eq_true rfl) ⟨by show _ ≤ 2735; omega, by show _ ≤ 16410; omega⟩ dL_isTextSo_94 (q := 97) rfl ?_
                    refine vv_val (b := 0) f6 ?_
                    refine vv_istore hC (i := 6) (lv' := [(6, .int 0), (5, .int (nI r)), (4, .int (nI nn)), (3, .int (nI i)), (1, .int (nI (sum6 (fun w => cntBy S (nI w)) 6))), (2, .int (nI (sum6 (fun w => 5 * mr w) 6))), (0, .ref (ad 0))]) dL_isTextSo_97 (by decide) rfl (q := 99) rfl ?_
                    refine vv_aload_n hC 6 dL_isTextSo_99 rfl rfl (q := 100) rfl ?_
                    refine vv_iload hC 2 dL_isTextSo_100 rfl (q := 102) rfl ?_
                    refine vv_fcx hC hK hE hAX hA1 (As := [.int (nI nn)]) Foc_1 (fun zz => c8_placeOf l hJ hlst AX zz S (nI nn)) (tIx_in (by omega) f1) (cwV 1 hC.2.2.2.2 gL_isTextSo_X8_placeOf rfl rfl rfl hdX8_placeOf ⟨Nat.le_of_ble_eq_true rfl, Nat.le_of_ble_eq_true rfl⟩) rfl rfl (Nat.le_of_ble_eq_true rfl) ⟨by show _ ≤ 2735; omega, by show _ ≤ 16410; omega⟩ dL_isTextSo_102 (q := 105) rfl ?_
                    refine vv_val (b := nI i) f3 ?_
                    refine vv_iload_n hC 3 dL_isTextSo_105 rfl rfl (q := 106) rfl ?_
                    refine vv_icmp_ne hC (tgt := 125) dL_isTextSo_106 (by decide) (q := 109) rfl (fun h106 => ?_) (fun h106 => ?_)
                    · skip
                      exact absurd rfl h106
                    · skip
                      refine vv_iload hC 1 dL_isTextSo_109 rfl (q := 111) rfl ?_
                      refine vv_if_lt hC (tgt := 127) dL_isTextSo_111 (by decide) (q := 114) rfl (fun h111 => ?_) (fun h111 => ?_)
                      · skip
                        exact absurd h111 (nI_pos (by omega))
                      · skip
                        refine vv_iload hC 0 dL_isTextSo_114 rfl (q := 116) rfl ?_
                        refine vv_if_eq hC (tgt := 127) dL_isTextSo_116 (by decide) (q := 119) rfl (fun h116 => ?_) (fun h116 => ?_)
                        · skip
                          refine vv_iinc hC (i := 3) (v := nI (i + 1)) (lv' := [(3, .int (nI (i + 1))), (6, .int 0), (5, .int (nI r)), (4, .int (nI nn)), (1, .int (nI (sum6 (fun w => cntBy S (nI w)) 6))), (2, .int (nI (sum6 (fun w => 5 * mr w) 6))), (0, .ref (ad 0))]) 3 dL_isTextSo_127 rfl (by rw [show Int32.ofInt 1 = nI 1 from rfl, nI_add]) (by decide) rfl (q := 130) rfl ?_
                          refine vv_goto hC (tgt := 59) dL_isTextSo_130 (by decide) ?_
                          exact vv_widen (by omega) (by omega) (vv_lv [0, 4, 5, 6] rfl (ih (i + 1) (by omega) (by omega)))
                        · skip
                          exact absurd (by decide) h116
                  · skip
                    exact absurd (nI_pos' (by omega)) h84
                · skip
                  refine vv_val (b := nI r) f5 ?_
                  refine vv_istore hC (i := 5) (lv' := [(5, .int (nI r)), (4, .int (nI nn)), (3, .int (nI i)), (1, .int (nI (sum6 (fun w => cntBy S (nI w)) 6))), (2, .int (nI (sum6 (fun w => 5 * mr w) 6))), (0, .ref (ad 0))]) dL_isTextSo_80 (by decide) rfl (q := 82) rfl ?_
                  refine vv_iload hC 0 dL_isTextSo_82 rfl (q := 84) rfl ?_
                  refine vv_if_ge hC (tgt := 91) dL_isTextSo_84 (by decide) (q := 87) rfl (fun h84 => ?_) (fun h84 => ?_)
                  · skip
                    refine vv_aload_n hC 5 dL_isTextSo_91 rfl rfl (q := 92) rfl ?_
                    refine vv_iload hC 0 dL_isTextSo_92 rfl (q := 94) rfl ?_
                    refine vv_fcx hC hK hE hAX hA1 (As := [.int (nI r)]) Foc_1 (fun zz => c8_stateOf l hJ hlst AX zz S (nI r)) (tIx_in (by omega) f4) (cwV 1 hC.2.2.2.2 gL_isTextSo_X8_stateOf rfl rfl rfl hdX8_stateOf ⟨Nat.le_of_ble_eq_true rfl, Nat.le_of_ble_eq_true rfl⟩) rfl rfl (Nat.le_of_ble_eq_true rfl) ⟨by show _ ≤ 2735; omega, by show _ ≤ 16410; omega⟩ dL_isTextSo_94 (q := 97) rfl ?_
                    refine vv_val (b := 1) f6 ?_
                    refine vv_istore hC (i := 6) (lv' := [(6, .int 1), (5, .int (nI r)), (4, .int (nI nn)), (3, .int (nI i)), (1, .int (nI (sum6 (fun w => cntBy S (nI w)) 6))), (2, .int (nI (sum6 (fun w => 5 * mr w) 6))), (0, .ref (ad 0))]) dL_isTextSo_97 (by decide) rfl (q := 99) rfl ?_
                    refine vv_aload_n hC 6 dL_isTextSo_99 rfl rfl (q := 100) rfl ?_
                    refine vv_iload hC 2 dL_isTextSo_100 rfl (q := 102) rfl ?_
                    refine vv_fcx hC hK hE hAX hA1 (As := [.int (nI nn)]) Foc_1 (fun zz => c8_placeOf l hJ hlst AX zz S (nI nn)) (tIx_in (by omega) f1) (cwV 1 hC.2.2.2.2 gL_isTextSo_X8_placeOf rfl rfl rfl hdX8_placeOf ⟨Nat.le_of_ble_eq_true rfl, Nat.le_of_ble_eq_true rfl⟩) rfl rfl (Nat.le_of_ble_eq_true rfl) ⟨by show _ ≤ 2735; omega, by show _ ≤ 16410; omega⟩ dL_isTextSo_102 (q := 105) rfl ?_
                    refine vv_val (b := nI i) f3 ?_
                    refine vv_iload_n hC 3 dL_isTextSo_105 rfl rfl (q := 106) rfl ?_
                    refine vv_icmp_ne hC (tgt := 125) dL_isTextSo_106 (by decide) (q := 109) rfl (fun h106 => ?_) (fun h106 => ?_)
                    · skip
                      exact absurd rfl h106
                    · skip
                      refine vv_iload hC 1 dL_isTextSo_109 rfl (q := 111) rfl ?_
                      refine vv_if_lt hC (tgt := 127) dL_isTextSo_111 (by decide) (q := 114) rfl (fun h111 => ?_) (fun h111 => ?_)
                      · skip
                        exact absurd h111 (nI_pos (by omega))
                      · skip
                        refine vv_iload hC 0 dL_isTextSo_114 rfl (q := 116) rfl ?_
                        refine vv_if_eq hC (tgt := 127) dL_isTextSo_116 (by decide) (q := 119) rfl (fun h116 => ?_) (fun h116 => ?_)
                        · skip
                          exact absurd h116 (by decide)
                        · skip
                          refine vv_iload hC 0 dL_isTextSo_119 rfl (q := 121) rfl ?_
                          refine vv_iconst hC (v := 1) dL_isTextSo_121 rfl (q := 122) rfl ?_
                          refine vv_icmp_eq hC (tgt := 127) dL_isTextSo_122 (by decide) (q := 125) rfl (fun h122 => ?_) (fun h122 => ?_)
                          · skip
                            refine vv_iinc hC (i := 3) (v := nI (i + 1)) (lv' := [(3, .int (nI (i + 1))), (6, .int 1), (5, .int (nI r)), (4, .int (nI nn)), (1, .int (nI (sum6 (fun w => cntBy S (nI w)) 6))), (2, .int (nI (sum6 (fun w => 5 * mr w) 6))), (0, .ref (ad 0))]) 3 dL_isTextSo_127 rfl (by rw [show Int32.ofInt 1 = nI 1 from rfl, nI_add]) (by decide) rfl (q := 130) rfl ?_
                            refine vv_goto hC (tgt := 59) dL_isTextSo_130 (by decide) ?_
                            exact vv_widen (by omega) (by omega) (vv_lv [0, 4, 5, 6] rfl (ih (i + 1) (by omega) (by omega)))
                          · skip
                            exact absurd (by decide) h122
                  · skip
                    exact absurd (nI_pos' (by omega)) h84
        exact vv_widen (by omega) (by omega) (vv_lv [0, 1, 2, 3] rfl (loop59 ((S.1 17).length + 1) 0 (by omega) (by omega)))
      · skip
        have hn : n < 6 := by omega
        refine vv_aload_n hC 3 dL_isTextSo_12 rfl rfl (q := 13) rfl ?_
        refine vv_iload_n hC 2 dL_isTextSo_13 rfl rfl (q := 14) rfl ?_
        refine vv_fcx hC hK hE hAX hA1 (As := [.int (nI n)]) Foc_1 (fun zz => c8_share l hJ hlst AX zz S (nI n)) (tIx_in (N := 6) (by omega) hn) (cwV 1 hC.2.2.2.2 gL_isTextSo_X8_share rfl rfl rfl hdX8_share ⟨Nat.le_of_ble_eq_true rfl, Nat.le_of_ble_eq_true rfl⟩) rfl rfl (Nat.le_of_ble_eq_true rfl) ⟨by show _ ≤ 2735; omega, by show _ ≤ 16410; omega⟩ dL_isTextSo_14 (q := 17) rfl ?_
        refine vv_aload_n hC 3 dL_isTextSo_17 rfl rfl (q := 18) rfl ?_
        refine vv_iload_n hC 2 dL_isTextSo_18 rfl rfl (q := 19) rfl ?_
        refine vv_fcx hC hK hE hAX hA1 (As := [.int (nI n)]) Foc_1 (fun zz => c8_shareAnew l hJ hlst AX zz S (nI n)) (tIx_in (N := 6) (by omega) hn) (cwV 1 hC.2.2.2.2 gL_isTextSo_X8_shareAnew rfl rfl rfl hdX8_shareAnew ⟨Nat.le_of_ble_eq_true rfl, Nat.le_of_ble_eq_true rfl⟩) rfl rfl (Nat.le_of_ble_eq_true rfl) ⟨by show _ ≤ 2735; omega, by show _ ≤ 16410; omega⟩ dL_isTextSo_19 (q := 22) rfl ?_
        refine vv_icmp_ne hC (tgt := 33) dL_isTextSo_22 (by decide) (q := 25) rfl (fun h22 => ?_) (fun h22 => ?_)
        · skip
          exact absurd (hnew n hn).symm h22
        · skip
          refine vv_aload_n hC 3 dL_isTextSo_25 rfl rfl (q := 26) rfl ?_
          refine vv_iload_n hC 2 dL_isTextSo_26 rfl rfl (q := 27) rfl ?_
          refine vv_fcx hC hK hE hAX hA1 (As := [.int (nI n)]) Foc_1 (fun zz => c8_share l hJ hlst AX zz S (nI n)) (tIx_in (N := 6) (by omega) hn) (cwV 1 hC.2.2.2.2 gL_isTextSo_X8_share rfl rfl rfl hdX8_share ⟨Nat.le_of_ble_eq_true rfl, Nat.le_of_ble_eq_true rfl⟩) rfl rfl (Nat.le_of_ble_eq_true rfl) ⟨by show _ ≤ 2735; omega, by show _ ≤ 16410; omega⟩ dL_isTextSo_27 (q := 30) rfl ?_
          refine vv_if_ge hC (tgt := 35) dL_isTextSo_30 (by decide) (q := 33) rfl (fun h30 => ?_) (fun h30 => ?_)
          · skip
            refine vv_iload_n hC 0 dL_isTextSo_35 rfl rfl (q := 36) rfl ?_
            refine vv_aload_n hC 3 dL_isTextSo_36 rfl rfl (q := 37) rfl ?_
            refine vv_iload_n hC 2 dL_isTextSo_37 rfl rfl (q := 38) rfl ?_
            refine vv_fcx hC hK hE hAX hA1 (As := [.int (nI n)]) Foc_1 (fun zz => c8_share l hJ hlst AX zz S (nI n)) (tIx_in (N := 6) (by omega) hn) (cwV 1 hC.2.2.2.2 gL_isTextSo_X8_share rfl rfl rfl hdX8_share ⟨Nat.le_of_ble_eq_true rfl, Nat.le_of_ble_eq_true rfl⟩) rfl rfl (Nat.le_of_ble_eq_true rfl) ⟨by show _ ≤ 2735; omega, by show _ ≤ 16410; omega⟩ dL_isTextSo_38 (q := 41) rfl ?_
            refine vv_iaddN hC dL_isTextSo_41 (q := 42) rfl ?_
            refine vv_istore_n hC (i := 1) (lv' := [(1, .int (nI ((sum6 (fun w => cntBy S (nI w)) n) + (cntBy S (nI n))))), (2, .int (nI (sum6 (fun w => 5 * mr w) n))), (3, .int (nI n)), (0, .ref (ad 0))]) dL_isTextSo_42 rfl (by decide) rfl (q := 43) rfl ?_
            refine vv_iload_n hC 1 dL_isTextSo_43 rfl rfl (q := 44) rfl ?_
            refine vv_aload_n hC 3 dL_isTextSo_44 rfl rfl (q := 45) rfl ?_
            refine vv_iload_n hC 2 dL_isTextSo_45 rfl rfl (q := 46) rfl ?_
            refine vv_fcx hC hK hE hAX hA1 (As := [.int (nI n)]) Foc_1 (fun zz => c8_royalties l hJ hlst AX zz S (nI n)) (tIx_in (N := 6) (by omega) hn) (cwV 1 hC.2.2.2.2 gL_isTextSo_X8_royalties rfl rfl rfl hdX8_royalties ⟨Nat.le_of_ble_eq_true rfl, Nat.le_of_ble_eq_true rfl⟩) rfl rfl (Nat.le_of_ble_eq_true rfl) ⟨by show _ ≤ 2735; omega, by show _ ≤ 16410; omega⟩ dL_isTextSo_46 (q := 49) rfl ?_
            refine vv_val (b := nI (5 * mr n)) (hroy n hn) ?_
            refine vv_iaddN hC dL_isTextSo_49 (q := 50) rfl ?_
            refine vv_istore_n hC (i := 2) (lv' := [(2, .int (nI ((sum6 (fun w => 5 * mr w) n) + (5 * mr n)))), (1, .int (nI ((sum6 (fun w => cntBy S (nI w)) n) + (cntBy S (nI n))))), (3, .int (nI n)), (0, .ref (ad 0))]) dL_isTextSo_50 rfl (by decide) rfl (q := 51) rfl ?_
            refine vv_iinc hC (i := 3) (v := nI (n + 1)) (lv' := [(3, .int (nI (n + 1))), (2, .int (nI ((sum6 (fun w => 5 * mr w) n) + (5 * mr n)))), (1, .int (nI ((sum6 (fun w => cntBy S (nI w)) n) + (cntBy S (nI n))))), (0, .ref (ad 0))]) 2 dL_isTextSo_51 rfl (by rw [show Int32.ofInt 1 = nI 1 from rfl, nI_add]) (by decide) rfl (q := 54) rfl ?_
            refine vv_goto hC (tgt := 6) dL_isTextSo_54 (by decide) ?_
            exact vv_widen (by omega) (by omega) (vv_lv [2, 1, 0, 3] rfl (ih (n + 1) (by omega) (by omega)))
          · skip
            exact absurd (nI_pos' (by have := hcnt n; omega)) h30
  exact vv_widen (by omega) (by omega) (vv_lv [2, 1, 0, 3] rfl (loop6 7 0 (by omega) (by omega)))
theorem hsL_areTiedSo : yL_areTiedSo.cls ≠ "java/lang/invoke/MethodHandle" ∧ yL_areTiedSo.cls ≠ "java/lang/invoke/VarHandle" ∧ (parseMethodDescriptor yL_areTiedSo.desc).map (fun d => d.parameters.length) = some 1 := by decide +kernel
set_option maxRecDepth 100000 in
set_option maxHeartbeats 8000000 in
theorem cn_areTiedSo (l : Launch) {D : va_G} {cI cW cZ cL : ClassId} {ad : Nat → Nat} (hJ : injA ad 90) (hlst : l.stackTraces = false) (AX : Nat → Prop) (z : Nat) (S : sC) (hF : FD S) : kN l yL_areTiedSo wsL_areTiedSo ({ frames := 9, cells := 240, slots := 1440, locals := 156 }) D cI cW cZ cL ad AX z [.ref (ad 0)] S 1 S 240 1440 := by
  refine vv_enterN (cc := cL_areTiedSo) (maxL := 4) (ret := some .boolean) (own := RL) (lv := [(0, .ref (ad 0))]) (by decide +kernel) rfl rfl hJ (Nat.le_of_ble_eq_true rfl) rfl ?_
  intro p e s m args below meth c hC hK hW hr hlk hsz hAX hE hxN
  have hA1 : ∀ zz, s.heap.size ≤ zz → ∀ q, RAs ad 90 zz q → RAs ad 90 z q := fun zz h9 => RAs.mono (by rw [← hsz]; exact h9)
  refine vv_pure (fun H hB => wq_len hB) (fun hwf => ?_)
  obtain ⟨hl3, hl17, hl62, hl72, hl86⟩ := wf_l hwf
  obtain ⟨hsp, hwt, hst, hdn⟩ := hF
  have hdl := dnN_le S
  refine vv_iconst hC (v := nI 0) dL_areTiedSo_0 rfl (q := 1) rfl ?_
  refine vv_istore_n hC (i := 1) (lv' := [(1, .int (nI 0)), (0, .ref (ad 0))]) dL_areTiedSo_1 rfl (by decide) rfl (q := 2) rfl ?_
  have loop2 : ∀ (fu : Nat) (n : Nat), (S.1 86).length < n + fu → n ≤ (S.1 86).length → vv p l e (headSpec wsL_areTiedSo ({ frames := 9, cells := 240, slots := 1440, locals := 156 })).room s m args below meth c 4 (RAs ad 90 z) s.heap (2 * n) (12 * n) (MQ below (va_Qi (fun r' (_ : Unit) => r' = 1) (fun _ => ws0 D vwCl (tyL cI cW cZ cL) ad 90 (PC cI cW ad S)) (RAs ad 90 z)) args s 240 1440 (RAs ad 90 z)) (wq D vwCl ad 90 (PC cI cW ad S)) 2 [(1, .int (nI n)), (0, .ref (ad 0))] [] := by
    intro fu
    induction fu with
    | zero =>
      intro n hfu hn0
      exact absurd hfu (by omega)
    | succ fu ih =>
      intro n hfu hn0
      by_cases hn : n < (S.1 86).length
      · rcases hsp n hn with f1 | ⟨a, b, f1, f2, f3, f4⟩
        · skip
          refine vv_aload_n hC 1 dL_areTiedSo_2 rfl rfl (q := 3) rfl ?_
          refine vv_iload_n hC 0 dL_areTiedSo_3 rfl rfl (q := 4) rfl ?_
          refine vv_fcnW hC hK hE hxN hAX hA1 (As := [.ref (ad 0), .int (nI n)]) Foc_1 (fun zz => cn_span l hJ hlst AX zz S (nI n)) (vx_cwSW 2 hC.2.2.2.2 gL_areTiedSo_L_span rfl rfl rfl hsL_span ⟨Nat.le_of_ble_eq_true rfl, Nat.le_of_ble_eq_true rfl⟩) rfl rfl (Nat.le_of_ble_eq_true rfl) ⟨by show _ ≤ 240; omega, by show _ ≤ 1440; omega⟩ dL_areTiedSo_4 (q := 7) rfl ?_
          refine vv_val (b := (-1)) (by rw [if_pos (tIx_in (by omega) hn)]; exact f1) ?_
          refine vv_bipush hC (v := (-2)) dL_areTiedSo_7 rfl (q := 9) rfl ?_
          refine vv_icmp_le hC (tgt := 67) dL_areTiedSo_9 (by decide) (q := 12) rfl (fun h9 => ?_) (fun h9 => ?_)
          · skip
            exact absurd h9 (by decide)
          · skip
            refine vv_aload_n hC 1 dL_areTiedSo_12 rfl rfl (q := 13) rfl ?_
            refine vv_iload_n hC 0 dL_areTiedSo_13 rfl rfl (q := 14) rfl ?_
            refine vv_fcx hC hK hE hAX hA1 (As := [.int (nI n)]) Foc_1 (fun zz => c8_span l hJ hlst AX zz S (nI n)) (tIx_in (by omega) hn) (cwV 1 hC.2.2.2.2 gL_areTiedSo_X8_span rfl rfl rfl hdX8_span ⟨Nat.le_of_ble_eq_true rfl, Nat.le_of_ble_eq_true rfl⟩) rfl rfl (Nat.le_of_ble_eq_true rfl) ⟨by show _ ≤ 240; omega, by show _ ≤ 1440; omega⟩ dL_areTiedSo_14 (q := 17) rfl ?_
            refine vv_val (b := (-1)) f1 ?_
            refine vv_istore_n hC (i := 2) (lv' := [(2, .int (-1)), (1, .int (nI n)), (0, .ref (ad 0))]) dL_areTiedSo_17 rfl (by decide) rfl (q := 18) rfl ?_
            refine vv_iload_n hC 0 dL_areTiedSo_18 rfl rfl (q := 19) rfl ?_
            refine vv_iconst hC (v := (-1)) dL_areTiedSo_19 rfl (q := 20) rfl ?_
            refine vv_icmp_eq hC (tgt := 49) dL_areTiedSo_20 (by decide) (q := 23) rfl (fun h20 => ?_) (fun h20 => ?_)
            · skip
              refine vv_iconst hC (v := 1) dL_areTiedSo_49 rfl (q := 50) rfl ?_
              refine vv_goto hC (tgt := 54) dL_areTiedSo_50 (by decide) ?_
              refine vv_istore_n hC (i := 3) (lv' := [(3, .int 1), (2, .int (-1)), (1, .int (nI n)), (0, .ref (ad 0))]) dL_areTiedSo_54 rfl (by decide) rfl (q := 55) rfl ?_
              refine vv_iload_n hC 0 dL_areTiedSo_55 rfl rfl (q := 56) rfl ?_
              refine vv_if_ne hC (tgt := 61) dL_areTiedSo_56 (by decide) (q := 59) rfl (fun h56 => ?_) (fun h56 => ?_)
              · skip
                refine vv_iinc hC (i := 1) (v := nI (n + 1)) (lv' := [(1, .int (nI (n + 1))), (3, .int 1), (2, .int (-1)), (0, .ref (ad 0))]) 2 dL_areTiedSo_61 rfl (by rw [show Int32.ofInt 1 = nI 1 from rfl, nI_add]) (by decide) rfl (q := 64) rfl ?_
                refine vv_goto hC (tgt := 2) dL_areTiedSo_64 (by decide) ?_
                exact vv_widen (by omega) (by omega) (vv_lv [0, 3] rfl (ih (n + 1) (by omega) (by omega)))
              · skip
                exact absurd h56 (by decide)
            · skip
              exact absurd (by decide) h20
        · skip
          refine vv_aload_n hC 1 dL_areTiedSo_2 rfl rfl (q := 3) rfl ?_
          refine vv_iload_n hC 0 dL_areTiedSo_3 rfl rfl (q := 4) rfl ?_
          refine vv_fcnW hC hK hE hxN hAX hA1 (As := [.ref (ad 0), .int (nI n)]) Foc_1 (fun zz => cn_span l hJ hlst AX zz S (nI n)) (vx_cwSW 2 hC.2.2.2.2 gL_areTiedSo_L_span rfl rfl rfl hsL_span ⟨Nat.le_of_ble_eq_true rfl, Nat.le_of_ble_eq_true rfl⟩) rfl rfl (Nat.le_of_ble_eq_true rfl) ⟨by show _ ≤ 240; omega, by show _ ≤ 1440; omega⟩ dL_areTiedSo_4 (q := 7) rfl ?_
          refine vv_val (b := nI (1000 * a + b)) (by rw [if_pos (tIx_in (by omega) hn)]; exact f1) ?_
          refine vv_bipush hC (v := (-2)) dL_areTiedSo_7 rfl (q := 9) rfl ?_
          refine vv_icmp_le hC (tgt := 67) dL_areTiedSo_9 (by decide) (q := 12) rfl (fun h9 => ?_) (fun h9 => ?_)
          · skip
            exact absurd (Int32.le_trans (nI_pos' (by omega)) h9) (by decide)
          · skip
            refine vv_aload_n hC 1 dL_areTiedSo_12 rfl rfl (q := 13) rfl ?_
            refine vv_iload_n hC 0 dL_areTiedSo_13 rfl rfl (q := 14) rfl ?_
            refine vv_fcx hC hK hE hAX hA1 (As := [.int (nI n)]) Foc_1 (fun zz => c8_span l hJ hlst AX zz S (nI n)) (tIx_in (by omega) hn) (cwV 1 hC.2.2.2.2 gL_areTiedSo_X8_span rfl rfl rfl hdX8_span ⟨Nat.le_of_ble_eq_true rfl, Nat.le_of_ble_eq_true rfl⟩) rfl rfl (Nat.le_of_ble_eq_true rfl) ⟨by show _ ≤ 240; omega, by show _ ≤ 1440; omega⟩ dL_areTiedSo_14 (q := 17) rfl ?_
            refine vv_val (b := nI (1000 * a + b)) f1 ?_
            refine vv_istore_n hC (i := 2) (lv' := [(2, .int (nI (1000 * a + b))), (1, .int (nI n)), (0, .ref (ad 0))]) dL_areTiedSo_17 rfl (by decide) rfl (q := 18) rfl ?_
            refine vv_iload_n hC 0 dL_areTiedSo_18 rfl rfl (q := 19) rfl ?_
            refine vv_iconst hC (v := (-1)) dL_areTiedSo_19 rfl (q := 20) rfl ?_
            refine vv_icmp_eq hC (tgt := 49) dL_areTiedSo_20 (by decide) (q := 23) rfl (fun h20 => ?_) (fun h20 => ?_)
            · skip
              exact absurd h20 (nI_m1ne (by omega))
            · skip
              refine vv_iload_n hC 0 dL_areTiedSo_23 rfl rfl (q := 24) rfl ?_
              refine vv_sipush hC (v := nI 1000) dL_areTiedSo_24 rfl (q := 27) rfl ?_
              refine vv_irem hC dL_areTiedSo_27 (by decide) (q := 28) rfl ?_
              refine vv_val (b := nI b) (by rw [pk_rem (by omega) (by omega) (by omega), show (1000 * a + b) % 1000 = b by omega]) ?_
              refine vv_if_le hC (tgt := 53) dL_areTiedSo_28 (by decide) (q := 31) rfl (fun h28 => ?_) (fun h28 => ?_)
              · skip
                exact absurd ((nI_leI (b := 0) (by omega) (by omega)).mp h28) (by omega)
              · skip
                refine vv_iload_n hC 0 dL_areTiedSo_31 rfl rfl (q := 32) rfl ?_
                refine vv_sipush hC (v := nI 1000) dL_areTiedSo_32 rfl (q := 35) rfl ?_
                refine vv_idiv hC dL_areTiedSo_35 (by decide) (q := 36) rfl ?_
                refine vv_val (b := nI a) (by rw [pk_div (by omega) (by omega) (by omega), show (1000 * a + b) / 1000 = a by omega]) ?_
                refine vv_iload_n hC 0 dL_areTiedSo_36 rfl rfl (q := 37) rfl ?_
                refine vv_sipush hC (v := nI 1000) dL_areTiedSo_37 rfl (q := 40) rfl ?_
                refine vv_irem hC dL_areTiedSo_40 (by decide) (q := 41) rfl ?_
                refine vv_val (b := nI b) (by rw [pk_rem (by omega) (by omega) (by omega), show (1000 * a + b) % 1000 = b by omega]) ?_
                refine vv_iaddN hC dL_areTiedSo_41 (q := 42) rfl ?_
                refine vv_aload_n hC 2 dL_areTiedSo_42 rfl rfl (q := 43) rfl ?_
                refine vv_fcm hC hK (fun _ h => Or.inl h) (As := []) Foc_1 (c8_length l hJ S) (cwV 0 hC.2.2.2.2 gL_areTiedSo_X8_length rfl rfl rfl hdX8_length ⟨Nat.le_of_ble_eq_true rfl, Nat.le_of_ble_eq_true rfl⟩) rfl rfl (Nat.le_of_ble_eq_true rfl) ⟨by show _ ≤ 240; omega, by show _ ≤ 1440; omega⟩ dL_areTiedSo_43 (q := 46) rfl ?_
                refine vv_icmpN_gt hC (tgt := 53) (by omega) (by omega) dL_areTiedSo_46 (by decide) (q := 49) rfl (fun h46 => ?_) (fun h46 => ?_)
                · skip
                  exact absurd h46 (by omega)
                · skip
                  refine vv_iconst hC (v := 1) dL_areTiedSo_49 rfl (q := 50) rfl ?_
                  refine vv_goto hC (tgt := 54) dL_areTiedSo_50 (by decide) ?_
                  refine vv_istore_n hC (i := 3) (lv' := [(3, .int 1), (2, .int (nI (1000 * a + b))), (1, .int (nI n)), (0, .ref (ad 0))]) dL_areTiedSo_54 rfl (by decide) rfl (q := 55) rfl ?_
                  refine vv_iload_n hC 0 dL_areTiedSo_55 rfl rfl (q := 56) rfl ?_
                  refine vv_if_ne hC (tgt := 61) dL_areTiedSo_56 (by decide) (q := 59) rfl (fun h56 => ?_) (fun h56 => ?_)
                  · skip
                    refine vv_iinc hC (i := 1) (v := nI (n + 1)) (lv' := [(1, .int (nI (n + 1))), (3, .int 1), (2, .int (nI (1000 * a + b))), (0, .ref (ad 0))]) 2 dL_areTiedSo_61 rfl (by rw [show Int32.ofInt 1 = nI 1 from rfl, nI_add]) (by decide) rfl (q := 64) rfl ?_
                    refine vv_goto hC (tgt := 2) dL_areTiedSo_64 (by decide) ?_
                    exact vv_widen (by omega) (by omega) (vv_lv [0, 3] rfl (ih (n + 1) (by omega) (by omega)))
                  · skip
                    exact absurd h56 (by decide)
      · obtain rfl : n = (S.1 86).length := by omega
        refine vv_aload_n hC 1 dL_areTiedSo_2 rfl rfl (q := 3) rfl ?_
        refine vv_iload_n hC 0 dL_areTiedSo_3 rfl rfl (q := 4) rfl ?_
        refine vv_fcnW hC hK hE hxN hAX hA1 (As := [.ref (ad 0), .int (nI (S.1 86).length)]) Foc_1 (fun zz => cn_span l hJ hlst AX zz S (nI (S.1 86).length)) (vx_cwSW 2 hC.2.2.2.2 gL_areTiedSo_L_span rfl rfl rfl hsL_span ⟨Nat.le_of_ble_eq_true rfl, Nat.le_of_ble_eq_true rfl⟩) rfl rfl (Nat.le_of_ble_eq_true rfl) ⟨by show _ ≤ 240; omega, by show _ ≤ 1440; omega⟩ dL_areTiedSo_4 (q := 7) rfl ?_
        refine vv_val (b := (-2)) (by rw [if_neg (tIx_out (by omega) (Nat.le_refl _) (by omega))]) ?_
        refine vv_bipush hC (v := (-2)) dL_areTiedSo_7 rfl (q := 9) rfl ?_
        refine vv_icmp_le hC (tgt := 67) dL_areTiedSo_9 (by decide) (q := 12) rfl (fun h9 => ?_) (fun h9 => ?_)
        · skip
          refine vv_iconst hC (v := nI 0) dL_areTiedSo_67 rfl (q := 68) rfl ?_
          refine vv_istore_n hC (i := 1) (lv' := [(1, .int (nI 0)), (0, .ref (ad 0))]) dL_areTiedSo_68 rfl (by decide) rfl (q := 69) rfl ?_
          refine vv_iconst hC (v := nI 0) dL_areTiedSo_69 rfl (q := 70) rfl ?_
          refine vv_istore_n hC (i := 2) (lv' := [(2, .int (nI 0)), (1, .int (nI 0)), (0, .ref (ad 0))]) dL_areTiedSo_70 rfl (by decide) rfl (q := 71) rfl ?_
          have loop71 : ∀ (fu : Nat) (n : Nat), (S.1 72).length < n + fu → n ≤ (S.1 72).length → vv p l e (headSpec wsL_areTiedSo ({ frames := 9, cells := 240, slots := 1440, locals := 156 })).room s m args below meth c 4 (RAs ad 90 z) s.heap (82 + 3 * n) (492 + 18 * n) (MQ below (va_Qi (fun r' (_ : Unit) => r' = 1) (fun _ => ws0 D vwCl (tyL cI cW cZ cL) ad 90 (PC cI cW ad S)) (RAs ad 90 z)) args s 240 1440 (RAs ad 90 z)) (wq D vwCl ad 90 (PC cI cW ad S)) 71 [(1, .int (nI n)), (2, .int (nI n)), (0, .ref (ad 0))] [] := by
            intro fu
            induction fu with
            | zero =>
              intro n hfu hn0
              exact absurd hfu (by omega)
            | succ fu ih =>
              intro n hfu hn0
              by_cases hn : n < (S.1 72).length
              · obtain ⟨r, f1, f2, f3⟩ := hwt n hn
                refine vv_aload_n hC 2 dL_areTiedSo_71 rfl rfl (q := 72) rfl ?_
                refine vv_iload_n hC 1 dL_areTiedSo_72 rfl rfl (q := 73) rfl ?_
                refine vv_fcx hC hK hE hAX hA1 (As := [.int (nI n)]) Foc_1 (fun zz => c8_waiting l hJ hlst AX zz S (nI n)) (tB2_n (by omega)) (cwV 1 hC.2.2.2.2 gL_areTiedSo_X8_waiting rfl rfl rfl hdX8_waiting ⟨Nat.le_of_ble_eq_true rfl, Nat.le_of_ble_eq_true rfl⟩) rfl rfl (Nat.le_of_ble_eq_true rfl) ⟨by show _ ≤ 240; omega, by show _ ≤ 1440; omega⟩ dL_areTiedSo_73 (q := 76) rfl ?_
                refine vv_val (b := nI r) f2 ?_
                refine vv_if_lt hC (tgt := 103) dL_areTiedSo_76 (by decide) (q := 79) rfl (fun h76 => ?_) (fun h76 => ?_)
                · skip
                  exact absurd h76 (nI_pos (by omega))
                · skip
                  refine vv_iinc hC (i := 1) (v := nI (n + 1)) (lv' := [(1, .int (nI (n + 1))), (2, .int (nI n)), (0, .ref (ad 0))]) 0 dL_areTiedSo_79 rfl (by rw [show Int32.ofInt 1 = nI 1 from rfl, nI_add]) (by decide) rfl (q := 82) rfl ?_
                  refine vv_aload_n hC 2 dL_areTiedSo_82 rfl rfl (q := 83) rfl ?_
                  refine vv_aload_n hC 2 dL_areTiedSo_83 rfl rfl (q := 84) rfl ?_
                  refine vv_iload_n hC 1 dL_areTiedSo_84 rfl rfl (q := 85) rfl ?_
                  refine vv_fcx hC hK hE hAX hA1 (As := [.int (nI n)]) Foc_1 (fun zz => c8_waiting l hJ hlst AX zz S (nI n)) (tB2_n (by omega)) (cwV 1 hC.2.2.2.2 gL_areTiedSo_X8_waiting rfl rfl rfl hdX8_waiting ⟨Nat.le_of_ble_eq_true rfl, Nat.le_of_ble_eq_true rfl⟩) rfl rfl (Nat.le_of_ble_eq_true rfl) ⟨by show _ ≤ 240; omega, by show _ ≤ 1440; omega⟩ dL_areTiedSo_85 (q := 88) rfl ?_
                  refine vv_val (b := nI r) f2 ?_
                  refine vv_fcx hC hK hE hAX hA1 (As := [.int (nI r)]) Foc_1 (fun zz => c8_stateOf l hJ hlst AX zz S (nI r)) (tIx_in (by omega) f1) (cwV 1 hC.2.2.2.2 gL_areTiedSo_X8_stateOf rfl rfl rfl hdX8_stateOf ⟨Nat.le_of_ble_eq_true rfl, Nat.le_of_ble_eq_true rfl⟩) rfl rfl (Nat.le_of_ble_eq_true rfl) ⟨by show _ ≤ 240; omega, by show _ ≤ 1440; omega⟩ dL_areTiedSo_88 (q := 91) rfl ?_
                  refine vv_val (b := 1) f3 ?_
                  refine vv_iconst hC (v := 1) dL_areTiedSo_91 rfl (q := 92) rfl ?_
                  refine vv_icmp_eq hC (tgt := 97) dL_areTiedSo_92 (by decide) (q := 95) rfl (fun h92 => ?_) (fun h92 => ?_)
                  · skip
                    refine vv_iinc hC (i := 2) (v := nI (n + 1)) (lv' := [(2, .int (nI (n + 1))), (1, .int (nI (n + 1))), (0, .ref (ad 0))]) 1 dL_areTiedSo_97 rfl (by rw [show Int32.ofInt 1 = nI 1 from rfl, nI_add]) (by decide) rfl (q := 100) rfl ?_
                    refine vv_goto hC (tgt := 71) dL_areTiedSo_100 (by decide) ?_
                    exact vv_widen (by omega) (by omega) (vv_lv [1, 0, 2] rfl (ih (n + 1) (by omega) (by omega)))
                  · skip
                    exact absurd (by decide) h92
              · obtain rfl : n = (S.1 72).length := by omega
                refine vv_aload_n hC 2 dL_areTiedSo_71 rfl rfl (q := 72) rfl ?_
                refine vv_iload_n hC 1 dL_areTiedSo_72 rfl rfl (q := 73) rfl ?_
                refine vv_fcx hC hK hE hAX hA1 (As := [.int (nI (S.1 72).length)]) Foc_1 (fun zz => c8_waiting l hJ hlst AX zz S (nI (S.1 72).length)) (tB2_n (by omega)) (cwV 1 hC.2.2.2.2 gL_areTiedSo_X8_waiting rfl rfl rfl hdX8_waiting ⟨Nat.le_of_ble_eq_true rfl, Nat.le_of_ble_eq_true rfl⟩) rfl rfl (Nat.le_of_ble_eq_true rfl) ⟨by show _ ≤ 240; omega, by show _ ≤ 1440; omega⟩ dL_areTiedSo_73 (q := 76) rfl ?_
                refine vv_val (b := (-1)) (rAt_out (Or.inr (by rw [tn_n (by omega)]; exact Nat.le_refl _))) ?_
                refine vv_if_lt hC (tgt := 103) dL_areTiedSo_76 (by decide) (q := 79) rfl (fun h76 => ?_) (fun h76 => ?_)
                · skip
                  refine vv_iconst hC (v := nI 0) dL_areTiedSo_103 rfl (q := 104) rfl ?_
                  refine vv_istore_n hC (i := 2) (lv' := [(2, .int (nI 0)), (1, .int (nI (S.1 72).length)), (0, .ref (ad 0))]) dL_areTiedSo_104 rfl (by decide) rfl (q := 105) rfl ?_
                  refine vv_iconst hC (v := nI 0) dL_areTiedSo_105 rfl (q := 106) rfl ?_
                  refine vv_istore_n hC (i := 3) (lv' := [(3, .int (nI 0)), (2, .int (nI 0)), (1, .int (nI (S.1 72).length)), (0, .ref (ad 0))]) dL_areTiedSo_106 rfl (by decide) rfl (q := 107) rfl ?_
                  have loop107 : ∀ (fu : Nat) (n : Nat), (S.1 62).length < n + fu → n ≤ (S.1 62).length → vv p l e (headSpec wsL_areTiedSo ({ frames := 9, cells := 240, slots := 1440, locals := 156 })).room s m args below meth c 4 (RAs ad 90 z) s.heap (175 + 2 * n) (1050 + 12 * n) (MQ below (va_Qi (fun r' (_ : Unit) => r' = 1) (fun _ => ws0 D vwCl (tyL cI cW cZ cL) ad 90 (PC cI cW ad S)) (RAs ad 90 z)) args s 240 1440 (RAs ad 90 z)) (wq D vwCl ad 90 (PC cI cW ad S)) 107 [(3, .int (nI n)), (2, .int (nI (dnN S n))), (1, .int (nI (S.1 72).length)), (0, .ref (ad 0))] [] := by
                    intro fu
                    induction fu with
                    | zero =>
                      intro n hfu hn0
                      exact absurd hfu (by omega)
                    | succ fu ih =>
                      intro n hfu hn0
                      by_cases hn : n < (S.1 62).length
                      · obtain ⟨x, f1, f2⟩ := hst n hn
                        refine vv_aload_n hC 3 dL_areTiedSo_107 rfl rfl (q := 108) rfl ?_
                        refine vv_iload_n hC 0 dL_areTiedSo_108 rfl rfl (q := 109) rfl ?_
                        refine vv_fcnW hC hK hE hxN hAX hA1 (As := [.ref (ad 0), .int (nI n)]) Foc_1 (fun zz => cn_stateOf l hJ hlst AX zz S (nI n)) (vx_cwSW 2 hC.2.2.2.2 gL_areTiedSo_L_stateOf rfl rfl rfl hsL_stateOf ⟨Nat.le_of_ble_eq_true rfl, Nat.le_of_ble_eq_true rfl⟩) rfl rfl (Nat.le_of_ble_eq_true rfl) ⟨by show _ ≤ 240; omega, by show _ ≤ 1440; omega⟩ dL_areTiedSo_109 (q := 112) rfl ?_
                        refine vv_val (b := nI x) (by rw [if_pos (tIx_in (by omega) hn)]; exact f2) ?_
                        refine vv_if_lt hC (tgt := 138) dL_areTiedSo_112 (by decide) (q := 115) rfl (fun h112 => ?_) (fun h112 => ?_)
                        · skip
                          exact absurd h112 (nI_pos (by omega))
                        · skip
                          refine vv_iload_n hC 1 dL_areTiedSo_115 rfl rfl (q := 116) rfl ?_
                          refine vv_aload_n hC 3 dL_areTiedSo_116 rfl rfl (q := 117) rfl ?_
                          refine vv_iload_n hC 0 dL_areTiedSo_117 rfl rfl (q := 118) rfl ?_
                          refine vv_fcx hC hK hE hAX hA1 (As := [.int (nI n)]) Foc_1 (fun zz => c8_stateOf l hJ hlst AX zz S (nI n)) (tIx_in (by omega) hn) (cwV 1 hC.2.2.2.2 gL_areTiedSo_X8_stateOf rfl rfl rfl hdX8_stateOf ⟨Nat.le_of_ble_eq_true rfl, Nat.le_of_ble_eq_true rfl⟩) rfl rfl (Nat.le_of_ble_eq_true rfl) ⟨by show _ ≤ 240; omega, by show _ ≤ 1440; omega⟩ dL_areTiedSo_118 (q := 121) rfl ?_
                          refine vv_val (b := nI x) f2 ?_
                          refine vv_iconst hC (v := nI 1) dL_areTiedSo_121 rfl (q := 122) rfl ?_
                          refine vv_icmpN_ne hC (tgt := 129) (by omega) (by omega) dL_areTiedSo_122 (by decide) (q := 125) rfl (fun h122 => ?_) (fun h122 => ?_)
                          · skip
                            refine vv_iconst hC (v := nI 0) dL_areTiedSo_129 rfl (q := 130) rfl ?_
                            refine vv_iaddN hC dL_areTiedSo_130 (q := 131) rfl ?_
                            refine vv_istore_n hC (i := 2) (lv' := [(2, .int (nI ((dnN S n) + 0))), (3, .int (nI n)), (1, .int (nI (S.1 72).length)), (0, .ref (ad 0))]) dL_areTiedSo_131 rfl (by decide) rfl (q := 132) rfl ?_
                            refine vv_iinc hC (i := 3) (v := nI (n + 1)) (lv' := [(3, .int (nI (n + 1))), (2, .int (nI ((dnN S n) + 0))), (1, .int (nI (S.1 72).length)), (0, .ref (ad 0))]) 1 dL_areTiedSo_132 rfl (by rw [show Int32.ofInt 1 = nI 1 from rfl, nI_add]) (by decide) rfl (q := 135) rfl ?_
                            refine vv_goto hC (tgt := 107) dL_areTiedSo_135 (by decide) ?_
                            have ht : dnN S (n + 1) = dnN S n + 0 := by rw [dnN, if_neg (by rw [f2]; exact fun h => h122 ((nI_eq (b := 1) (by omega) (by omega)).mp h))]
                            have ih2 := ih (n + 1) (by omega) (by omega)
                            rw [ht] at ih2
                            exact vv_widen (by omega) (by omega) (vv_lv [0, 1, 2, 3] rfl (ih2))
                          · skip
                            refine vv_iconst hC (v := nI 1) dL_areTiedSo_125 rfl (q := 126) rfl ?_
                            refine vv_goto hC (tgt := 130) dL_areTiedSo_126 (by decide) ?_
                            refine vv_iaddN hC dL_areTiedSo_130 (q := 131) rfl ?_
                            refine vv_istore_n hC (i := 2) (lv' := [(2, .int (nI ((dnN S n) + 1))), (3, .int (nI n)), (1, .int (nI (S.1 72).length)), (0, .ref (ad 0))]) dL_areTiedSo_131 rfl (by decide) rfl (q := 132) rfl ?_
                            refine vv_iinc hC (i := 3) (v := nI (n + 1)) (lv' := [(3, .int (nI (n + 1))), (2, .int (nI ((dnN S n) + 1))), (1, .int (nI (S.1 72).length)), (0, .ref (ad 0))]) 1 dL_areTiedSo_132 rfl (by rw [show Int32.ofInt 1 = nI 1 from rfl, nI_add]) (by decide) rfl (q := 135) rfl ?_
                            refine vv_goto hC (tgt := 107) dL_areTiedSo_135 (by decide) ?_
                            have ht : dnN S (n + 1) = dnN S n + 1 := by rw [dnN, if_pos (by rw [f2]; rw [h122]; rfl)]
                            have ih2 := ih (n + 1) (by omega) (by omega)
                            rw [ht] at ih2
                            exact vv_widen (by omega) (by omega) (vv_lv [0, 1, 2, 3] rfl (ih2))
                      · obtain rfl : n = (S.1 62).length := by omega
                        refine vv_aload_n hC 3 dL_areTiedSo_107 rfl rfl (q := 108) rfl ?_
                        refine vv_iload_n hC 0 dL_areTiedSo_108 rfl rfl (q := 109) rfl ?_
                        refine vv_fcnW hC hK hE hxN hAX hA1 (As := [.ref (ad 0), .int (nI (S.1 62).length)]) Foc_1 (fun zz => cn_stateOf l hJ hlst AX zz S (nI (S.1 62).length)) (vx_cwSW 2 hC.2.2.2.2 gL_areTiedSo_L_stateOf rfl rfl rfl hsL_stateOf ⟨Nat.le_of_ble_eq_true rfl, Nat.le_of_ble_eq_true rfl⟩) rfl rfl (Nat.le_of_ble_eq_true rfl) ⟨by show _ ≤ 240; omega, by show _ ≤ 1440; omega⟩ dL_areTiedSo_109 (q := 112) rfl ?_
                        refine vv_val (b := (-1)) (by rw [if_neg (tIx_out (by omega) (Nat.le_refl _) (by omega))]) ?_
                        refine vv_if_lt hC (tgt := 138) dL_areTiedSo_112 (by decide) (q := 115) rfl (fun h112 => ?_) (fun h112 => ?_)
                        · skip
                          refine vv_iload_n hC 1 dL_areTiedSo_138 rfl rfl (q := 139) rfl ?_
                          refine vv_iload_n hC 2 dL_areTiedSo_139 rfl rfl (q := 140) rfl ?_
                          refine vv_icmp_ne hC (tgt := 147) dL_areTiedSo_140 (by decide) (q := 143) rfl (fun h140 => ?_) (fun h140 => ?_)
                          · skip
                            exact absurd (by rw [hdn]) h140
                          · skip
                            refine vv_iconst hC (v := 1) dL_areTiedSo_143 rfl (q := 144) rfl ?_
                            refine vv_goto hC (tgt := 148) dL_areTiedSo_144 (by decide) ?_
                            exact vv_lzret hC hK hr hlk rfl rfl (by omega) (fun f hf => hf) dL_areTiedSo_148
                        · skip
                          exact absurd (by decide) h112
                  exact vv_widen (by omega) (by omega) (vv_lv [0, 1, 2, 3] rfl (loop107 ((S.1 62).length + 1) 0 (by omega) (by omega)))
                · skip
                  exact absurd (by decide) h76
          exact vv_widen (by omega) (by omega) (vv_lv [1, 0, 2] rfl (loop71 ((S.1 72).length + 1) 0 (by omega) (by omega)))
        · skip
          exact absurd (by decide) h9
  exact vv_widen (by omega) (by omega) (vv_lv [0, 1] rfl (loop2 ((S.1 86).length + 1) 0 (by omega) (by omega)))
