/-! the law's body -/
/-- what the law's walk rests on -/
def LX (l : Launch) (s : State) (m : MethodId) (c : Code) (p : Program) (b L z : Nat) (xs : Nat → Int32) (D : va_G) (cI cW cZ cL : ClassId) : Prop :=
  CallFix p m c cL_law 6 s #[Value.ref b] wsL_law RL ∧ va_K D vwCl (tyL cI cW cZ cL) s ∧ s.heap.size = z ∧ xE (AZ z) s ∧ xN s ∧ va_X b L xs s s.heap ∧ b < s.heap.size ∧ l.stackTraces = false ∧ L ≤ 260
theorem LX.nb {l : Launch} {s : State} {m : MethodId} {c : Code} {p : Program} {b L z : Nat} {xs : Nat → Int32} {D : va_G} {cI cW cZ cL : ClassId} (h : LX l s m c p b L z xs D cI cW cZ cL) : ¬ AZ z b := by
  have h1 := h.2.2.1
  have h2 := h.2.2.2.2.2.2.1
  unfold AZ
  omega
/-- what is to be kept: each step, and what the checks ask -/
def InvOK (Inv : Nat → sC → Prop) : Prop := (∀ k S v, k < 110 → Inv k S → Inv (k + 1) (actN S v).2 ∧ ((actN S v).1 = -99999 → (actN S v).2 = S)) ∧ (∀ k S, k ≤ 112 → Inv k S → (∃ m, FT S m) ∧ FD S) ∧ ∀ k S, k < 112 → Inv k S → Inv (k + 1) (sMerge S 2) ∧ (mrg S (pW 2)).1 < 2 ^ 31
theorem mE_4 (S : sC) : ((sMerge S 2).1 (pW 2 + 4)).length = 0 := rfl
theorem mE_1 (S : sC) : (sMerge S 2).1 (pW 2 + 1) = (sMerge S 2).1 17 := rfl
theorem mE_m (S : sC) : (mrg (sMerge S 2) (pW 2)).1 = 0 := by
  rw [mrg, mE_4, mrgF, if_neg (by rw [mE_4]; exact Nat.not_lt_zero _)]
theorem FT_l {S : sC} {m : Nat → Nat} (h : FT S m) : (S.1 17).length ≤ 1800 := by
  rw [← h.2.2.1]
  have := sum6_le h.2.1 6
  omega
set_option maxRecDepth 100000 in
set_option maxHeartbeats 8000000 in
theorem law_end {p : Program} {l : Launch} {e : Env} {s : State} {m : MethodId} {below : List Frame} {meth : Method} {c : Code} {b L z : Nat} {xs : Nat → Int32} {D : va_G} {cI cW cZ cL : ClassId} {Q : State → Prop} {Inv : Nat → sC → Prop} (X : LX l s m c p b L z xs D cI cW cZ cL) (hok : InvOK Inv) (hex : ∀ (cells slots : Nat) (lv : List (Nat × Value)) (B : Heap → Prop), cells ≤ 600130 ∧ slots ≤ 7301079 → vv p l e room_1 s m #[Value.ref b] below meth c 6 (AZ z) s.heap cells slots Q B 206 lv [.int 1]) (S : sC) (hI : Inv 110 S) : vv p l e room_1 s m #[Value.ref b] below meth c 6 (AZ z) s.heap 532180 2199900 Q (B2 D cI cW z S S) 98 [(0, .ref b), (1, .ref (adO z 0)), (2, .ref (adP z 0)), (3, .int (nI 110))] [] := by
  obtain ⟨hC, hK, hz0, hE, hxN, hX, hbl, hlst, hL⟩ := id X
  have hz : z ≤ s.heap.size := Nat.le_of_eq hz0.symm
  obtain ⟨hI1, hm1⟩ := hok.2.2 110 S (by omega) hI
  obtain ⟨hI2, -⟩ := hok.2.2 111 _ (by omega) hI1
  obtain ⟨⟨m2, hT2⟩, -⟩ := hok.2.1 112 _ (by omega) hI2
  have hl2 : ((sMerge (sMerge S 2) 2).1 17).length ≤ 1800 := FT_l hT2
  refine vv_aload_n hC 1 dL_law_98 rfl rfl (q := 99) rfl ?_
  refine vv_iconst hC (v := 2) dL_law_99 rfl (q := 100) rfl ?_
  refine vv_fcx hC hK hE (fun _ h => h) (hA_o hz) (As := [.int 2]) Foc_o (fun zz => c8_merge l (adO_inj z) hlst (AZ z) zz S 2) (by decide) (cwV 1 hC.2.2.2.2 gL_law_X8_merge rfl rfl rfl hdX8_merge ⟨Nat.le_of_ble_eq_true rfl, Nat.le_of_ble_eq_true rfl⟩) rfl rfl (Nat.le_of_ble_eq_true rfl) ⟨by show _ ≤ 600130; omega, by show _ ≤ 7301079; omega⟩ dL_law_100 (q := 103) rfl ?_
  refine vv_istore_n hC (i := 3) (lv' := [(3, .int (nI (mrg S (pW 2)).1)), (0, .ref b), (1, .ref (adO z 0)), (2, .ref (adP z 0))]) dL_law_103 rfl (by decide) rfl (q := 104) rfl ?_
  refine vv_iload_n hC 0 dL_law_104 rfl rfl (q := 105) rfl ?_
  refine vv_if_lt hC (tgt := 140) dL_law_105 (by decide) (q := 108) rfl (fun h105 => ?_) (fun h105 => ?_)
  · skip
    exact absurd h105 (nI_pos (by omega))
  · skip
    refine vv_aload_n hC 2 dL_law_108 rfl rfl (q := 109) rfl ?_
    refine vv_iconst hC (v := 2) dL_law_109 rfl (q := 110) rfl ?_
    refine vv_fcx hC hK hE (fun _ h => h) (hA_o hz) (As := [.int 2]) Foc_o (fun zz => c8_changes l (adO_inj z) hlst (AZ z) zz (sMerge S 2) 2) (by decide) (cwV 1 hC.2.2.2.2 gL_law_X8_changes rfl rfl rfl hdX8_changes ⟨Nat.le_of_ble_eq_true rfl, Nat.le_of_ble_eq_true rfl⟩) rfl rfl (Nat.le_of_ble_eq_true rfl) ⟨by show _ ≤ 600130; omega, by show _ ≤ 7301079; omega⟩ dL_law_110 (q := 113) rfl ?_
    refine vv_val (b := 0) (by rw [mE_4]; rfl) ?_
    refine vv_if_ne hC (tgt := 140) dL_law_113 (by decide) (q := 116) rfl (fun h113 => ?_) (fun h113 => ?_)
    · skip
      exact absurd (by decide) h113
    · skip
      refine vv_aload_n hC 2 dL_law_116 rfl rfl (q := 117) rfl ?_
      refine vv_iconst hC (v := 2) dL_law_117 rfl (q := 118) rfl ?_
      refine vv_fcx hC hK hE (fun _ h => h) (hA_o hz) (As := [.int 2]) Foc_o (fun zz => c8_copy l (adO_inj z) hlst (AZ z) zz (sMerge S 2) 2) (by decide) (cwV 1 hC.2.2.2.2 gL_law_X8_copy rfl rfl rfl hdX8_copy ⟨Nat.le_of_ble_eq_true rfl, Nat.le_of_ble_eq_true rfl⟩) rfl rfl (Nat.le_of_ble_eq_true rfl) ⟨by show _ ≤ 600130; omega, by show _ ≤ 7301079; omega⟩ dL_law_118 (q := 121) rfl ?_
      refine vv_val (b := nI ((sMerge S 2).1 17).length) (by rw [mE_1]) ?_
      refine vv_aload_n hC 2 dL_law_121 rfl rfl (q := 122) rfl ?_
      refine vv_fcm hC hK hR_o (As := []) Foc_o (c8_length l (adO_inj z) (sMerge S 2)) (cwV 0 hC.2.2.2.2 gL_law_X8_length rfl rfl rfl hdX8_length ⟨Nat.le_of_ble_eq_true rfl, Nat.le_of_ble_eq_true rfl⟩) rfl rfl (Nat.le_of_ble_eq_true rfl) ⟨by show _ ≤ 600130; omega, by show _ ≤ 7301079; omega⟩ dL_law_122 (q := 125) rfl ?_
      refine vv_icmp_ne hC (tgt := 140) dL_law_125 (by decide) (q := 128) rfl (fun h125 => ?_) (fun h125 => ?_)
      · skip
        exact absurd rfl h125
      · skip
        refine vv_aload_n hC 2 dL_law_128 rfl rfl (q := 129) rfl ?_
        refine vv_iconst hC (v := 2) dL_law_129 rfl (q := 130) rfl ?_
        refine vv_fcx hC hK hE (fun _ h => h) (hA_o hz) (As := [.int 2]) Foc_o (fun zz => c8_merge l (adO_inj z) hlst (AZ z) zz (sMerge S 2) 2) (by decide) (cwV 1 hC.2.2.2.2 gL_law_X8_merge rfl rfl rfl hdX8_merge ⟨Nat.le_of_ble_eq_true rfl, Nat.le_of_ble_eq_true rfl⟩) rfl rfl (Nat.le_of_ble_eq_true rfl) ⟨by show _ ≤ 600130; omega, by show _ ≤ 7301079; omega⟩ dL_law_130 (q := 133) rfl ?_
        refine vv_val (b := 0) (by rw [mE_m]; rfl) ?_
        refine vv_if_ne hC (tgt := 140) dL_law_133 (by decide) (q := 136) rfl (fun h133 => ?_) (fun h133 => ?_)
        · skip
          exact absurd (by decide) h133
        · skip
          refine vv_iconst hC (v := 1) dL_law_136 rfl (q := 137) rfl ?_
          refine vv_goto hC (tgt := 141) dL_law_137 (by decide) ?_
          refine vv_istore hC (i := 4) (lv' := [(4, .int 1), (3, .int (nI (mrg S (pW 2)).1)), (0, .ref b), (1, .ref (adO z 0)), (2, .ref (adP z 0))]) dL_law_141 (by decide) rfl (q := 143) rfl ?_
          refine vv_iconst hC (v := nI 0) dL_law_143 rfl (q := 144) rfl ?_
          refine vv_istore hC (i := 5) (lv' := [(5, .int (nI 0)), (4, .int 1), (3, .int (nI (mrg S (pW 2)).1)), (0, .ref b), (1, .ref (adO z 0)), (2, .ref (adP z 0))]) dL_law_144 (by decide) rfl (q := 146) rfl ?_
          have loop146 : ∀ (fu : Nat) (n : Nat), ((sMerge (sMerge S 2) 2).1 17).length < n + fu → n ≤ ((sMerge (sMerge S 2) 2).1 17).length → vv p l e room_1 s m #[Value.ref b] below meth c 6 (AZ z) s.heap (532200 + 3 * n) (2200000 + 18 * n) Q (B2 D cI cW z (sMerge (sMerge S 2) 2) S) 146 [(5, .int (nI n)), (4, .int 1), (3, .int (nI (mrg S (pW 2)).1)), (0, .ref b), (1, .ref (adO z 0)), (2, .ref (adP z 0))] [] := by
            intro fu
            induction fu with
            | zero =>
              intro n hfu hn0
              exact absurd hfu (by omega)
            | succ fu ih =>
              intro n hfu hn0
              refine vv_iload hC 0 dL_law_146 rfl (q := 148) rfl ?_
              refine vv_aload_n hC 4 dL_law_148 rfl rfl (q := 149) rfl ?_
              refine vv_fcm hC hK hR_o (As := []) Foc_o (c8_length l (adO_inj z) (sMerge (sMerge S 2) 2)) (cwV 0 hC.2.2.2.2 gL_law_X8_length rfl rfl rfl hdX8_length ⟨Nat.le_of_ble_eq_true rfl, Nat.le_of_ble_eq_true rfl⟩) rfl rfl (Nat.le_of_ble_eq_true rfl) ⟨by show _ ≤ 600130; omega, by show _ ≤ 7301079; omega⟩ dL_law_149 (q := 152) rfl ?_
              refine vv_icmpN_ge hC (tgt := 189) (by omega) (by omega) dL_law_152 (by decide) (q := 155) rfl (fun h152 => ?_) (fun h152 => ?_)
              · skip
                refine vv_iload hC 1 dL_law_189 rfl (q := 191) rfl ?_
                refine vv_if_eq hC (tgt := 205) dL_law_191 (by decide) (q := 194) rfl (fun h191 => ?_) (fun h191 => ?_)
                · skip
                  exact absurd h191 (by decide)
                · skip
                  refine vv_aload_n hC 4 dL_law_194 rfl rfl (q := 195) rfl ?_
                  refine vv_fcn hC hK hE hxN (fun _ h => h) (hA_o hz) (As := [.ref (adO z 0)]) Foc_o (fun zz => cn_isTextSo l (adO_inj z) hlst (AZ z) zz (sMerge (sMerge S 2) 2) m2 hT2) (va_cwS 1 hC.2.2.2.2 gL_law_L_isTextSo rfl rfl rfl hsL_isTextSo ⟨Nat.le_of_ble_eq_true rfl, Nat.le_of_ble_eq_true rfl⟩) rfl rfl (Nat.le_of_ble_eq_true rfl) ⟨by show _ ≤ 600130; omega, by show _ ≤ 7301079; omega⟩ dL_law_195 (q := 198) rfl ?_
                  refine vv_if_eq hC (tgt := 205) dL_law_198 (by decide) (q := 201) rfl (fun h198 => ?_) (fun h198 => ?_)
                  · skip
                    exact absurd h198 (by decide)
                  · skip
                    refine vv_iconst hC (v := 1) dL_law_201 rfl (q := 202) rfl ?_
                    refine vv_goto hC (tgt := 206) dL_law_202 (by decide) ?_
                    exact hex _ _ _ _ (by omega)
              · skip
                have hn : n < ((sMerge (sMerge S 2) 2).1 17).length := by omega
                refine vv_iload hC 1 dL_law_155 rfl (q := 157) rfl ?_
                refine vv_if_eq hC (tgt := 189) dL_law_157 (by decide) (q := 160) rfl (fun h157 => ?_) (fun h157 => ?_)
                · skip
                  exact absurd h157 (by decide)
                · skip
                  refine vv_aload_n hC 4 dL_law_160 rfl rfl (q := 161) rfl ?_
                  refine vv_iconst hC (v := 2) dL_law_161 rfl (q := 162) rfl ?_
                  refine vv_iload hC 0 dL_law_162 rfl (q := 164) rfl ?_
                  refine vv_fcx hC hK hE (fun _ h => h) (hA_o hz) (As := [.int 2, .int (nI n)]) Foc_o (fun zz => c8_copyAt l (adO_inj z) hlst (AZ z) zz (sMerge (sMerge S 2) 2) 2 (nI n)) (by rw [tCopyAt, show tIx 2 6 = 0 from by decide, tor_0, mE_1]; exact tIx_in (by omega) hn) (cwV 2 hC.2.2.2.2 gL_law_X8_copyAt rfl rfl rfl hdX8_copyAt ⟨Nat.le_of_ble_eq_true rfl, Nat.le_of_ble_eq_true rfl⟩) rfl rfl (Nat.le_of_ble_eq_true rfl) ⟨by show _ ≤ 600130; omega, by show _ ≤ 7301079; omega⟩ dL_law_164 (q := 167) rfl ?_
                  refine vv_val (b := rAt ((sMerge (sMerge S 2) 2).1 17) (nI n)) (by rw [mE_1]) ?_
                  refine vv_aload_n hC 4 dL_law_167 rfl rfl (q := 168) rfl ?_
                  refine vv_iload hC 0 dL_law_168 rfl (q := 170) rfl ?_
                  refine vv_fcx hC hK hE (fun _ h => h) (hA_o hz) (As := [.int (nI n)]) Foc_o (fun zz => c8_wordAt l (adO_inj z) hlst (AZ z) zz (sMerge (sMerge S 2) 2) (nI n)) (tIx_in (by omega) hn) (cwV 1 hC.2.2.2.2 gL_law_X8_wordAt rfl rfl rfl hdX8_wordAt ⟨Nat.le_of_ble_eq_true rfl, Nat.le_of_ble_eq_true rfl⟩) rfl rfl (Nat.le_of_ble_eq_true rfl) ⟨by show _ ≤ 600130; omega, by show _ ≤ 7301079; omega⟩ dL_law_170 (q := 173) rfl ?_
                  refine vv_icmp_ne hC (tgt := 180) dL_law_173 (by decide) (q := 176) rfl (fun h173 => ?_) (fun h173 => ?_)
                  · skip
                    exact absurd rfl h173
                  · skip
                    refine vv_iconst hC (v := 1) dL_law_176 rfl (q := 177) rfl ?_
                    refine vv_goto hC (tgt := 181) dL_law_177 (by decide) ?_
                    refine vv_istore hC (i := 4) (lv' := [(4, .int 1), (5, .int (nI n)), (3, .int (nI (mrg S (pW 2)).1)), (0, .ref b), (1, .ref (adO z 0)), (2, .ref (adP z 0))]) dL_law_181 (by decide) rfl (q := 183) rfl ?_
                    refine vv_iinc hC (i := 5) (v := nI (n + 1)) (lv' := [(5, .int (nI (n + 1))), (4, .int 1), (3, .int (nI (mrg S (pW 2)).1)), (0, .ref b), (1, .ref (adO z 0)), (2, .ref (adP z 0))]) 1 dL_law_183 rfl (by rw [show Int32.ofInt 1 = nI 1 from rfl, nI_add]) (by decide) rfl (q := 186) rfl ?_
                    refine vv_goto hC (tgt := 146) dL_law_186 (by decide) ?_
                    exact vv_widen (by omega) (by omega) (vv_lv [0, 1, 2, 3, 4, 5] rfl (ih (n + 1) (by omega) (by omega)))
          exact vv_widen (by omega) (by omega) (vv_lv [0, 1, 2, 3, 4, 5] rfl (loop146 (((sMerge (sMerge S 2) 2).1 17).length + 1) 0 (by omega) (by omega)))
set_option maxRecDepth 100000 in
set_option maxHeartbeats 8000000 in
theorem law_loop {p : Program} {l : Launch} {e : Env} {s : State} {m : MethodId} {below : List Frame} {meth : Method} {c : Code} {b L z : Nat} {xs : Nat → Int32} {D : va_G} {cI cW cZ cL : ClassId} {Q : State → Prop} {Inv : Nat → sC → Prop} (X : LX l s m c p b L z xs D cI cW cZ cL) (hok : InvOK Inv) (hex : ∀ (cells slots : Nat) (lv : List (Nat × Value)) (B : Heap → Prop), cells ≤ 600130 ∧ slots ≤ 7301079 → vv p l e room_1 s m #[Value.ref b] below meth c 6 (AZ z) s.heap cells slots Q B 206 lv [.int 1]) : ∀ (fu k : Nat) (S : sC), 110 < k + fu → k ≤ 110 → Inv k S → vv p l e room_1 s m #[Value.ref b] below meth c 6 (AZ z) s.heap (180 + 3200 * k) (17674 + 19200 * k) Q (B2 D cI cW z S S) 18 [(0, .ref b), (1, .ref (adO z 0)), (2, .ref (adP z 0)), (3, .int (nI k))] [] := by
  obtain ⟨hC, hK, hz0, hE, hxN, hX, hbl, hlst, hL⟩ := id X
  have hz : z ≤ s.heap.size := Nat.le_of_eq hz0.symm
  intro fu
  induction fu with
  | zero =>
    intro k S hfu hk0 hI
    exact absurd hfu (by omega)
  | succ fu ih =>
    intro k S hfu hk0 hI
    refine vv_iload_n hC 3 dL_law_18 rfl rfl (q := 19) rfl ?_
    refine vv_bipush hC (v := nI 110) dL_law_19 rfl (q := 21) rfl ?_
    refine vv_icmpN_ge hC (tgt := 98) (by omega) (by omega) dL_law_21 (by decide) (q := 24) rfl (fun h21 => ?_) (fun h21 => ?_)
    · skip
      obtain rfl : k = 110 := by omega
      exact vv_widen (by omega) (by omega) (law_end X hok hex S hI)
    · skip
      have hk : k < 110 := by omega
      refine vv_aload_n hC 0 dL_law_24 rfl rfl (q := 25) rfl ?_
      refine vv_iload_n hC 3 dL_law_25 rfl rfl (q := 26) rfl ?_
      refine vv_fcs hC Stb_2 hX hbl X.nb (As := [.ref b, .int (nI k)]) (cn_cell l (by omega) k (by omega)) (va_cwS 2 hC.2.2.2.2 gL_law_L_cell rfl rfl rfl hsL_cell ⟨Nat.le_of_ble_eq_true rfl, Nat.le_of_ble_eq_true rfl⟩) rfl rfl (Nat.le_of_ble_eq_true rfl) ⟨by show _ ≤ 600130; omega, by show _ ≤ 7301079; omega⟩ dL_law_26 (q := 29) rfl ?_
      generalize cellF L xs k = v
      obtain ⟨hI1, hsame⟩ := hok.1 k S v hk hI
      refine vv_istore hC (i := 4) (lv' := [(4, .int v), (0, .ref b), (1, .ref (adO z 0)), (2, .ref (adP z 0)), (3, .int (nI k))]) dL_law_29 (by decide) rfl (q := 31) rfl ?_
      refine vv_aload_n hC 2 dL_law_31 rfl rfl (q := 32) rfl ?_
      refine vv_iload hC 0 dL_law_32 rfl (q := 34) rfl ?_
      refine vv_fcn hC hK hE hxN (fun _ h => h) (hA_o hz) (As := [.ref (adO z 0), .int v]) Foc_o (fun zz => cn_act l (adO_inj z) hlst (AZ z) zz S v) (va_cwS 2 hC.2.2.2.2 gL_law_L_act rfl rfl rfl hsL_act ⟨Nat.le_of_ble_eq_true rfl, Nat.le_of_ble_eq_true rfl⟩) rfl rfl (Nat.le_of_ble_eq_true rfl) ⟨by show _ ≤ 600130; omega, by show _ ≤ 7301079; omega⟩ dL_law_34 (q := 37) rfl ?_
      refine vv_istore hC (i := 5) (lv' := [(5, .int ((actN S v).1)), (4, .int v), (0, .ref b), (1, .ref (adO z 0)), (2, .ref (adP z 0)), (3, .int (nI k))]) dL_law_37 (by decide) rfl (q := 39) rfl ?_
      refine vv_iload hC 0 dL_law_39 rfl (q := 41) rfl ?_
      refine vv_ldc hC (v := (-99999)) (List.mem_of_getElem? (i := 3) rfl) dL_law_41 (q := 43) rfl ?_
      have join57 : vv p l e room_1 s m #[Value.ref b] below meth c 6 (AZ z) s.heap (180 + 3200 * k + 16) (17674 + 19200 * k + 96) Q (B2 D cI cW z (actN S v).2 (actN S v).2) 57 [(5, .int ((actN S v).1)), (4, .int v), (0, .ref b), (1, .ref (adO z 0)), (2, .ref (adP z 0)), (3, .int (nI k))] [] := by
        refine vv_aload_n hC 3 dL_law_57 rfl rfl (q := 58) rfl ?_
        refine vv_aload_n hC 4 dL_law_58 rfl rfl (q := 59) rfl ?_
        refine vv_fca hC hK hE hxN hz (cn_areAlike l hlst z ((actN S v).2)) (va_cwS 2 hC.2.2.2.2 gL_law_L_areAlike rfl rfl rfl hsL_areAlike ⟨Nat.le_of_ble_eq_true rfl, Nat.le_of_ble_eq_true rfl⟩) (Nat.le_of_ble_eq_true rfl) ⟨by show _ ≤ 600130; omega, by show _ ≤ 7301079; omega⟩ dL_law_59 (q := 62) rfl ?_
        refine vv_if_ne hC (tgt := 67) dL_law_62 (by decide) (q := 65) rfl (fun h62 => ?_) (fun h62 => ?_)
        · skip
          have join92 : vv p l e room_1 s m #[Value.ref b] below meth c 6 (AZ z) s.heap (180 + 3200 * k + 3200) (17674 + 19200 * k + 19200) Q (B2 D cI cW z ((actN S v).2) ((actN S v).2)) 92 [(5, .int ((actN S v).1)), (4, .int v), (0, .ref b), (1, .ref (adO z 0)), (2, .ref (adP z 0)), (3, .int (nI k))] [] := by
            refine vv_iinc hC (i := 3) (v := nI (k + 1)) (lv' := [(3, .int (nI (k + 1))), (5, .int ((actN S v).1)), (4, .int v), (0, .ref b), (1, .ref (adO z 0)), (2, .ref (adP z 0))]) 5 dL_law_92 rfl (by rw [show Int32.ofInt 1 = nI 1 from rfl, nI_add]) (by decide) rfl (q := 95) rfl ?_
            refine vv_goto hC (tgt := 18) dL_law_95 (by decide) ?_
            exact vv_widen (by omega) (by omega) (vv_lv [3, 4, 5, 0] rfl (ih (k + 1) (actN S v).2 (by omega) (by omega) hI1))
          refine vv_iload_n hC 5 dL_law_67 rfl rfl (q := 68) rfl ?_
          refine vv_bipush hC (v := nI 10) dL_law_68 rfl (q := 70) rfl ?_
          refine vv_irem hC dL_law_70 (by decide) (q := 71) rfl ?_
          refine vv_bipush hC (v := 9) dL_law_71 rfl (q := 73) rfl ?_
          refine vv_icmp_ne hC (tgt := 92) dL_law_73 (by decide) (q := 76) rfl (fun h73 => ?_) (fun h73 => ?_)
          · skip
            exact vv_widen (by omega) (by omega) join92
          · skip
            obtain ⟨⟨mm, hT⟩, hD⟩ := hok.2.1 (k + 1) (actN S v).2 (by omega) hI1
            refine vv_aload_n hC 3 dL_law_76 rfl rfl (q := 77) rfl ?_
            refine vv_fcn hC hK hE hxN (fun _ h => h) (hA_o hz) (As := [.ref (adO z 0)]) Foc_o (fun zz => cn_isTextSo l (adO_inj z) hlst (AZ z) zz ((actN S v).2) mm hT) (va_cwS 1 hC.2.2.2.2 gL_law_L_isTextSo rfl rfl rfl hsL_isTextSo ⟨Nat.le_of_ble_eq_true rfl, Nat.le_of_ble_eq_true rfl⟩) rfl rfl (Nat.le_of_ble_eq_true rfl) ⟨by show _ ≤ 600130; omega, by show _ ≤ 7301079; omega⟩ dL_law_77 (q := 80) rfl ?_
            refine vv_if_eq hC (tgt := 90) dL_law_80 (by decide) (q := 83) rfl (fun h80 => ?_) (fun h80 => ?_)
            · skip
              exact absurd h80 (by decide)
            · skip
              refine vv_aload_n hC 3 dL_law_83 rfl rfl (q := 84) rfl ?_
              refine vv_fcn hC hK hE hxN (fun _ h => h) (hA_o hz) (As := [.ref (adO z 0)]) Foc_o (fun zz => cn_areTiedSo l (adO_inj z) hlst (AZ z) zz ((actN S v).2) hD) (va_cwS 1 hC.2.2.2.2 gL_law_L_areTiedSo rfl rfl rfl hsL_areTiedSo ⟨Nat.le_of_ble_eq_true rfl, Nat.le_of_ble_eq_true rfl⟩) rfl rfl (Nat.le_of_ble_eq_true rfl) ⟨by show _ ≤ 600130; omega, by show _ ≤ 7301079; omega⟩ dL_law_84 (q := 87) rfl ?_
              refine vv_if_ne hC (tgt := 92) dL_law_87 (by decide) (q := 90) rfl (fun h87 => ?_) (fun h87 => ?_)
              · skip
                exact vv_widen (by omega) (by omega) join92
              · skip
                exact absurd h87 (by decide)
        · skip
          exact absurd h62 (by decide)
      refine vv_icmp_eq hC (tgt := 57) dL_law_43 (by decide) (q := 46) rfl (fun h43 => ?_) (fun h43 => ?_)
      · skip
        refine vv_cons (B1 := B2 D cI cW z (actN S v).2 (actN S v).2) (fun H h => by rw [hsame h43] at h ⊢; exact h) ?_
        exact vv_widen (by omega) (by omega) join57
      · skip
        refine vv_aload_n hC 4 dL_law_46 rfl rfl (q := 47) rfl ?_
        refine vv_iload hC 1 dL_law_47 rfl (q := 49) rfl ?_
        refine vv_fcn hC hK hE hxN (fun _ h => h) (hA_p hz) (As := [.ref (adP z 0), .int v]) Foc_p (fun zz => cn_act l (adP_inj z) hlst (AZ z) zz S v) (va_cwS 2 hC.2.2.2.2 gL_law_L_act rfl rfl rfl hsL_act ⟨Nat.le_of_ble_eq_true rfl, Nat.le_of_ble_eq_true rfl⟩) rfl rfl (Nat.le_of_ble_eq_true rfl) ⟨by show _ ≤ 600130; omega, by show _ ≤ 7301079; omega⟩ dL_law_49 (q := 52) rfl ?_
        refine vv_iload hC 0 dL_law_52 rfl (q := 54) rfl ?_
        refine vv_icmp_ne hC (tgt := 65) dL_law_54 (by decide) (q := 57) rfl (fun h54 => ?_) (fun h54 => ?_)
        · skip
          exact absurd rfl h54
        · skip
          exact vv_widen (by omega) (by omega) join57
theorem fC_ad {cI cW : ClassId} {ad ad' : Nat → Nat} (h : ∀ i, i < 90 → ad i = ad' i) (GG : Nat → Nat → Int32) (S : sC) : ∀ j, j < 90 → fC cI cW ad GG S j = fC cI cW ad' GG S j := by
  intro j hj
  have a5 := (show ∀ j, j < 90 → kd j = 5 → j + 1 < 90 by decide +kernel) j hj
  have a2 := (show ∀ j, j < 90 → kd j = 2 → j + 18 < 90 by decide +kernel) j hj
  have a6 := (show ∀ j, j < 90 → kd j = 6 → j + 11 < 90 by decide +kernel) j hj
  have a0 := (show ∀ j, j < 90 → kd j = 0 → j + 1 < 90 by decide +kernel) j hj
  have a7 := (show ∀ j, j < 90 → kd j = 7 → j + 3 < 90 by decide +kernel) j hj
  have a4 := (show ∀ j, j < 90 → kd j = 4 → j + 15 < 90 by decide +kernel) j hj
  have a3 := (show ∀ j, j < 90 → kd j = 3 → j + 5 < 90 by decide +kernel) j hj
  have a1 := (show ∀ j, j < 90 → kd j = 1 → j + 3 < 90 by decide +kernel) j hj
  unfold fC
  by_cases e5 : kd j = 5
  · rw [if_pos e5, if_pos e5, h _ (a5 e5)]
  rw [if_neg e5, if_neg e5]
  by_cases e : kd j = 100
  · rw [if_pos e, if_pos e]
  rw [if_neg e, if_neg e]
  by_cases e : kd j = 8
  · rw [if_pos e, if_pos e, h 1 (by decide), h 2 (by decide), h 22 (by decide), h 59 (by decide), h 61 (by decide), h 78 (by decide), h 85 (by decide)]
  rw [if_neg e, if_neg e]
  by_cases e : kd j = 2
  · have := a2 e
    rw [if_pos e, if_pos e, h (j + 1) (by omega), h (j + 14) (by omega), h (j + 16) (by omega), h (j + 18) (by omega)]
  rw [if_neg e, if_neg e]
  by_cases e : kd j = 6
  · have := a6 e
    rw [if_pos e, if_pos e, h (j + 1) (by omega), h (j + 3) (by omega), h (j + 5) (by omega), h (j + 7) (by omega), h (j + 9) (by omega), h (j + 11) (by omega)]
  rw [if_neg e, if_neg e]
  by_cases e : kd j = 0
  · rw [if_pos e, if_pos e, h _ (a0 e)]
  rw [if_neg e, if_neg e]
  by_cases e : kd j = 7
  · have := a7 e
    rw [if_pos e, if_pos e, h (j + 1) (by omega), h (j + 3) (by omega)]
  rw [if_neg e, if_neg e]
  by_cases e : kd j = 4
  · have := a4 e
    rw [if_pos e, if_pos e, h (j + 1) (by omega), h (j + 3) (by omega), h (j + 5) (by omega), h (j + 7) (by omega), h (j + 9) (by omega), h (j + 11) (by omega), h (j + 13) (by omega), h (j + 15) (by omega)]
  rw [if_neg e, if_neg e]
  by_cases e : kd j = 3
  · have := a3 e
    rw [if_pos e, if_pos e, h (j + 1) (by omega), h (j + 3) (by omega), h (j + 5) (by omega)]
  rw [if_neg e, if_neg e]
  by_cases e : kd j = 1
  · have := a1 e
    rw [if_pos e, if_pos e, h (j + 1) (by omega), h (j + 3) (by omega)]
  rw [if_neg e, if_neg e]
  have hg : (fun i => if i < 6 then some (ad (23 + 6 * i)) else none) = (fun i => if i < 6 then some (ad' (23 + 6 * i)) else none) := funext fun i => by
    by_cases hi : i < 6
    · rw [if_pos hi, if_pos hi, h _ (by omega)]
    · rw [if_neg hi, if_neg hi]
  rw [hg]
theorem wfC_00 : wfC S00 := fun j hj => by
  have h1 := (show ∀ j, j < 90 → kd j = 5 → (S00.1 j).length ≤ cap j by decide +kernel) j (kl5 hj)
  exact h1 hj
section VLS
variable {p : Program} {l : Launch} {e : Env} {R : Room} {s : State} {m : MethodId} {args : Array Value} {below : List Frame} {meth : Method} {c : Code} {nL : Nat} {cells slots : Nat} {Q : State → Prop} {pc q : Nat} {lv : List (Nat × Value)} {st : List Value} {cc bytes : ByteArray} {Ts wsY : List Cond} {own : String} {D : va_G} {y : MethodName} {rm : Room} {index maxL mc ms z : Nat} {cI cW cZ cL : ClassId} {G : Nat → va_E} {e9 : va_E} {P2 : (Nat → va_E) → Prop}
theorem vv_law2 (C : CallFix p m c cc nL s args Ts own) (hK : va_K D vwCl (tyL cI cW cZ cL) s) (hz : s.heap.size = z) (hAO : xC s) (hM : kC l y wsY rm D vwCl (tyL cI cW cZ cL) (adP z) (z + 90) 1 90 [.ref (adP z 0)] (agr 1 (fun _ => e9)) P2 mc ms) (cw : CallB R s args own index y bytes maxL none wsY rm mc ms 0 ∧ y.name = "<init>" ∧ (Cond.instanceMethod y).before args s = true) (hcat : (st.map fun v => v.category).sum ≤ 8) (hc : cells = 91) (hroom : cells + mc ≤ R.cells ∧ slots + ms ≤ R.slots) (d : decode cc pc = .ok (.invokespecial index, 3)) (hq : pc + 3 = q) (kk : vv p l e R s m args below meth c nL (AZ z) s.heap (cells + mc) (slots + ms) Q (fun H => wq D vwCl (fun i => z + i) 90 (agr 90 G) H ∧ wq D vwCl (adP z) 90 P2 H) q lv st) : vv p l e R s m args below meth c nL (AZ z) s.heap cells slots Q (wq D vwCl (fun i => z + i) 91 (agr 91 (ud G 90 e9))) pc lv (.ref (adP z 0) :: st) := by
  subst hq
  refine vv_sz (k := 0) (fun i => rfl) (by rw [hz, Nat.add_zero]) (by omega) (Or.inl (by omega)) fun H locs ls hsz hl hB hS => ?_
  obtain ⟨f, hf, hP⟩ := hB
  have h90 : wq D vwCl (fun i => z + i) 90 (agr 90 G) H := ⟨f, fun i hi => by rw [hf i (by omega), ud_ne (by omega)], fun k q hk => by
    obtain ⟨h1, rfl⟩ := WL_lt hk
    exact hP k _ (WL_get (show k < 91 by omega))⟩
  have h1 : wq D vwCl (adP z) 1 (agr 1 (fun _ => e9)) H := ⟨fun _ => e9, fun _ _ => rfl, fun k q hk => by
    obtain ⟨h1, rfl⟩ := WL_lt hk
    obtain rfl : k = 0 := by omega
    have := hP 90 _ (WL_get (show 90 < 91 by omega))
    rw [hf 90 (by omega), ud_eq] at this
    exact this⟩
  exact va_callv (va_runI (As := []) C hM cw ⟨kC_blind, fun U hU hW => ⟨rfl, by rw [hU, hsz], hAO.moved hW, by rw [hU]; exact h1, va_K.moved hW.alike hK⟩⟩ rfl rfl hl.1 rfl (lv_room hcat) d hroom) hS (fun q _ h => by have h2 : z + 90 ≤ q := h; show z ≤ q; omega) (fun q h => by have h2 : z + 90 ≤ q := h; show z ≤ q; omega) (fun u t H1 locs1 ht hvm hp hb1 hz1 hk hS1 => by
    subst ht
    exact kk _ _ ls hl ⟨wq_kept h90 fun j hj => hk _ (by omega) (fun h => by have h2 : z + 90 ≤ z + j := h; omega), hb1.2.1⟩ hS1)
theorem law3_up {H : Heap} (hB1 : wq D vwCl (fun i => z + i) 90 (agr 90 (G0 cI cW (fun i => z + i))) H) (hB2 : wq D vwCl (adP z) 90 (agr 90 (G0 cI cW (adP z))) H) : B2 D cI cW z S00 S00 H := by
  constructor
  · obtain ⟨f, hf, hP⟩ := hB1
    refine ⟨fC cI cW (adO z) (fun _ _ => 0) S00, ⟨wfC_00, fun _ _ => 0, rfl⟩, fun k q hk => ?_⟩
    obtain ⟨h6, rfl⟩ := WL_lt hk
    have h7 := hP k _ (WL_get h6)
    rw [hf k h6] at h7
    exact h7
  · obtain ⟨f, hf, hP⟩ := hB2
    refine ⟨fC cI cW (adP z) (fun _ _ => 0) S00, ⟨wfC_00, fun _ _ => 0, rfl⟩, fun k q hk => ?_⟩
    obtain ⟨h6, rfl⟩ := WL_lt hk
    have h7 := hP k _ (WL_get h6)
    rw [hf k h6] at h7
    exact h7
end VLS
set_option maxRecDepth 100000 in
set_option maxHeartbeats 4000000 in
theorem law_begin {p : Program} {l : Launch} {e : Env} {s : State} {m : MethodId} {below : List Frame} {meth : Method} {c : Code} {b L z : Nat} {xs : Nat → Int32} {D : va_G} {cI cW cZ cL : ClassId} {Q : State → Prop} {Inv : Nat → sC → Prop} (X : LX l s m c p b L z xs D cI cW cZ cL) (hAO : xC s) (hok : InvOK Inv) (hex : ∀ (cells slots : Nat) (lv : List (Nat × Value)) (B : Heap → Prop), cells ≤ 600130 ∧ slots ≤ 7301079 → vv p l e room_1 s m #[Value.ref b] below meth c 6 (AZ z) s.heap cells slots Q B 206 lv [.int 1]) (h0 : Inv 0 S00) : vv p l e room_1 s m #[Value.ref b] below meth c 6 (AZ z) s.heap 0 0 Q (wq D vwCl (fun i => z + i) 0 (agr 0 (fun _ => .inr (8, [.null, .null, .null, .null, .null, .null, .null, .int 0, .int 0])))) 0 [(0, .ref b)] [] := by
  obtain ⟨hC, hK, hz, hE, hN, hX, hbl, hlst, hL⟩ := id X
  have hAd : ∀ i, (fun i => z + i) i = z + i := fun i => rfl
  have hz0 : s.heap.size = z + 0 := hz
  refine vv_newC hC hK hAd hz0 (n := 0) rfl (Or.inr rfl) (K := RX8) (T := TX8) (N := 9) (ci := 8) inlX8 tyX8 tyX8_ok (List.mem_of_getElem? (i := 0) rfl) (List.mem_of_getElem? (i := 1) rfl) (List.mem_of_getElem? (i := 2) rfl) rfl (fs := [.null, .null, .null, .null, .null, .null, .null, .int 0, .int 0]) (fun j hj => match j, hj with | 0, _ => rfl | 1, _ => rfl | 2, _ => rfl | 3, _ => rfl | 4, _ => rfl | 5, _ => rfl | 6, _ => rfl | 7, _ => rfl | 8, _ => rfl | j + 9, h => absurd h (by omega)) (Nat.le_of_ble_eq_true rfl) (Nat.le_of_ble_eq_true rfl) (P1 := agr 1 (ud (fun _ => .inr (8, [.null, .null, .null, .null, .null, .null, .null, .int 0, .int 0])) 0 (.inr (8, [.null, .null, .null, .null, .null, .null, .null, .int 0, .int 0])))) (fun f h => agr_new _ h) dL_law_0 (q := 3) rfl ?_
  refine vv_dup hC dL_law_3 rfl (q := 4) rfl ?_
  refine vv_callC hC hK hAd hz0 (n := 1) rfl (Or.inl (by decide)) (n2 := 90) hAO (a := z + 0) (As := []) (c8_init l hAd _ _ rfl ud_eq) (cwI 0 hC.2.2.2.2 gL_law_X8_init rfl rfl rfl (hC.2.2.2.2 _ (List.mem_of_getElem? (i := 2) rfl)) (hC.2.2.2.2 _ (List.mem_of_getElem? (i := 4) rfl)) (hC.2.2.2.2 _ (List.mem_of_getElem? (i := 5) rfl)) rfl hdX8_init ⟨Nat.le_of_ble_eq_true rfl, Nat.le_of_ble_eq_true rfl⟩) rfl rfl (Nat.le_of_ble_eq_true rfl) ⟨Nat.le_of_ble_eq_true rfl, Nat.le_of_ble_eq_true rfl⟩ dL_law_4 (q := 7) rfl ?_
  refine vv_wq (P1 := agr 90 (G0 cI cW (fun i => z + i))) (fun f h i hi => by rw [h i hi, mix, if_neg (Nat.not_lt_zero i)]) ?_
  refine vv_astore_n hC (i := 1) (lv' := [(1, .ref (z + 0)), (0, .ref b)]) dL_law_7 rfl (by decide) rfl (q := 8) rfl ?_
  refine vv_newC hC hK hAd hz0 (n := 90) rfl (Or.inl (by decide)) (K := RX8) (T := TX8) (N := 9) (ci := 8) inlX8 tyX8 tyX8_ok (List.mem_of_getElem? (i := 0) rfl) (List.mem_of_getElem? (i := 1) rfl) (List.mem_of_getElem? (i := 2) rfl) rfl (fs := [.null, .null, .null, .null, .null, .null, .null, .int 0, .int 0]) (fun j hj => match j, hj with | 0, _ => rfl | 1, _ => rfl | 2, _ => rfl | 3, _ => rfl | 4, _ => rfl | 5, _ => rfl | 6, _ => rfl | 7, _ => rfl | 8, _ => rfl | j + 9, h => absurd h (by omega)) (Nat.le_of_ble_eq_true rfl) (Nat.le_of_ble_eq_true rfl) (P1 := agr 91 (ud (G0 cI cW (fun i => z + i)) 90 (.inr (8, [.null, .null, .null, .null, .null, .null, .null, .int 0, .int 0])))) (fun f h => agr_new _ h) dL_law_8 (q := 11) rfl ?_
  refine vv_dup hC dL_law_11 rfl (q := 12) rfl ?_
  refine vv_law2 hC hK hz hAO (c8_init l (ad := adP z) (fun i => rfl) (fun _ => .inr (8, [.null, .null, .null, .null, .null, .null, .null, .int 0, .int 0])) _ rfl rfl) (cwI 0 hC.2.2.2.2 gL_law_X8_init rfl rfl rfl (hC.2.2.2.2 _ (List.mem_of_getElem? (i := 2) rfl)) (hC.2.2.2.2 _ (List.mem_of_getElem? (i := 4) rfl)) (hC.2.2.2.2 _ (List.mem_of_getElem? (i := 5) rfl)) rfl hdX8_init ⟨Nat.le_of_ble_eq_true rfl, Nat.le_of_ble_eq_true rfl⟩) (Nat.le_of_ble_eq_true rfl) rfl ⟨Nat.le_of_ble_eq_true rfl, Nat.le_of_ble_eq_true rfl⟩ dL_law_12 (q := 15) rfl ?_
  refine vv_cons (B1 := B2 D cI cW z S00 S00) (fun H hB => law3_up hB.1 (by obtain ⟨f, hf, hP⟩ := hB.2; exact ⟨f, fun i hi => by rw [hf i hi, mix, if_neg (Nat.not_lt_zero i)], hP⟩)) ?_
  refine vv_astore_n hC (i := 2) (lv' := [(2, .ref (adP z 0)), (1, .ref (z + 0)), (0, .ref b)]) dL_law_15 rfl (by decide) rfl (q := 16) rfl ?_
  refine vv_iconst hC (v := nI 0) dL_law_16 rfl (q := 17) rfl ?_
  refine vv_istore_n hC (i := 3) (lv' := [(3, .int (nI 0)), (2, .ref (adP z 0)), (1, .ref (z + 0)), (0, .ref b)]) dL_law_17 rfl (by decide) rfl (q := 18) rfl ?_
  refine vv_widen (k := 180 + 3200 * 0) (n := 17674 + 19200 * 0) (Nat.le_of_ble_eq_true rfl) (Nat.le_of_ble_eq_true rfl) ?_
  exact vv_lv [3, 2, 1, 0] rfl (law_loop X hok hex 111 0 S00 (by omega) (by omega) h0)
