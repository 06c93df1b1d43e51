/-! the reference: merging, the text -/
theorem inwX9_comeIn_X9 : ∀ w ∈ wsX90, w ∈ wsX9_comeIn := fun _ h => List.mem_cons_of_mem _ (List.mem_append_right _ h)
theorem hdX9_comeIn : yX9_comeIn.cls = RX9 ∧ yX9_comeIn.cls ≠ "java/lang/invoke/MethodHandle" ∧ yX9_comeIn.cls ≠ "java/lang/invoke/VarHandle" ∧ (parseMethodDescriptor yX9_comeIn.desc).map (fun d => d.parameters.length) = some 1 := by decide +kernel
set_option maxRecDepth 100000 in
set_option maxHeartbeats 4000000 in
theorem c9_comeIn (l : Launch) {D : va_G} {cI cW cZ cL : ClassId} {ad : Nat → Nat} (hJ : injA ad 27) (S : sM) (n : Nat) (hI : IM S) (hn : n < S.1 1) (hR : S.1 8 < 300)  : kMi l yX9_comeIn wsX9_comeIn ({ frames := 1, cells := 0, slots := 0, locals := 23 }) D vwCl (tyL cI cW cZ cL) ad 27 [.ref (ad 0), .int (nI n)] (PM cI cZ ad S) (bI (!mRef S (mAt S n))) (PM cI cZ ad (if mRef S (mAt S n) = true then S else mComeS S n)) := by
  refine vv_enter (cc := cX9_comeIn) (maxL := 7) (ret := (some .boolean)) (own := RX9) (lv := [(0, .ref (ad 0)), (1, .int (nI n))]) (by decide +kernel) rfl rfl hJ (Nat.le_of_ble_eq_true rfl) rfl ?_
  intro p e s m args below meth c hC hK hW hr hlk
  obtain ⟨iW, iR, iV, iI, iC, iK, iD, irow, ianc, iwr, icl, icc, irv⟩ := id hI
  have join108 : mRef S (mAt S n) = false → vv p l e (headSpec wsX9_comeIn ({ frames := 1, cells := 0, slots := 0, locals := 23 })).room s m args below meth c 7 (RA ad 27) s.heap 0 0 (MQ below (va_Qi (fun r' (_ : Unit) => r' = (bI (!mRef S (mAt S n)))) (fun _ => ws0 D vwCl (tyL cI cW cZ cL) ad 27 (PM cI cZ ad (if mRef S (mAt S n) = true then S else mComeS S n))) (RA ad 27)) args s 0 0 (RA ad 27)) (wq D vwCl ad 27 (PM cI cZ ad S)) 108 [(0, .ref (ad 0)), (1, .int (nI n)), (3, .int (nI (mAt S n)))] [] := by
    intro hnr
    have hat : mAt S n ≤ S.1 8 := mAt_le n (by omega)
    refine vv_aload_n hC 0 dX9_comeIn_108 rfl rfl (q := 109) rfl ?_
    refine vv_get hC hK (K := RX9) (T := TX9) (N := 35) (ci := 9) inwX9_comeIn_X9 0 (by decide) (fs := fldM ad S) om0 rfl 8 (by decide) (List.mem_of_getElem? (i := 4) rfl) rfl (v := .int (nI (S.1 8))) rfl dX9_comeIn_109 (q := 112) rfl ?_
    refine vv_istore hC (i := 6) (lv' := [(6, .int (nI (S.1 8))), (0, .ref (ad 0)), (1, .int (nI n)), (3, .int (nI (mAt S n)))]) dX9_comeIn_112 (by decide) rfl (q := 114) rfl ?_
    have loop114 : ∀ (fu : Nat) (k : Nat), k < fu → mAt S n ≤ k → k ≤ S.1 8 → vv p l e (headSpec wsX9_comeIn ({ frames := 1, cells := 0, slots := 0, locals := 23 })).room s m args below meth c 7 (RA ad 27) s.heap 0 0 (MQ below (va_Qi (fun r' (_ : Unit) => r' = (bI (!mRef S (mAt S n)))) (fun _ => ws0 D vwCl (tyL cI cW cZ cL) ad 27 (PM cI cZ ad (if mRef S (mAt S n) = true then S else mComeS S n))) (RA ad 27)) args s 0 0 (RA ad 27)) (wq D vwCl ad 27 (PM cI cZ ad (sA S 7 (shf (S.2 7) k (S.1 8))))) 114 [(0, .ref (ad 0)), (1, .int (nI n)), (3, .int (nI (mAt S n))), (6, .int (nI k))] [] := by
      intro fu
      induction fu with
      | zero =>
        intro k hfu hk1 hk2
        exact absurd hfu (Nat.not_lt_zero _)
      | succ fu ih =>
        intro k hfu hk1 hk2
        refine vv_iload hC 3 dX9_comeIn_114 rfl (q := 116) rfl ?_
        refine vv_iload_n hC 2 dX9_comeIn_116 rfl rfl (q := 117) rfl ?_
        refine vv_icmpN_le hC (tgt := 142) (by omega) (by omega) dX9_comeIn_117 (by decide) (q := 120) rfl (fun h117 => ?_) (fun h117 => ?_)
        · skip
          obtain rfl : k = mAt S n := by omega
          refine vv_aload_n hC 0 dX9_comeIn_142 rfl rfl (q := 143) rfl ?_
          refine vv_get hC hK (K := RX9) (T := TX9) (N := 35) (ci := 9) inwX9_comeIn_X9 0 (by decide) (fs := fldM ad (sA S 7 (shf (S.2 7) (mAt S n) (S.1 8)))) om0 rfl 9 (by decide) (List.mem_of_getElem? (i := 5) rfl) rfl (v := .ref (ad 7)) rfl dX9_comeIn_143 (q := 146) rfl ?_
          refine vv_iload_n hC 2 dX9_comeIn_146 rfl rfl (q := 147) rfl ?_
          refine vv_iload_n hC 1 dX9_comeIn_147 rfl rfl (q := 148) rfl ?_
          refine vv_iastN (P := PM cI cZ ad (sA S 7 (shf (S.2 7) (mAt S n) (S.1 8)))) hC hK hW (P1 := PM cI cZ ad (sA S 7 (upd (shf (S.2 7) (mAt S n) (S.1 8)) (mAt S n) (nI n)))) 7 (by decide) 0 (g := shf (S.2 7) (mAt S n) (S.1 8)) (omI (by decide) rfl) rfl (show mAt S n < 300 from (by omega)) (by decide) (fun f h => by rw [← sA_sA (g := shf (S.2 7) (mAt S n) (S.1 8))]; exact om_aI (j := 7) (by decide) rfl _ f h) dX9_comeIn_148 (q := 149) rfl ?_
          refine vv_aload_n hC 0 dX9_comeIn_149 rfl rfl (q := 150) rfl ?_
          refine vv_dup hC dX9_comeIn_150 rfl (q := 151) rfl ?_
          refine vv_get hC hK (K := RX9) (T := TX9) (N := 35) (ci := 9) inwX9_comeIn_X9 0 (by decide) (fs := fldM ad (sA S 7 (upd (shf (S.2 7) (mAt S n) (S.1 8)) (mAt S n) (nI n)))) om0 rfl 8 (by decide) (List.mem_of_getElem? (i := 4) rfl) rfl (v := .int (nI (S.1 8))) rfl dX9_comeIn_151 (q := 154) rfl ?_
          refine vv_iconst hC (v := nI 1) dX9_comeIn_154 rfl (q := 155) rfl ?_
          refine vv_iaddN hC dX9_comeIn_155 (q := 156) rfl ?_
          refine vv_put hC hK hW (P1 := PM cI cZ ad (sS (sA S 7 (upd (shf (S.2 7) (mAt S n) (S.1 8)) (mAt S n) (nI n))) 8 ((S.1 8) + 1))) (K := RX9) (T := TX9) (N := 35) (ci := 9) inwX9_comeIn_X9 tyX9 tyX9_ok nmX9 0 (by decide) (fs := fldM ad (sA S 7 (upd (shf (S.2 7) (mAt S n) (S.1 8)) (mAt S n) (nI n)))) om0 rfl (ty := .int) 8 (by decide) (List.mem_of_getElem? (i := 4) rfl) rfl rfl (by decide +kernel) rfl rfl (Nat.le_of_ble_eq_true rfl) (om_s8 _) dX9_comeIn_156 (q := 159) rfl ?_
          refine vv_aload_n hC 0 dX9_comeIn_159 rfl rfl (q := 160) rfl ?_
          refine vv_get hC hK (K := RX9) (T := TX9) (N := 35) (ci := 9) inwX9_comeIn_X9 0 (by decide) (fs := fldM ad (sS (sA S 7 (upd (shf (S.2 7) (mAt S n) (S.1 8)) (mAt S n) (nI n))) 8 ((S.1 8) + 1))) om0 rfl 5 (by decide) (List.mem_of_getElem? (i := 2) rfl) rfl (v := .ref (ad 4)) rfl dX9_comeIn_160 (q := 163) rfl ?_
          refine vv_iload_n hC 1 dX9_comeIn_163 rfl rfl (q := 164) rfl ?_
          refine vv_iconst hC (v := nI 1) dX9_comeIn_164 rfl (q := 165) rfl ?_
          refine vv_zastN (P := PM cI cZ ad (sS (sA S 7 (upd (shf (S.2 7) (mAt S n) (S.1 8)) (mAt S n) (nI n))) 8 ((S.1 8) + 1))) hC hK hW (P1 := PM cI cZ ad (sA (sS (sA S 7 (upd (shf (S.2 7) (mAt S n) (S.1 8)) (mAt S n) (nI n))) 8 ((S.1 8) + 1)) 4 (upd (S.2 4) n b1))) 4 (by decide) 2 (g := S.2 4) (omZ (by decide) rfl) rfl (show n < 300 from (by omega)) (by decide) (om_aZ (j := 4) (by decide) rfl _) dX9_comeIn_165 (q := 166) rfl ?_
          refine vv_aload_n hC 0 dX9_comeIn_166 rfl rfl (q := 167) rfl ?_
          refine vv_get hC hK (K := RX9) (T := TX9) (N := 35) (ci := 9) inwX9_comeIn_X9 0 (by decide) (fs := fldM ad (sA (sS (sA S 7 (upd (shf (S.2 7) (mAt S n) (S.1 8)) (mAt S n) (nI n))) 8 ((S.1 8) + 1)) 4 (upd (S.2 4) n b1))) om0 rfl 6 (by decide) (List.mem_of_getElem? (i := 6) rfl) rfl (v := .ref (ad 5)) rfl dX9_comeIn_167 (q := 170) rfl ?_
          refine vv_iload_n hC 1 dX9_comeIn_170 rfl rfl (q := 171) rfl ?_
          refine vv_iconst hC (v := nI 1) dX9_comeIn_171 rfl (q := 172) rfl ?_
          refine vv_zastN (P := PM cI cZ ad (sA (sS (sA S 7 (upd (shf (S.2 7) (mAt S n) (S.1 8)) (mAt S n) (nI n))) 8 ((S.1 8) + 1)) 4 (upd (S.2 4) n b1))) hC hK hW (P1 := PM cI cZ ad (sA (sA (sS (sA S 7 (upd (shf (S.2 7) (mAt S n) (S.1 8)) (mAt S n) (nI n))) 8 ((S.1 8) + 1)) 4 (upd (S.2 4) n b1)) 5 (upd (S.2 5) n b1))) 5 (by decide) 2 (g := S.2 5) (omZ (by decide) rfl) rfl (show n < 300 from (by omega)) (by decide) (om_aZ (j := 5) (by decide) rfl _) dX9_comeIn_172 (q := 173) rfl ?_
          refine vv_iconst hC (v := nI 1) dX9_comeIn_173 rfl (q := 174) rfl ?_
          exact vv_zret hC hK hr hlk rfl (by rw [hnr]; rfl) (fun f h => by rw [hnr, if_neg Bool.false_ne_true]; exact h) dX9_comeIn_174
        · skip
          refine vv_aload_n hC 0 dX9_comeIn_120 rfl rfl (q := 121) rfl ?_
          refine vv_get hC hK (K := RX9) (T := TX9) (N := 35) (ci := 9) inwX9_comeIn_X9 0 (by decide) (fs := fldM ad (sA S 7 (shf (S.2 7) k (S.1 8)))) om0 rfl 9 (by decide) (List.mem_of_getElem? (i := 5) rfl) rfl (v := .ref (ad 7)) rfl dX9_comeIn_121 (q := 124) rfl ?_
          refine vv_iload hC 3 dX9_comeIn_124 rfl (q := 126) rfl ?_
          refine vv_aload_n hC 0 dX9_comeIn_126 rfl rfl (q := 127) rfl ?_
          refine vv_get hC hK (K := RX9) (T := TX9) (N := 35) (ci := 9) inwX9_comeIn_X9 0 (by decide) (fs := fldM ad (sA S 7 (shf (S.2 7) k (S.1 8)))) om0 rfl 9 (by decide) (List.mem_of_getElem? (i := 5) rfl) rfl (v := .ref (ad 7)) rfl dX9_comeIn_127 (q := 130) rfl ?_
          refine vv_iload hC 3 dX9_comeIn_130 rfl (q := 132) rfl ?_
          refine vv_iconst hC (v := nI 1) dX9_comeIn_132 rfl (q := 133) rfl ?_
          refine vv_isubN hC (by omega) dX9_comeIn_133 (q := 134) rfl ?_
          refine vv_ialdN (P := PM cI cZ ad (sA S 7 (shf (S.2 7) k (S.1 8)))) hC hK 7 (by decide) 0 (g := shf (S.2 7) k (S.1 8)) (omI (by decide) rfl) rfl (show k - 1 < 300 from (by omega)) (by decide) dX9_comeIn_134 (q := 135) rfl ?_
          refine vv_iastN (P := PM cI cZ ad (sA S 7 (shf (S.2 7) k (S.1 8)))) hC hK hW (P1 := PM cI cZ ad (sA S 7 (upd (shf (S.2 7) k (S.1 8)) k ((shf (S.2 7) k (S.1 8)) (k - 1))))) 7 (by decide) 0 (g := shf (S.2 7) k (S.1 8)) (omI (by decide) rfl) rfl (show k < 300 from (by omega)) (by decide) (fun f h => by rw [← sA_sA (g := shf (S.2 7) k (S.1 8))]; exact om_aI (j := 7) (by decide) rfl _ f h) dX9_comeIn_135 (q := 136) rfl ?_
          refine vv_iinc hC (i := 6) (v := nI (k - 1)) (lv' := [(6, .int (nI (k - 1))), (0, .ref (ad 0)), (1, .int (nI n)), (3, .int (nI (mAt S n)))]) 3 dX9_comeIn_136 rfl (nI_decN (by omega)) (by decide) rfl (q := 139) rfl ?_
          refine vv_goto hC (tgt := 114) dX9_comeIn_139 (by decide) ?_
          refine vv_lv [1, 2, 3, 0] (lv' := [(0, .ref (ad 0)), (1, .int (nI n)), (3, .int (nI (mAt S n))), (6, .int (nI (k - 1)))]) rfl ?_
          refine vv_wq (P1 := PM cI cZ ad (sA S 7 (shf (S.2 7) (k - 1) (S.1 8)))) (fun f h => by rw [← shf_dn (by omega) (by omega)]; exact h) ?_
          exact ih (k - 1) (by omega) (by omega) (by omega)
    refine vv_lv [1, 2, 3, 0] (lv' := [(0, .ref (ad 0)), (1, .int (nI n)), (3, .int (nI (mAt S n))), (6, .int (nI (S.1 8)))]) rfl ?_
    refine vv_wq (P1 := PM cI cZ ad (sA S 7 (shf (S.2 7) (S.1 8) (S.1 8)))) (fun f h => by rw [shf_id]; exact sA_id.symm ▸ h) ?_
    exact loop114 301 (S.1 8) (by omega) hat (Nat.le_refl _)
  have join47 : vv p l e (headSpec wsX9_comeIn ({ frames := 1, cells := 0, slots := 0, locals := 23 })).room s m args below meth c 7 (RA ad 27) s.heap 0 0 (MQ below (va_Qi (fun r' (_ : Unit) => r' = (bI (!mRef S (mAt S n)))) (fun _ => ws0 D vwCl (tyL cI cW cZ cL) ad 27 (PM cI cZ ad (if mRef S (mAt S n) = true then S else mComeS S n))) (RA ad 27)) args s 0 0 (RA ad 27)) (wq D vwCl ad 27 (PM cI cZ ad S)) 47 [(0, .ref (ad 0)), (1, .int (nI n))] [.int (nI (mAt S n))] := by
    refine vv_istore_n hC (i := 3) (lv' := [(3, .int (nI (mAt S n))), (0, .ref (ad 0)), (1, .int (nI n))]) dX9_comeIn_47 rfl (by decide) rfl (q := 48) rfl ?_
    refine vv_aload_n hC 1 dX9_comeIn_48 rfl rfl (q := 49) rfl ?_
    refine vv_iload_n hC 0 dX9_comeIn_49 rfl rfl (q := 50) rfl ?_
    refine vv_iconst hC (v := nI 1) dX9_comeIn_50 rfl (q := 51) rfl ?_
    refine vv_isub hC dX9_comeIn_51 (q := 52) rfl ?_
    refine vv_iconst hC (v := (-1)) dX9_comeIn_52 rfl (q := 53) rfl ?_
    refine vv_calli hC hK (fun _ h => h) (As := [.int ((nI (mAt S n)) - (nI 1)), .int (-1)]) 0 (by decide) or9 rfl (c9_nearestL l hJ S (mAt S n) (mAt_le n (by omega)) hI) (cwV 2 hC.2.2.2.2 gX9_comeIn_X9_nearest rfl rfl rfl hdX9_nearest ⟨Nat.le_of_ble_eq_true rfl, Nat.le_of_ble_eq_true rfl⟩) rfl rfl (Nat.le_of_ble_eq_true rfl) ⟨Nat.le_of_ble_eq_true rfl, Nat.le_of_ble_eq_true rfl⟩ dX9_comeIn_53 (q := 56) rfl ?_
    refine vv_istore hC (i := 4) (lv' := [(4, .int (mNearL S (mAt S n))), (3, .int (nI (mAt S n))), (0, .ref (ad 0)), (1, .int (nI n))]) dX9_comeIn_56 (by decide) rfl (q := 58) rfl ?_
    refine vv_aload_n hC 2 dX9_comeIn_58 rfl rfl (q := 59) rfl ?_
    refine vv_iload_n hC 1 dX9_comeIn_59 rfl rfl (q := 60) rfl ?_
    refine vv_iconst hC (v := nI 1) dX9_comeIn_60 rfl (q := 61) rfl ?_
    refine vv_calli hC hK (fun _ h => h) (As := [.int (nI (mAt S n)), .int (nI 1)]) 0 (by decide) or9 rfl (c9_nearestR l hJ S (mAt S n) (mAt_le n (by omega)) hI) (cwV 2 hC.2.2.2.2 gX9_comeIn_X9_nearest rfl rfl rfl hdX9_nearest ⟨Nat.le_of_ble_eq_true rfl, Nat.le_of_ble_eq_true rfl⟩) rfl rfl (Nat.le_of_ble_eq_true rfl) ⟨Nat.le_of_ble_eq_true rfl, Nat.le_of_ble_eq_true rfl⟩ dX9_comeIn_61 (q := 64) rfl ?_
    refine vv_istore hC (i := 5) (lv' := [(5, .int (mNearR S 301 (mAt S n))), (4, .int (mNearL S (mAt S n))), (3, .int (nI (mAt S n))), (0, .ref (ad 0)), (1, .int (nI n))]) dX9_comeIn_64 (by decide) rfl (q := 66) rfl ?_
    refine vv_iload hC 1 dX9_comeIn_66 rfl (q := 68) rfl ?_
    refine vv_iconst hC (v := (-1)) dX9_comeIn_68 rfl (q := 69) rfl ?_
    refine vv_icmp_eq hC (tgt := 108) dX9_comeIn_69 (by decide) (q := 72) rfl (fun h69 => ?_) (fun h69 => ?_)
    · skip
      refine vv_lv [3, 4, 2] (lv' := [(0, .ref (ad 0)), (1, .int (nI n)), (3, .int (nI (mAt S n)))]) rfl ?_
      exact join108 (by simp [mRef, h69])
    · skip
      refine vv_iload hC 0 dX9_comeIn_72 rfl (q := 74) rfl ?_
      refine vv_iconst hC (v := (-1)) dX9_comeIn_74 rfl (q := 75) rfl ?_
      refine vv_icmp_eq hC (tgt := 108) dX9_comeIn_75 (by decide) (q := 78) rfl (fun h75 => ?_) (fun h75 => ?_)
      · skip
        refine vv_lv [3, 4, 2] (lv' := [(0, .ref (ad 0)), (1, .int (nI n)), (3, .int (nI (mAt S n)))]) rfl ?_
        exact join108 (by simp [mRef, h69, h75])
      · skip
        obtain ⟨eL, lL⟩ : mNearL S (mAt S n) = nI (tn (mNearL S (mAt S n))) ∧ tn (mNearL S (mAt S n)) < S.1 1 := by obtain ⟨i, hi, e⟩ := (mNearL_in _).resolve_left h69; rw [e]; exact irow i (by have := mAt_le (S := S) n (by omega); omega)
        obtain ⟨eR, lR⟩ : mNearR S 301 (mAt S n) = nI (tn (mNearR S 301 (mAt S n))) ∧ tn (mNearR S 301 (mAt S n)) < S.1 1 := by obtain ⟨i, hi, e⟩ := (mNearR_in _ _).resolve_left h75; rw [e]; exact irow i hi
        refine vv_eql (lv' := [(5, .int (nI (tn (mNearR S 301 (mAt S n))))), (4, .int (nI (tn (mNearL S (mAt S n))))), (3, .int (nI (mAt S n))), (0, .ref (ad 0)), (1, .int (nI n))]) (by rw [← eL, ← eR]) ?_
        refine vv_aload_n hC 3 dX9_comeIn_78 rfl rfl (q := 79) rfl ?_
        refine vv_get hC hK (K := RX9) (T := TX9) (N := 35) (ci := 9) inwX9_comeIn_X9 0 (by decide) (fs := fldM ad S) om0 rfl 7 (by decide) (List.mem_of_getElem? (i := 3) rfl) rfl (v := .ref (ad 6)) rfl dX9_comeIn_79 (q := 82) rfl ?_
        refine vv_iload hC 1 dX9_comeIn_82 rfl (q := 84) rfl ?_
        refine vv_ialdN (P := PM cI cZ ad S) hC hK 6 (by decide) 0 (g := S.2 6) (omI (by decide) rfl) rfl (show tn (mNearL S (mAt S n)) < 300 from (by omega)) (by decide) dX9_comeIn_84 (q := 85) rfl ?_
        refine vv_iconst hC (v := (-1)) dX9_comeIn_85 rfl (q := 86) rfl ?_
        refine vv_icmp_eq hC (tgt := 108) dX9_comeIn_86 (by decide) (q := 89) rfl (fun h86 => ?_) (fun h86 => ?_)
        · skip
          refine vv_lv [3, 4, 2] (lv' := [(0, .ref (ad 0)), (1, .int (nI n)), (3, .int (nI (mAt S n)))]) rfl ?_
          exact join108 (by simp [mRef, h69, h75, h86])
        · skip
          refine vv_aload_n hC 3 dX9_comeIn_89 rfl rfl (q := 90) rfl ?_
          refine vv_get hC hK (K := RX9) (T := TX9) (N := 35) (ci := 9) inwX9_comeIn_X9 0 (by decide) (fs := fldM ad S) om0 rfl 7 (by decide) (List.mem_of_getElem? (i := 3) rfl) rfl (v := .ref (ad 6)) rfl dX9_comeIn_90 (q := 93) rfl ?_
          refine vv_iload hC 1 dX9_comeIn_93 rfl (q := 95) rfl ?_
          refine vv_ialdN (P := PM cI cZ ad S) hC hK 6 (by decide) 0 (g := S.2 6) (omI (by decide) rfl) rfl (show tn (mNearL S (mAt S n)) < 300 from (by omega)) (by decide) dX9_comeIn_95 (q := 96) rfl ?_
          refine vv_aload_n hC 3 dX9_comeIn_96 rfl rfl (q := 97) rfl ?_
          refine vv_get hC hK (K := RX9) (T := TX9) (N := 35) (ci := 9) inwX9_comeIn_X9 0 (by decide) (fs := fldM ad S) om0 rfl 7 (by decide) (List.mem_of_getElem? (i := 3) rfl) rfl (v := .ref (ad 6)) rfl dX9_comeIn_97 (q := 100) rfl ?_
          refine vv_iload hC 0 dX9_comeIn_100 rfl (q := 102) rfl ?_
          refine vv_ialdN (P := PM cI cZ ad S) hC hK 6 (by decide) 0 (g := S.2 6) (omI (by decide) rfl) rfl (show tn (mNearR S 301 (mAt S n)) < 300 from (by omega)) (by decide) dX9_comeIn_102 (q := 103) rfl ?_
          refine vv_icmp_ne hC (tgt := 108) dX9_comeIn_103 (by decide) (q := 106) rfl (fun h103 => ?_) (fun h103 => ?_)
          · skip
            refine vv_lv [3, 4, 2] (lv' := [(0, .ref (ad 0)), (1, .int (nI n)), (3, .int (nI (mAt S n)))]) rfl ?_
            exact join108 (by simp [mRef, h69, h75, h86, h103])
          · skip
            refine vv_iconst hC (v := nI 0) dX9_comeIn_106 rfl (q := 107) rfl ?_
            exact vv_zret hC hK hr hlk rfl (by rw [show mRef S (mAt S n) = true by rw [mRef, decide_eq_false h69, decide_eq_false h75, decide_eq_false h86, decide_eq_true h103]; rfl]; rfl) (fun f h => by rw [if_pos (show mRef S (mAt S n) = true by rw [mRef, decide_eq_false h69, decide_eq_false h75, decide_eq_false h86, decide_eq_true h103]; rfl)]; exact h) dX9_comeIn_107
  have join31 : vv p l e (headSpec wsX9_comeIn ({ frames := 1, cells := 0, slots := 0, locals := 23 })).room s m args below meth c 7 (RA ad 27) s.heap 0 0 (MQ below (va_Qi (fun r' (_ : Unit) => r' = (bI (!mRef S (mAt S n)))) (fun _ => ws0 D vwCl (tyL cI cW cZ cL) ad 27 (PM cI cZ ad (if mRef S (mAt S n) = true then S else mComeS S n))) (RA ad 27)) args s 0 0 (RA ad 27)) (wq D vwCl ad 27 (PM cI cZ ad S)) 31 [(0, .ref (ad 0)), (1, .int (nI n)), (2, .int (mAnc S n))] [] := by
    refine vv_iload_n hC 2 dX9_comeIn_31 rfl rfl (q := 32) rfl ?_
    refine vv_iconst hC (v := (-1)) dX9_comeIn_32 rfl (q := 33) rfl ?_
    refine vv_icmp_ne hC (tgt := 40) dX9_comeIn_33 (by decide) (q := 36) rfl (fun h33 => ?_) (fun h33 => ?_)
    · skip
      refine vv_aload_n hC 0 dX9_comeIn_40 rfl rfl (q := 41) rfl ?_
      refine vv_iload_n hC 2 dX9_comeIn_41 rfl rfl (q := 42) rfl ?_
      refine vv_calli hC hK (fun _ h => h) (As := [.int (mAnc S n)]) 0 (by decide) or9 rfl (c9_indexOf l hJ S (mAnc S n) hI) (cwV 1 hC.2.2.2.2 gX9_comeIn_X9_indexOf rfl rfl rfl hdX9_indexOf ⟨Nat.le_of_ble_eq_true rfl, Nat.le_of_ble_eq_true rfl⟩) rfl rfl (Nat.le_of_ble_eq_true rfl) ⟨Nat.le_of_ble_eq_true rfl, Nat.le_of_ble_eq_true rfl⟩ dX9_comeIn_42 (q := 45) rfl ?_
      refine vv_iconst hC (v := nI 1) dX9_comeIn_45 rfl (q := 46) rfl ?_
      refine vv_iadd hC dX9_comeIn_46 (q := 47) rfl ?_
      refine vv_lv [0, 1] (lv' := [(0, .ref (ad 0)), (1, .int (nI n))]) rfl ?_
      exact vv_eqv (st' := [.int (nI (mAt S n))]) (by rw [mAt, if_neg h33, show mIdx S (mAnc S n) + nI 1 = mIdx S (mAnc S n) + 1 from rfl, mPos_1 _ (by omega)]) join47
    · skip
      refine vv_iconst hC (v := nI 0) dX9_comeIn_36 rfl (q := 37) rfl ?_
      refine vv_goto hC (tgt := 47) dX9_comeIn_37 (by decide) ?_
      refine vv_lv [0, 1] (lv' := [(0, .ref (ad 0)), (1, .int (nI n))]) rfl ?_
      exact vv_eqv (st' := [.int (nI (mAt S n))]) (by rw [mAt, if_pos h33]) join47
  refine vv_aload_n hC 0 dX9_comeIn_0 rfl rfl (q := 1) rfl ?_
  refine vv_get hC hK (K := RX9) (T := TX9) (N := 35) (ci := 9) inwX9_comeIn_X9 0 (by decide) (fs := fldM ad S) om0 rfl 4 (by decide) (List.mem_of_getElem? (i := 1) rfl) rfl (v := .ref (ad 3)) rfl dX9_comeIn_1 (q := 4) rfl ?_
  refine vv_iload_n hC 1 dX9_comeIn_4 rfl rfl (q := 5) rfl ?_
  refine vv_ialdN (P := PM cI cZ ad S) hC hK 3 (by decide) 0 (g := S.2 3) (omI (by decide) rfl) rfl (show n < 300 from (by omega)) (by decide) dX9_comeIn_5 (q := 6) rfl ?_
  refine vv_istore_n hC (i := 2) (lv' := [(2, .int (S.2 3 n)), (0, .ref (ad 0)), (1, .int (nI n))]) dX9_comeIn_6 rfl (by decide) rfl (q := 7) rfl ?_
  have loop7 : ∀ (fu : Nat) (a : Int32) (r : Nat), r < fu → a = -1 ∨ (a = nI (tn a) ∧ tn a < S.1 1 ∧ tn a < r) → mAncF S r a = mAnc S n → vv p l e (headSpec wsX9_comeIn ({ frames := 1, cells := 0, slots := 0, locals := 23 })).room s m args below meth c 7 (RA ad 27) s.heap 0 0 (MQ below (va_Qi (fun r' (_ : Unit) => r' = (bI (!mRef S (mAt S n)))) (fun _ => ws0 D vwCl (tyL cI cW cZ cL) ad 27 (PM cI cZ ad (if mRef S (mAt S n) = true then S else mComeS S n))) (RA ad 27)) args s 0 0 (RA ad 27)) (wq D vwCl ad 27 (PM cI cZ ad S)) 7 [(0, .ref (ad 0)), (1, .int (nI n)), (2, .int a)] [] := by
    intro fu
    induction fu with
    | zero =>
      intro a r hfu hra hres
      exact absurd hfu (Nat.not_lt_zero _)
    | succ fu ih =>
      intro a r hfu hra hres
      refine vv_iload_n hC 2 dX9_comeIn_7 rfl rfl (q := 8) rfl ?_
      refine vv_iconst hC (v := (-1)) dX9_comeIn_8 rfl (q := 9) rfl ?_
      refine vv_icmp_eq hC (tgt := 31) dX9_comeIn_9 (by decide) (q := 12) rfl (fun h9 => ?_) (fun h9 => ?_)
      · skip
        refine vv_lv [0, 1, 2] (lv' := [(0, .ref (ad 0)), (1, .int (nI n)), (2, .int a)]) rfl ?_
        exact vv_eql (lv' := [(0, .ref (ad 0)), (1, .int (nI n)), (2, .int (mAnc S n))]) (by rw [← hres]; cases r with | zero => rfl | succ r => rw [mAncF, if_pos h9]) join31
      · skip
        obtain ⟨ea, la, lr⟩ := hra.resolve_left h9
        obtain ⟨r, rfl⟩ : ∃ r2, r = r2 + 1 := ⟨r - 1, by omega⟩
        refine vv_eql (lv' := [(0, .ref (ad 0)), (1, .int (nI n)), (2, .int (nI (tn a)))]) (by rw [← ea]) ?_
        refine vv_aload_n hC 0 dX9_comeIn_12 rfl rfl (q := 13) rfl ?_
        refine vv_get hC hK (K := RX9) (T := TX9) (N := 35) (ci := 9) inwX9_comeIn_X9 0 (by decide) (fs := fldM ad S) om0 rfl 5 (by decide) (List.mem_of_getElem? (i := 2) rfl) rfl (v := .ref (ad 4)) rfl dX9_comeIn_13 (q := 16) rfl ?_
        refine vv_iload_n hC 2 dX9_comeIn_16 rfl rfl (q := 17) rfl ?_
        refine vv_zaldN (P := PM cI cZ ad S) hC hK 4 (by decide) 2 (g := S.2 4) (omZ (by decide) rfl) rfl (show tn a < 300 from (by omega)) (by decide) dX9_comeIn_17 (q := 18) rfl ?_
        refine vv_if_ne hC (tgt := 31) dX9_comeIn_18 (by decide) (q := 21) rfl (fun h18 => ?_) (fun h18 => ?_)
        · skip
          refine vv_lv [0, 1, 2] (lv' := [(0, .ref (ad 0)), (1, .int (nI n)), (2, .int (nI (tn a)))]) rfl ?_
          exact vv_eql (lv' := [(0, .ref (ad 0)), (1, .int (nI n)), (2, .int (mAnc S n))]) (by rw [← hres, mAncF, if_neg h9, if_neg h18, ← ea]) join31
        · skip
          refine vv_aload_n hC 0 dX9_comeIn_21 rfl rfl (q := 22) rfl ?_
          refine vv_get hC hK (K := RX9) (T := TX9) (N := 35) (ci := 9) inwX9_comeIn_X9 0 (by decide) (fs := fldM ad S) om0 rfl 4 (by decide) (List.mem_of_getElem? (i := 1) rfl) rfl (v := .ref (ad 3)) rfl dX9_comeIn_22 (q := 25) rfl ?_
          refine vv_iload_n hC 2 dX9_comeIn_25 rfl rfl (q := 26) rfl ?_
          refine vv_ialdN (P := PM cI cZ ad S) hC hK 3 (by decide) 0 (g := S.2 3) (omI (by decide) rfl) rfl (show tn a < 300 from (by omega)) (by decide) dX9_comeIn_26 (q := 27) rfl ?_
          refine vv_istore_n hC (i := 2) (lv' := [(2, .int (S.2 3 (tn a))), (0, .ref (ad 0)), (1, .int (nI n))]) dX9_comeIn_27 rfl (by decide) rfl (q := 28) rfl ?_
          refine vv_goto hC (tgt := 7) dX9_comeIn_28 (by decide) ?_
          refine vv_lv [1, 2, 0] (lv' := [(0, .ref (ad 0)), (1, .int (nI n)), (2, .int (S.2 3 (tn a)))]) rfl ?_
          exact ih _ r (by omega) ((ianc _ la).imp id (fun h => ⟨h.1, by omega, by omega⟩)) (by rw [← hres, mAncF, if_neg h9, if_pos h18])
  refine vv_lv [1, 2, 0] (lv' := [(0, .ref (ad 0)), (1, .int (nI n)), (2, .int (S.2 3 n))]) rfl ?_
  exact loop7 302 _ 301 (by omega) ((ianc n hn).imp id (fun h => ⟨h.1, by omega, by omega⟩)) rfl
