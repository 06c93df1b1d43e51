/-! act -/
theorem low_lt (v : Int32) {n : Nat} (h0 : 0 < n) (hn : n < 2 ^ 31) : ∃ k, k < n ∧ lowF v (nI n) = nI k := by
  obtain ⟨a, ha, e⟩ : ∃ a, a < 2 ^ 31 ∧ v &&& 2147483647 = nI a := by
    refine ⟨(v &&& 2147483647).toBitVec.toNat, ?_, ?_⟩
    · have h : (v &&& 2147483647).toBitVec = v.toBitVec &&& 2147483647#32 := rfl
      rw [h, BitVec.toNat_and]
      exact Nat.lt_of_le_of_lt Nat.and_le_right (by decide)
    · rw [← Int32.toBitVec_inj]
      show (v &&& 2147483647).toBitVec = BitVec.ofNat 32 _
      rw [BitVec.ofNat_toNat, BitVec.setWidth_eq]
  exact ⟨a % n, Nat.mod_lt _ h0, by rw [lowF, e, pk_rem ha h0 hn]⟩
theorem low3_ix (v : Int32) : tIx (lowF v 3) 6 = 0 := by
  obtain ⟨k, hk, e⟩ := low_lt v (n := 3) (by omega) (by omega)
  rw [show (3 : Int32) = nI 3 from rfl, e]
  rcases (show k = 0 ∨ k = 1 ∨ k = 2 by omega) with rfl | rfl | rfl <;> decide
def eC (S : sC) (v : Int32) : Int32 := nI (S.1 (pW (lowF (v >>> (4 &&& 31)) 3) + 1)).length
def eP (S : sC) (v : Int32) : Int32 := if eC S v = 0 then 0 else lowF (v >>> (7 &&& 31)) (eC S v)
def eL (S : sC) : Int32 := nI (S.1 17).length
def eF (S : sC) (v : Int32) : Int32 := if eL S = 0 then 0 else lowF (v >>> (4 &&& 31)) (eL S)
def eM (S : sC) (v : Int32) : Int32 := if eL S - eF S v < 4 then eL S - eF S v else 4
def eT (S : sC) (v : Int32) : Int32 := if eL S = 0 then 0 else eF S v + lowF (v >>> (9 &&& 31)) (eM S v)
theorem eC1_ne {S : sC} (hw : wfC S) (v : Int32) : ¬ eC S v + 1 = 0 := by
  obtain ⟨k, hk, e⟩ := low_lt (v >>> (4 &&& 31)) (n := 3) (by omega) (by omega)
  have h5 : kd (pW (lowF (v >>> (4 &&& 31)) 3) + 1) = 5 := by
    rw [show (3 : Int32) = nI 3 from rfl, e]
    rcases (show k = 0 ∨ k = 1 ∨ k = 2 by omega) with rfl | rfl | rfl <;> decide +kernel
  have h6 := hw _ h5
  have h7 := cap_le (pW (lowF (v >>> (4 &&& 31)) 3) + 1)
  rw [eC, nI_1]
  exact fun h => absurd ((nI_eq (b := 0) (by omega) (by omega)).mp h) (by omega)
theorem eM_ne {S : sC} (hw : wfC S) {v : Int32} (h : ¬ eL S = 0) : ¬ eM S v = 0 := by
  have h6 : (S.1 17).length ≤ 300 := hw 17 (by decide +kernel)
  have h0 : 0 < (S.1 17).length := Nat.pos_of_ne_zero fun h1 => h (by rw [eL, h1]; rfl)
  rw [eM]
  split
  · obtain ⟨k, hk, e⟩ := low_lt (v >>> (4 &&& 31)) h0 (by omega)
    rw [eF, if_neg h, eL, e, pk_sub (by omega)]
    exact fun h1 => absurd ((nI_eq (b := 0) (by omega) (by omega)).mp h1) (by omega)
  · decide
def actO (j : Nat) (S : sC) (v : Int32) : Int32 × sC := if j < 6 then wr (tType S ((lowF (v >>> (4 &&& 31)) 8) - 1) ((lowF (v >>> (7 &&& 31)) 300) - 1) ((lowF (v >>> (12 &&& 31)) 1002) - 1)) (rType S ((lowF (v >>> (4 &&& 31)) 8) - 1) ((lowF (v >>> (7 &&& 31)) 300) - 1) ((lowF (v >>> (12 &&& 31)) 1002) - 1)) (sType S ((lowF (v >>> (4 &&& 31)) 8) - 1) ((lowF (v >>> (7 &&& 31)) 300) - 1) ((lowF (v >>> (12 &&& 31)) 1002) - 1)) S else if j < 8 then wr (tCopyAt S ((lowF (v >>> (4 &&& 31)) 8) - 1) ((lowF (v >>> (7 &&& 31)) 300) - 1)) (rAt (S.1 (pW ((lowF (v >>> (4 &&& 31)) 8) - 1) + 1)) ((lowF (v >>> (7 &&& 31)) 300) - 1)) (wTake S (pW ((lowF (v >>> (4 &&& 31)) 8) - 1)) ((lowF (v >>> (7 &&& 31)) 300) - 1)) S else if j < 11 then wr (tIx ((lowF (v >>> (4 &&& 31)) 8) - 1) 6) (nI (mrg S (pW ((lowF (v >>> (4 &&& 31)) 8) - 1))).1) (sMerge S ((lowF (v >>> (4 &&& 31)) 8) - 1)) S else if j < 12 then wr (tRate ((lowF (v >>> (4 &&& 31)) 6) - 1) ((lowF (v >>> (7 &&& 31)) 103) - 1)) (rAt (S.1 74) ((lowF (v >>> (4 &&& 31)) 6) - 1)) (sSet S 74 (rSet (S.1 74) ((lowF (v >>> (4 &&& 31)) 6) - 1) ((lowF (v >>> (7 &&& 31)) 103) - 1))) S else if j < 15 then wr (tOrder S ((lowF (v >>> (14 &&& 31)) 6) - 1) ((lowF (v >>> (4 &&& 31)) 40) - 1) ((lowF (v >>> (9 &&& 31)) 40) - 1)) (rOrder S ((lowF (v >>> (14 &&& 31)) 6) - 1) ((lowF (v >>> (4 &&& 31)) 40) - 1) ((lowF (v >>> (9 &&& 31)) 40) - 1)) (sOrder S ((lowF (v >>> (14 &&& 31)) 6) - 1) ((lowF (v >>> (4 &&& 31)) 40) - 1) ((lowF (v >>> (9 &&& 31)) 40) - 1)) S else if j < 17 then wr (tFinish S ((lowF (v >>> (4 &&& 31)) 33) - 1) ((lowF (v >>> (9 &&& 31)) 12) - 1)) (rAt ((rvDone S ((lowF (v >>> (4 &&& 31)) 33) - 1) ((lowF (v >>> (9 &&& 31)) 12) - 1)).1 76) (rAt (S.1 62) ((lowF (v >>> (4 &&& 31)) 33) - 1))) (rvDone S ((lowF (v >>> (4 &&& 31)) 33) - 1) ((lowF (v >>> (9 &&& 31)) 12) - 1)) S else if j < 18 then wr (tCancel S ((lowF (v >>> (4 &&& 31)) 33) - 1)) (nI (unfreeze (sSet S 68 (rSet (S.1 68) ((lowF (v >>> (4 &&& 31)) 33) - 1) 2)) ((lowF (v >>> (4 &&& 31)) 33) - 1)).1) ((unfreeze (sSet S 68 (rSet (S.1 68) ((lowF (v >>> (4 &&& 31)) 33) - 1) 2)) ((lowF (v >>> (4 &&& 31)) 33) - 1)).2) S else if j < 19 then wr (tIssue S (lowF (v >>> (4 &&& 31)) 1003) (lowF (v >>> (14 &&& 31)) 203)) (nI ((isAdd S (lowF (v >>> (4 &&& 31)) 1003) (lowF (v >>> (14 &&& 31)) 203)).1 79).length - 1) (isAdd S (lowF (v >>> (4 &&& 31)) 1003) (lowF (v >>> (14 &&& 31)) 203)) S else if j < 21 then wr (tPass S ((lowF (v >>> (4 &&& 31)) 103) - (1 : Int32))) ((paD S ((lowF (v >>> (4 &&& 31)) 103) - (1 : Int32))).1) ((paD S ((lowF (v >>> (4 &&& 31)) 103) - (1 : Int32))).2) S else if j < 22 then wr (tComment S ((lowF (v >>> (4 &&& 31)) 40) - 1) ((lowF (v >>> (9 &&& 31)) 40) - 1)) (nI ((sComment S ((lowF (v >>> (4 &&& 31)) 40) - 1) ((lowF (v >>> (9 &&& 31)) 40) - 1)).1 86).length - 1) (sComment S ((lowF (v >>> (4 &&& 31)) 40) - 1) ((lowF (v >>> (9 &&& 31)) 40) - 1)) S else if j < 23 then wr (tKeep S) S.2.1 (sKeep S) S else wr (tType S 0 0 7) (rType S 0 0 7) (sType S 0 0 7) S
set_option maxRecDepth 100000 in
set_option maxHeartbeats 8000000 in
theorem cn_actO (l : Launch) {D : va_G} {cI cW cZ cL : ClassId} {ad : Nat → Nat} (hJ : injA ad 90) (hlst : l.stackTraces = false) (AX : Nat → Prop) (z : Nat) (S : sC) (v : Int32) (hb : lowF (v >>> (24 &&& 31)) 9 = 0) (j : Nat) (hj : j < 24) (he : lowF v 24 = nI j) : kN l yL_act wsL_act ({ frames := 11, cells := 8, slots := 48, locals := 202 }) D cI cW cZ cL ad AX z [.ref (ad 0), .int v] S (actO j S v).1 (actO j S v).2 8 48 := by
  refine vv_enterN (cc := cL_act) (maxL := 10) (ret := some .int) (own := RL) (lv := [(0, .ref (ad 0)), (1, .int v)]) (by decide +kernel) rfl rfl hJ (Nat.le_of_ble_eq_true rfl) rfl ?_
  intro p e s m args below meth c hC hK hW hr hlk hsz hAX hE hxN
  have hA1 : ∀ zz, s.heap.size ≤ zz → ∀ q, RAs ad 90 zz q → RAs ad 90 z q := fun zz h9 => RAs.mono (by rw [← hsz]; exact h9)
  refine vv_pure (fun H hB => wq_len hB) (fun hwf => ?_)
  refine vv_iload_n hC 1 dL_act_0 rfl rfl (q := 1) rfl ?_
  refine vv_bipush hC (v := 24) dL_act_1 rfl (q := 3) rfl ?_
  refine vv_ishr hC dL_act_3 (q := 4) rfl ?_
  refine vv_bipush hC (v := 9) dL_act_4 rfl (q := 6) rfl ?_
  refine vv_fcp hC Stb_1 (As := [.int (v >>> (24 &&& 31)), .int 9]) (cn_low l (v >>> (24 &&& 31)) 9 (by decide)) (va_cwS 2 hC.2.2.2.2 gL_act_L_low rfl rfl rfl hsL_low ⟨Nat.le_of_ble_eq_true rfl, Nat.le_of_ble_eq_true rfl⟩) rfl rfl (Nat.le_of_ble_eq_true rfl) ⟨by show _ ≤ 8; omega, by show _ ≤ 48; omega⟩ dL_act_6 (q := 9) rfl ?_
  refine vv_if_ne hC (tgt := 16) dL_act_9 (by decide) (q := 12) rfl (fun h9 => ?_) (fun h9 => ?_)
  · skip
    exact absurd hb h9
  · skip
    refine vv_iconst hC (v := 1) dL_act_12 rfl (q := 13) rfl ?_
    refine vv_goto hC (tgt := 17) dL_act_13 (by decide) ?_
    refine vv_istore_n hC (i := 2) (lv' := [(2, .int 1), (0, .ref (ad 0)), (1, .int v)]) dL_act_17 rfl (by decide) rfl (q := 18) rfl ?_
    refine vv_iload_n hC 0 dL_act_18 rfl rfl (q := 19) rfl ?_
    refine vv_if_eq hC (tgt := 35) dL_act_19 (by decide) (q := 22) rfl (fun h19 => ?_) (fun h19 => ?_)
    · skip
      exact absurd h19 (by decide)
    · skip
      refine vv_iload_n hC 2 dL_act_22 rfl rfl (q := 23) rfl ?_
      refine vv_iconst hC (v := 4) dL_act_23 rfl (q := 24) rfl ?_
      refine vv_ishr hC dL_act_24 (q := 25) rfl ?_
      refine vv_bipush hC (v := 8) dL_act_25 rfl (q := 27) rfl ?_
      refine vv_fcp hC Stb_1 (As := [.int (v >>> (4 &&& 31)), .int 8]) (cn_low l (v >>> (4 &&& 31)) 8 (by decide)) (va_cwS 2 hC.2.2.2.2 gL_act_L_low rfl rfl rfl hsL_low ⟨Nat.le_of_ble_eq_true rfl, Nat.le_of_ble_eq_true rfl⟩) rfl rfl (Nat.le_of_ble_eq_true rfl) ⟨by show _ ≤ 8; omega, by show _ ≤ 48; omega⟩ dL_act_27 (q := 30) rfl ?_
      refine vv_iconst hC (v := 1) dL_act_30 rfl (q := 31) rfl ?_
      refine vv_isub hC dL_act_31 (q := 32) rfl ?_
      refine vv_goto hC (tgt := 42) dL_act_32 (by decide) ?_
      refine vv_istore_n hC (i := 3) (lv' := [(3, .int ((lowF (v >>> (4 &&& 31)) 8) - 1)), (2, .int 1), (0, .ref (ad 0)), (1, .int v)]) dL_act_42 rfl (by decide) rfl (q := 43) rfl ?_
      refine vv_iload_n hC 1 dL_act_43 rfl rfl (q := 44) rfl ?_
      refine vv_if_eq hC (tgt := 52) dL_act_44 (by decide) (q := 47) rfl (fun h44 => ?_) (fun h44 => ?_)
      · skip
        exact absurd h44 (by decide)
      · skip
        refine vv_bipush hC (v := 9) dL_act_47 rfl (q := 49) rfl ?_
        refine vv_goto hC (tgt := 57) dL_act_49 (by decide) ?_
        refine vv_istore hC (i := 4) (lv' := [(4, .int 9), (3, .int ((lowF (v >>> (4 &&& 31)) 8) - 1)), (2, .int 1), (0, .ref (ad 0)), (1, .int v)]) dL_act_57 (by decide) rfl (q := 59) rfl ?_
        refine vv_iload_n hC 2 dL_act_59 rfl rfl (q := 60) rfl ?_
        refine vv_if_eq hC (tgt := 78) dL_act_60 (by decide) (q := 63) rfl (fun h60 => ?_) (fun h60 => ?_)
        · skip
          exact absurd h60 (by decide)
        · skip
          refine vv_iload_n hC 4 dL_act_63 rfl rfl (q := 64) rfl ?_
          refine vv_bipush hC (v := 7) dL_act_64 rfl (q := 66) rfl ?_
          refine vv_ishr hC dL_act_66 (q := 67) rfl ?_
          refine vv_sipush hC (v := 300) dL_act_67 rfl (q := 70) rfl ?_
          refine vv_fcp hC Stb_1 (As := [.int (v >>> (7 &&& 31)), .int 300]) (cn_low l (v >>> (7 &&& 31)) 300 (by decide)) (va_cwS 2 hC.2.2.2.2 gL_act_L_low rfl rfl rfl hsL_low ⟨Nat.le_of_ble_eq_true rfl, Nat.le_of_ble_eq_true rfl⟩) rfl rfl (Nat.le_of_ble_eq_true rfl) ⟨by show _ ≤ 8; omega, by show _ ≤ 48; omega⟩ dL_act_70 (q := 73) rfl ?_
          refine vv_iconst hC (v := 1) dL_act_73 rfl (q := 74) rfl ?_
          refine vv_isub hC dL_act_74 (q := 75) rfl ?_
          refine vv_goto hC (tgt := 96) dL_act_75 (by decide) ?_
          refine vv_istore hC (i := 5) (lv' := [(5, .int ((lowF (v >>> (7 &&& 31)) 300) - 1)), (4, .int 9), (3, .int ((lowF (v >>> (4 &&& 31)) 8) - 1)), (2, .int 1), (0, .ref (ad 0)), (1, .int v)]) dL_act_96 (by decide) rfl (q := 98) rfl ?_
          refine vv_aload_n hC 4 dL_act_98 rfl rfl (q := 99) rfl ?_
          refine vv_fcm hC hK (fun _ h => Or.inl h) (As := []) Foc_1 (c8_length l hJ S) (cwV 0 hC.2.2.2.2 gL_act_X8_length rfl rfl rfl hdX8_length ⟨Nat.le_of_ble_eq_true rfl, Nat.le_of_ble_eq_true rfl⟩) rfl rfl (Nat.le_of_ble_eq_true rfl) ⟨by show _ ≤ 8; omega, by show _ ≤ 48; omega⟩ dL_act_99 (q := 102) rfl ?_
          refine vv_istore hC (i := 6) (lv' := [(6, .int (nI (S.1 17).length)), (5, .int ((lowF (v >>> (7 &&& 31)) 300) - 1)), (4, .int 9), (3, .int ((lowF (v >>> (4 &&& 31)) 8) - 1)), (2, .int 1), (0, .ref (ad 0)), (1, .int v)]) dL_act_102 (by decide) rfl (q := 104) rfl ?_
          refine vv_iload_n hC 4 dL_act_104 rfl rfl (q := 105) rfl ?_
          refine vv_if_eq hC (tgt := 121) dL_act_105 (by decide) (q := 108) rfl (fun h105 => ?_) (fun h105 => ?_)
          · skip
            exact absurd h105 (by decide)
          · skip
            refine vv_iload_n hC 6 dL_act_108 rfl rfl (q := 109) rfl ?_
            refine vv_iconst hC (v := 4) dL_act_109 rfl (q := 110) rfl ?_
            refine vv_ishr hC dL_act_110 (q := 111) rfl ?_
            refine vv_bipush hC (v := 40) dL_act_111 rfl (q := 113) rfl ?_
            refine vv_fcp hC Stb_1 (As := [.int (v >>> (4 &&& 31)), .int 40]) (cn_low l (v >>> (4 &&& 31)) 40 (by decide)) (va_cwS 2 hC.2.2.2.2 gL_act_L_low rfl rfl rfl hsL_low ⟨Nat.le_of_ble_eq_true rfl, Nat.le_of_ble_eq_true rfl⟩) rfl rfl (Nat.le_of_ble_eq_true rfl) ⟨by show _ ≤ 8; omega, by show _ ≤ 48; omega⟩ dL_act_113 (q := 116) rfl ?_
            refine vv_iconst hC (v := 1) dL_act_116 rfl (q := 117) rfl ?_
            refine vv_isub hC dL_act_117 (q := 118) rfl ?_
            refine vv_goto hC (tgt := 138) dL_act_118 (by decide) ?_
            refine vv_istore hC (i := 7) (lv' := [(7, .int ((lowF (v >>> (4 &&& 31)) 40) - 1)), (6, .int (nI (S.1 17).length)), (5, .int ((lowF (v >>> (7 &&& 31)) 300) - 1)), (4, .int 9), (3, .int ((lowF (v >>> (4 &&& 31)) 8) - 1)), (2, .int 1), (0, .ref (ad 0)), (1, .int v)]) dL_act_138 (by decide) rfl (q := 140) rfl ?_
            refine vv_iload_n hC 5 dL_act_140 rfl rfl (q := 141) rfl ?_
            refine vv_if_eq hC (tgt := 158) dL_act_141 (by decide) (q := 144) rfl (fun h141 => ?_) (fun h141 => ?_)
            · skip
              exact absurd h141 (by decide)
            · skip
              refine vv_iload_n hC 7 dL_act_144 rfl rfl (q := 145) rfl ?_
              refine vv_bipush hC (v := 9) dL_act_145 rfl (q := 147) rfl ?_
              refine vv_ishr hC dL_act_147 (q := 148) rfl ?_
              refine vv_bipush hC (v := 40) dL_act_148 rfl (q := 150) rfl ?_
              refine vv_fcp hC Stb_1 (As := [.int (v >>> (9 &&& 31)), .int 40]) (cn_low l (v >>> (9 &&& 31)) 40 (by decide)) (va_cwS 2 hC.2.2.2.2 gL_act_L_low rfl rfl rfl hsL_low ⟨Nat.le_of_ble_eq_true rfl, Nat.le_of_ble_eq_true rfl⟩) rfl rfl (Nat.le_of_ble_eq_true rfl) ⟨by show _ ≤ 8; omega, by show _ ≤ 48; omega⟩ dL_act_150 (q := 153) rfl ?_
              refine vv_iconst hC (v := 1) dL_act_153 rfl (q := 154) rfl ?_
              refine vv_isub hC dL_act_154 (q := 155) rfl ?_
              refine vv_goto hC (tgt := 195) dL_act_155 (by decide) ?_
              refine vv_istore hC (i := 8) (lv' := [(8, .int ((lowF (v >>> (9 &&& 31)) 40) - 1)), (7, .int ((lowF (v >>> (4 &&& 31)) 40) - 1)), (6, .int (nI (S.1 17).length)), (5, .int ((lowF (v >>> (7 &&& 31)) 300) - 1)), (4, .int 9), (3, .int ((lowF (v >>> (4 &&& 31)) 8) - 1)), (2, .int 1), (0, .ref (ad 0)), (1, .int v)]) dL_act_195 (by decide) rfl (q := 197) rfl ?_
              refine vv_iload_n hC 6 dL_act_197 rfl rfl (q := 198) rfl ?_
              refine vv_if_eq hC (tgt := 214) dL_act_198 (by decide) (q := 201) rfl (fun h198 => ?_) (fun h198 => ?_)
              · skip
                exact absurd h198 (by decide)
              · skip
                refine vv_iload_n hC 8 dL_act_201 rfl rfl (q := 202) rfl ?_
                refine vv_iconst hC (v := 4) dL_act_202 rfl (q := 203) rfl ?_
                refine vv_ishr hC dL_act_203 (q := 204) rfl ?_
                refine vv_bipush hC (v := 33) dL_act_204 rfl (q := 206) rfl ?_
                refine vv_fcp hC Stb_1 (As := [.int (v >>> (4 &&& 31)), .int 33]) (cn_low l (v >>> (4 &&& 31)) 33 (by decide)) (va_cwS 2 hC.2.2.2.2 gL_act_L_low rfl rfl rfl hsL_low ⟨Nat.le_of_ble_eq_true rfl, Nat.le_of_ble_eq_true rfl⟩) rfl rfl (Nat.le_of_ble_eq_true rfl) ⟨by show _ ≤ 8; omega, by show _ ≤ 48; omega⟩ dL_act_206 (q := 209) rfl ?_
                refine vv_iconst hC (v := 1) dL_act_209 rfl (q := 210) rfl ?_
                refine vv_isub hC dL_act_210 (q := 211) rfl ?_
                refine vv_goto hC (tgt := 221) dL_act_211 (by decide) ?_
                refine vv_istore hC (i := 9) (lv' := [(9, .int ((lowF (v >>> (4 &&& 31)) 33) - 1)), (8, .int ((lowF (v >>> (9 &&& 31)) 40) - 1)), (7, .int ((lowF (v >>> (4 &&& 31)) 40) - 1)), (6, .int (nI (S.1 17).length)), (5, .int ((lowF (v >>> (7 &&& 31)) 300) - 1)), (4, .int 9), (3, .int ((lowF (v >>> (4 &&& 31)) 8) - 1)), (2, .int 1), (0, .ref (ad 0)), (1, .int v)]) dL_act_221 (by decide) rfl (q := 223) rfl ?_
                refine vv_iload_n hC 9 dL_act_223 rfl rfl (q := 224) rfl ?_
                refine vv_bipush hC (v := 24) dL_act_224 rfl (q := 226) rfl ?_
                refine vv_fcp hC Stb_1 (As := [.int v, .int 24]) (cn_low l v 24 (by decide)) (va_cwS 2 hC.2.2.2.2 gL_act_L_low rfl rfl rfl hsL_low ⟨Nat.le_of_ble_eq_true rfl, Nat.le_of_ble_eq_true rfl⟩) rfl rfl (Nat.le_of_ble_eq_true rfl) ⟨by show _ ≤ 8; omega, by show _ ≤ 48; omega⟩ dL_act_226 (q := 229) rfl ?_
                rcases (show j = 0 ∨ j = 1 ∨ j = 2 ∨ j = 3 ∨ j = 4 ∨ j = 5 ∨ j = 6 ∨ j = 7 ∨ j = 8 ∨ j = 9 ∨ j = 10 ∨ j = 11 ∨ j = 12 ∨ j = 13 ∨ j = 14 ∨ j = 15 ∨ j = 16 ∨ j = 17 ∨ j = 18 ∨ j = 19 ∨ j = 20 ∨ j = 21 ∨ j = 22 ∨ j = 23 by omega) with rfl | rfl | rfl | rfl | rfl | rfl | rfl | rfl | rfl | rfl | rfl | rfl | rfl | rfl | rfl | rfl | rfl | rfl | rfl | rfl | rfl | rfl | rfl | rfl
                · skip
                  refine vv_tableIn hC (off := 107) (tgt := 336) dL_act_229 (by rw [he]; decide) (by rw [he]; decide) (by rw [he]; rfl) rfl ?_
                  refine vv_aload_n hC 8 dL_act_336 rfl rfl (q := 337) rfl ?_
                  refine vv_iload_n hC 6 dL_act_337 rfl rfl (q := 338) rfl ?_
                  refine vv_iload_n hC 7 dL_act_338 rfl rfl (q := 339) rfl ?_
                  refine vv_if_eq hC (tgt := 347) dL_act_339 (by decide) (q := 342) rfl (fun h339 => ?_) (fun h339 => ?_)
                  · skip
                    exact absurd h339 (by decide)
                  · skip
                    refine vv_iload hC 4 dL_act_342 rfl (q := 344) rfl ?_
                    refine vv_goto hC (tgt := 358) dL_act_344 (by decide) ?_
                    refine vv_iload_n hC 7 dL_act_358 rfl rfl (q := 359) rfl ?_
                    refine vv_if_eq hC (tgt := 377) dL_act_359 (by decide) (q := 362) rfl (fun h359 => ?_) (fun h359 => ?_)
                    · skip
                      exact absurd h359 (by decide)
                    · skip
                      refine vv_iload_n hC 9 dL_act_362 rfl rfl (q := 363) rfl ?_
                      refine vv_bipush hC (v := 12) dL_act_363 rfl (q := 365) rfl ?_
                      refine vv_ishr hC dL_act_365 (q := 366) rfl ?_
                      refine vv_sipush hC (v := 1002) dL_act_366 rfl (q := 369) rfl ?_
                      refine vv_fcp hC Stb_1 (As := [.int (v >>> (12 &&& 31)), .int 1002]) (cn_low l (v >>> (12 &&& 31)) 1002 (by decide)) (va_cwS 2 hC.2.2.2.2 gL_act_L_low rfl rfl rfl hsL_low ⟨Nat.le_of_ble_eq_true rfl, Nat.le_of_ble_eq_true rfl⟩) rfl rfl (Nat.le_of_ble_eq_true rfl) ⟨by show _ ≤ 8; omega, by show _ ≤ 48; omega⟩ dL_act_369 (q := 372) rfl ?_
                      refine vv_iconst hC (v := 1) dL_act_372 rfl (q := 373) rfl ?_
                      refine vv_isub hC dL_act_373 (q := 374) rfl ?_
                      refine vv_goto hC (tgt := 387) dL_act_374 (by decide) ?_
                      refine vv_fcnW hC hK hE hxN hAX hA1 (As := [.ref (ad 0), .int ((lowF (v >>> (4 &&& 31)) 8) - 1), .int ((lowF (v >>> (7 &&& 31)) 300) - 1), .int ((lowF (v >>> (12 &&& 31)) 1002) - 1)]) Foc_1 (fun zz => cn_type l hJ hlst AX zz S ((lowF (v >>> (4 &&& 31)) 8) - 1) ((lowF (v >>> (7 &&& 31)) 300) - 1) ((lowF (v >>> (12 &&& 31)) 1002) - 1)) (vx_cwSW 4 hC.2.2.2.2 gL_act_L_type rfl rfl rfl hsL_type ⟨Nat.le_of_ble_eq_true rfl, Nat.le_of_ble_eq_true rfl⟩) rfl rfl (Nat.le_of_ble_eq_true rfl) ⟨by show _ ≤ 8; omega, by show _ ≤ 48; omega⟩ dL_act_387 (q := 390) rfl ?_
                      exact vv_lret hC hK hr hlk rfl ⟨Nat.le_of_ble_eq_true rfl, Nat.le_of_ble_eq_true rfl⟩ (fun f hf => hf) dL_act_390
                · skip
                  refine vv_tableIn hC (off := 107) (tgt := 336) dL_act_229 (by rw [he]; decide) (by rw [he]; decide) (by rw [he]; rfl) rfl ?_
                  refine vv_aload_n hC 8 dL_act_336 rfl rfl (q := 337) rfl ?_
                  refine vv_iload_n hC 6 dL_act_337 rfl rfl (q := 338) rfl ?_
                  refine vv_iload_n hC 7 dL_act_338 rfl rfl (q := 339) rfl ?_
                  refine vv_if_eq hC (tgt := 347) dL_act_339 (by decide) (q := 342) rfl (fun h339 => ?_) (fun h339 => ?_)
                  · skip
                    exact absurd h339 (by decide)
                  · skip
                    refine vv_iload hC 4 dL_act_342 rfl (q := 344) rfl ?_
                    refine vv_goto hC (tgt := 358) dL_act_344 (by decide) ?_
                    refine vv_iload_n hC 7 dL_act_358 rfl rfl (q := 359) rfl ?_
                    refine vv_if_eq hC (tgt := 377) dL_act_359 (by decide) (q := 362) rfl (fun h359 => ?_) (fun h359 => ?_)
                    · skip
                      exact absurd h359 (by decide)
                    · skip
                      refine vv_iload_n hC 9 dL_act_362 rfl rfl (q := 363) rfl ?_
                      refine vv_bipush hC (v := 12) dL_act_363 rfl (q := 365) rfl ?_
                      refine vv_ishr hC dL_act_365 (q := 366) rfl ?_
                      refine vv_sipush hC (v := 1002) dL_act_366 rfl (q := 369) rfl ?_
                      refine vv_fcp hC Stb_1 (As := [.int (v >>> (12 &&& 31)), .int 1002]) (cn_low l (v >>> (12 &&& 31)) 1002 (by decide)) (va_cwS 2 hC.2.2.2.2 gL_act_L_low rfl rfl rfl hsL_low ⟨Nat.le_of_ble_eq_true rfl, Nat.le_of_ble_eq_true rfl⟩) rfl rfl (Nat.le_of_ble_eq_true rfl) ⟨by show _ ≤ 8; omega, by show _ ≤ 48; omega⟩ dL_act_369 (q := 372) rfl ?_
                      refine vv_iconst hC (v := 1) dL_act_372 rfl (q := 373) rfl ?_
                      refine vv_isub hC dL_act_373 (q := 374) rfl ?_
                      refine vv_goto hC (tgt := 387) dL_act_374 (by decide) ?_
                      refine vv_fcnW hC hK hE hxN hAX hA1 (As := [.ref (ad 0), .int ((lowF (v >>> (4 &&& 31)) 8) - 1), .int ((lowF (v >>> (7 &&& 31)) 300) - 1), .int ((lowF (v >>> (12 &&& 31)) 1002) - 1)]) Foc_1 (fun zz => cn_type l hJ hlst AX zz S ((lowF (v >>> (4 &&& 31)) 8) - 1) ((lowF (v >>> (7 &&& 31)) 300) - 1) ((lowF (v >>> (12 &&& 31)) 1002) - 1)) (vx_cwSW 4 hC.2.2.2.2 gL_act_L_type rfl rfl rfl hsL_type ⟨Nat.le_of_ble_eq_true rfl, Nat.le_of_ble_eq_true rfl⟩) rfl rfl (Nat.le_of_ble_eq_true rfl) ⟨by show _ ≤ 8; omega, by show _ ≤ 48; omega⟩ dL_act_387 (q := 390) rfl ?_
                      exact vv_lret hC hK hr hlk rfl ⟨Nat.le_of_ble_eq_true rfl, Nat.le_of_ble_eq_true rfl⟩ (fun f hf => hf) dL_act_390
                · skip
                  refine vv_tableIn hC (off := 107) (tgt := 336) dL_act_229 (by rw [he]; decide) (by rw [he]; decide) (by rw [he]; rfl) rfl ?_
                  refine vv_aload_n hC 8 dL_act_336 rfl rfl (q := 337) rfl ?_
                  refine vv_iload_n hC 6 dL_act_337 rfl rfl (q := 338) rfl ?_
                  refine vv_iload_n hC 7 dL_act_338 rfl rfl (q := 339) rfl ?_
                  refine vv_if_eq hC (tgt := 347) dL_act_339 (by decide) (q := 342) rfl (fun h339 => ?_) (fun h339 => ?_)
                  · skip
                    exact absurd h339 (by decide)
                  · skip
                    refine vv_iload hC 4 dL_act_342 rfl (q := 344) rfl ?_
                    refine vv_goto hC (tgt := 358) dL_act_344 (by decide) ?_
                    refine vv_iload_n hC 7 dL_act_358 rfl rfl (q := 359) rfl ?_
                    refine vv_if_eq hC (tgt := 377) dL_act_359 (by decide) (q := 362) rfl (fun h359 => ?_) (fun h359 => ?_)
                    · skip
                      exact absurd h359 (by decide)
                    · skip
                      refine vv_iload_n hC 9 dL_act_362 rfl rfl (q := 363) rfl ?_
                      refine vv_bipush hC (v := 12) dL_act_363 rfl (q := 365) rfl ?_
                      refine vv_ishr hC dL_act_365 (q := 366) rfl ?_
                      refine vv_sipush hC (v := 1002) dL_act_366 rfl (q := 369) rfl ?_
                      refine vv_fcp hC Stb_1 (As := [.int (v >>> (12 &&& 31)), .int 1002]) (cn_low l (v >>> (12 &&& 31)) 1002 (by decide)) (va_cwS 2 hC.2.2.2.2 gL_act_L_low rfl rfl rfl hsL_low ⟨Nat.le_of_ble_eq_true rfl, Nat.le_of_ble_eq_true rfl⟩) rfl rfl (Nat.le_of_ble_eq_true rfl) ⟨by show _ ≤ 8; omega, by show _ ≤ 48; omega⟩ dL_act_369 (q := 372) rfl ?_
                      refine vv_iconst hC (v := 1) dL_act_372 rfl (q := 373) rfl ?_
                      refine vv_isub hC dL_act_373 (q := 374) rfl ?_
                      refine vv_goto hC (tgt := 387) dL_act_374 (by decide) ?_
                      refine vv_fcnW hC hK hE hxN hAX hA1 (As := [.ref (ad 0), .int ((lowF (v >>> (4 &&& 31)) 8) - 1), .int ((lowF (v >>> (7 &&& 31)) 300) - 1), .int ((lowF (v >>> (12 &&& 31)) 1002) - 1)]) Foc_1 (fun zz => cn_type l hJ hlst AX zz S ((lowF (v >>> (4 &&& 31)) 8) - 1) ((lowF (v >>> (7 &&& 31)) 300) - 1) ((lowF (v >>> (12 &&& 31)) 1002) - 1)) (vx_cwSW 4 hC.2.2.2.2 gL_act_L_type rfl rfl rfl hsL_type ⟨Nat.le_of_ble_eq_true rfl, Nat.le_of_ble_eq_true rfl⟩) rfl rfl (Nat.le_of_ble_eq_true rfl) ⟨by show _ ≤ 8; omega, by show _ ≤ 48; omega⟩ dL_act_387 (q := 390) rfl ?_
                      exact vv_lret hC hK hr hlk rfl ⟨Nat.le_of_ble_eq_true rfl, Nat.le_of_ble_eq_true rfl⟩ (fun f hf => hf) dL_act_390
                · skip
                  refine vv_tableIn hC (off := 107) (tgt := 336) dL_act_229 (by rw [he]; decide) (by rw [he]; decide) (by rw [he]; rfl) rfl ?_
                  refine vv_aload_n hC 8 dL_act_336 rfl rfl (q := 337) rfl ?_
                  refine vv_iload_n hC 6 dL_act_337 rfl rfl (q := 338) rfl ?_
                  refine vv_iload_n hC 7 dL_act_338 rfl rfl (q := 339) rfl ?_
                  refine vv_if_eq hC (tgt := 347) dL_act_339 (by decide) (q := 342) rfl (fun h339 => ?_) (fun h339 => ?_)
                  · skip
                    exact absurd h339 (by decide)
                  · skip
                    refine vv_iload hC 4 dL_act_342 rfl (q := 344) rfl ?_
                    refine vv_goto hC (tgt := 358) dL_act_344 (by decide) ?_
                    refine vv_iload_n hC 7 dL_act_358 rfl rfl (q := 359) rfl ?_
                    refine vv_if_eq hC (tgt := 377) dL_act_359 (by decide) (q := 362) rfl (fun h359 => ?_) (fun h359 => ?_)
                    · skip
                      exact absurd h359 (by decide)
                    · skip
                      refine vv_iload_n hC 9 dL_act_362 rfl rfl (q := 363) rfl ?_
                      refine vv_bipush hC (v := 12) dL_act_363 rfl (q := 365) rfl ?_
                      refine vv_ishr hC dL_act_365 (q := 366) rfl ?_
                      refine vv_sipush hC (v := 1002) dL_act_366 rfl (q := 369) rfl ?_
                      refine vv_fcp hC Stb_1 (As := [.int (v >>> (12 &&& 31)), .int 1002]) (cn_low l (v >>> (12 &&& 31)) 1002 (by decide)) (va_cwS 2 hC.2.2.2.2 gL_act_L_low rfl rfl rfl hsL_low ⟨Nat.le_of_ble_eq_true rfl, Nat.le_of_ble_eq_true rfl⟩) rfl rfl (Nat.le_of_ble_eq_true rfl) ⟨by show _ ≤ 8; omega, by show _ ≤ 48; omega⟩ dL_act_369 (q := 372) rfl ?_
                      refine vv_iconst hC (v := 1) dL_act_372 rfl (q := 373) rfl ?_
                      refine vv_isub hC dL_act_373 (q := 374) rfl ?_
                      refine vv_goto hC (tgt := 387) dL_act_374 (by decide) ?_
                      refine vv_fcnW hC hK hE hxN hAX hA1 (As := [.ref (ad 0), .int ((lowF (v >>> (4 &&& 31)) 8) - 1), .int ((lowF (v >>> (7 &&& 31)) 300) - 1), .int ((lowF (v >>> (12 &&& 31)) 1002) - 1)]) Foc_1 (fun zz => cn_type l hJ hlst AX zz S ((lowF (v >>> (4 &&& 31)) 8) - 1) ((lowF (v >>> (7 &&& 31)) 300) - 1) ((lowF (v >>> (12 &&& 31)) 1002) - 1)) (vx_cwSW 4 hC.2.2.2.2 gL_act_L_type rfl rfl rfl hsL_type ⟨Nat.le_of_ble_eq_true rfl, Nat.le_of_ble_eq_true rfl⟩) rfl rfl (Nat.le_of_ble_eq_true rfl) ⟨by show _ ≤ 8; omega, by show _ ≤ 48; omega⟩ dL_act_387 (q := 390) rfl ?_
                      exact vv_lret hC hK hr hlk rfl ⟨Nat.le_of_ble_eq_true rfl, Nat.le_of_ble_eq_true rfl⟩ (fun f hf => hf) dL_act_390
                · skip
                  refine vv_tableIn hC (off := 107) (tgt := 336) dL_act_229 (by rw [he]; decide) (by rw [he]; decide) (by rw [he]; rfl) rfl ?_
                  refine vv_aload_n hC 8 dL_act_336 rfl rfl (q := 337) rfl ?_
                  refine vv_iload_n hC 6 dL_act_337 rfl rfl (q := 338) rfl ?_
                  refine vv_iload_n hC 7 dL_act_338 rfl rfl (q := 339) rfl ?_
                  refine vv_if_eq hC (tgt := 347) dL_act_339 (by decide) (q := 342) rfl (fun h339 => ?_) (fun h339 => ?_)
                  · skip
                    exact absurd h339 (by decide)
                  · skip
                    refine vv_iload hC 4 dL_act_342 rfl (q := 344) rfl ?_
                    refine vv_goto hC (tgt := 358) dL_act_344 (by decide) ?_
                    refine vv_iload_n hC 7 dL_act_358 rfl rfl (q := 359) rfl ?_
                    refine vv_if_eq hC (tgt := 377) dL_act_359 (by decide) (q := 362) rfl (fun h359 => ?_) (fun h359 => ?_)
                    · skip
                      exact absurd h359 (by decide)
                    · skip
                      refine vv_iload_n hC 9 dL_act_362 rfl rfl (q := 363) rfl ?_
                      refine vv_bipush hC (v := 12) dL_act_363 rfl (q := 365) rfl ?_
                      refine vv_ishr hC dL_act_365 (q := 366) rfl ?_
                      refine vv_sipush hC (v := 1002) dL_act_366 rfl (q := 369) rfl ?_
                      refine vv_fcp hC Stb_1 (As := [.int (v >>> (12 &&& 31)), .int 1002]) (cn_low l (v >>> (12 &&& 31)) 1002 (by decide)) (va_cwS 2 hC.2.2.2.2 gL_act_L_low rfl rfl rfl hsL_low ⟨Nat.le_of_ble_eq_true rfl, Nat.le_of_ble_eq_true rfl⟩) rfl rfl (Nat.le_of_ble_eq_true rfl) ⟨by show _ ≤ 8; omega, by show _ ≤ 48; omega⟩ dL_act_369 (q := 372) rfl ?_
                      refine vv_iconst hC (v := 1) dL_act_372 rfl (q := 373) rfl ?_
                      refine vv_isub hC dL_act_373 (q := 374) rfl ?_
                      refine vv_goto hC (tgt := 387) dL_act_374 (by decide) ?_
                      refine vv_fcnW hC hK hE hxN hAX hA1 (As := [.ref (ad 0), .int ((lowF (v >>> (4 &&& 31)) 8) - 1), .int ((lowF (v >>> (7 &&& 31)) 300) - 1), .int ((lowF (v >>> (12 &&& 31)) 1002) - 1)]) Foc_1 (fun zz => cn_type l hJ hlst AX zz S ((lowF (v >>> (4 &&& 31)) 8) - 1) ((lowF (v >>> (7 &&& 31)) 300) - 1) ((lowF (v >>> (12 &&& 31)) 1002) - 1)) (vx_cwSW 4 hC.2.2.2.2 gL_act_L_type rfl rfl rfl hsL_type ⟨Nat.le_of_ble_eq_true rfl, Nat.le_of_ble_eq_true rfl⟩) rfl rfl (Nat.le_of_ble_eq_true rfl) ⟨by show _ ≤ 8; omega, by show _ ≤ 48; omega⟩ dL_act_387 (q := 390) rfl ?_
                      exact vv_lret hC hK hr hlk rfl ⟨Nat.le_of_ble_eq_true rfl, Nat.le_of_ble_eq_true rfl⟩ (fun f hf => hf) dL_act_390
                · skip
                  refine vv_tableIn hC (off := 107) (tgt := 336) dL_act_229 (by rw [he]; decide) (by rw [he]; decide) (by rw [he]; rfl) rfl ?_
                  refine vv_aload_n hC 8 dL_act_336 rfl rfl (q := 337) rfl ?_
                  refine vv_iload_n hC 6 dL_act_337 rfl rfl (q := 338) rfl ?_
                  refine vv_iload_n hC 7 dL_act_338 rfl rfl (q := 339) rfl ?_
                  refine vv_if_eq hC (tgt := 347) dL_act_339 (by decide) (q := 342) rfl (fun h339 => ?_) (fun h339 => ?_)
                  · skip
                    exact absurd h339 (by decide)
                  · skip
                    refine vv_iload hC 4 dL_act_342 rfl (q := 344) rfl ?_
                    refine vv_goto hC (tgt := 358) dL_act_344 (by decide) ?_
                    refine vv_iload_n hC 7 dL_act_358 rfl rfl (q := 359) rfl ?_
                    refine vv_if_eq hC (tgt := 377) dL_act_359 (by decide) (q := 362) rfl (fun h359 => ?_) (fun h359 => ?_)
                    · skip
                      exact absurd h359 (by decide)
                    · skip
                      refine vv_iload_n hC 9 dL_act_362 rfl rfl (q := 363) rfl ?_
                      refine vv_bipush hC (v := 12) dL_act_363 rfl (q := 365) rfl ?_
                      refine vv_ishr hC dL_act_365 (q := 366) rfl ?_
                      refine vv_sipush hC (v := 1002) dL_act_366 rfl (q := 369) rfl ?_
                      refine vv_fcp hC Stb_1 (As := [.int (v >>> (12 &&& 31)), .int 1002]) (cn_low l (v >>> (12 &&& 31)) 1002 (by decide)) (va_cwS 2 hC.2.2.2.2 gL_act_L_low rfl rfl rfl hsL_low ⟨Nat.le_of_ble_eq_true rfl, Nat.le_of_ble_eq_true rfl⟩) rfl rfl (Nat.le_of_ble_eq_true rfl) ⟨by show _ ≤ 8; omega, by show _ ≤ 48; omega⟩ dL_act_369 (q := 372) rfl ?_
                      refine vv_iconst hC (v := 1) dL_act_372 rfl (q := 373) rfl ?_
                      refine vv_isub hC dL_act_373 (q := 374) rfl ?_
                      refine vv_goto hC (tgt := 387) dL_act_374 (by decide) ?_
                      refine vv_fcnW hC hK hE hxN hAX hA1 (As := [.ref (ad 0), .int ((lowF (v >>> (4 &&& 31)) 8) - 1), .int ((lowF (v >>> (7 &&& 31)) 300) - 1), .int ((lowF (v >>> (12 &&& 31)) 1002) - 1)]) Foc_1 (fun zz => cn_type l hJ hlst AX zz S ((lowF (v >>> (4 &&& 31)) 8) - 1) ((lowF (v >>> (7 &&& 31)) 300) - 1) ((lowF (v >>> (12 &&& 31)) 1002) - 1)) (vx_cwSW 4 hC.2.2.2.2 gL_act_L_type rfl rfl rfl hsL_type ⟨Nat.le_of_ble_eq_true rfl, Nat.le_of_ble_eq_true rfl⟩) rfl rfl (Nat.le_of_ble_eq_true rfl) ⟨by show _ ≤ 8; omega, by show _ ≤ 48; omega⟩ dL_act_387 (q := 390) rfl ?_
                      exact vv_lret hC hK hr hlk rfl ⟨Nat.le_of_ble_eq_true rfl, Nat.le_of_ble_eq_true rfl⟩ (fun f hf => hf) dL_act_390
                · skip
                  refine vv_tableIn hC (off := 162) (tgt := 391) dL_act_229 (by rw [he]; decide) (by rw [he]; decide) (by rw [he]; rfl) rfl ?_
                  refine vv_aload_n hC 8 dL_act_391 rfl rfl (q := 392) rfl ?_
                  refine vv_iload_n hC 6 dL_act_392 rfl rfl (q := 393) rfl ?_
                  refine vv_iload hC 4 dL_act_393 rfl (q := 395) rfl ?_
                  refine vv_fcnW hC hK hE hxN hAX hA1 (As := [.ref (ad 0), .int ((lowF (v >>> (4 &&& 31)) 8) - 1), .int ((lowF (v >>> (7 &&& 31)) 300) - 1)]) Foc_1 (fun zz => cn_delete l hJ hlst AX zz S ((lowF (v >>> (4 &&& 31)) 8) - 1) ((lowF (v >>> (7 &&& 31)) 300) - 1)) (vx_cwSW 3 hC.2.2.2.2 gL_act_L_delete rfl rfl rfl hsL_delete ⟨Nat.le_of_ble_eq_true rfl, Nat.le_of_ble_eq_true rfl⟩) rfl rfl (Nat.le_of_ble_eq_true rfl) ⟨by show _ ≤ 8; omega, by show _ ≤ 48; omega⟩ dL_act_395 (q := 398) rfl ?_
                  exact vv_lret hC hK hr hlk rfl ⟨Nat.le_of_ble_eq_true rfl, Nat.le_of_ble_eq_true rfl⟩ (fun f hf => hf) dL_act_398
                · skip
                  refine vv_tableIn hC (off := 162) (tgt := 391) dL_act_229 (by rw [he]; decide) (by rw [he]; decide) (by rw [he]; rfl) rfl ?_
                  refine vv_aload_n hC 8 dL_act_391 rfl rfl (q := 392) rfl ?_
                  refine vv_iload_n hC 6 dL_act_392 rfl rfl (q := 393) rfl ?_
                  refine vv_iload hC 4 dL_act_393 rfl (q := 395) rfl ?_
                  refine vv_fcnW hC hK hE hxN hAX hA1 (As := [.ref (ad 0), .int ((lowF (v >>> (4 &&& 31)) 8) - 1), .int ((lowF (v >>> (7 &&& 31)) 300) - 1)]) Foc_1 (fun zz => cn_delete l hJ hlst AX zz S ((lowF (v >>> (4 &&& 31)) 8) - 1) ((lowF (v >>> (7 &&& 31)) 300) - 1)) (vx_cwSW 3 hC.2.2.2.2 gL_act_L_delete rfl rfl rfl hsL_delete ⟨Nat.le_of_ble_eq_true rfl, Nat.le_of_ble_eq_true rfl⟩) rfl rfl (Nat.le_of_ble_eq_true rfl) ⟨by show _ ≤ 8; omega, by show _ ≤ 48; omega⟩ dL_act_395 (q := 398) rfl ?_
                  exact vv_lret hC hK hr hlk rfl ⟨Nat.le_of_ble_eq_true rfl, Nat.le_of_ble_eq_true rfl⟩ (fun f hf => hf) dL_act_398
                · skip
                  refine vv_tableIn hC (off := 170) (tgt := 399) dL_act_229 (by rw [he]; decide) (by rw [he]; decide) (by rw [he]; rfl) rfl ?_
                  refine vv_aload_n hC 8 dL_act_399 rfl rfl (q := 400) rfl ?_
                  refine vv_iload_n hC 6 dL_act_400 rfl rfl (q := 401) rfl ?_
                  refine vv_fcnW hC hK hE hxN hAX hA1 (As := [.ref (ad 0), .int ((lowF (v >>> (4 &&& 31)) 8) - 1)]) Foc_1 (fun zz => cn_merge l hJ hlst AX zz S ((lowF (v >>> (4 &&& 31)) 8) - 1)) (vx_cwSW 2 hC.2.2.2.2 gL_act_L_merge rfl rfl rfl hsL_merge ⟨Nat.le_of_ble_eq_true rfl, Nat.le_of_ble_eq_true rfl⟩) rfl rfl (Nat.le_of_ble_eq_true rfl) ⟨by show _ ≤ 8; omega, by show _ ≤ 48; omega⟩ dL_act_401 (q := 404) rfl ?_
                  exact vv_lret hC hK hr hlk rfl ⟨Nat.le_of_ble_eq_true rfl, Nat.le_of_ble_eq_true rfl⟩ (fun f hf => hf) dL_act_404
                · skip
                  refine vv_tableIn hC (off := 170) (tgt := 399) dL_act_229 (by rw [he]; decide) (by rw [he]; decide) (by rw [he]; rfl) rfl ?_
                  refine vv_aload_n hC 8 dL_act_399 rfl rfl (q := 400) rfl ?_
                  refine vv_iload_n hC 6 dL_act_400 rfl rfl (q := 401) rfl ?_
                  refine vv_fcnW hC hK hE hxN hAX hA1 (As := [.ref (ad 0), .int ((lowF (v >>> (4 &&& 31)) 8) - 1)]) Foc_1 (fun zz => cn_merge l hJ hlst AX zz S ((lowF (v >>> (4 &&& 31)) 8) - 1)) (vx_cwSW 2 hC.2.2.2.2 gL_act_L_merge rfl rfl rfl hsL_merge ⟨Nat.le_of_ble_eq_true rfl, Nat.le_of_ble_eq_true rfl⟩) rfl rfl (Nat.le_of_ble_eq_true rfl) ⟨by show _ ≤ 8; omega, by show _ ≤ 48; omega⟩ dL_act_401 (q := 404) rfl ?_
                  exact vv_lret hC hK hr hlk rfl ⟨Nat.le_of_ble_eq_true rfl, Nat.le_of_ble_eq_true rfl⟩ (fun f hf => hf) dL_act_404
                · skip
                  refine vv_tableIn hC (off := 170) (tgt := 399) dL_act_229 (by rw [he]; decide) (by rw [he]; decide) (by rw [he]; rfl) rfl ?_
                  refine vv_aload_n hC 8 dL_act_399 rfl rfl (q := 400) rfl ?_
                  refine vv_iload_n hC 6 dL_act_400 rfl rfl (q := 401) rfl ?_
                  refine vv_fcnW hC hK hE hxN hAX hA1 (As := [.ref (ad 0), .int ((lowF (v >>> (4 &&& 31)) 8) - 1)]) Foc_1 (fun zz => cn_merge l hJ hlst AX zz S ((lowF (v >>> (4 &&& 31)) 8) - 1)) (vx_cwSW 2 hC.2.2.2.2 gL_act_L_merge rfl rfl rfl hsL_merge ⟨Nat.le_of_ble_eq_true rfl, Nat.le_of_ble_eq_true rfl⟩) rfl rfl (Nat.le_of_ble_eq_true rfl) ⟨by show _ ≤ 8; omega, by show _ ≤ 48; omega⟩ dL_act_401 (q := 404) rfl ?_
                  exact vv_lret hC hK hr hlk rfl ⟨Nat.le_of_ble_eq_true rfl, Nat.le_of_ble_eq_true rfl⟩ (fun f hf => hf) dL_act_404
                · skip
                  refine vv_tableIn hC (off := 176) (tgt := 405) dL_act_229 (by rw [he]; decide) (by rw [he]; decide) (by rw [he]; rfl) rfl ?_
                  refine vv_aload_n hC 8 dL_act_405 rfl rfl (q := 406) rfl ?_
                  refine vv_iload_n hC 7 dL_act_406 rfl rfl (q := 407) rfl ?_
                  refine vv_if_eq hC (tgt := 423) dL_act_407 (by decide) (q := 410) rfl (fun h407 => ?_) (fun h407 => ?_)
                  · skip
                    exact absurd h407 (by decide)
                  · skip
                    refine vv_iload_n hC 9 dL_act_410 rfl rfl (q := 411) rfl ?_
                    refine vv_iconst hC (v := 4) dL_act_411 rfl (q := 412) rfl ?_
                    refine vv_ishr hC dL_act_412 (q := 413) rfl ?_
                    refine vv_bipush hC (v := 6) dL_act_413 rfl (q := 415) rfl ?_
                    refine vv_fcp hC Stb_1 (As := [.int (v >>> (4 &&& 31)), .int 6]) (cn_low l (v >>> (4 &&& 31)) 6 (by decide)) (va_cwS 2 hC.2.2.2.2 gL_act_L_low rfl rfl rfl hsL_low ⟨Nat.le_of_ble_eq_true rfl, Nat.le_of_ble_eq_true rfl⟩) rfl rfl (Nat.le_of_ble_eq_true rfl) ⟨by show _ ≤ 8; omega, by show _ ≤ 48; omega⟩ dL_act_415 (q := 418) rfl ?_
                    refine vv_iconst hC (v := 1) dL_act_418 rfl (q := 419) rfl ?_
                    refine vv_isub hC dL_act_419 (q := 420) rfl ?_
                    refine vv_goto hC (tgt := 430) dL_act_420 (by decide) ?_
                    refine vv_iload_n hC 7 dL_act_430 rfl rfl (q := 431) rfl ?_
                    refine vv_if_eq hC (tgt := 448) dL_act_431 (by decide) (q := 434) rfl (fun h431 => ?_) (fun h431 => ?_)
                    · skip
                      exact absurd h431 (by decide)
                    · skip
                      refine vv_iload_n hC 9 dL_act_434 rfl rfl (q := 435) rfl ?_
                      refine vv_bipush hC (v := 7) dL_act_435 rfl (q := 437) rfl ?_
                      refine vv_ishr hC dL_act_437 (q := 438) rfl ?_
                      refine vv_bipush hC (v := 103) dL_act_438 rfl (q := 440) rfl ?_
                      refine vv_fcp hC Stb_1 (As := [.int (v >>> (7 &&& 31)), .int 103]) (cn_low l (v >>> (7 &&& 31)) 103 (by decide)) (va_cwS 2 hC.2.2.2.2 gL_act_L_low rfl rfl rfl hsL_low ⟨Nat.le_of_ble_eq_true rfl, Nat.le_of_ble_eq_true rfl⟩) rfl rfl (Nat.le_of_ble_eq_true rfl) ⟨by show _ ≤ 8; omega, by show _ ≤ 48; omega⟩ dL_act_440 (q := 443) rfl ?_
                      refine vv_iconst hC (v := 1) dL_act_443 rfl (q := 444) rfl ?_
                      refine vv_isub hC dL_act_444 (q := 445) rfl ?_
                      refine vv_goto hC (tgt := 457) dL_act_445 (by decide) ?_
                      refine vv_fcnW hC hK hE hxN hAX hA1 (As := [.ref (ad 0), .int ((lowF (v >>> (4 &&& 31)) 6) - 1), .int ((lowF (v >>> (7 &&& 31)) 103) - 1)]) Foc_1 (fun zz => cn_setRate l hJ hlst AX zz S ((lowF (v >>> (4 &&& 31)) 6) - 1) ((lowF (v >>> (7 &&& 31)) 103) - 1)) (vx_cwSW 3 hC.2.2.2.2 gL_act_L_setRate rfl rfl rfl hsL_setRate ⟨Nat.le_of_ble_eq_true rfl, Nat.le_of_ble_eq_true rfl⟩) rfl rfl (Nat.le_of_ble_eq_true rfl) ⟨by show _ ≤ 8; omega, by show _ ≤ 48; omega⟩ dL_act_457 (q := 460) rfl ?_
                      exact vv_lret hC hK hr hlk rfl ⟨Nat.le_of_ble_eq_true rfl, Nat.le_of_ble_eq_true rfl⟩ (fun f hf => hf) dL_act_460
                · skip
                  refine vv_tableIn hC (off := 232) (tgt := 461) dL_act_229 (by rw [he]; decide) (by rw [he]; decide) (by rw [he]; rfl) rfl ?_
                  refine vv_aload_n hC 8 dL_act_461 rfl rfl (q := 462) rfl ?_
                  refine vv_iload_n hC 7 dL_act_462 rfl rfl (q := 463) rfl ?_
                  refine vv_if_eq hC (tgt := 480) dL_act_463 (by decide) (q := 466) rfl (fun h463 => ?_) (fun h463 => ?_)
                  · skip
                    exact absurd h463 (by decide)
                  · skip
                    refine vv_iload_n hC 9 dL_act_466 rfl rfl (q := 467) rfl ?_
                    refine vv_bipush hC (v := 14) dL_act_467 rfl (q := 469) rfl ?_
                    refine vv_ishr hC dL_act_469 (q := 470) rfl ?_
                    refine vv_bipush hC (v := 6) dL_act_470 rfl (q := 472) rfl ?_
                    refine vv_fcp hC Stb_1 (As := [.int (v >>> (14 &&& 31)), .int 6]) (cn_low l (v >>> (14 &&& 31)) 6 (by decide)) (va_cwS 2 hC.2.2.2.2 gL_act_L_low rfl rfl rfl hsL_low ⟨Nat.le_of_ble_eq_true rfl, Nat.le_of_ble_eq_true rfl⟩) rfl rfl (Nat.le_of_ble_eq_true rfl) ⟨by show _ ≤ 8; omega, by show _ ≤ 48; omega⟩ dL_act_472 (q := 475) rfl ?_
                    refine vv_iconst hC (v := 1) dL_act_475 rfl (q := 476) rfl ?_
                    refine vv_isub hC dL_act_476 (q := 477) rfl ?_
                    refine vv_goto hC (tgt := 488) dL_act_477 (by decide) ?_
                    refine vv_iload hC 2 dL_act_488 rfl (q := 490) rfl ?_
                    refine vv_iload hC 1 dL_act_490 rfl (q := 492) rfl ?_
                    refine vv_fcnW hC hK hE hxN hAX hA1 (As := [.ref (ad 0), .int ((lowF (v >>> (14 &&& 31)) 6) - 1), .int ((lowF (v >>> (4 &&& 31)) 40) - 1), .int ((lowF (v >>> (9 &&& 31)) 40) - 1)]) Foc_1 (fun zz => cn_order l hJ hlst AX zz S ((lowF (v >>> (14 &&& 31)) 6) - 1) ((lowF (v >>> (4 &&& 31)) 40) - 1) ((lowF (v >>> (9 &&& 31)) 40) - 1)) (vx_cwSW 4 hC.2.2.2.2 gL_act_L_order rfl rfl rfl hsL_order ⟨Nat.le_of_ble_eq_true rfl, Nat.le_of_ble_eq_true rfl⟩) rfl rfl (Nat.le_of_ble_eq_true rfl) ⟨by show _ ≤ 8; omega, by show _ ≤ 48; omega⟩ dL_act_492 (q := 495) rfl ?_
                    exact vv_lret hC hK hr hlk rfl ⟨Nat.le_of_ble_eq_true rfl, Nat.le_of_ble_eq_true rfl⟩ (fun f hf => hf) dL_act_495
                · skip
                  refine vv_tableIn hC (off := 232) (tgt := 461) dL_act_229 (by rw [he]; decide) (by rw [he]; decide) (by rw [he]; rfl) rfl ?_
                  refine vv_aload_n hC 8 dL_act_461 rfl rfl (q := 462) rfl ?_
                  refine vv_iload_n hC 7 dL_act_462 rfl rfl (q := 463) rfl ?_
                  refine vv_if_eq hC (tgt := 480) dL_act_463 (by decide) (q := 466) rfl (fun h463 => ?_) (fun h463 => ?_)
                  · skip
                    exact absurd h463 (by decide)
                  · skip
                    refine vv_iload_n hC 9 dL_act_466 rfl rfl (q := 467) rfl ?_
                    refine vv_bipush hC (v := 14) dL_act_467 rfl (q := 469) rfl ?_
                    refine vv_ishr hC dL_act_469 (q := 470) rfl ?_
                    refine vv_bipush hC (v := 6) dL_act_470 rfl (q := 472) rfl ?_
                    refine vv_fcp hC Stb_1 (As := [.int (v >>> (14 &&& 31)), .int 6]) (cn_low l (v >>> (14 &&& 31)) 6 (by decide)) (va_cwS 2 hC.2.2.2.2 gL_act_L_low rfl rfl rfl hsL_low ⟨Nat.le_of_ble_eq_true rfl, Nat.le_of_ble_eq_true rfl⟩) rfl rfl (Nat.le_of_ble_eq_true rfl) ⟨by show _ ≤ 8; omega, by show _ ≤ 48; omega⟩ dL_act_472 (q := 475) rfl ?_
                    refine vv_iconst hC (v := 1) dL_act_475 rfl (q := 476) rfl ?_
                    refine vv_isub hC dL_act_476 (q := 477) rfl ?_
                    refine vv_goto hC (tgt := 488) dL_act_477 (by decide) ?_
                    refine vv_iload hC 2 dL_act_488 rfl (q := 490) rfl ?_
                    refine vv_iload hC 1 dL_act_490 rfl (q := 492) rfl ?_
                    refine vv_fcnW hC hK hE hxN hAX hA1 (As := [.ref (ad 0), .int ((lowF (v >>> (14 &&& 31)) 6) - 1), .int ((lowF (v >>> (4 &&& 31)) 40) - 1), .int ((lowF (v >>> (9 &&& 31)) 40) - 1)]) Foc_1 (fun zz => cn_order l hJ hlst AX zz S ((lowF (v >>> (14 &&& 31)) 6) - 1) ((lowF (v >>> (4 &&& 31)) 40) - 1) ((lowF (v >>> (9 &&& 31)) 40) - 1)) (vx_cwSW 4 hC.2.2.2.2 gL_act_L_order rfl rfl rfl hsL_order ⟨Nat.le_of_ble_eq_true rfl, Nat.le_of_ble_eq_true rfl⟩) rfl rfl (Nat.le_of_ble_eq_true rfl) ⟨by show _ ≤ 8; omega, by show _ ≤ 48; omega⟩ dL_act_492 (q := 495) rfl ?_
                    exact vv_lret hC hK hr hlk rfl ⟨Nat.le_of_ble_eq_true rfl, Nat.le_of_ble_eq_true rfl⟩ (fun f hf => hf) dL_act_495
                · skip
                  refine vv_tableIn hC (off := 232) (tgt := 461) dL_act_229 (by rw [he]; decide) (by rw [he]; decide) (by rw [he]; rfl) rfl ?_
                  refine vv_aload_n hC 8 dL_act_461 rfl rfl (q := 462) rfl ?_
                  refine vv_iload_n hC 7 dL_act_462 rfl rfl (q := 463) rfl ?_
                  refine vv_if_eq hC (tgt := 480) dL_act_463 (by decide) (q := 466) rfl (fun h463 => ?_) (fun h463 => ?_)
                  · skip
                    exact absurd h463 (by decide)
                  · skip
                    refine vv_iload_n hC 9 dL_act_466 rfl rfl (q := 467) rfl ?_
                    refine vv_bipush hC (v := 14) dL_act_467 rfl (q := 469) rfl ?_
                    refine vv_ishr hC dL_act_469 (q := 470) rfl ?_
                    refine vv_bipush hC (v := 6) dL_act_470 rfl (q := 472) rfl ?_
                    refine vv_fcp hC Stb_1 (As := [.int (v >>> (14 &&& 31)), .int 6]) (cn_low l (v >>> (14 &&& 31)) 6 (by decide)) (va_cwS 2 hC.2.2.2.2 gL_act_L_low rfl rfl rfl hsL_low ⟨Nat.le_of_ble_eq_true rfl, Nat.le_of_ble_eq_true rfl⟩) rfl rfl (Nat.le_of_ble_eq_true rfl) ⟨by show _ ≤ 8; omega, by show _ ≤ 48; omega⟩ dL_act_472 (q := 475) rfl ?_
                    refine vv_iconst hC (v := 1) dL_act_475 rfl (q := 476) rfl ?_
                    refine vv_isub hC dL_act_476 (q := 477) rfl ?_
                    refine vv_goto hC (tgt := 488) dL_act_477 (by decide) ?_
                    refine vv_iload hC 2 dL_act_488 rfl (q := 490) rfl ?_
                    refine vv_iload hC 1 dL_act_490 rfl (q := 492) rfl ?_
                    refine vv_fcnW hC hK hE hxN hAX hA1 (As := [.ref (ad 0), .int ((lowF (v >>> (14 &&& 31)) 6) - 1), .int ((lowF (v >>> (4 &&& 31)) 40) - 1), .int ((lowF (v >>> (9 &&& 31)) 40) - 1)]) Foc_1 (fun zz => cn_order l hJ hlst AX zz S ((lowF (v >>> (14 &&& 31)) 6) - 1) ((lowF (v >>> (4 &&& 31)) 40) - 1) ((lowF (v >>> (9 &&& 31)) 40) - 1)) (vx_cwSW 4 hC.2.2.2.2 gL_act_L_order rfl rfl rfl hsL_order ⟨Nat.le_of_ble_eq_true rfl, Nat.le_of_ble_eq_true rfl⟩) rfl rfl (Nat.le_of_ble_eq_true rfl) ⟨by show _ ≤ 8; omega, by show _ ≤ 48; omega⟩ dL_act_492 (q := 495) rfl ?_
                    exact vv_lret hC hK hr hlk rfl ⟨Nat.le_of_ble_eq_true rfl, Nat.le_of_ble_eq_true rfl⟩ (fun f hf => hf) dL_act_495
                · skip
                  refine vv_tableIn hC (off := 267) (tgt := 496) dL_act_229 (by rw [he]; decide) (by rw [he]; decide) (by rw [he]; rfl) rfl ?_
                  refine vv_aload_n hC 8 dL_act_496 rfl rfl (q := 497) rfl ?_
                  refine vv_iload hC 0 dL_act_497 rfl (q := 499) rfl ?_
                  refine vv_iload_n hC 7 dL_act_499 rfl rfl (q := 500) rfl ?_
                  refine vv_if_eq hC (tgt := 517) dL_act_500 (by decide) (q := 503) rfl (fun h500 => ?_) (fun h500 => ?_)
                  · skip
                    exact absurd h500 (by decide)
                  · skip
                    refine vv_iload_n hC 9 dL_act_503 rfl rfl (q := 504) rfl ?_
                    refine vv_bipush hC (v := 9) dL_act_504 rfl (q := 506) rfl ?_
                    refine vv_ishr hC dL_act_506 (q := 507) rfl ?_
                    refine vv_bipush hC (v := 12) dL_act_507 rfl (q := 509) rfl ?_
                    refine vv_fcp hC Stb_1 (As := [.int (v >>> (9 &&& 31)), .int 12]) (cn_low l (v >>> (9 &&& 31)) 12 (by decide)) (va_cwS 2 hC.2.2.2.2 gL_act_L_low rfl rfl rfl hsL_low ⟨Nat.le_of_ble_eq_true rfl, Nat.le_of_ble_eq_true rfl⟩) rfl rfl (Nat.le_of_ble_eq_true rfl) ⟨by show _ ≤ 8; omega, by show _ ≤ 48; omega⟩ dL_act_509 (q := 512) rfl ?_
                    refine vv_iconst hC (v := 1) dL_act_512 rfl (q := 513) rfl ?_
                    refine vv_isub hC dL_act_513 (q := 514) rfl ?_
                    refine vv_goto hC (tgt := 525) dL_act_514 (by decide) ?_
                    refine vv_fcnW hC hK hE hxN hAX hA1 (As := [.ref (ad 0), .int ((lowF (v >>> (4 &&& 31)) 33) - 1), .int ((lowF (v >>> (9 &&& 31)) 12) - 1)]) Foc_1 (fun zz => cn_finish l hJ hlst AX zz S ((lowF (v >>> (4 &&& 31)) 33) - 1) ((lowF (v >>> (9 &&& 31)) 12) - 1)) (vx_cwSW 3 hC.2.2.2.2 gL_act_L_finish rfl rfl rfl hsL_finish ⟨Nat.le_of_ble_eq_true rfl, Nat.le_of_ble_eq_true rfl⟩) rfl rfl (Nat.le_of_ble_eq_true rfl) ⟨by show _ ≤ 8; omega, by show _ ≤ 48; omega⟩ dL_act_525 (q := 528) rfl ?_
                    exact vv_lret hC hK hr hlk rfl ⟨Nat.le_of_ble_eq_true rfl, Nat.le_of_ble_eq_true rfl⟩ (fun f hf => hf) dL_act_528
                · skip
                  refine vv_tableIn hC (off := 267) (tgt := 496) dL_act_229 (by rw [he]; decide) (by rw [he]; decide) (by rw [he]; rfl) rfl ?_
                  refine vv_aload_n hC 8 dL_act_496 rfl rfl (q := 497) rfl ?_
                  refine vv_iload hC 0 dL_act_497 rfl (q := 499) rfl ?_
                  refine vv_iload_n hC 7 dL_act_499 rfl rfl (q := 500) rfl ?_
                  refine vv_if_eq hC (tgt := 517) dL_act_500 (by decide) (q := 503) rfl (fun h500 => ?_) (fun h500 => ?_)
                  · skip
                    exact absurd h500 (by decide)
                  · skip
                    refine vv_iload_n hC 9 dL_act_503 rfl rfl (q := 504) rfl ?_
                    refine vv_bipush hC (v := 9) dL_act_504 rfl (q := 506) rfl ?_
                    refine vv_ishr hC dL_act_506 (q := 507) rfl ?_
                    refine vv_bipush hC (v := 12) dL_act_507 rfl (q := 509) rfl ?_
                    refine vv_fcp hC Stb_1 (As := [.int (v >>> (9 &&& 31)), .int 12]) (cn_low l (v >>> (9 &&& 31)) 12 (by decide)) (va_cwS 2 hC.2.2.2.2 gL_act_L_low rfl rfl rfl hsL_low ⟨Nat.le_of_ble_eq_true rfl, Nat.le_of_ble_eq_true rfl⟩) rfl rfl (Nat.le_of_ble_eq_true rfl) ⟨by show _ ≤ 8; omega, by show _ ≤ 48; omega⟩ dL_act_509 (q := 512) rfl ?_
                    refine vv_iconst hC (v := 1) dL_act_512 rfl (q := 513) rfl ?_
                    refine vv_isub hC dL_act_513 (q := 514) rfl ?_
                    refine vv_goto hC (tgt := 525) dL_act_514 (by decide) ?_
                    refine vv_fcnW hC hK hE hxN hAX hA1 (As := [.ref (ad 0), .int ((lowF (v >>> (4 &&& 31)) 33) - 1), .int ((lowF (v >>> (9 &&& 31)) 12) - 1)]) Foc_1 (fun zz => cn_finish l hJ hlst AX zz S ((lowF (v >>> (4 &&& 31)) 33) - 1) ((lowF (v >>> (9 &&& 31)) 12) - 1)) (vx_cwSW 3 hC.2.2.2.2 gL_act_L_finish rfl rfl rfl hsL_finish ⟨Nat.le_of_ble_eq_true rfl, Nat.le_of_ble_eq_true rfl⟩) rfl rfl (Nat.le_of_ble_eq_true rfl) ⟨by show _ ≤ 8; omega, by show _ ≤ 48; omega⟩ dL_act_525 (q := 528) rfl ?_
                    exact vv_lret hC hK hr hlk rfl ⟨Nat.le_of_ble_eq_true rfl, Nat.le_of_ble_eq_true rfl⟩ (fun f hf => hf) dL_act_528
                · skip
                  refine vv_tableIn hC (off := 300) (tgt := 529) dL_act_229 (by rw [he]; decide) (by rw [he]; decide) (by rw [he]; rfl) rfl ?_
                  refine vv_aload_n hC 8 dL_act_529 rfl rfl (q := 530) rfl ?_
                  refine vv_iload hC 0 dL_act_530 rfl (q := 532) rfl ?_
                  refine vv_fcnW hC hK hE hxN hAX hA1 (As := [.ref (ad 0), .int ((lowF (v >>> (4 &&& 31)) 33) - 1)]) Foc_1 (fun zz => cn_cancel l hJ hlst AX zz S ((lowF (v >>> (4 &&& 31)) 33) - 1)) (vx_cwSW 2 hC.2.2.2.2 gL_act_L_cancel rfl rfl rfl hsL_cancel ⟨Nat.le_of_ble_eq_true rfl, Nat.le_of_ble_eq_true rfl⟩) rfl rfl (Nat.le_of_ble_eq_true rfl) ⟨by show _ ≤ 8; omega, by show _ ≤ 48; omega⟩ dL_act_532 (q := 535) rfl ?_
                  exact vv_lret hC hK hr hlk rfl ⟨Nat.le_of_ble_eq_true rfl, Nat.le_of_ble_eq_true rfl⟩ (fun f hf => hf) dL_act_535
                · skip
                  refine vv_tableIn hC (off := 307) (tgt := 536) dL_act_229 (by rw [he]; decide) (by rw [he]; decide) (by rw [he]; rfl) rfl ?_
                  refine vv_aload_n hC 8 dL_act_536 rfl rfl (q := 537) rfl ?_
                  refine vv_iload_n hC 7 dL_act_537 rfl rfl (q := 538) rfl ?_
                  refine vv_if_eq hC (tgt := 553) dL_act_538 (by decide) (q := 541) rfl (fun h538 => ?_) (fun h538 => ?_)
                  · skip
                    exact absurd h538 (by decide)
                  · skip
                    refine vv_iload_n hC 9 dL_act_541 rfl rfl (q := 542) rfl ?_
                    refine vv_iconst hC (v := 4) dL_act_542 rfl (q := 543) rfl ?_
                    refine vv_ishr hC dL_act_543 (q := 544) rfl ?_
                    refine vv_sipush hC (v := 1003) dL_act_544 rfl (q := 547) rfl ?_
                    refine vv_fcp hC Stb_1 (As := [.int (v >>> (4 &&& 31)), .int 1003]) (cn_low l (v >>> (4 &&& 31)) 1003 (by decide)) (va_cwS 2 hC.2.2.2.2 gL_act_L_low rfl rfl rfl hsL_low ⟨Nat.le_of_ble_eq_true rfl, Nat.le_of_ble_eq_true rfl⟩) rfl rfl (Nat.le_of_ble_eq_true rfl) ⟨by show _ ≤ 8; omega, by show _ ≤ 48; omega⟩ dL_act_547 (q := 550) rfl ?_
                    refine vv_goto hC (tgt := 567) dL_act_550 (by decide) ?_
                    refine vv_iload_n hC 7 dL_act_567 rfl rfl (q := 568) rfl ?_
                    refine vv_if_eq hC (tgt := 584) dL_act_568 (by decide) (q := 571) rfl (fun h568 => ?_) (fun h568 => ?_)
                    · skip
                      exact absurd h568 (by decide)
                    · skip
                      refine vv_iload_n hC 9 dL_act_571 rfl rfl (q := 572) rfl ?_
                      refine vv_bipush hC (v := 14) dL_act_572 rfl (q := 574) rfl ?_
                      refine vv_ishr hC dL_act_574 (q := 575) rfl ?_
                      refine vv_sipush hC (v := 203) dL_act_575 rfl (q := 578) rfl ?_
                      refine vv_fcp hC Stb_1 (As := [.int (v >>> (14 &&& 31)), .int 203]) (cn_low l (v >>> (14 &&& 31)) 203 (by decide)) (va_cwS 2 hC.2.2.2.2 gL_act_L_low rfl rfl rfl hsL_low ⟨Nat.le_of_ble_eq_true rfl, Nat.le_of_ble_eq_true rfl⟩) rfl rfl (Nat.le_of_ble_eq_true rfl) ⟨by show _ ≤ 8; omega, by show _ ≤ 48; omega⟩ dL_act_578 (q := 581) rfl ?_
                      refine vv_goto hC (tgt := 595) dL_act_581 (by decide) ?_
                      refine vv_fcnW hC hK hE hxN hAX hA1 (As := [.ref (ad 0), .int (lowF (v >>> (4 &&& 31)) 1003), .int (lowF (v >>> (14 &&& 31)) 203)]) Foc_1 (fun zz => cn_addIssue l hJ hlst AX zz S (lowF (v >>> (4 &&& 31)) 1003) (lowF (v >>> (14 &&& 31)) 203)) (vx_cwSW 3 hC.2.2.2.2 gL_act_L_addIssue rfl rfl rfl hsL_addIssue ⟨Nat.le_of_ble_eq_true rfl, Nat.le_of_ble_eq_true rfl⟩) rfl rfl (Nat.le_of_ble_eq_true rfl) ⟨by show _ ≤ 8; omega, by show _ ≤ 48; omega⟩ dL_act_595 (q := 598) rfl ?_
                      exact vv_lret hC hK hr hlk rfl ⟨Nat.le_of_ble_eq_true rfl, Nat.le_of_ble_eq_true rfl⟩ (fun f hf => hf) dL_act_598
                · skip
                  refine vv_tableIn hC (off := 370) (tgt := 599) dL_act_229 (by rw [he]; decide) (by rw [he]; decide) (by rw [he]; rfl) rfl ?_
                  refine vv_aload_n hC 8 dL_act_599 rfl rfl (q := 600) rfl ?_
                  refine vv_iload_n hC 7 dL_act_600 rfl rfl (q := 601) rfl ?_
                  refine vv_if_eq hC (tgt := 617) dL_act_601 (by decide) (q := 604) rfl (fun h601 => ?_) (fun h601 => ?_)
                  · skip
                    exact absurd h601 (by decide)
                  · skip
                    refine vv_iload_n hC 9 dL_act_604 rfl rfl (q := 605) rfl ?_
                    refine vv_iconst hC (v := 4) dL_act_605 rfl (q := 606) rfl ?_
                    refine vv_ishr hC dL_act_606 (q := 607) rfl ?_
                    refine vv_bipush hC (v := 103) dL_act_607 rfl (q := 609) rfl ?_
                    refine vv_fcp hC Stb_1 (As := [.int (v >>> (4 &&& 31)), .int 103]) (cn_low l (v >>> (4 &&& 31)) 103 (by decide)) (va_cwS 2 hC.2.2.2.2 gL_act_L_low rfl rfl rfl hsL_low ⟨Nat.le_of_ble_eq_true rfl, Nat.le_of_ble_eq_true rfl⟩) rfl rfl (Nat.le_of_ble_eq_true rfl) ⟨by show _ ≤ 8; omega, by show _ ≤ 48; omega⟩ dL_act_609 (q := 612) rfl ?_
                    refine vv_iconst hC (v := (1 : Int32)) dL_act_612 rfl (q := 613) rfl ?_
                    refine vv_isub hC dL_act_613 (q := 614) rfl ?_
                    refine vv_goto hC (tgt := 626) dL_act_614 (by decide) ?_
                    refine vv_fcnW hC hK hE hxN hAX hA1 (As := [.ref (ad 0), .int ((lowF (v >>> (4 &&& 31)) 103) - (1 : Int32))]) Foc_1 (fun zz => cn_pass l hJ hlst AX zz S ((lowF (v >>> (4 &&& 31)) 103) - (1 : Int32))) (vx_cwSW 2 hC.2.2.2.2 gL_act_L_pass rfl rfl rfl hsL_pass ⟨Nat.le_of_ble_eq_true rfl, Nat.le_of_ble_eq_true rfl⟩) rfl rfl (Nat.le_of_ble_eq_true rfl) ⟨by show _ ≤ 8; omega, by show _ ≤ 48; omega⟩ dL_act_626 (q := 629) rfl ?_
                    exact vv_lret hC hK hr hlk rfl ⟨Nat.le_of_ble_eq_true rfl, Nat.le_of_ble_eq_true rfl⟩ (fun f hf => hf) dL_act_629
                · skip
                  refine vv_tableIn hC (off := 370) (tgt := 599) dL_act_229 (by rw [he]; decide) (by rw [he]; decide) (by rw [he]; rfl) rfl ?_
                  refine vv_aload_n hC 8 dL_act_599 rfl rfl (q := 600) rfl ?_
                  refine vv_iload_n hC 7 dL_act_600 rfl rfl (q := 601) rfl ?_
                  refine vv_if_eq hC (tgt := 617) dL_act_601 (by decide) (q := 604) rfl (fun h601 => ?_) (fun h601 => ?_)
                  · skip
                    exact absurd h601 (by decide)
                  · skip
                    refine vv_iload_n hC 9 dL_act_604 rfl rfl (q := 605) rfl ?_
                    refine vv_iconst hC (v := 4) dL_act_605 rfl (q := 606) rfl ?_
                    refine vv_ishr hC dL_act_606 (q := 607) rfl ?_
                    refine vv_bipush hC (v := 103) dL_act_607 rfl (q := 609) rfl ?_
                    refine vv_fcp hC Stb_1 (As := [.int (v >>> (4 &&& 31)), .int 103]) (cn_low l (v >>> (4 &&& 31)) 103 (by decide)) (va_cwS 2 hC.2.2.2.2 gL_act_L_low rfl rfl rfl hsL_low ⟨Nat.le_of_ble_eq_true rfl, Nat.le_of_ble_eq_true rfl⟩) rfl rfl (Nat.le_of_ble_eq_true rfl) ⟨by show _ ≤ 8; omega, by show _ ≤ 48; omega⟩ dL_act_609 (q := 612) rfl ?_
                    refine vv_iconst hC (v := (1 : Int32)) dL_act_612 rfl (q := 613) rfl ?_
                    refine vv_isub hC dL_act_613 (q := 614) rfl ?_
                    refine vv_goto hC (tgt := 626) dL_act_614 (by decide) ?_
                    refine vv_fcnW hC hK hE hxN hAX hA1 (As := [.ref (ad 0), .int ((lowF (v >>> (4 &&& 31)) 103) - (1 : Int32))]) Foc_1 (fun zz => cn_pass l hJ hlst AX zz S ((lowF (v >>> (4 &&& 31)) 103) - (1 : Int32))) (vx_cwSW 2 hC.2.2.2.2 gL_act_L_pass rfl rfl rfl hsL_pass ⟨Nat.le_of_ble_eq_true rfl, Nat.le_of_ble_eq_true rfl⟩) rfl rfl (Nat.le_of_ble_eq_true rfl) ⟨by show _ ≤ 8; omega, by show _ ≤ 48; omega⟩ dL_act_626 (q := 629) rfl ?_
                    exact vv_lret hC hK hr hlk rfl ⟨Nat.le_of_ble_eq_true rfl, Nat.le_of_ble_eq_true rfl⟩ (fun f hf => hf) dL_act_629
                · skip
                  refine vv_tableIn hC (off := 401) (tgt := 630) dL_act_229 (by rw [he]; decide) (by rw [he]; decide) (by rw [he]; rfl) rfl ?_
                  refine vv_aload_n hC 8 dL_act_630 rfl rfl (q := 631) rfl ?_
                  refine vv_iload hC 2 dL_act_631 rfl (q := 633) rfl ?_
                  refine vv_iload hC 1 dL_act_633 rfl (q := 635) rfl ?_
                  refine vv_fcnW hC hK hE hxN hAX hA1 (As := [.ref (ad 0), .int ((lowF (v >>> (4 &&& 31)) 40) - 1), .int ((lowF (v >>> (9 &&& 31)) 40) - 1)]) Foc_1 (fun zz => cn_comment l hJ hlst AX zz S ((lowF (v >>> (4 &&& 31)) 40) - 1) ((lowF (v >>> (9 &&& 31)) 40) - 1)) (vx_cwSW 3 hC.2.2.2.2 gL_act_L_comment rfl rfl rfl hsL_comment ⟨Nat.le_of_ble_eq_true rfl, Nat.le_of_ble_eq_true rfl⟩) rfl rfl (Nat.le_of_ble_eq_true rfl) ⟨by show _ ≤ 8; omega, by show _ ≤ 48; omega⟩ dL_act_635 (q := 638) rfl ?_
                  exact vv_lret hC hK hr hlk rfl ⟨Nat.le_of_ble_eq_true rfl, Nat.le_of_ble_eq_true rfl⟩ (fun f hf => hf) dL_act_638
                · skip
                  refine vv_tableIn hC (off := 410) (tgt := 639) dL_act_229 (by rw [he]; decide) (by rw [he]; decide) (by rw [he]; rfl) rfl ?_
                  refine vv_aload_n hC 8 dL_act_639 rfl rfl (q := 640) rfl ?_
                  refine vv_fcnW hC hK hE hxN hAX hA1 (As := [.ref (ad 0)]) Foc_1 (fun zz => cn_keep l hJ hlst AX zz S) (vx_cwSW 1 hC.2.2.2.2 gL_act_L_keep rfl rfl rfl hsL_keep ⟨Nat.le_of_ble_eq_true rfl, Nat.le_of_ble_eq_true rfl⟩) rfl rfl (Nat.le_of_ble_eq_true rfl) ⟨by show _ ≤ 8; omega, by show _ ≤ 48; omega⟩ dL_act_640 (q := 643) rfl ?_
                  exact vv_lret hC hK hr hlk rfl ⟨Nat.le_of_ble_eq_true rfl, Nat.le_of_ble_eq_true rfl⟩ (fun f hf => hf) dL_act_643
                · skip
                  refine vv_tableOut hC (tgt := 644) dL_act_229 (Or.inr (by rw [he]; decide)) (by decide) ?_
                  refine vv_aload_n hC 8 dL_act_644 rfl rfl (q := 645) rfl ?_
                  refine vv_iconst hC (v := 0) dL_act_645 rfl (q := 646) rfl ?_
                  refine vv_iconst hC (v := 0) dL_act_646 rfl (q := 647) rfl ?_
                  refine vv_bipush hC (v := 7) dL_act_647 rfl (q := 649) rfl ?_
                  refine vv_fcnW hC hK hE hxN hAX hA1 (As := [.ref (ad 0), .int 0, .int 0, .int 7]) Foc_1 (fun zz => cn_type l hJ hlst AX zz S 0 0 7) (vx_cwSW 4 hC.2.2.2.2 gL_act_L_type rfl rfl rfl hsL_type ⟨Nat.le_of_ble_eq_true rfl, Nat.le_of_ble_eq_true rfl⟩) rfl rfl (Nat.le_of_ble_eq_true rfl) ⟨by show _ ≤ 8; omega, by show _ ≤ 48; omega⟩ dL_act_649 (q := 652) rfl ?_
                  exact vv_lret hC hK hr hlk rfl ⟨Nat.le_of_ble_eq_true rfl, Nat.le_of_ble_eq_true rfl⟩ (fun f hf => hf) dL_act_652
def actE (j : Nat) (S : sC) (v : Int32) : Int32 × sC := if j < 6 then wr (tType S (lowF (v >>> (4 &&& 31)) 3) (lowF (v >>> (7 &&& 31)) ((eC S v) + 1)) (lowF (v >>> (12 &&& 31)) 1000)) (rType S (lowF (v >>> (4 &&& 31)) 3) (lowF (v >>> (7 &&& 31)) ((eC S v) + 1)) (lowF (v >>> (12 &&& 31)) 1000)) (sType S (lowF (v >>> (4 &&& 31)) 3) (lowF (v >>> (7 &&& 31)) ((eC S v) + 1)) (lowF (v >>> (12 &&& 31)) 1000)) S else if j < 8 then wr (tCopyAt S (lowF (v >>> (4 &&& 31)) 3) (eP S v)) (rAt (S.1 (pW (lowF (v >>> (4 &&& 31)) 3) + 1)) (eP S v)) (wTake S (pW (lowF (v >>> (4 &&& 31)) 3)) (eP S v)) S else if j < 11 then wr (tIx (lowF (v >>> (4 &&& 31)) 3) 6) (nI (mrg S (pW (lowF (v >>> (4 &&& 31)) 3))).1) (sMerge S (lowF (v >>> (4 &&& 31)) 3)) S else if j < 12 then wr (tRate (lowF (v >>> (4 &&& 31)) 4) (lowF (v >>> (7 &&& 31)) 9)) (rAt (S.1 74) (lowF (v >>> (4 &&& 31)) 4)) (sSet S 74 (rSet (S.1 74) (lowF (v >>> (4 &&& 31)) 4) (lowF (v >>> (7 &&& 31)) 9))) S else if j < 15 then wr (tOrder S (lowF (v >>> (14 &&& 31)) 4) (eF S v) (eT S v)) (rOrder S (lowF (v >>> (14 &&& 31)) 4) (eF S v) (eT S v)) (sOrder S (lowF (v >>> (14 &&& 31)) 4) (eF S v) (eT S v)) S else if j < 17 then wr (tFinish S (lowF (v >>> (4 &&& 31)) 5) (lowF (v >>> (9 &&& 31)) 3)) (rAt ((rvDone S (lowF (v >>> (4 &&& 31)) 5) (lowF (v >>> (9 &&& 31)) 3)).1 76) (rAt (S.1 62) (lowF (v >>> (4 &&& 31)) 5))) (rvDone S (lowF (v >>> (4 &&& 31)) 5) (lowF (v >>> (9 &&& 31)) 3)) S else if j < 18 then wr (tCancel S (lowF (v >>> (4 &&& 31)) 5)) (nI (unfreeze (sSet S 68 (rSet (S.1 68) (lowF (v >>> (4 &&& 31)) 5) 2)) (lowF (v >>> (4 &&& 31)) 5)).1) ((unfreeze (sSet S 68 (rSet (S.1 68) (lowF (v >>> (4 &&& 31)) 5) 2)) (lowF (v >>> (4 &&& 31)) 5)).2) S else if j < 19 then wr (tIssue S ((S.2.2 + (1 : Int32)) + (lowF (v >>> (4 &&& 31)) 4)) ((1 : Int32) + (lowF (v >>> (14 &&& 31)) 9))) (nI ((isAdd S ((S.2.2 + (1 : Int32)) + (lowF (v >>> (4 &&& 31)) 4)) ((1 : Int32) + (lowF (v >>> (14 &&& 31)) 9))).1 79).length - 1) (isAdd S ((S.2.2 + (1 : Int32)) + (lowF (v >>> (4 &&& 31)) 4)) ((1 : Int32) + (lowF (v >>> (14 &&& 31)) 9))) S else if j < 21 then wr (tPass S ((1 : Int32) + (lowF (v >>> (4 &&& 31)) 2))) ((paD S ((1 : Int32) + (lowF (v >>> (4 &&& 31)) 2))).1) ((paD S ((1 : Int32) + (lowF (v >>> (4 &&& 31)) 2))).2) S else if j < 22 then wr (tComment S (eF S v) (eT S v)) (nI ((sComment S (eF S v) (eT S v)).1 86).length - 1) (sComment S (eF S v) (eT S v)) S else if j < 23 then wr (tKeep S) S.2.1 (sKeep S) S else wr (tType S 0 0 7) (rType S 0 0 7) (sType S 0 0 7) S
set_option maxRecDepth 100000 in
set_option maxHeartbeats 8000000 in
theorem cn_actE (l : Launch) {D : va_G} {cI cW cZ cL : ClassId} {ad : Nat → Nat} (hJ : injA ad 90) (hlst : l.stackTraces = false) (AX : Nat → Prop) (z : Nat) (S : sC) (v : Int32) (hb : ¬ lowF (v >>> (24 &&& 31)) 9 = 0) (j : Nat) (hj : j < 24) (he : lowF v 24 = nI j) : kN l yL_act wsL_act ({ frames := 11, cells := 8, slots := 48, locals := 202 }) D cI cW cZ cL ad AX z [.ref (ad 0), .int v] S (actE j S v).1 (actE j S v).2 8 48 := by
  refine vv_enterN (cc := cL_act) (maxL := 10) (ret := some .int) (own := RL) (lv := [(0, .ref (ad 0)), (1, .int v)]) (by decide +kernel) rfl rfl hJ (Nat.le_of_ble_eq_true rfl) rfl ?_
  intro p e s m args below meth c hC hK hW hr hlk hsz hAX hE hxN
  have hA1 : ∀ zz, s.heap.size ≤ zz → ∀ q, RAs ad 90 zz q → RAs ad 90 z q := fun zz h9 => RAs.mono (by rw [← hsz]; exact h9)
  refine vv_pure (fun H hB => wq_len hB) (fun hwf => ?_)
  refine vv_iload_n hC 1 dL_act_0 rfl rfl (q := 1) rfl ?_
  refine vv_bipush hC (v := 24) dL_act_1 rfl (q := 3) rfl ?_
  refine vv_ishr hC dL_act_3 (q := 4) rfl ?_
  refine vv_bipush hC (v := 9) dL_act_4 rfl (q := 6) rfl ?_
  refine vv_fcp hC Stb_1 (As := [.int (v >>> (24 &&& 31)), .int 9]) (cn_low l (v >>> (24 &&& 31)) 9 (by decide)) (va_cwS 2 hC.2.2.2.2 gL_act_L_low rfl rfl rfl hsL_low ⟨Nat.le_of_ble_eq_true rfl, Nat.le_of_ble_eq_true rfl⟩) rfl rfl (Nat.le_of_ble_eq_true rfl) ⟨by show _ ≤ 8; omega, by show _ ≤ 48; omega⟩ dL_act_6 (q := 9) rfl ?_
  refine vv_if_ne hC (tgt := 16) dL_act_9 (by decide) (q := 12) rfl (fun h9 => ?_) (fun h9 => ?_)
  · skip
    refine vv_iconst hC (v := 0) dL_act_16 rfl (q := 17) rfl ?_
    refine vv_istore_n hC (i := 2) (lv' := [(2, .int 0), (0, .ref (ad 0)), (1, .int v)]) dL_act_17 rfl (by decide) rfl (q := 18) rfl ?_
    refine vv_iload_n hC 0 dL_act_18 rfl rfl (q := 19) rfl ?_
    refine vv_if_eq hC (tgt := 35) dL_act_19 (by decide) (q := 22) rfl (fun h19 => ?_) (fun h19 => ?_)
    · skip
      refine vv_iload_n hC 2 dL_act_35 rfl rfl (q := 36) rfl ?_
      refine vv_iconst hC (v := 4) dL_act_36 rfl (q := 37) rfl ?_
      refine vv_ishr hC dL_act_37 (q := 38) rfl ?_
      refine vv_iconst hC (v := 3) dL_act_38 rfl (q := 39) rfl ?_
      refine vv_fcp hC Stb_1 (As := [.int (v >>> (4 &&& 31)), .int 3]) (cn_low l (v >>> (4 &&& 31)) 3 (by decide)) (va_cwS 2 hC.2.2.2.2 gL_act_L_low rfl rfl rfl hsL_low ⟨Nat.le_of_ble_eq_true rfl, Nat.le_of_ble_eq_true rfl⟩) rfl rfl (Nat.le_of_ble_eq_true rfl) ⟨by show _ ≤ 8; omega, by show _ ≤ 48; omega⟩ dL_act_39 (q := 42) rfl ?_
      refine vv_istore_n hC (i := 3) (lv' := [(3, .int (lowF (v >>> (4 &&& 31)) 3)), (2, .int 0), (0, .ref (ad 0)), (1, .int v)]) dL_act_42 rfl (by decide) rfl (q := 43) rfl ?_
      refine vv_iload_n hC 1 dL_act_43 rfl rfl (q := 44) rfl ?_
      refine vv_if_eq hC (tgt := 52) dL_act_44 (by decide) (q := 47) rfl (fun h44 => ?_) (fun h44 => ?_)
      · skip
        refine vv_aload_n hC 2 dL_act_52 rfl rfl (q := 53) rfl ?_
        refine vv_iload_n hC 0 dL_act_53 rfl rfl (q := 54) rfl ?_
        refine vv_fcx hC hK hE hAX hA1 (As := [.int (lowF (v >>> (4 &&& 31)) 3)]) Foc_1 (fun zz => c8_copy l hJ hlst AX zz S (lowF (v >>> (4 &&& 31)) 3)) (low3_ix _) (cwV 1 hC.2.2.2.2 gL_act_X8_copy rfl rfl rfl hdX8_copy ⟨Nat.le_of_ble_eq_true rfl, Nat.le_of_ble_eq_true rfl⟩) rfl rfl (Nat.le_of_ble_eq_true rfl) ⟨by show _ ≤ 8; omega, by show _ ≤ 48; omega⟩ dL_act_54 (q := 57) rfl ?_
        refine vv_val (b := eC S v) rfl ?_
        refine vv_istore hC (i := 4) (lv' := [(4, .int (eC S v)), (3, .int (lowF (v >>> (4 &&& 31)) 3)), (2, .int 0), (0, .ref (ad 0)), (1, .int v)]) dL_act_57 (by decide) rfl (q := 59) rfl ?_
        refine vv_iload_n hC 2 dL_act_59 rfl rfl (q := 60) rfl ?_
        refine vv_if_eq hC (tgt := 78) dL_act_60 (by decide) (q := 63) rfl (fun h60 => ?_) (fun h60 => ?_)
        · skip
          refine vv_iload hC 0 dL_act_78 rfl (q := 80) rfl ?_
          have join96 : vv p l e (headSpec wsL_act ({ frames := 11, cells := 8, slots := 48, locals := 202 })).room s m args below meth c 10 (RAs ad 90 z) s.heap (1) (6) (MQ below (va_Qi (fun r' (_ : Unit) => r' = (actE j S v).1) (fun _ => ws0 D vwCl (tyL cI cW cZ cL) ad 90 (PC cI cW ad (actE j S v).2)) (RAs ad 90 z)) args s 8 48 (RAs ad 90 z)) (wq D vwCl ad 90 (PC cI cW ad S)) 96 [(4, .int (eC S v)), (3, .int (lowF (v >>> (4 &&& 31)) 3)), (2, .int 0), (0, .ref (ad 0)), (1, .int v)] [.int (eP S v)] := by
            refine vv_istore hC (i := 5) (lv' := [(5, .int (eP S v)), (4, .int (eC S v)), (3, .int (lowF (v >>> (4 &&& 31)) 3)), (2, .int 0), (0, .ref (ad 0)), (1, .int v)]) dL_act_96 (by decide) rfl (q := 98) rfl ?_
            refine vv_aload_n hC 4 dL_act_98 rfl rfl (q := 99) rfl ?_
            refine vv_fcm hC hK (fun _ h => Or.inl h) (As := []) Foc_1 (c8_length l hJ S) (cwV 0 hC.2.2.2.2 gL_act_X8_length rfl rfl rfl hdX8_length ⟨Nat.le_of_ble_eq_true rfl, Nat.le_of_ble_eq_true rfl⟩) rfl rfl (Nat.le_of_ble_eq_true rfl) ⟨by show _ ≤ 8; omega, by show _ ≤ 48; omega⟩ dL_act_99 (q := 102) rfl ?_
            refine vv_val (b := eL S) rfl ?_
            refine vv_istore hC (i := 6) (lv' := [(6, .int (eL S)), (5, .int (eP S v)), (4, .int (eC S v)), (3, .int (lowF (v >>> (4 &&& 31)) 3)), (2, .int 0), (0, .ref (ad 0)), (1, .int v)]) dL_act_102 (by decide) rfl (q := 104) rfl ?_
            refine vv_iload_n hC 4 dL_act_104 rfl rfl (q := 105) rfl ?_
            refine vv_if_eq hC (tgt := 121) dL_act_105 (by decide) (q := 108) rfl (fun h105 => ?_) (fun h105 => ?_)
            · skip
              refine vv_iload hC 0 dL_act_121 rfl (q := 123) rfl ?_
              have join138 : vv p l e (headSpec wsL_act ({ frames := 11, cells := 8, slots := 48, locals := 202 })).room s m args below meth c 10 (RAs ad 90 z) s.heap (1) (6) (MQ below (va_Qi (fun r' (_ : Unit) => r' = (actE j S v).1) (fun _ => ws0 D vwCl (tyL cI cW cZ cL) ad 90 (PC cI cW ad (actE j S v).2)) (RAs ad 90 z)) args s 8 48 (RAs ad 90 z)) (wq D vwCl ad 90 (PC cI cW ad S)) 138 [(6, .int (eL S)), (5, .int (eP S v)), (4, .int (eC S v)), (3, .int (lowF (v >>> (4 &&& 31)) 3)), (2, .int 0), (0, .ref (ad 0)), (1, .int v)] [.int (eF S v)] := by
                refine vv_istore hC (i := 7) (lv' := [(7, .int (eF S v)), (6, .int (eL S)), (5, .int (eP S v)), (4, .int (eC S v)), (3, .int (lowF (v >>> (4 &&& 31)) 3)), (2, .int 0), (0, .ref (ad 0)), (1, .int v)]) dL_act_138 (by decide) rfl (q := 140) rfl ?_
                refine vv_iload_n hC 5 dL_act_140 rfl rfl (q := 141) rfl ?_
                refine vv_if_eq hC (tgt := 158) dL_act_141 (by decide) (q := 144) rfl (fun h141 => ?_) (fun h141 => ?_)
                · skip
                  refine vv_iload hC 1 dL_act_158 rfl (q := 160) rfl ?_
                  have join195 : vv p l e (headSpec wsL_act ({ frames := 11, cells := 8, slots := 48, locals := 202 })).room s m args below meth c 10 (RAs ad 90 z) s.heap (1) (6) (MQ below (va_Qi (fun r' (_ : Unit) => r' = (actE j S v).1) (fun _ => ws0 D vwCl (tyL cI cW cZ cL) ad 90 (PC cI cW ad (actE j S v).2)) (RAs ad 90 z)) args s 8 48 (RAs ad 90 z)) (wq D vwCl ad 90 (PC cI cW ad S)) 195 [(7, .int (eF S v)), (6, .int (eL S)), (5, .int (eP S v)), (4, .int (eC S v)), (3, .int (lowF (v >>> (4 &&& 31)) 3)), (2, .int 0), (0, .ref (ad 0)), (1, .int v)] [.int (eT S v)] := by
                    refine vv_istore hC (i := 8) (lv' := [(8, .int (eT S v)), (7, .int (eF S v)), (6, .int (eL S)), (5, .int (eP S v)), (4, .int (eC S v)), (3, .int (lowF (v >>> (4 &&& 31)) 3)), (2, .int 0), (0, .ref (ad 0)), (1, .int v)]) dL_act_195 (by decide) rfl (q := 197) rfl ?_
                    refine vv_iload_n hC 6 dL_act_197 rfl rfl (q := 198) rfl ?_
                    refine vv_if_eq hC (tgt := 214) dL_act_198 (by decide) (q := 201) rfl (fun h198 => ?_) (fun h198 => ?_)
                    · skip
                      refine vv_iload_n hC 8 dL_act_214 rfl rfl (q := 215) rfl ?_
                      refine vv_iconst hC (v := 4) dL_act_215 rfl (q := 216) rfl ?_
                      refine vv_ishr hC dL_act_216 (q := 217) rfl ?_
                      refine vv_iconst hC (v := 5) dL_act_217 rfl (q := 218) rfl ?_
                      refine vv_fcp hC Stb_1 (As := [.int (v >>> (4 &&& 31)), .int 5]) (cn_low l (v >>> (4 &&& 31)) 5 (by decide)) (va_cwS 2 hC.2.2.2.2 gL_act_L_low rfl rfl rfl hsL_low ⟨Nat.le_of_ble_eq_true rfl, Nat.le_of_ble_eq_true rfl⟩) rfl rfl (Nat.le_of_ble_eq_true rfl) ⟨by show _ ≤ 8; omega, by show _ ≤ 48; omega⟩ dL_act_218 (q := 221) rfl ?_
                      refine vv_istore hC (i := 9) (lv' := [(9, .int (lowF (v >>> (4 &&& 31)) 5)), (8, .int (eT S v)), (7, .int (eF S v)), (6, .int (eL S)), (5, .int (eP S v)), (4, .int (eC S v)), (3, .int (lowF (v >>> (4 &&& 31)) 3)), (2, .int 0), (0, .ref (ad 0)), (1, .int v)]) dL_act_221 (by decide) rfl (q := 223) rfl ?_
                      refine vv_iload_n hC 9 dL_act_223 rfl rfl (q := 224) rfl ?_
                      refine vv_bipush hC (v := 24) dL_act_224 rfl (q := 226) rfl ?_
                      refine vv_fcp hC Stb_1 (As := [.int v, .int 24]) (cn_low l v 24 (by decide)) (va_cwS 2 hC.2.2.2.2 gL_act_L_low rfl rfl rfl hsL_low ⟨Nat.le_of_ble_eq_true rfl, Nat.le_of_ble_eq_true rfl⟩) rfl rfl (Nat.le_of_ble_eq_true rfl) ⟨by show _ ≤ 8; omega, by show _ ≤ 48; omega⟩ dL_act_226 (q := 229) rfl ?_
                      rcases (show j = 0 ∨ j = 1 ∨ j = 2 ∨ j = 3 ∨ j = 4 ∨ j = 5 ∨ j = 6 ∨ j = 7 ∨ j = 8 ∨ j = 9 ∨ j = 10 ∨ j = 11 ∨ j = 12 ∨ j = 13 ∨ j = 14 ∨ j = 15 ∨ j = 16 ∨ j = 17 ∨ j = 18 ∨ j = 19 ∨ j = 20 ∨ j = 21 ∨ j = 22 ∨ j = 23 by omega) with rfl | rfl | rfl | rfl | rfl | rfl | rfl | rfl | rfl | rfl | rfl | rfl | rfl | rfl | rfl | rfl | rfl | rfl | rfl | rfl | rfl | rfl | rfl | rfl
                      · skip
                        refine vv_tableIn hC (off := 107) (tgt := 336) dL_act_229 (by rw [he]; decide) (by rw [he]; decide) (by rw [he]; rfl) rfl ?_
                        refine vv_aload_n hC 8 dL_act_336 rfl rfl (q := 337) rfl ?_
                        refine vv_iload_n hC 6 dL_act_337 rfl rfl (q := 338) rfl ?_
                        refine vv_iload_n hC 7 dL_act_338 rfl rfl (q := 339) rfl ?_
                        refine vv_if_eq hC (tgt := 347) dL_act_339 (by decide) (q := 342) rfl (fun h339 => ?_) (fun h339 => ?_)
                        · skip
                          refine vv_iload_n hC 9 dL_act_347 rfl rfl (q := 348) rfl ?_
                          refine vv_bipush hC (v := 7) dL_act_348 rfl (q := 350) rfl ?_
                          refine vv_ishr hC dL_act_350 (q := 351) rfl ?_
                          refine vv_iload hC 5 dL_act_351 rfl (q := 353) rfl ?_
                          refine vv_iconst hC (v := 1) dL_act_353 rfl (q := 354) rfl ?_
                          refine vv_iadd hC dL_act_354 (q := 355) rfl ?_
                          refine vv_fcp hC Stb_1 (As := [.int (v >>> (7 &&& 31)), .int ((eC S v) + 1)]) (cn_low l (v >>> (7 &&& 31)) ((eC S v) + 1) (eC1_ne hwf v)) (va_cwS 2 hC.2.2.2.2 gL_act_L_low rfl rfl rfl hsL_low ⟨Nat.le_of_ble_eq_true rfl, Nat.le_of_ble_eq_true rfl⟩) rfl rfl (Nat.le_of_ble_eq_true rfl) ⟨by show _ ≤ 8; omega, by show _ ≤ 48; omega⟩ dL_act_355 (q := 358) rfl ?_
                          refine vv_iload_n hC 7 dL_act_358 rfl rfl (q := 359) rfl ?_
                          refine vv_if_eq hC (tgt := 377) dL_act_359 (by decide) (q := 362) rfl (fun h359 => ?_) (fun h359 => ?_)
                          · skip
                            refine vv_iload_n hC 9 dL_act_377 rfl rfl (q := 378) rfl ?_
                            refine vv_bipush hC (v := 12) dL_act_378 rfl (q := 380) rfl ?_
                            refine vv_ishr hC dL_act_380 (q := 381) rfl ?_
                            refine vv_sipush hC (v := 1000) dL_act_381 rfl (q := 384) rfl ?_
                            refine vv_fcp hC Stb_1 (As := [.int (v >>> (12 &&& 31)), .int 1000]) (cn_low l (v >>> (12 &&& 31)) 1000 (by decide)) (va_cwS 2 hC.2.2.2.2 gL_act_L_low rfl rfl rfl hsL_low ⟨Nat.le_of_ble_eq_true rfl, Nat.le_of_ble_eq_true rfl⟩) rfl rfl (Nat.le_of_ble_eq_true rfl) ⟨by show _ ≤ 8; omega, by show _ ≤ 48; omega⟩ dL_act_384 (q := 387) rfl ?_
                            refine vv_fcnW hC hK hE hxN hAX hA1 (As := [.ref (ad 0), .int (lowF (v >>> (4 &&& 31)) 3), .int (lowF (v >>> (7 &&& 31)) ((eC S v) + 1)), .int (lowF (v >>> (12 &&& 31)) 1000)]) Foc_1 (fun zz => cn_type l hJ hlst AX zz S (lowF (v >>> (4 &&& 31)) 3) (lowF (v >>> (7 &&& 31)) ((eC S v) + 1)) (lowF (v >>> (12 &&& 31)) 1000)) (vx_cwSW 4 hC.2.2.2.2 gL_act_L_type rfl rfl rfl hsL_type ⟨Nat.le_of_ble_eq_true rfl, Nat.le_of_ble_eq_true rfl⟩) rfl rfl (Nat.le_of_ble_eq_true rfl) ⟨by show _ ≤ 8; omega, by show _ ≤ 48; omega⟩ dL_act_387 (q := 390) rfl ?_
                            exact vv_lret hC hK hr hlk rfl ⟨Nat.le_of_ble_eq_true rfl, Nat.le_of_ble_eq_true rfl⟩ (fun f hf => hf) dL_act_390
                          · skip
                            exact absurd (by decide) h359
                        · skip
                          exact absurd (by decide) h339
                      · skip
                        refine vv_tableIn hC (off := 107) (tgt := 336) dL_act_229 (by rw [he]; decide) (by rw [he]; decide) (by rw [he]; rfl) rfl ?_
                        refine vv_aload_n hC 8 dL_act_336 rfl rfl (q := 337) rfl ?_
                        refine vv_iload_n hC 6 dL_act_337 rfl rfl (q := 338) rfl ?_
                        refine vv_iload_n hC 7 dL_act_338 rfl rfl (q := 339) rfl ?_
                        refine vv_if_eq hC (tgt := 347) dL_act_339 (by decide) (q := 342) rfl (fun h339 => ?_) (fun h339 => ?_)
                        · skip
                          refine vv_iload_n hC 9 dL_act_347 rfl rfl (q := 348) rfl ?_
                          refine vv_bipush hC (v := 7) dL_act_348 rfl (q := 350) rfl ?_
                          refine vv_ishr hC dL_act_350 (q := 351) rfl ?_
                          refine vv_iload hC 5 dL_act_351 rfl (q := 353) rfl ?_
                          refine vv_iconst hC (v := 1) dL_act_353 rfl (q := 354) rfl ?_
                          refine vv_iadd hC dL_act_354 (q := 355) rfl ?_
                          refine vv_fcp hC Stb_1 (As := [.int (v >>> (7 &&& 31)), .int ((eC S v) + 1)]) (cn_low l (v >>> (7 &&& 31)) ((eC S v) + 1) (eC1_ne hwf v)) (va_cwS 2 hC.2.2.2.2 gL_act_L_low rfl rfl rfl hsL_low ⟨Nat.le_of_ble_eq_true rfl, Nat.le_of_ble_eq_true rfl⟩) rfl rfl (Nat.le_of_ble_eq_true rfl) ⟨by show _ ≤ 8; omega, by show _ ≤ 48; omega⟩ dL_act_355 (q := 358) rfl ?_
                          refine vv_iload_n hC 7 dL_act_358 rfl rfl (q := 359) rfl ?_
                          refine vv_if_eq hC (tgt := 377) dL_act_359 (by decide) (q := 362) rfl (fun h359 => ?_) (fun h359 => ?_)
                          · skip
                            refine vv_iload_n hC 9 dL_act_377 rfl rfl (q := 378) rfl ?_
                            refine vv_bipush hC (v := 12) dL_act_378 rfl (q := 380) rfl ?_
                            refine vv_ishr hC dL_act_380 (q := 381) rfl ?_
                            refine vv_sipush hC (v := 1000) dL_act_381 rfl (q := 384) rfl ?_
                            refine vv_fcp hC Stb_1 (As := [.int (v >>> (12 &&& 31)), .int 1000]) (cn_low l (v >>> (12 &&& 31)) 1000 (by decide)) (va_cwS 2 hC.2.2.2.2 gL_act_L_low rfl rfl rfl hsL_low ⟨Nat.le_of_ble_eq_true rfl, Nat.le_of_ble_eq_true rfl⟩) rfl rfl (Nat.le_of_ble_eq_true rfl) ⟨by show _ ≤ 8; omega, by show _ ≤ 48; omega⟩ dL_act_384 (q := 387) rfl ?_
                            refine vv_fcnW hC hK hE hxN hAX hA1 (As := [.ref (ad 0), .int (lowF (v >>> (4 &&& 31)) 3), .int (lowF (v >>> (7 &&& 31)) ((eC S v) + 1)), .int (lowF (v >>> (12 &&& 31)) 1000)]) Foc_1 (fun zz => cn_type l hJ hlst AX zz S (lowF (v >>> (4 &&& 31)) 3) (lowF (v >>> (7 &&& 31)) ((eC S v) + 1)) (lowF (v >>> (12 &&& 31)) 1000)) (vx_cwSW 4 hC.2.2.2.2 gL_act_L_type rfl rfl rfl hsL_type ⟨Nat.le_of_ble_eq_true rfl, Nat.le_of_ble_eq_true rfl⟩) rfl rfl (Nat.le_of_ble_eq_true rfl) ⟨by show _ ≤ 8; omega, by show _ ≤ 48; omega⟩ dL_act_387 (q := 390) rfl ?_
                            exact vv_lret hC hK hr hlk rfl ⟨Nat.le_of_ble_eq_true rfl, Nat.le_of_ble_eq_true rfl⟩ (fun f hf => hf) dL_act_390
                          · skip
                            exact absurd (by decide) h359
                        · skip
                          exact absurd (by decide) h339
                      · skip
                        refine vv_tableIn hC (off := 107) (tgt := 336) dL_act_229 (by rw [he]; decide) (by rw [he]; decide) (by rw [he]; rfl) rfl ?_
                        refine vv_aload_n hC 8 dL_act_336 rfl rfl (q := 337) rfl ?_
                        refine vv_iload_n hC 6 dL_act_337 rfl rfl (q := 338) rfl ?_
                        refine vv_iload_n hC 7 dL_act_338 rfl rfl (q := 339) rfl ?_
                        refine vv_if_eq hC (tgt := 347) dL_act_339 (by decide) (q := 342) rfl (fun h339 => ?_) (fun h339 => ?_)
                        · skip
                          refine vv_iload_n hC 9 dL_act_347 rfl rfl (q := 348) rfl ?_
                          refine vv_bipush hC (v := 7) dL_act_348 rfl (q := 350) rfl ?_
                          refine vv_ishr hC dL_act_350 (q := 351) rfl ?_
                          refine vv_iload hC 5 dL_act_351 rfl (q := 353) rfl ?_
                          refine vv_iconst hC (v := 1) dL_act_353 rfl (q := 354) rfl ?_
                          refine vv_iadd hC dL_act_354 (q := 355) rfl ?_
                          refine vv_fcp hC Stb_1 (As := [.int (v >>> (7 &&& 31)), .int ((eC S v) + 1)]) (cn_low l (v >>> (7 &&& 31)) ((eC S v) + 1) (eC1_ne hwf v)) (va_cwS 2 hC.2.2.2.2 gL_act_L_low rfl rfl rfl hsL_low ⟨Nat.le_of_ble_eq_true rfl, Nat.le_of_ble_eq_true rfl⟩) rfl rfl (Nat.le_of_ble_eq_true rfl) ⟨by show _ ≤ 8; omega, by show _ ≤ 48; omega⟩ dL_act_355 (q := 358) rfl ?_
                          refine vv_iload_n hC 7 dL_act_358 rfl rfl (q := 359) rfl ?_
                          refine vv_if_eq hC (tgt := 377) dL_act_359 (by decide) (q := 362) rfl (fun h359 => ?_) (fun h359 => ?_)
                          · skip
                            refine vv_iload_n hC 9 dL_act_377 rfl rfl (q := 378) rfl ?_
                            refine vv_bipush hC (v := 12) dL_act_378 rfl (q := 380) rfl ?_
                            refine vv_ishr hC dL_act_380 (q := 381) rfl ?_
                            refine vv_sipush hC (v := 1000) dL_act_381 rfl (q := 384) rfl ?_
                            refine vv_fcp hC Stb_1 (As := [.int (v >>> (12 &&& 31)), .int 1000]) (cn_low l (v >>> (12 &&& 31)) 1000 (by decide)) (va_cwS 2 hC.2.2.2.2 gL_act_L_low rfl rfl rfl hsL_low ⟨Nat.le_of_ble_eq_true rfl, Nat.le_of_ble_eq_true rfl⟩) rfl rfl (Nat.le_of_ble_eq_true rfl) ⟨by show _ ≤ 8; omega, by show _ ≤ 48; omega⟩ dL_act_384 (q := 387) rfl ?_
                            refine vv_fcnW hC hK hE hxN hAX hA1 (As := [.ref (ad 0), .int (lowF (v >>> (4 &&& 31)) 3), .int (lowF (v >>> (7 &&& 31)) ((eC S v) + 1)), .int (lowF (v >>> (12 &&& 31)) 1000)]) Foc_1 (fun zz => cn_type l hJ hlst AX zz S (lowF (v >>> (4 &&& 31)) 3) (lowF (v >>> (7 &&& 31)) ((eC S v) + 1)) (lowF (v >>> (12 &&& 31)) 1000)) (vx_cwSW 4 hC.2.2.2.2 gL_act_L_type rfl rfl rfl hsL_type ⟨Nat.le_of_ble_eq_true rfl, Nat.le_of_ble_eq_true rfl⟩) rfl rfl (Nat.le_of_ble_eq_true rfl) ⟨by show _ ≤ 8; omega, by show _ ≤ 48; omega⟩ dL_act_387 (q := 390) rfl ?_
                            exact vv_lret hC hK hr hlk rfl ⟨Nat.le_of_ble_eq_true rfl, Nat.le_of_ble_eq_true rfl⟩ (fun f hf => hf) dL_act_390
                          · skip
                            exact absurd (by decide) h359
                        · skip
                          exact absurd (by decide) h339
                      · skip
                        refine vv_tableIn hC (off := 107) (tgt := 336) dL_act_229 (by rw [he]; decide) (by rw [he]; decide) (by rw [he]; rfl) rfl ?_
                        refine vv_aload_n hC 8 dL_act_336 rfl rfl (q := 337) rfl ?_
                        refine vv_iload_n hC 6 dL_act_337 rfl rfl (q := 338) rfl ?_
                        refine vv_iload_n hC 7 dL_act_338 rfl rfl (q := 339) rfl ?_
                        refine vv_if_eq hC (tgt := 347) dL_act_339 (by decide) (q := 342) rfl (fun h339 => ?_) (fun h339 => ?_)
                        · skip
                          refine vv_iload_n hC 9 dL_act_347 rfl rfl (q := 348) rfl ?_
                          refine vv_bipush hC (v := 7) dL_act_348 rfl (q := 350) rfl ?_
                          refine vv_ishr hC dL_act_350 (q := 351) rfl ?_
                          refine vv_iload hC 5 dL_act_351 rfl (q := 353) rfl ?_
                          refine vv_iconst hC (v := 1) dL_act_353 rfl (q := 354) rfl ?_
                          refine vv_iadd hC dL_act_354 (q := 355) rfl ?_
                          refine vv_fcp hC Stb_1 (As := [.int (v >>> (7 &&& 31)), .int ((eC S v) + 1)]) (cn_low l (v >>> (7 &&& 31)) ((eC S v) + 1) (eC1_ne hwf v)) (va_cwS 2 hC.2.2.2.2 gL_act_L_low rfl rfl rfl hsL_low ⟨Nat.le_of_ble_eq_true rfl, Nat.le_of_ble_eq_true rfl⟩) rfl rfl (Nat.le_of_ble_eq_true rfl) ⟨by show _ ≤ 8; omega, by show _ ≤ 48; omega⟩ dL_act_355 (q := 358) rfl ?_
                          refine vv_iload_n hC 7 dL_act_358 rfl rfl (q := 359) rfl ?_
                          refine vv_if_eq hC (tgt := 377) dL_act_359 (by decide) (q := 362) rfl (fun h359 => ?_) (fun h359 => ?_)
                          · skip
                            refine vv_iload_n hC 9 dL_act_377 rfl rfl (q := 378) rfl ?_
                            refine vv_bipush hC (v := 12) dL_act_378 rfl (q := 380) rfl ?_
                            refine vv_ishr hC dL_act_380 (q := 381) rfl ?_
                            refine vv_sipush hC (v := 1000) dL_act_381 rfl (q := 384) rfl ?_
                            refine vv_fcp hC Stb_1 (As := [.int (v >>> (12 &&& 31)), .int 1000]) (cn_low l (v >>> (12 &&& 31)) 1000 (by decide)) (va_cwS 2 hC.2.2.2.2 gL_act_L_low rfl rfl rfl hsL_low ⟨Nat.le_of_ble_eq_true rfl, Nat.le_of_ble_eq_true rfl⟩) rfl rfl (Nat.le_of_ble_eq_true rfl) ⟨by show _ ≤ 8; omega, by show _ ≤ 48; omega⟩ dL_act_384 (q := 387) rfl ?_
                            refine vv_fcnW hC hK hE hxN hAX hA1 (As := [.ref (ad 0), .int (lowF (v >>> (4 &&& 31)) 3), .int (lowF (v >>> (7 &&& 31)) ((eC S v) + 1)), .int (lowF (v >>> (12 &&& 31)) 1000)]) Foc_1 (fun zz => cn_type l hJ hlst AX zz S (lowF (v >>> (4 &&& 31)) 3) (lowF (v >>> (7 &&& 31)) ((eC S v) + 1)) (lowF (v >>> (12 &&& 31)) 1000)) (vx_cwSW 4 hC.2.2.2.2 gL_act_L_type rfl rfl rfl hsL_type ⟨Nat.le_of_ble_eq_true rfl, Nat.le_of_ble_eq_true rfl⟩) rfl rfl (Nat.le_of_ble_eq_true rfl) ⟨by show _ ≤ 8; omega, by show _ ≤ 48; omega⟩ dL_act_387 (q := 390) rfl ?_
                            exact vv_lret hC hK hr hlk rfl ⟨Nat.le_of_ble_eq_true rfl, Nat.le_of_ble_eq_true rfl⟩ (fun f hf => hf) dL_act_390
                          · skip
                            exact absurd (by decide) h359
                        · skip
                          exact absurd (by decide) h339
                      · skip
                        refine vv_tableIn hC (off := 107) (tgt := 336) dL_act_229 (by rw [he]; decide) (by rw [he]; decide) (by rw [he]; rfl) rfl ?_
                        refine vv_aload_n hC 8 dL_act_336 rfl rfl (q := 337) rfl ?_
                        refine vv_iload_n hC 6 dL_act_337 rfl rfl (q := 338) rfl ?_
                        refine vv_iload_n hC 7 dL_act_338 rfl rfl (q := 339) rfl ?_
                        refine vv_if_eq hC (tgt := 347) dL_act_339 (by decide) (q := 342) rfl (fun h339 => ?_) (fun h339 => ?_)
                        · skip
                          refine vv_iload_n hC 9 dL_act_347 rfl rfl (q := 348) rfl ?_
                          refine vv_bipush hC (v := 7) dL_act_348 rfl (q := 350) rfl ?_
                          refine vv_ishr hC dL_act_350 (q := 351) rfl ?_
                          refine vv_iload hC 5 dL_act_351 rfl (q := 353) rfl ?_
                          refine vv_iconst hC (v := 1) dL_act_353 rfl (q := 354) rfl ?_
                          refine vv_iadd hC dL_act_354 (q := 355) rfl ?_
                          refine vv_fcp hC Stb_1 (As := [.int (v >>> (7 &&& 31)), .int ((eC S v) + 1)]) (cn_low l (v >>> (7 &&& 31)) ((eC S v) + 1) (eC1_ne hwf v)) (va_cwS 2 hC.2.2.2.2 gL_act_L_low rfl rfl rfl hsL_low ⟨Nat.le_of_ble_eq_true rfl, Nat.le_of_ble_eq_true rfl⟩) rfl rfl (Nat.le_of_ble_eq_true rfl) ⟨by show _ ≤ 8; omega, by show _ ≤ 48; omega⟩ dL_act_355 (q := 358) rfl ?_
                          refine vv_iload_n hC 7 dL_act_358 rfl rfl (q := 359) rfl ?_
                          refine vv_if_eq hC (tgt := 377) dL_act_359 (by decide) (q := 362) rfl (fun h359 => ?_) (fun h359 => ?_)
                          · skip
                            refine vv_iload_n hC 9 dL_act_377 rfl rfl (q := 378) rfl ?_
                            refine vv_bipush hC (v := 12) dL_act_378 rfl (q := 380) rfl ?_
                            refine vv_ishr hC dL_act_380 (q := 381) rfl ?_
                            refine vv_sipush hC (v := 1000) dL_act_381 rfl (q := 384) rfl ?_
                            refine vv_fcp hC Stb_1 (As := [.int (v >>> (12 &&& 31)), .int 1000]) (cn_low l (v >>> (12 &&& 31)) 1000 (by decide)) (va_cwS 2 hC.2.2.2.2 gL_act_L_low rfl rfl rfl hsL_low ⟨Nat.le_of_ble_eq_true rfl, Nat.le_of_ble_eq_true rfl⟩) rfl rfl (Nat.le_of_ble_eq_true rfl) ⟨by show _ ≤ 8; omega, by show _ ≤ 48; omega⟩ dL_act_384 (q := 387) rfl ?_
                            refine vv_fcnW hC hK hE hxN hAX hA1 (As := [.ref (ad 0), .int (lowF (v >>> (4 &&& 31)) 3), .int (lowF (v >>> (7 &&& 31)) ((eC S v) + 1)), .int (lowF (v >>> (12 &&& 31)) 1000)]) Foc_1 (fun zz => cn_type l hJ hlst AX zz S (lowF (v >>> (4 &&& 31)) 3) (lowF (v >>> (7 &&& 31)) ((eC S v) + 1)) (lowF (v >>> (12 &&& 31)) 1000)) (vx_cwSW 4 hC.2.2.2.2 gL_act_L_type rfl rfl rfl hsL_type ⟨Nat.le_of_ble_eq_true rfl, Nat.le_of_ble_eq_true rfl⟩) rfl rfl (Nat.le_of_ble_eq_true rfl) ⟨by show _ ≤ 8; omega, by show _ ≤ 48; omega⟩ dL_act_387 (q := 390) rfl ?_
                            exact vv_lret hC hK hr hlk rfl ⟨Nat.le_of_ble_eq_true rfl, Nat.le_of_ble_eq_true rfl⟩ (fun f hf => hf) dL_act_390
                          · skip
                            exact absurd (by decide) h359
                        · skip
                          exact absurd (by decide) h339
                      · skip
                        refine vv_tableIn hC (off := 107) (tgt := 336) dL_act_229 (by rw [he]; decide) (by rw [he]; decide) (by rw [he]; rfl) rfl ?_
                        refine vv_aload_n hC 8 dL_act_336 rfl rfl (q := 337) rfl ?_
                        refine vv_iload_n hC 6 dL_act_337 rfl rfl (q := 338) rfl ?_
                        refine vv_iload_n hC 7 dL_act_338 rfl rfl (q := 339) rfl ?_
                        refine vv_if_eq hC (tgt := 347) dL_act_339 (by decide) (q := 342) rfl (fun h339 => ?_) (fun h339 => ?_)
                        · skip
                          refine vv_iload_n hC 9 dL_act_347 rfl rfl (q := 348) rfl ?_
                          refine vv_bipush hC (v := 7) dL_act_348 rfl (q := 350) rfl ?_
                          refine vv_ishr hC dL_act_350 (q := 351) rfl ?_
                          refine vv_iload hC 5 dL_act_351 rfl (q := 353) rfl ?_
                          refine vv_iconst hC (v := 1) dL_act_353 rfl (q := 354) rfl ?_
                          refine vv_iadd hC dL_act_354 (q := 355) rfl ?_
                          refine vv_fcp hC Stb_1 (As := [.int (v >>> (7 &&& 31)), .int ((eC S v) + 1)]) (cn_low l (v >>> (7 &&& 31)) ((eC S v) + 1) (eC1_ne hwf v)) (va_cwS 2 hC.2.2.2.2 gL_act_L_low rfl rfl rfl hsL_low ⟨Nat.le_of_ble_eq_true rfl, Nat.le_of_ble_eq_true rfl⟩) rfl rfl (Nat.le_of_ble_eq_true rfl) ⟨by show _ ≤ 8; omega, by show _ ≤ 48; omega⟩ dL_act_355 (q := 358) rfl ?_
                          refine vv_iload_n hC 7 dL_act_358 rfl rfl (q := 359) rfl ?_
                          refine vv_if_eq hC (tgt := 377) dL_act_359 (by decide) (q := 362) rfl (fun h359 => ?_) (fun h359 => ?_)
                          · skip
                            refine vv_iload_n hC 9 dL_act_377 rfl rfl (q := 378) rfl ?_
                            refine vv_bipush hC (v := 12) dL_act_378 rfl (q := 380) rfl ?_
                            refine vv_ishr hC dL_act_380 (q := 381) rfl ?_
                            refine vv_sipush hC (v := 1000) dL_act_381 rfl (q := 384) rfl ?_
                            refine vv_fcp hC Stb_1 (As := [.int (v >>> (12 &&& 31)), .int 1000]) (cn_low l (v >>> (12 &&& 31)) 1000 (by decide)) (va_cwS 2 hC.2.2.2.2 gL_act_L_low rfl rfl rfl hsL_low ⟨Nat.le_of_ble_eq_true rfl, Nat.le_of_ble_eq_true rfl⟩) rfl rfl (Nat.le_of_ble_eq_true rfl) ⟨by show _ ≤ 8; omega, by show _ ≤ 48; omega⟩ dL_act_384 (q := 387) rfl ?_
                            refine vv_fcnW hC hK hE hxN hAX hA1 (As := [.ref (ad 0), .int (lowF (v >>> (4 &&& 31)) 3), .int (lowF (v >>> (7 &&& 31)) ((eC S v) + 1)), .int (lowF (v >>> (12 &&& 31)) 1000)]) Foc_1 (fun zz => cn_type l hJ hlst AX zz S (lowF (v >>> (4 &&& 31)) 3) (lowF (v >>> (7 &&& 31)) ((eC S v) + 1)) (lowF (v >>> (12 &&& 31)) 1000)) (vx_cwSW 4 hC.2.2.2.2 gL_act_L_type rfl rfl rfl hsL_type ⟨Nat.le_of_ble_eq_true rfl, Nat.le_of_ble_eq_true rfl⟩) rfl rfl (Nat.le_of_ble_eq_true rfl) ⟨by show _ ≤ 8; omega, by show _ ≤ 48; omega⟩ dL_act_387 (q := 390) rfl ?_
                            exact vv_lret hC hK hr hlk rfl ⟨Nat.le_of_ble_eq_true rfl, Nat.le_of_ble_eq_true rfl⟩ (fun f hf => hf) dL_act_390
                          · skip
                            exact absurd (by decide) h359
                        · skip
                          exact absurd (by decide) h339
                      · skip
                        refine vv_tableIn hC (off := 162) (tgt := 391) dL_act_229 (by rw [he]; decide) (by rw [he]; decide) (by rw [he]; rfl) rfl ?_
                        refine vv_aload_n hC 8 dL_act_391 rfl rfl (q := 392) rfl ?_
                        refine vv_iload_n hC 6 dL_act_392 rfl rfl (q := 393) rfl ?_
                        refine vv_iload hC 4 dL_act_393 rfl (q := 395) rfl ?_
                        refine vv_fcnW hC hK hE hxN hAX hA1 (As := [.ref (ad 0), .int (lowF (v >>> (4 &&& 31)) 3), .int (eP S v)]) Foc_1 (fun zz => cn_delete l hJ hlst AX zz S (lowF (v >>> (4 &&& 31)) 3) (eP S v)) (vx_cwSW 3 hC.2.2.2.2 gL_act_L_delete rfl rfl rfl hsL_delete ⟨Nat.le_of_ble_eq_true rfl, Nat.le_of_ble_eq_true rfl⟩) rfl rfl (Nat.le_of_ble_eq_true rfl) ⟨by show _ ≤ 8; omega, by show _ ≤ 48; omega⟩ dL_act_395 (q := 398) rfl ?_
                        exact vv_lret hC hK hr hlk rfl ⟨Nat.le_of_ble_eq_true rfl, Nat.le_of_ble_eq_true rfl⟩ (fun f hf => hf) dL_act_398
                      · skip
                        refine vv_tableIn hC (off := 162) (tgt := 391) dL_act_229 (by rw [he]; decide) (by rw [he]; decide) (by rw [he]; rfl) rfl ?_
                        refine vv_aload_n hC 8 dL_act_391 rfl rfl (q := 392) rfl ?_
                        refine vv_iload_n hC 6 dL_act_392 rfl rfl (q := 393) rfl ?_
                        refine vv_iload hC 4 dL_act_393 rfl (q := 395) rfl ?_
                        refine vv_fcnW hC hK hE hxN hAX hA1 (As := [.ref (ad 0), .int (lowF (v >>> (4 &&& 31)) 3), .int (eP S v)]) Foc_1 (fun zz => cn_delete l hJ hlst AX zz S (lowF (v >>> (4 &&& 31)) 3) (eP S v)) (vx_cwSW 3 hC.2.2.2.2 gL_act_L_delete rfl rfl rfl hsL_delete ⟨Nat.le_of_ble_eq_true rfl, Nat.le_of_ble_eq_true rfl⟩) rfl rfl (Nat.le_of_ble_eq_true rfl) ⟨by show _ ≤ 8; omega, by show _ ≤ 48; omega⟩ dL_act_395 (q := 398) rfl ?_
                        exact vv_lret hC hK hr hlk rfl ⟨Nat.le_of_ble_eq_true rfl, Nat.le_of_ble_eq_true rfl⟩ (fun f hf => hf) dL_act_398
                      · skip
                        refine vv_tableIn hC (off := 170) (tgt := 399) dL_act_229 (by rw [he]; decide) (by rw [he]; decide) (by rw [he]; rfl) rfl ?_
                        refine vv_aload_n hC 8 dL_act_399 rfl rfl (q := 400) rfl ?_
                        refine vv_iload_n hC 6 dL_act_400 rfl rfl (q := 401) rfl ?_
                        refine vv_fcnW hC hK hE hxN hAX hA1 (As := [.ref (ad 0), .int (lowF (v >>> (4 &&& 31)) 3)]) Foc_1 (fun zz => cn_merge l hJ hlst AX zz S (lowF (v >>> (4 &&& 31)) 3)) (vx_cwSW 2 hC.2.2.2.2 gL_act_L_merge rfl rfl rfl hsL_merge ⟨Nat.le_of_ble_eq_true rfl, Nat.le_of_ble_eq_true rfl⟩) rfl rfl (Nat.le_of_ble_eq_true rfl) ⟨by show _ ≤ 8; omega, by show _ ≤ 48; omega⟩ dL_act_401 (q := 404) rfl ?_
                        exact vv_lret hC hK hr hlk rfl ⟨Nat.le_of_ble_eq_true rfl, Nat.le_of_ble_eq_true rfl⟩ (fun f hf => hf) dL_act_404
                      · skip
                        refine vv_tableIn hC (off := 170) (tgt := 399) dL_act_229 (by rw [he]; decide) (by rw [he]; decide) (by rw [he]; rfl) rfl ?_
                        refine vv_aload_n hC 8 dL_act_399 rfl rfl (q := 400) rfl ?_
                        refine vv_iload_n hC 6 dL_act_400 rfl rfl (q := 401) rfl ?_
                        refine vv_fcnW hC hK hE hxN hAX hA1 (As := [.ref (ad 0), .int (lowF (v >>> (4 &&& 31)) 3)]) Foc_1 (fun zz => cn_merge l hJ hlst AX zz S (lowF (v >>> (4 &&& 31)) 3)) (vx_cwSW 2 hC.2.2.2.2 gL_act_L_merge rfl rfl rfl hsL_merge ⟨Nat.le_of_ble_eq_true rfl, Nat.le_of_ble_eq_true rfl⟩) rfl rfl (Nat.le_of_ble_eq_true rfl) ⟨by show _ ≤ 8; omega, by show _ ≤ 48; omega⟩ dL_act_401 (q := 404) rfl ?_
                        exact vv_lret hC hK hr hlk rfl ⟨Nat.le_of_ble_eq_true rfl, Nat.le_of_ble_eq_true rfl⟩ (fun f hf => hf) dL_act_404
                      · skip
                        refine vv_tableIn hC (off := 170) (tgt := 399) dL_act_229 (by rw [he]; decide) (by rw [he]; decide) (by rw [he]; rfl) rfl ?_
                        refine vv_aload_n hC 8 dL_act_399 rfl rfl (q := 400) rfl ?_
                        refine vv_iload_n hC 6 dL_act_400 rfl rfl (q := 401) rfl ?_
                        refine vv_fcnW hC hK hE hxN hAX hA1 (As := [.ref (ad 0), .int (lowF (v >>> (4 &&& 31)) 3)]) Foc_1 (fun zz => cn_merge l hJ hlst AX zz S (lowF (v >>> (4 &&& 31)) 3)) (vx_cwSW 2 hC.2.2.2.2 gL_act_L_merge rfl rfl rfl hsL_merge ⟨Nat.le_of_ble_eq_true rfl, Nat.le_of_ble_eq_true rfl⟩) rfl rfl (Nat.le_of_ble_eq_true rfl) ⟨by show _ ≤ 8; omega, by show _ ≤ 48; omega⟩ dL_act_401 (q := 404) rfl ?_
                        exact vv_lret hC hK hr hlk rfl ⟨Nat.le_of_ble_eq_true rfl, Nat.le_of_ble_eq_true rfl⟩ (fun f hf => hf) dL_act_404
                      · skip
                        refine vv_tableIn hC (off := 176) (tgt := 405) dL_act_229 (by rw [he]; decide) (by rw [he]; decide) (by rw [he]; rfl) rfl ?_
                        refine vv_aload_n hC 8 dL_act_405 rfl rfl (q := 406) rfl ?_
                        refine vv_iload_n hC 7 dL_act_406 rfl rfl (q := 407) rfl ?_
                        refine vv_if_eq hC (tgt := 423) dL_act_407 (by decide) (q := 410) rfl (fun h407 => ?_) (fun h407 => ?_)
                        · skip
                          refine vv_iload_n hC 9 dL_act_423 rfl rfl (q := 424) rfl ?_
                          refine vv_iconst hC (v := 4) dL_act_424 rfl (q := 425) rfl ?_
                          refine vv_ishr hC dL_act_425 (q := 426) rfl ?_
                          refine vv_iconst hC (v := 4) dL_act_426 rfl (q := 427) rfl ?_
                          refine vv_fcp hC Stb_1 (As := [.int (v >>> (4 &&& 31)), .int 4]) (cn_low l (v >>> (4 &&& 31)) 4 (by decide)) (va_cwS 2 hC.2.2.2.2 gL_act_L_low rfl rfl rfl hsL_low ⟨Nat.le_of_ble_eq_true rfl, Nat.le_of_ble_eq_true rfl⟩) rfl rfl (Nat.le_of_ble_eq_true rfl) ⟨by show _ ≤ 8; omega, by show _ ≤ 48; omega⟩ dL_act_427 (q := 430) rfl ?_
                          refine vv_iload_n hC 7 dL_act_430 rfl rfl (q := 431) rfl ?_
                          refine vv_if_eq hC (tgt := 448) dL_act_431 (by decide) (q := 434) rfl (fun h431 => ?_) (fun h431 => ?_)
                          · skip
                            refine vv_iload_n hC 9 dL_act_448 rfl rfl (q := 449) rfl ?_
                            refine vv_bipush hC (v := 7) dL_act_449 rfl (q := 451) rfl ?_
                            refine vv_ishr hC dL_act_451 (q := 452) rfl ?_
                            refine vv_bipush hC (v := 9) dL_act_452 rfl (q := 454) rfl ?_
                            refine vv_fcp hC Stb_1 (As := [.int (v >>> (7 &&& 31)), .int 9]) (cn_low l (v >>> (7 &&& 31)) 9 (by decide)) (va_cwS 2 hC.2.2.2.2 gL_act_L_low rfl rfl rfl hsL_low ⟨Nat.le_of_ble_eq_true rfl, Nat.le_of_ble_eq_true rfl⟩) rfl rfl (Nat.le_of_ble_eq_true rfl) ⟨by show _ ≤ 8; omega, by show _ ≤ 48; omega⟩ dL_act_454 (q := 457) rfl ?_
                            refine vv_fcnW hC hK hE hxN hAX hA1 (As := [.ref (ad 0), .int (lowF (v >>> (4 &&& 31)) 4), .int (lowF (v >>> (7 &&& 31)) 9)]) Foc_1 (fun zz => cn_setRate l hJ hlst AX zz S (lowF (v >>> (4 &&& 31)) 4) (lowF (v >>> (7 &&& 31)) 9)) (vx_cwSW 3 hC.2.2.2.2 gL_act_L_setRate rfl rfl rfl hsL_setRate ⟨Nat.le_of_ble_eq_true rfl, Nat.le_of_ble_eq_true rfl⟩) rfl rfl (Nat.le_of_ble_eq_true rfl) ⟨by show _ ≤ 8; omega, by show _ ≤ 48; omega⟩ dL_act_457 (q := 460) rfl ?_
                            exact vv_lret hC hK hr hlk rfl ⟨Nat.le_of_ble_eq_true rfl, Nat.le_of_ble_eq_true rfl⟩ (fun f hf => hf) dL_act_460
                          · skip
                            exact absurd (by decide) h431
                        · skip
                          exact absurd (by decide) h407
                      · skip
                        refine vv_tableIn hC (off := 232) (tgt := 461) dL_act_229 (by rw [he]; decide) (by rw [he]; decide) (by rw [he]; rfl) rfl ?_
                        refine vv_aload_n hC 8 dL_act_461 rfl rfl (q := 462) rfl ?_
                        refine vv_iload_n hC 7 dL_act_462 rfl rfl (q := 463) rfl ?_
                        refine vv_if_eq hC (tgt := 480) dL_act_463 (by decide) (q := 466) rfl (fun h463 => ?_) (fun h463 => ?_)
                        · skip
                          refine vv_iload_n hC 9 dL_act_480 rfl rfl (q := 481) rfl ?_
                          refine vv_bipush hC (v := 14) dL_act_481 rfl (q := 483) rfl ?_
                          refine vv_ishr hC dL_act_483 (q := 484) rfl ?_
                          refine vv_iconst hC (v := 4) dL_act_484 rfl (q := 485) rfl ?_
                          refine vv_fcp hC Stb_1 (As := [.int (v >>> (14 &&& 31)), .int 4]) (cn_low l (v >>> (14 &&& 31)) 4 (by decide)) (va_cwS 2 hC.2.2.2.2 gL_act_L_low rfl rfl rfl hsL_low ⟨Nat.le_of_ble_eq_true rfl, Nat.le_of_ble_eq_true rfl⟩) rfl rfl (Nat.le_of_ble_eq_true rfl) ⟨by show _ ≤ 8; omega, by show _ ≤ 48; omega⟩ dL_act_485 (q := 488) rfl ?_
                          refine vv_iload hC 2 dL_act_488 rfl (q := 490) rfl ?_
                          refine vv_iload hC 1 dL_act_490 rfl (q := 492) rfl ?_
                          refine vv_fcnW hC hK hE hxN hAX hA1 (As := [.ref (ad 0), .int (lowF (v >>> (14 &&& 31)) 4), .int (eF S v), .int (eT S v)]) Foc_1 (fun zz => cn_order l hJ hlst AX zz S (lowF (v >>> (14 &&& 31)) 4) (eF S v) (eT S v)) (vx_cwSW 4 hC.2.2.2.2 gL_act_L_order rfl rfl rfl hsL_order ⟨Nat.le_of_ble_eq_true rfl, Nat.le_of_ble_eq_true rfl⟩) rfl rfl (Nat.le_of_ble_eq_true rfl) ⟨by show _ ≤ 8; omega, by show _ ≤ 48; omega⟩ dL_act_492 (q := 495) rfl ?_
                          exact vv_lret hC hK hr hlk rfl ⟨Nat.le_of_ble_eq_true rfl, Nat.le_of_ble_eq_true rfl⟩ (fun f hf => hf) dL_act_495
                        · skip
                          exact absurd (by decide) h463
                      · skip
                        refine vv_tableIn hC (off := 232) (tgt := 461) dL_act_229 (by rw [he]; decide) (by rw [he]; decide) (by rw [he]; rfl) rfl ?_
                        refine vv_aload_n hC 8 dL_act_461 rfl rfl (q := 462) rfl ?_
                        refine vv_iload_n hC 7 dL_act_462 rfl rfl (q := 463) rfl ?_
                        refine vv_if_eq hC (tgt := 480) dL_act_463 (by decide) (q := 466) rfl (fun h463 => ?_) (fun h463 => ?_)
                        · skip
                          refine vv_iload_n hC 9 dL_act_480 rfl rfl (q := 481) rfl ?_
                          refine vv_bipush hC (v := 14) dL_act_481 rfl (q := 483) rfl ?_
                          refine vv_ishr hC dL_act_483 (q := 484) rfl ?_
                          refine vv_iconst hC (v := 4) dL_act_484 rfl (q := 485) rfl ?_
                          refine vv_fcp hC Stb_1 (As := [.int (v >>> (14 &&& 31)), .int 4]) (cn_low l (v >>> (14 &&& 31)) 4 (by decide)) (va_cwS 2 hC.2.2.2.2 gL_act_L_low rfl rfl rfl hsL_low ⟨Nat.le_of_ble_eq_true rfl, Nat.le_of_ble_eq_true rfl⟩) rfl rfl (Nat.le_of_ble_eq_true rfl) ⟨by show _ ≤ 8; omega, by show _ ≤ 48; omega⟩ dL_act_485 (q := 488) rfl ?_
                          refine vv_iload hC 2 dL_act_488 rfl (q := 490) rfl ?_
                          refine vv_iload hC 1 dL_act_490 rfl (q := 492) rfl ?_
                          refine vv_fcnW hC hK hE hxN hAX hA1 (As := [.ref (ad 0), .int (lowF (v >>> (14 &&& 31)) 4), .int (eF S v), .int (eT S v)]) Foc_1 (fun zz => cn_order l hJ hlst AX zz S (lowF (v >>> (14 &&& 31)) 4) (eF S v) (eT S v)) (vx_cwSW 4 hC.2.2.2.2 gL_act_L_order rfl rfl rfl hsL_order ⟨Nat.le_of_ble_eq_true rfl, Nat.le_of_ble_eq_true rfl⟩) rfl rfl (Nat.le_of_ble_eq_true rfl) ⟨by show _ ≤ 8; omega, by show _ ≤ 48; omega⟩ dL_act_492 (q := 495) rfl ?_
                          exact vv_lret hC hK hr hlk rfl ⟨Nat.le_of_ble_eq_true rfl, Nat.le_of_ble_eq_true rfl⟩ (fun f hf => hf) dL_act_495
                        · skip
                          exact absurd (by decide) h463
                      · skip
                        refine vv_tableIn hC (off := 232) (tgt := 461) dL_act_229 (by rw [he]; decide) (by rw [he]; decide) (by rw [he]; rfl) rfl ?_
                        refine vv_aload_n hC 8 dL_act_461 rfl rfl (q := 462) rfl ?_
                        refine vv_iload_n hC 7 dL_act_462 rfl rfl (q := 463) rfl ?_
                        refine vv_if_eq hC (tgt := 480) dL_act_463 (by decide) (q := 466) rfl (fun h463 => ?_) (fun h463 => ?_)
                        · skip
                          refine vv_iload_n hC 9 dL_act_480 rfl rfl (q := 481) rfl ?_
                          refine vv_bipush hC (v := 14) dL_act_481 rfl (q := 483) rfl ?_
                          refine vv_ishr hC dL_act_483 (q := 484) rfl ?_
                          refine vv_iconst hC (v := 4) dL_act_484 rfl (q := 485) rfl ?_
                          refine vv_fcp hC Stb_1 (As := [.int (v >>> (14 &&& 31)), .int 4]) (cn_low l (v >>> (14 &&& 31)) 4 (by decide)) (va_cwS 2 hC.2.2.2.2 gL_act_L_low rfl rfl rfl hsL_low ⟨Nat.le_of_ble_eq_true rfl, Nat.le_of_ble_eq_true rfl⟩) rfl rfl (Nat.le_of_ble_eq_true rfl) ⟨by show _ ≤ 8; omega, by show _ ≤ 48; omega⟩ dL_act_485 (q := 488) rfl ?_
                          refine vv_iload hC 2 dL_act_488 rfl (q := 490) rfl ?_
                          refine vv_iload hC 1 dL_act_490 rfl (q := 492) rfl ?_
                          refine vv_fcnW hC hK hE hxN hAX hA1 (As := [.ref (ad 0), .int (lowF (v >>> (14 &&& 31)) 4), .int (eF S v), .int (eT S v)]) Foc_1 (fun zz => cn_order l hJ hlst AX zz S (lowF (v >>> (14 &&& 31)) 4) (eF S v) (eT S v)) (vx_cwSW 4 hC.2.2.2.2 gL_act_L_order rfl rfl rfl hsL_order ⟨Nat.le_of_ble_eq_true rfl, Nat.le_of_ble_eq_true rfl⟩) rfl rfl (Nat.le_of_ble_eq_true rfl) ⟨by show _ ≤ 8; omega, by show _ ≤ 48; omega⟩ dL_act_492 (q := 495) rfl ?_
                          exact vv_lret hC hK hr hlk rfl ⟨Nat.le_of_ble_eq_true rfl, Nat.le_of_ble_eq_true rfl⟩ (fun f hf => hf) dL_act_495
                        · skip
                          exact absurd (by decide) h463
                      · skip
                        refine vv_tableIn hC (off := 267) (tgt := 496) dL_act_229 (by rw [he]; decide) (by rw [he]; decide) (by rw [he]; rfl) rfl ?_
                        refine vv_aload_n hC 8 dL_act_496 rfl rfl (q := 497) rfl ?_
                        refine vv_iload hC 0 dL_act_497 rfl (q := 499) rfl ?_
                        refine vv_iload_n hC 7 dL_act_499 rfl rfl (q := 500) rfl ?_
                        refine vv_if_eq hC (tgt := 517) dL_act_500 (by decide) (q := 503) rfl (fun h500 => ?_) (fun h500 => ?_)
                        · skip
                          refine vv_iload_n hC 9 dL_act_517 rfl rfl (q := 518) rfl ?_
                          refine vv_bipush hC (v := 9) dL_act_518 rfl (q := 520) rfl ?_
                          refine vv_ishr hC dL_act_520 (q := 521) rfl ?_
                          refine vv_iconst hC (v := 3) dL_act_521 rfl (q := 522) rfl ?_
                          refine vv_fcp hC Stb_1 (As := [.int (v >>> (9 &&& 31)), .int 3]) (cn_low l (v >>> (9 &&& 31)) 3 (by decide)) (va_cwS 2 hC.2.2.2.2 gL_act_L_low rfl rfl rfl hsL_low ⟨Nat.le_of_ble_eq_true rfl, Nat.le_of_ble_eq_true rfl⟩) rfl rfl (Nat.le_of_ble_eq_true rfl) ⟨by show _ ≤ 8; omega, by show _ ≤ 48; omega⟩ dL_act_522 (q := 525) rfl ?_
                          refine vv_fcnW hC hK hE hxN hAX hA1 (As := [.ref (ad 0), .int (lowF (v >>> (4 &&& 31)) 5), .int (lowF (v >>> (9 &&& 31)) 3)]) Foc_1 (fun zz => cn_finish l hJ hlst AX zz S (lowF (v >>> (4 &&& 31)) 5) (lowF (v >>> (9 &&& 31)) 3)) (vx_cwSW 3 hC.2.2.2.2 gL_act_L_finish rfl rfl rfl hsL_finish ⟨Nat.le_of_ble_eq_true rfl, Nat.le_of_ble_eq_true rfl⟩) rfl rfl (Nat.le_of_ble_eq_true rfl) ⟨by show _ ≤ 8; omega, by show _ ≤ 48; omega⟩ dL_act_525 (q := 528) rfl ?_
                          exact vv_lret hC hK hr hlk rfl ⟨Nat.le_of_ble_eq_true rfl, Nat.le_of_ble_eq_true rfl⟩ (fun f hf => hf) dL_act_528
                        · skip
                          exact absurd (by decide) h500
                      · skip
                        refine vv_tableIn hC (off := 267) (tgt := 496) dL_act_229 (by rw [he]; decide) (by rw [he]; decide) (by rw [he]; rfl) rfl ?_
                        refine vv_aload_n hC 8 dL_act_496 rfl rfl (q := 497) rfl ?_
                        refine vv_iload hC 0 dL_act_497 rfl (q := 499) rfl ?_
                        refine vv_iload_n hC 7 dL_act_499 rfl rfl (q := 500) rfl ?_
                        refine vv_if_eq hC (tgt := 517) dL_act_500 (by decide) (q := 503) rfl (fun h500 => ?_) (fun h500 => ?_)
                        · skip
                          refine vv_iload_n hC 9 dL_act_517 rfl rfl (q := 518) rfl ?_
                          refine vv_bipush hC (v := 9) dL_act_518 rfl (q := 520) rfl ?_
                          refine vv_ishr hC dL_act_520 (q := 521) rfl ?_
                          refine vv_iconst hC (v := 3) dL_act_521 rfl (q := 522) rfl ?_
                          refine vv_fcp hC Stb_1 (As := [.int (v >>> (9 &&& 31)), .int 3]) (cn_low l (v >>> (9 &&& 31)) 3 (by decide)) (va_cwS 2 hC.2.2.2.2 gL_act_L_low rfl rfl rfl hsL_low ⟨Nat.le_of_ble_eq_true rfl, Nat.le_of_ble_eq_true rfl⟩) rfl rfl (Nat.le_of_ble_eq_true rfl) ⟨by show _ ≤ 8; omega, by show _ ≤ 48; omega⟩ dL_act_522 (q := 525) rfl ?_
                          refine vv_fcnW hC hK hE hxN hAX hA1 (As := [.ref (ad 0), .int (lowF (v >>> (4 &&& 31)) 5), .int (lowF (v >>> (9 &&& 31)) 3)]) Foc_1 (fun zz => cn_finish l hJ hlst AX zz S (lowF (v >>> (4 &&& 31)) 5) (lowF (v >>> (9 &&& 31)) 3)) (vx_cwSW 3 hC.2.2.2.2 gL_act_L_finish rfl rfl rfl hsL_finish ⟨Nat.le_of_ble_eq_true rfl, Nat.le_of_ble_eq_true rfl⟩) rfl rfl (Nat.le_of_ble_eq_true rfl) ⟨by show _ ≤ 8; omega, by show _ ≤ 48; omega⟩ dL_act_525 (q := 528) rfl ?_
                          exact vv_lret hC hK hr hlk rfl ⟨Nat.le_of_ble_eq_true rfl, Nat.le_of_ble_eq_true rfl⟩ (fun f hf => hf) dL_act_528
                        · skip
                          exact absurd (by decide) h500
                      · skip
                        refine vv_tableIn hC (off := 300) (tgt := 529) dL_act_229 (by rw [he]; decide) (by rw [he]; decide) (by rw [he]; rfl) rfl ?_
                        refine vv_aload_n hC 8 dL_act_529 rfl rfl (q := 530) rfl ?_
                        refine vv_iload hC 0 dL_act_530 rfl (q := 532) rfl ?_
                        refine vv_fcnW hC hK hE hxN hAX hA1 (As := [.ref (ad 0), .int (lowF (v >>> (4 &&& 31)) 5)]) Foc_1 (fun zz => cn_cancel l hJ hlst AX zz S (lowF (v >>> (4 &&& 31)) 5)) (vx_cwSW 2 hC.2.2.2.2 gL_act_L_cancel rfl rfl rfl hsL_cancel ⟨Nat.le_of_ble_eq_true rfl, Nat.le_of_ble_eq_true rfl⟩) rfl rfl (Nat.le_of_ble_eq_true rfl) ⟨by show _ ≤ 8; omega, by show _ ≤ 48; omega⟩ dL_act_532 (q := 535) rfl ?_
                        exact vv_lret hC hK hr hlk rfl ⟨Nat.le_of_ble_eq_true rfl, Nat.le_of_ble_eq_true rfl⟩ (fun f hf => hf) dL_act_535
                      · skip
                        refine vv_tableIn hC (off := 307) (tgt := 536) dL_act_229 (by rw [he]; decide) (by rw [he]; decide) (by rw [he]; rfl) rfl ?_
                        refine vv_aload_n hC 8 dL_act_536 rfl rfl (q := 537) rfl ?_
                        refine vv_iload_n hC 7 dL_act_537 rfl rfl (q := 538) rfl ?_
                        refine vv_if_eq hC (tgt := 553) dL_act_538 (by decide) (q := 541) rfl (fun h538 => ?_) (fun h538 => ?_)
                        · skip
                          refine vv_aload_n hC 8 dL_act_553 rfl rfl (q := 554) rfl ?_
                          refine vv_fcm hC hK (fun _ h => Or.inl h) (As := []) Foc_1 (c8_today l hJ S) (cwV 0 hC.2.2.2.2 gL_act_X8_today rfl rfl rfl hdX8_today ⟨Nat.le_of_ble_eq_true rfl, Nat.le_of_ble_eq_true rfl⟩) rfl rfl (Nat.le_of_ble_eq_true rfl) ⟨by show _ ≤ 8; omega, by show _ ≤ 48; omega⟩ dL_act_554 (q := 557) rfl ?_
                          refine vv_iconst hC (v := (1 : Int32)) dL_act_557 rfl (q := 558) rfl ?_
                          refine vv_iadd hC dL_act_558 (q := 559) rfl ?_
                          refine vv_iload_n hC 9 dL_act_559 rfl rfl (q := 560) rfl ?_
                          refine vv_iconst hC (v := 4) dL_act_560 rfl (q := 561) rfl ?_
                          refine vv_ishr hC dL_act_561 (q := 562) rfl ?_
                          refine vv_iconst hC (v := 4) dL_act_562 rfl (q := 563) rfl ?_
                          refine vv_fcp hC Stb_1 (As := [.int (v >>> (4 &&& 31)), .int 4]) (cn_low l (v >>> (4 &&& 31)) 4 (by decide)) (va_cwS 2 hC.2.2.2.2 gL_act_L_low rfl rfl rfl hsL_low ⟨Nat.le_of_ble_eq_true rfl, Nat.le_of_ble_eq_true rfl⟩) rfl rfl (Nat.le_of_ble_eq_true rfl) ⟨by show _ ≤ 8; omega, by show _ ≤ 48; omega⟩ dL_act_563 (q := 566) rfl ?_
                          refine vv_iadd hC dL_act_566 (q := 567) rfl ?_
                          refine vv_iload_n hC 7 dL_act_567 rfl rfl (q := 568) rfl ?_
                          refine vv_if_eq hC (tgt := 584) dL_act_568 (by decide) (q := 571) rfl (fun h568 => ?_) (fun h568 => ?_)
                          · skip
                            refine vv_iconst hC (v := (1 : Int32)) dL_act_584 rfl (q := 585) rfl ?_
                            refine vv_iload_n hC 9 dL_act_585 rfl rfl (q := 586) rfl ?_
                            refine vv_bipush hC (v := 14) dL_act_586 rfl (q := 588) rfl ?_
                            refine vv_ishr hC dL_act_588 (q := 589) rfl ?_
                            refine vv_bipush hC (v := 9) dL_act_589 rfl (q := 591) rfl ?_
                            refine vv_fcp hC Stb_1 (As := [.int (v >>> (14 &&& 31)), .int 9]) (cn_low l (v >>> (14 &&& 31)) 9 (by decide)) (va_cwS 2 hC.2.2.2.2 gL_act_L_low rfl rfl rfl hsL_low ⟨Nat.le_of_ble_eq_true rfl, Nat.le_of_ble_eq_true rfl⟩) rfl rfl (Nat.le_of_ble_eq_true rfl) ⟨by show _ ≤ 8; omega, by show _ ≤ 48; omega⟩ dL_act_591 (q := 594) rfl ?_
                            refine vv_iadd hC dL_act_594 (q := 595) rfl ?_
                            refine vv_fcnW hC hK hE hxN hAX hA1 (As := [.ref (ad 0), .int ((S.2.2 + (1 : Int32)) + (lowF (v >>> (4 &&& 31)) 4)), .int ((1 : Int32) + (lowF (v >>> (14 &&& 31)) 9))]) Foc_1 (fun zz => cn_addIssue l hJ hlst AX zz S ((S.2.2 + (1 : Int32)) + (lowF (v >>> (4 &&& 31)) 4)) ((1 : Int32) + (lowF (v >>> (14 &&& 31)) 9))) (vx_cwSW 3 hC.2.2.2.2 gL_act_L_addIssue rfl rfl rfl hsL_addIssue ⟨Nat.le_of_ble_eq_true rfl, Nat.le_of_ble_eq_true rfl⟩) rfl rfl (Nat.le_of_ble_eq_true rfl) ⟨by show _ ≤ 8; omega, by show _ ≤ 48; omega⟩ dL_act_595 (q := 598) rfl ?_
                            exact vv_lret hC hK hr hlk rfl ⟨Nat.le_of_ble_eq_true rfl, Nat.le_of_ble_eq_true rfl⟩ (fun f hf => hf) dL_act_598
                          · skip
                            exact absurd (by decide) h568
                        · skip
                          exact absurd (by decide) h538
                      · skip
                        refine vv_tableIn hC (off := 370) (tgt := 599) dL_act_229 (by rw [he]; decide) (by rw [he]; decide) (by rw [he]; rfl) rfl ?_
                        refine vv_aload_n hC 8 dL_act_599 rfl rfl (q := 600) rfl ?_
                        refine vv_iload_n hC 7 dL_act_600 rfl rfl (q := 601) rfl ?_
                        refine vv_if_eq hC (tgt := 617) dL_act_601 (by decide) (q := 604) rfl (fun h601 => ?_) (fun h601 => ?_)
                        · skip
                          refine vv_iconst hC (v := (1 : Int32)) dL_act_617 rfl (q := 618) rfl ?_
                          refine vv_iload_n hC 9 dL_act_618 rfl rfl (q := 619) rfl ?_
                          refine vv_iconst hC (v := 4) dL_act_619 rfl (q := 620) rfl ?_
                          refine vv_ishr hC dL_act_620 (q := 621) rfl ?_
                          refine vv_iconst hC (v := 2) dL_act_621 rfl (q := 622) rfl ?_
                          refine vv_fcp hC Stb_1 (As := [.int (v >>> (4 &&& 31)), .int 2]) (cn_low l (v >>> (4 &&& 31)) 2 (by decide)) (va_cwS 2 hC.2.2.2.2 gL_act_L_low rfl rfl rfl hsL_low ⟨Nat.le_of_ble_eq_true rfl, Nat.le_of_ble_eq_true rfl⟩) rfl rfl (Nat.le_of_ble_eq_true rfl) ⟨by show _ ≤ 8; omega, by show _ ≤ 48; omega⟩ dL_act_622 (q := 625) rfl ?_
                          refine vv_iadd hC dL_act_625 (q := 626) rfl ?_
                          refine vv_fcnW hC hK hE hxN hAX hA1 (As := [.ref (ad 0), .int ((1 : Int32) + (lowF (v >>> (4 &&& 31)) 2))]) Foc_1 (fun zz => cn_pass l hJ hlst AX zz S ((1 : Int32) + (lowF (v >>> (4 &&& 31)) 2))) (vx_cwSW 2 hC.2.2.2.2 gL_act_L_pass rfl rfl rfl hsL_pass ⟨Nat.le_of_ble_eq_true rfl, Nat.le_of_ble_eq_true rfl⟩) rfl rfl (Nat.le_of_ble_eq_true rfl) ⟨by show _ ≤ 8; omega, by show _ ≤ 48; omega⟩ dL_act_626 (q := 629) rfl ?_
                          exact vv_lret hC hK hr hlk rfl ⟨Nat.le_of_ble_eq_true rfl, Nat.le_of_ble_eq_true rfl⟩ (fun f hf => hf) dL_act_629
                        · skip
                          exact absurd (by decide) h601
                      · skip
                        refine vv_tableIn hC (off := 370) (tgt := 599) dL_act_229 (by rw [he]; decide) (by rw [he]; decide) (by rw [he]; rfl) rfl ?_
                        refine vv_aload_n hC 8 dL_act_599 rfl rfl (q := 600) rfl ?_
                        refine vv_iload_n hC 7 dL_act_600 rfl rfl (q := 601) rfl ?_
                        refine vv_if_eq hC (tgt := 617) dL_act_601 (by decide) (q := 604) rfl (fun h601 => ?_) (fun h601 => ?_)
                        · skip
                          refine vv_iconst hC (v := (1 : Int32)) dL_act_617 rfl (q := 618) rfl ?_
                          refine vv_iload_n hC 9 dL_act_618 rfl rfl (q := 619) rfl ?_
                          refine vv_iconst hC (v := 4) dL_act_619 rfl (q := 620) rfl ?_
                          refine vv_ishr hC dL_act_620 (q := 621) rfl ?_
                          refine vv_iconst hC (v := 2) dL_act_621 rfl (q := 622) rfl ?_
                          refine vv_fcp hC Stb_1 (As := [.int (v >>> (4 &&& 31)), .int 2]) (cn_low l (v >>> (4 &&& 31)) 2 (by decide)) (va_cwS 2 hC.2.2.2.2 gL_act_L_low rfl rfl rfl hsL_low ⟨Nat.le_of_ble_eq_true rfl, Nat.le_of_ble_eq_true rfl⟩) rfl rfl (Nat.le_of_ble_eq_true rfl) ⟨by show _ ≤ 8; omega, by show _ ≤ 48; omega⟩ dL_act_622 (q := 625) rfl ?_
                          refine vv_iadd hC dL_act_625 (q := 626) rfl ?_
                          refine vv_fcnW hC hK hE hxN hAX hA1 (As := [.ref (ad 0), .int ((1 : Int32) + (lowF (v >>> (4 &&& 31)) 2))]) Foc_1 (fun zz => cn_pass l hJ hlst AX zz S ((1 : Int32) + (lowF (v >>> (4 &&& 31)) 2))) (vx_cwSW 2 hC.2.2.2.2 gL_act_L_pass rfl rfl rfl hsL_pass ⟨Nat.le_of_ble_eq_true rfl, Nat.le_of_ble_eq_true rfl⟩) rfl rfl (Nat.le_of_ble_eq_true rfl) ⟨by show _ ≤ 8; omega, by show _ ≤ 48; omega⟩ dL_act_626 (q := 629) rfl ?_
                          exact vv_lret hC hK hr hlk rfl ⟨Nat.le_of_ble_eq_true rfl, Nat.le_of_ble_eq_true rfl⟩ (fun f hf => hf) dL_act_629
                        · skip
                          exact absurd (by decide) h601
                      · skip
                        refine vv_tableIn hC (off := 401) (tgt := 630) dL_act_229 (by rw [he]; decide) (by rw [he]; decide) (by rw [he]; rfl) rfl ?_
                        refine vv_aload_n hC 8 dL_act_630 rfl rfl (q := 631) rfl ?_
                        refine vv_iload hC 2 dL_act_631 rfl (q := 633) rfl ?_
                        refine vv_iload hC 1 dL_act_633 rfl (q := 635) rfl ?_
                        refine vv_fcnW hC hK hE hxN hAX hA1 (As := [.ref (ad 0), .int (eF S v), .int (eT S v)]) Foc_1 (fun zz => cn_comment l hJ hlst AX zz S (eF S v) (eT S v)) (vx_cwSW 3 hC.2.2.2.2 gL_act_L_comment rfl rfl rfl hsL_comment ⟨Nat.le_of_ble_eq_true rfl, Nat.le_of_ble_eq_true rfl⟩) rfl rfl (Nat.le_of_ble_eq_true rfl) ⟨by show _ ≤ 8; omega, by show _ ≤ 48; omega⟩ dL_act_635 (q := 638) rfl ?_
                        exact vv_lret hC hK hr hlk rfl ⟨Nat.le_of_ble_eq_true rfl, Nat.le_of_ble_eq_true rfl⟩ (fun f hf => hf) dL_act_638
                      · skip
                        refine vv_tableIn hC (off := 410) (tgt := 639) dL_act_229 (by rw [he]; decide) (by rw [he]; decide) (by rw [he]; rfl) rfl ?_
                        refine vv_aload_n hC 8 dL_act_639 rfl rfl (q := 640) rfl ?_
                        refine vv_fcnW hC hK hE hxN hAX hA1 (As := [.ref (ad 0)]) Foc_1 (fun zz => cn_keep l hJ hlst AX zz S) (vx_cwSW 1 hC.2.2.2.2 gL_act_L_keep rfl rfl rfl hsL_keep ⟨Nat.le_of_ble_eq_true rfl, Nat.le_of_ble_eq_true rfl⟩) rfl rfl (Nat.le_of_ble_eq_true rfl) ⟨by show _ ≤ 8; omega, by show _ ≤ 48; omega⟩ dL_act_640 (q := 643) rfl ?_
                        exact vv_lret hC hK hr hlk rfl ⟨Nat.le_of_ble_eq_true rfl, Nat.le_of_ble_eq_true rfl⟩ (fun f hf => hf) dL_act_643
                      · skip
                        refine vv_tableOut hC (tgt := 644) dL_act_229 (Or.inr (by rw [he]; decide)) (by decide) ?_
                        refine vv_aload_n hC 8 dL_act_644 rfl rfl (q := 645) rfl ?_
                        refine vv_iconst hC (v := 0) dL_act_645 rfl (q := 646) rfl ?_
                        refine vv_iconst hC (v := 0) dL_act_646 rfl (q := 647) rfl ?_
                        refine vv_bipush hC (v := 7) dL_act_647 rfl (q := 649) rfl ?_
                        refine vv_fcnW hC hK hE hxN hAX hA1 (As := [.ref (ad 0), .int 0, .int 0, .int 7]) Foc_1 (fun zz => cn_type l hJ hlst AX zz S 0 0 7) (vx_cwSW 4 hC.2.2.2.2 gL_act_L_type rfl rfl rfl hsL_type ⟨Nat.le_of_ble_eq_true rfl, Nat.le_of_ble_eq_true rfl⟩) rfl rfl (Nat.le_of_ble_eq_true rfl) ⟨by show _ ≤ 8; omega, by show _ ≤ 48; omega⟩ dL_act_649 (q := 652) rfl ?_
                        exact vv_lret hC hK hr hlk rfl ⟨Nat.le_of_ble_eq_true rfl, Nat.le_of_ble_eq_true rfl⟩ (fun f hf => hf) dL_act_652
                    · skip
                      exact absurd (by decide) h198
                  refine vv_if_ne hC (tgt := 167) dL_act_160 (by decide) (q := 163) rfl (fun h160 => ?_) (fun h160 => ?_)
                  · skip
                    refine vv_iload hC 0 dL_act_167 rfl (q := 169) rfl ?_
                    refine vv_iload_n hC 7 dL_act_169 rfl rfl (q := 170) rfl ?_
                    refine vv_bipush hC (v := 9) dL_act_170 rfl (q := 172) rfl ?_
                    refine vv_ishr hC dL_act_172 (q := 173) rfl ?_
                    refine vv_iload hC 1 dL_act_173 rfl (q := 175) rfl ?_
                    refine vv_iload hC 0 dL_act_175 rfl (q := 177) rfl ?_
                    refine vv_isub hC dL_act_177 (q := 178) rfl ?_
                    refine vv_iconst hC (v := 4) dL_act_178 rfl (q := 179) rfl ?_
                    have join191 : vv p l e (headSpec wsL_act ({ frames := 11, cells := 8, slots := 48, locals := 202 })).room s m args below meth c 10 (RAs ad 90 z) s.heap (1) (6) (MQ below (va_Qi (fun r' (_ : Unit) => r' = (actE j S v).1) (fun _ => ws0 D vwCl (tyL cI cW cZ cL) ad 90 (PC cI cW ad (actE j S v).2)) (RAs ad 90 z)) args s 8 48 (RAs ad 90 z)) (wq D vwCl ad 90 (PC cI cW ad S)) 191 [(7, .int (eF S v)), (6, .int (eL S)), (5, .int (eP S v)), (4, .int (eC S v)), (3, .int (lowF (v >>> (4 &&& 31)) 3)), (2, .int 0), (0, .ref (ad 0)), (1, .int v)] [.int (eM S v), .int (v >>> (9 &&& 31)), .int (eF S v)] := by
                      refine vv_fcp hC Stb_1 (As := [.int (v >>> (9 &&& 31)), .int (eM S v)]) (cn_low l (v >>> (9 &&& 31)) (eM S v) (eM_ne hwf h160)) (va_cwS 2 hC.2.2.2.2 gL_act_L_low rfl rfl rfl hsL_low ⟨Nat.le_of_ble_eq_true rfl, Nat.le_of_ble_eq_true rfl⟩) rfl rfl (Nat.le_of_ble_eq_true rfl) ⟨by show _ ≤ 8; omega, by show _ ≤ 48; omega⟩ dL_act_191 (q := 194) rfl ?_
                      refine vv_iadd hC dL_act_194 (q := 195) rfl ?_
                      exact vv_val (by rw [eT, if_neg h160]) (vv_widen (by omega) (by omega) join195)
                    refine vv_icmp_ge hC (tgt := 190) dL_act_179 (by decide) (q := 182) rfl (fun h179 => ?_) (fun h179 => ?_)
                    · skip
                      refine vv_iconst hC (v := 4) dL_act_190 rfl (q := 191) rfl ?_
                      exact vv_val (by rw [eM, if_neg (Int32.not_lt.mpr h179)]) (vv_widen (by omega) (by omega) join191)
                    · skip
                      refine vv_iload hC 1 dL_act_182 rfl (q := 184) rfl ?_
                      refine vv_iload hC 0 dL_act_184 rfl (q := 186) rfl ?_
                      refine vv_isub hC dL_act_186 (q := 187) rfl ?_
                      refine vv_goto hC (tgt := 191) dL_act_187 (by decide) ?_
                      exact vv_val (by rw [eM, if_pos (Int32.not_le.mp h179)]) (vv_widen (by omega) (by omega) join191)
                  · skip
                    refine vv_iconst hC (v := 0) dL_act_163 rfl (q := 164) rfl ?_
                    refine vv_goto hC (tgt := 195) dL_act_164 (by decide) ?_
                    exact vv_val (by rw [eT, if_pos h160]) (vv_widen (by omega) (by omega) join195)
                · skip
                  exact absurd (by decide) h141
              refine vv_if_ne hC (tgt := 130) dL_act_123 (by decide) (q := 126) rfl (fun h123 => ?_) (fun h123 => ?_)
              · skip
                refine vv_iload_n hC 6 dL_act_130 rfl rfl (q := 131) rfl ?_
                refine vv_iconst hC (v := 4) dL_act_131 rfl (q := 132) rfl ?_
                refine vv_ishr hC dL_act_132 (q := 133) rfl ?_
                refine vv_iload hC 0 dL_act_133 rfl (q := 135) rfl ?_
                refine vv_fcp hC Stb_1 (As := [.int (v >>> (4 &&& 31)), .int (eL S)]) (cn_low l (v >>> (4 &&& 31)) (eL S) h123) (va_cwS 2 hC.2.2.2.2 gL_act_L_low rfl rfl rfl hsL_low ⟨Nat.le_of_ble_eq_true rfl, Nat.le_of_ble_eq_true rfl⟩) rfl rfl (Nat.le_of_ble_eq_true rfl) ⟨by show _ ≤ 8; omega, by show _ ≤ 48; omega⟩ dL_act_135 (q := 138) rfl ?_
                exact vv_val (by rw [eF, if_neg h123]) (vv_widen (by omega) (by omega) join138)
              · skip
                refine vv_iconst hC (v := 0) dL_act_126 rfl (q := 127) rfl ?_
                refine vv_goto hC (tgt := 138) dL_act_127 (by decide) ?_
                exact vv_val (by rw [eF, if_pos h123]) (vv_widen (by omega) (by omega) join138)
            · skip
              exact absurd (by decide) h105
          refine vv_if_ne hC (tgt := 87) dL_act_80 (by decide) (q := 83) rfl (fun h80 => ?_) (fun h80 => ?_)
          · skip
            refine vv_iload_n hC 4 dL_act_87 rfl rfl (q := 88) rfl ?_
            refine vv_bipush hC (v := 7) dL_act_88 rfl (q := 90) rfl ?_
            refine vv_ishr hC dL_act_90 (q := 91) rfl ?_
            refine vv_iload hC 0 dL_act_91 rfl (q := 93) rfl ?_
            refine vv_fcp hC Stb_1 (As := [.int (v >>> (7 &&& 31)), .int (eC S v)]) (cn_low l (v >>> (7 &&& 31)) (eC S v) h80) (va_cwS 2 hC.2.2.2.2 gL_act_L_low rfl rfl rfl hsL_low ⟨Nat.le_of_ble_eq_true rfl, Nat.le_of_ble_eq_true rfl⟩) rfl rfl (Nat.le_of_ble_eq_true rfl) ⟨by show _ ≤ 8; omega, by show _ ≤ 48; omega⟩ dL_act_93 (q := 96) rfl ?_
            exact vv_val (by rw [eP, if_neg h80]) (vv_widen (by omega) (by omega) join96)
          · skip
            refine vv_iconst hC (v := 0) dL_act_83 rfl (q := 84) rfl ?_
            refine vv_goto hC (tgt := 96) dL_act_84 (by decide) ?_
            exact vv_val (by rw [eP, if_pos h80]) (vv_widen (by omega) (by omega) join96)
        · skip
          exact absurd (by decide) h60
      · skip
        exact absurd (by decide) h44
    · skip
      exact absurd (by decide) h19
  · skip
    exact absurd h9 hb
theorem hsL_act : yL_act.cls ≠ "java/lang/invoke/MethodHandle" ∧ yL_act.cls ≠ "java/lang/invoke/VarHandle" ∧ (parseMethodDescriptor yL_act.desc).map (fun d => d.parameters.length) = some 2 := by decide +kernel
def actN (S : sC) (v : Int32) : Int32 × sC := if lowF (v >>> (24 &&& 31)) 9 = 0 then actO (tn (lowF v 24)) S v else actE (tn (lowF v 24)) S v
theorem cn_act (l : Launch) {D : va_G} {cI cW cZ cL : ClassId} {ad : Nat → Nat} (hJ : injA ad 90) (hlst : l.stackTraces = false) (AX : Nat → Prop) (z : Nat) (S : sC) (v : Int32) : kN l yL_act wsL_act ({ frames := 11, cells := 8, slots := 48, locals := 202 }) D cI cW cZ cL ad AX z [.ref (ad 0), .int v] S (actN S v).1 (actN S v).2 8 48 := by
  obtain ⟨j, hj, he⟩ := low_lt v (n := 24) (by omega) (by omega)
  have e : tn (lowF v 24) = j := by rw [show (24 : Int32) = nI 24 from rfl, he, tn_n (by omega)]
  unfold actN
  by_cases hb : lowF (v >>> (24 &&& 31)) 9 = 0
  · rw [if_pos hb, e]; exact cn_actO l hJ hlst AX z S v hb j hj he
  · rw [if_neg hb, e]; exact cn_actE l hJ hlst AX z S v hb j hj he
