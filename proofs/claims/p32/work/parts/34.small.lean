/-! the law's small methods -/
def lowF (v n : Int32) : Int32 := (v &&& 2147483647) - (v &&& 2147483647) / n * n
def cellF (L : Nat) (xs : Nat → Int32) (k : Nat) : Int32 := if k < L then xs k else 7919 * (nI k + 1493) * (nI k + 401)
def wr (thr : Nat) (r : Int32) (S1 S : sC) : Int32 × sC := (if thr = 0 then r else -99999, if thr = 0 then S1 else S)
theorem wr_1 {thr : Nat} {r : Int32} {S1 S : sC} (h : thr = 0) : (wr thr r S1 S).1 = r := if_pos h
theorem wr_2 {thr : Nat} {r : Int32} {S1 S : sC} (h : thr = 0) : (wr thr r S1 S).2 = S1 := if_pos h
theorem wr_n1 {thr : Nat} {r : Int32} {S1 S : sC} (h : ¬ thr = 0) : (wr thr r S1 S).1 = -99999 := if_neg h
theorem wr_n2 {thr : Nat} {r : Int32} {S1 S : sC} (h : ¬ thr = 0) : (wr thr r S1 S).2 = S := if_neg h
section VVS
variable {p : Program} {l : Launch} {e : Env} {R : Room} {s : State} {m : MethodId} {args : Array Value} {below : List Frame} {meth : Method} {c : Code} {nL : Nat} {A AX : Nat → Prop} {H0 : Heap} {cells slots : Nat} {Q : State → Prop} {B B1 : Heap → Prop} {pc q : Nat} {lv lv' : List (Nat × Value)} {st st0 : List Value} {cc bytes : ByteArray} {Ts wsY ws ws' : List Cond} {own Kc : String} {y : MethodName} {rm : Room} {index maxL n mc ms b L : Nat} {ret : Option FieldType} {r v : Int32} {As as : List Value} {xs : Nat → Int32}
theorem vv_sld (C : CallFix p m c cc nL s args Ts own) (hX : va_X b L xs s s.heap) (hbl : b < s.heap.size) (hbA : ¬ A b) {j : Nat} (hj : j < L) (hL : L < 2 ^ 31) (d : decode cc pc = .ok (.iaload, 1)) (hq : pc + 1 = q) (kk : vv p l e R s m args below meth c nL A s.heap cells slots Q B q lv (.int (xs j) :: st)) : vv p l e R s m args below meth c nL A s.heap cells slots Q B pc lv (.int (nI j) :: .ref b :: st) := by
  subst hq
  intro H locs ls hl hB hS
  refine va_sld C.1 C.2.1 hX hbl hbA hS (vp_in_nI hj hL) d ?_
  rw [nI_clamp (by omega)]
  exact kk H locs ls hl hB hS
theorem vv_slen (C : CallFix p m c cc nL s args Ts own) (hX : va_X b L xs s s.heap) (hbl : b < s.heap.size) (hbA : ¬ A b) (d : decode cc pc = .ok (.arraylength, 1)) (hq : pc + 1 = q) (kk : vv p l e R s m args below meth c nL A s.heap cells slots Q B q lv (.int (nI L) :: st)) : vv p l e R s m args below meth c nL A s.heap cells slots Q B pc lv (.ref b :: st) := by
  subst hq
  intro H locs ls hl hB hS
  exact va_slen C.1 C.2.1 hX hbl hbA hS d (kk H locs ls hl hB hS)
theorem vv_tableIn (C : CallFix p m c cc nL s args Ts own) {dflt lo hi : Int} {offs : Array Int} {len : Nat} {x : Int32} {off : Int} {tgt : Nat} (d : decode cc pc = .ok (.tableswitch dflt lo hi offs, len)) (h1 : ¬ x.toInt < lo) (h2 : ¬ hi < x.toInt) (ho : offs[(x.toInt - lo).toNat]? = some off) (ht : (pc : Int) + off = (tgt : Int)) (kk : vv p l e R s m args below meth c nL A H0 cells slots Q B tgt lv st) : vv p l e R s m args below meth c nL A H0 cells slots Q B pc lv (.int x :: st) := fun H locs ls hl hB hS => lv_tableIn C.1 C.2.1 d h1 h2 ho ht (kk H locs ls hl hB hS)
theorem vv_tableOut (C : CallFix p m c cc nL s args Ts own) {dflt lo hi : Int} {offs : Array Int} {len : Nat} {x : Int32} {tgt : Nat} (d : decode cc pc = .ok (.tableswitch dflt lo hi offs, len)) (h : x.toInt < lo ∨ hi < x.toInt) (ht : (pc : Int) + dflt = (tgt : Int)) (kk : vv p l e R s m args below meth c nL A H0 cells slots Q B tgt lv st) : vv p l e R s m args below meth c nL A H0 cells slots Q B pc lv (.int x :: st) := fun H locs ls hl hB hS => lv_tableOut C.1 C.2.1 d h ht (kk H locs ls hl hB hS)
theorem vv_enterS (hy : plainName y.cls = true) (hw : ws = Cond.code y cc maxL ret :: ws') (hown : y.cls = own) (hlen : (lg_sl as).length ≤ maxL) (hlv : lv_args 0 as = lv)
    (body : ∀ (p : Program) (e : Env) (s : State) (m : MethodId) (args : Array Value) (below : List Frame) (meth : Method) (c : Code), CallFix p m c cc maxL s args ws own → meth.sig.returnType = ret → meth.locks = false → va_X b L xs s s.heap → b < s.heap.size →
      vv p l e (headSpec ws rm).room s m args below meth c maxL (fun _ => False) s.heap 0 0 (MQ below (va_Qi (fun r' (_ : Unit) => r' = r) (fun _ _ => True) (fun _ => False)) args s 0 0 (fun _ => False)) (fun _ => True) 0 lv []) : Met l y ws rm (va_Pc as (fun U => va_X b L xs U U.heap ∧ b < U.heap.size)) (va_Qi (fun r' (_ : Unit) => r' = r) (fun _ _ => True) (fun _ => False)) 0 0 (fun _ => False) := by
  subst hlv
  subst hown
  refine Met.ofW (cc := cc) (maxL := maxL) (ret := ret) hy hw ?_
  intro p e s m args below meth c s₁ B hml hv
  obtain ⟨rfl, hX, hbl⟩ := hv
  have hts := atoms_spec (ws := ws) B.pre
  have hl := lv_entry as (n := maxL) hlen
  rw [lg_entry_eq]
  exact body p e s m _ below meth c ⟨B.exec, B.bytes, hml, findClass_of_methodNamed B.named, hts⟩ B.returns B.notSynchronized hX hbl s.heap [] _ hl trivial va_S.rf
theorem kS_blind {as : List Value} : FrameBlind (va_Pc as (fun U => va_X b L xs U U.heap ∧ b < U.heap.size)) := fun a U g mk h => ⟨h.1, va_X.moved (u := U) (U := U.calling g mk a) (Vm.Alike.refl U.vm) h.2.1, h.2.2⟩
theorem vv_fcs (C : CallFix p m c cc nL s args Ts own) (hB : Stb B) (hX : va_X b L xs s s.heap) (hbl : b < s.heap.size) (hbA : ¬ A b) (hM : Met l y wsY rm (va_Pc As (fun U => va_X b L xs U U.heap ∧ b < U.heap.size)) (va_Qi (fun r' (_ : Unit) => r' = r) (fun _ _ => True) (fun _ => False)) 0 0 (fun _ => False)) (cw : CallB R s args own index y bytes maxL ret wsY rm 0 0 n ∧ (Cond.static y).before args s = true) (hn : As.length = n) (hst : st0 = As.reverse ++ st) (hcat : (st.map fun v => v.category).sum ≤ 8) (hroom : cells + 0 ≤ R.cells ∧ slots + 0 ≤ R.slots) (d : decode cc pc = .ok (.invokestatic index, 3)) (hq : pc + 3 = q) (kk : vv p l e R s m args below meth c nL A s.heap cells slots Q B q lv (.int r :: st)) : vv p l e R s m args below meth c nL A s.heap cells slots Q B pc lv st0 := by
  subst hq
  subst hst
  intro H locs ls hl hB1 hS
  exact va_calli (va_runS C hM cw ⟨kS_blind, fun U hU hW => ⟨rfl, by rw [hU]; exact va_X.moved hW.alike (hX.kept (hS.2.1 b hbl hbA)), by rw [hU]; exact Nat.lt_of_lt_of_le hbl hS.1⟩⟩ rfl hn hl.1 rfl (lv_room hcat) d hroom) hS (fun q _ h => absurd h id) (fun q h => absurd h id) (fun r1 u t H1 locs1 ht hvm hp hb1 hz1 hk hS1 => by
    subst hp
    subst ht
    exact kk _ _ ls hl (hB H _ hB1 fun q h1 => hk q h1 id) hS1)
end VVS
theorem hsL_low : yL_low.cls ≠ "java/lang/invoke/MethodHandle" ∧ yL_low.cls ≠ "java/lang/invoke/VarHandle" ∧ (parseMethodDescriptor yL_low.desc).map (fun d => d.parameters.length) = some 2 := by decide +kernel
set_option maxRecDepth 100000 in
theorem cn_low (l : Launch) (v n : Int32) (hne : ¬ n = 0) : kP l yL_low wsL_low ({ frames := 0, cells := 0, slots := 0, locals := 0 }) [.int v, .int n] (lowF v n) := by
  refine vv_enterP (cc := cL_low) (maxL := 2) (ret := some .int) (own := RL) (lv := [(0, .int v), (1, .int n)]) (by decide +kernel) rfl rfl (Nat.le_of_ble_eq_true rfl) rfl ?_
  intro p e s m args below meth c hC hr hlk
  refine vv_iload_n hC 0 dL_low_0 rfl rfl (q := 1) rfl ?_
  refine vv_ldc hC (v := 2147483647) (List.mem_of_getElem? (i := 1) rfl) dL_low_1 (q := 3) rfl ?_
  refine vv_iand hC dL_low_3 (q := 4) rfl ?_
  refine vv_iload_n hC 1 dL_low_4 rfl rfl (q := 5) rfl ?_
  refine vv_irem hC dL_low_5 hne (q := 6) rfl ?_
  exact vv_pret hC hr hlk rfl dL_low_6
theorem hsL_cell : yL_cell.cls ≠ "java/lang/invoke/MethodHandle" ∧ yL_cell.cls ≠ "java/lang/invoke/VarHandle" ∧ (parseMethodDescriptor yL_cell.desc).map (fun d => d.parameters.length) = some 2 := by decide +kernel
set_option maxRecDepth 100000 in
theorem cn_cell (l : Launch) {b L : Nat} {xs : Nat → Int32} (hL : L < 2 ^ 31) (k : Nat) (hk : k < 2 ^ 31) : Met l yL_cell wsL_cell ({ frames := 0, cells := 0, slots := 0, locals := 0 }) (va_Pc [.ref b, .int (nI k)] (fun U => va_X b L xs U U.heap ∧ b < U.heap.size)) (va_Qi (fun r' (_ : Unit) => r' = cellF L xs k) (fun _ _ => True) (fun _ => False)) 0 0 (fun _ => False) := by
  refine vv_enterS (cc := cL_cell) (maxL := 2) (ret := some .int) (own := RL) (lv := [(0, .ref b), (1, .int (nI k))]) (by decide +kernel) rfl rfl (Nat.le_of_ble_eq_true rfl) rfl ?_
  intro p e s m args below meth c hC hr hlk hX hbl
  refine vv_iload_n hC 1 dL_cell_0 rfl rfl (q := 1) rfl ?_
  refine vv_aload_n hC 0 dL_cell_1 rfl rfl (q := 2) rfl ?_
  refine vv_slen hC hX hbl id dL_cell_2 (q := 3) rfl ?_
  refine vv_icmpN_ge hC (tgt := 12) hk hL dL_cell_3 (by decide) (q := 6) rfl (fun h3 => ?_) (fun h3 => ?_)
  · skip
    refine vv_sipush hC (v := 7919) dL_cell_12 rfl (q := 15) rfl ?_
    refine vv_iload_n hC 1 dL_cell_15 rfl rfl (q := 16) rfl ?_
    refine vv_sipush hC (v := 1493) dL_cell_16 rfl (q := 19) rfl ?_
    refine vv_iadd hC dL_cell_19 (q := 20) rfl ?_
    refine vv_imul hC dL_cell_20 (q := 21) rfl ?_
    refine vv_iload_n hC 1 dL_cell_21 rfl rfl (q := 22) rfl ?_
    refine vv_sipush hC (v := 401) dL_cell_22 rfl (q := 25) rfl ?_
    refine vv_iadd hC dL_cell_25 (q := 26) rfl ?_
    refine vv_imul hC dL_cell_26 (q := 27) rfl ?_
    exact vv_pret hC hr hlk (by rw [cellF, if_neg (by omega)]) dL_cell_27
  · replace h3 : k < L := by omega
    refine vv_aload_n hC 0 dL_cell_6 rfl rfl (q := 7) rfl ?_
    refine vv_iload_n hC 1 dL_cell_7 rfl rfl (q := 8) rfl ?_
    refine vv_sld hC hX hbl id (j := k) h3 hL dL_cell_8 (q := 9) rfl ?_
    refine vv_goto hC (tgt := 27) dL_cell_9 (by decide) ?_
    exact vv_pret hC hr hlk (by rw [cellF, if_pos h3]) dL_cell_27
theorem hsL_type : yL_type.cls ≠ "java/lang/invoke/MethodHandle" ∧ yL_type.cls ≠ "java/lang/invoke/VarHandle" ∧ (parseMethodDescriptor yL_type.desc).map (fun d => d.parameters.length) = some 4 := by decide +kernel
set_option maxRecDepth 100000 in
set_option maxHeartbeats 4000000 in
theorem cn_type (l : Launch) {D : va_G} {cI cW cZ cL : ClassId} {ad : Nat → Nat} (hJ : injA ad 90) (hlst : l.stackTraces = false) (AX : Nat → Prop) (z : Nat) (S : sC) (w pp x : Int32) : kN l yL_type wsL_type ({ frames := 9, cells := 4, slots := 24, locals := 158 }) D cI cW cZ cL ad AX z [.ref (ad 0), .int w, .int pp, .int x] S (wr (tType S w pp x) (rType S w pp x) (sType S w pp x) S).1 (wr (tType S w pp x) (rType S w pp x) (sType S w pp x) S).2 4 24 := by
  refine vv_enterW (cc := cL_type) (maxL := 5) (ret := some .int) (hh := [(0, 7, 8, 14), (0, 7, 13, 17), (0, 7, 18, 19)]) (own := RL) (lv := [(0, .ref (ad 0)), (1, .int w), (2, .int pp), (3, .int x)]) (by decide +kernel) rfl rfl hJ (Nat.le_of_ble_eq_true rfl) rfl ?_
  intro p e s m args below meth c hC hK hW hr hlk hsz hAX hE hxN htab
  refine vv_aload_n hC 0 dL_type_0 rfl rfl (q := 1) rfl ?_
  refine vv_iload_n hC 1 dL_type_1 rfl rfl (q := 2) rfl ?_
  refine vv_iload_n hC 2 dL_type_2 rfl rfl (q := 3) rfl ?_
  refine vv_iload_n hC 3 dL_type_3 rfl rfl (q := 4) rfl ?_
  refine vv_wcall hC hK hE hAX (fun zz h9 => RAs.mono (by rw [← hsz]; exact h9)) (As := [.int w, .int pp, .int x]) (fun zz => c8_type l hJ hlst AX zz S w pp x) (cwV 3 hC.2.2.2.2 gL_type_X8_type rfl rfl rfl hdX8_type ⟨Nat.le_of_ble_eq_true rfl, Nat.le_of_ble_eq_true rfl⟩) rfl rfl (Nat.le_of_ble_eq_true rfl) ⟨Nat.le_of_ble_eq_true rfl, Nat.le_of_ble_eq_true rfl⟩ (fun hne => ?_) dL_type_4 (q := 7) rfl (fun h0 => ?_)
  · have hth : thIn [1, 2, 3] (tType S w pp x) := by
      unfold tType
      (repeat first | exact thIn_ix (by decide) _ _ | exact thIn_rg (by decide) _ _ _ | exact thIn_b2 (by decide) _ | exact thIn_b3 (by decide) _ | refine thIn_tor ?_ ?_)
    rcases hth with h | h
    · exact absurd h hne
    · rcases List.mem_cons.mp h with h | h
      · rw [h]; exact ⟨[], ⟨0, 7, 8, 14⟩, [⟨0, 7, 13, 17⟩, ⟨0, 7, 18, 19⟩], htab, (fun z hz => nomatch hz), by decide, by decide, (hC.2.2.2.2 _ (List.mem_of_getElem? (i := 1) rfl)), fun q9 => by
            refine vv_astore hC (i := 4) (lv' := (4, .ref q9) :: [(0, .ref (ad 0)), (1, .int w), (2, .int pp), (3, .int x)]) dL_type_8 (by decide) rfl (q := 10) rfl ?_
            refine vv_ldc hC (v := -99999) (List.mem_of_getElem? (i := 4) rfl) dL_type_10 (q := 12) rfl ?_
            exact vv_lret hC hK hr hlk (wr_n1 (by decide)).symm ⟨Nat.le_of_ble_eq_true rfl, Nat.le_of_ble_eq_true rfl⟩ (fun f hf => by rw [wr_n2 (by decide)]; exact hf) dL_type_12⟩
      · rcases List.mem_cons.mp h with h | h
        · rw [h]; exact ⟨[⟨0, 7, 8, 14⟩], ⟨0, 7, 13, 17⟩, [⟨0, 7, 18, 19⟩], htab, (fun z hz => by rw [List.mem_singleton.mp hz]; exact Or.inr ⟨by decide, _, (hC.2.2.2.2 _ (List.mem_of_getElem? (i := 1) rfl)), hxN.2.2.1⟩), by decide, by decide, (hC.2.2.2.2 _ (List.mem_of_getElem? (i := 2) rfl)), fun q9 => by
              refine vv_astore hC (i := 4) (lv' := (4, .ref q9) :: [(0, .ref (ad 0)), (1, .int w), (2, .int pp), (3, .int x)]) dL_type_13 (by decide) rfl (q := 15) rfl ?_
              refine vv_ldc hC (v := -99999) (List.mem_of_getElem? (i := 4) rfl) dL_type_15 (q := 17) rfl ?_
              exact vv_lret hC hK hr hlk (wr_n1 (by decide)).symm ⟨Nat.le_of_ble_eq_true rfl, Nat.le_of_ble_eq_true rfl⟩ (fun f hf => by rw [wr_n2 (by decide)]; exact hf) dL_type_17⟩
        · replace h := List.mem_singleton.mp h
          rw [h]; exact ⟨[⟨0, 7, 8, 14⟩, ⟨0, 7, 13, 17⟩], ⟨0, 7, 18, 19⟩, [], htab, (fun z hz => by rcases List.mem_cons.mp hz with rfl | hz; exact Or.inr ⟨by decide, _, (hC.2.2.2.2 _ (List.mem_of_getElem? (i := 1) rfl)), hxN.2.2.2.2.1⟩; rw [List.mem_singleton.mp hz]; exact Or.inr ⟨by decide, _, (hC.2.2.2.2 _ (List.mem_of_getElem? (i := 2) rfl)), hxN.2.2.2.2.2⟩), by decide, by decide, (hC.2.2.2.2 _ (List.mem_of_getElem? (i := 3) rfl)), fun q9 => by
              refine vv_astore hC (i := 4) (lv' := (4, .ref q9) :: [(0, .ref (ad 0)), (1, .int w), (2, .int pp), (3, .int x)]) dL_type_18 (by decide) rfl (q := 20) rfl ?_
              refine vv_ldc hC (v := -99999) (List.mem_of_getElem? (i := 4) rfl) dL_type_20 (q := 22) rfl ?_
              exact vv_lret hC hK hr hlk (wr_n1 (by decide)).symm ⟨Nat.le_of_ble_eq_true rfl, Nat.le_of_ble_eq_true rfl⟩ (fun f hf => by rw [wr_n2 (by decide)]; exact hf) dL_type_22⟩
  · exact vv_lret hC hK hr hlk (wr_1 h0).symm ⟨Nat.le_of_ble_eq_true rfl, Nat.le_of_ble_eq_true rfl⟩ (fun f hf => by rw [wr_2 h0]; exact hf) dL_type_7
theorem hsL_delete : yL_delete.cls ≠ "java/lang/invoke/MethodHandle" ∧ yL_delete.cls ≠ "java/lang/invoke/VarHandle" ∧ (parseMethodDescriptor yL_delete.desc).map (fun d => d.parameters.length) = some 3 := by decide +kernel
set_option maxRecDepth 100000 in
set_option maxHeartbeats 4000000 in
theorem cn_delete (l : Launch) {D : va_G} {cI cW cZ cL : ClassId} {ad : Nat → Nat} (hJ : injA ad 90) (hlst : l.stackTraces = false) (AX : Nat → Prop) (z : Nat) (S : sC) (w pp : Int32) : kN l yL_delete wsL_delete ({ frames := 8, cells := 2, slots := 12, locals := 149 }) D cI cW cZ cL ad AX z [.ref (ad 0), .int w, .int pp] S (wr (tCopyAt S w pp) (rAt (S.1 (pW w + 1)) pp) (wTake S (pW w) pp) S).1 (wr (tCopyAt S w pp) (rAt (S.1 (pW w + 1)) pp) (wTake S (pW w) pp) S).2 2 12 := by
  refine vv_enterW (cc := cL_delete) (maxL := 4) (ret := some .int) (hh := [(0, 6, 7, 14)]) (own := RL) (lv := [(0, .ref (ad 0)), (1, .int w), (2, .int pp)]) (by decide +kernel) rfl rfl hJ (Nat.le_of_ble_eq_true rfl) rfl ?_
  intro p e s m args below meth c hC hK hW hr hlk hsz hAX hE hxN htab
  refine vv_aload_n hC 0 dL_delete_0 rfl rfl (q := 1) rfl ?_
  refine vv_iload_n hC 1 dL_delete_1 rfl rfl (q := 2) rfl ?_
  refine vv_iload_n hC 2 dL_delete_2 rfl rfl (q := 3) rfl ?_
  refine vv_wcall hC hK hE hAX (fun zz h9 => RAs.mono (by rw [← hsz]; exact h9)) (As := [.int w, .int pp]) (fun zz => c8_delete l hJ hlst AX zz S w pp) (cwV 2 hC.2.2.2.2 gL_delete_X8_delete rfl rfl rfl hdX8_delete ⟨Nat.le_of_ble_eq_true rfl, Nat.le_of_ble_eq_true rfl⟩) rfl rfl (Nat.le_of_ble_eq_true rfl) ⟨Nat.le_of_ble_eq_true rfl, Nat.le_of_ble_eq_true rfl⟩ (fun hne => ?_) dL_delete_3 (q := 6) rfl (fun h0 => ?_)
  · have hth : thIn [1] (tCopyAt S w pp) := by
      unfold tCopyAt
      (repeat first | exact thIn_ix (by decide) _ _ | exact thIn_rg (by decide) _ _ _ | exact thIn_b2 (by decide) _ | exact thIn_b3 (by decide) _ | refine thIn_tor ?_ ?_)
    rcases hth with h | h
    · exact absurd h hne
    · replace h := List.mem_singleton.mp h
      rw [h]; exact ⟨[], ⟨0, 6, 7, 14⟩, [], htab, (fun z hz => nomatch hz), by decide, by decide, (hC.2.2.2.2 _ (List.mem_of_getElem? (i := 1) rfl)), fun q9 => by
          refine vv_astore_n hC (i := 3) (lv' := (3, .ref q9) :: [(0, .ref (ad 0)), (1, .int w), (2, .int pp)]) dL_delete_7 rfl (by decide) rfl (q := 8) rfl ?_
          refine vv_ldc hC (v := -99999) (List.mem_of_getElem? (i := 2) rfl) dL_delete_8 (q := 10) rfl ?_
          exact vv_lret hC hK hr hlk (wr_n1 (by decide)).symm ⟨Nat.le_of_ble_eq_true rfl, Nat.le_of_ble_eq_true rfl⟩ (fun f hf => by rw [wr_n2 (by decide)]; exact hf) dL_delete_10⟩
  · exact vv_lret hC hK hr hlk (wr_1 h0).symm ⟨Nat.le_of_ble_eq_true rfl, Nat.le_of_ble_eq_true rfl⟩ (fun f hf => by rw [wr_2 h0]; exact hf) dL_delete_6
theorem hsL_merge : yL_merge.cls ≠ "java/lang/invoke/MethodHandle" ∧ yL_merge.cls ≠ "java/lang/invoke/VarHandle" ∧ (parseMethodDescriptor yL_merge.desc).map (fun d => d.parameters.length) = some 2 := by decide +kernel
set_option maxRecDepth 100000 in
set_option maxHeartbeats 4000000 in
theorem cn_merge (l : Launch) {D : va_G} {cI cW cZ cL : ClassId} {ad : Nat → Nat} (hJ : injA ad 90) (hlst : l.stackTraces = false) (AX : Nat → Prop) (z : Nat) (S : sC) (w : Int32) : kN l yL_merge wsL_merge ({ frames := 8, cells := 1, slots := 6, locals := 173 }) D cI cW cZ cL ad AX z [.ref (ad 0), .int w] S (wr (tIx w 6) (nI (mrg S (pW w)).1) (sMerge S w) S).1 (wr (tIx w 6) (nI (mrg S (pW w)).1) (sMerge S w) S).2 1 6 := by
  refine vv_enterW (cc := cL_merge) (maxL := 3) (ret := some .int) (hh := [(0, 5, 6, 14)]) (own := RL) (lv := [(0, .ref (ad 0)), (1, .int w)]) (by decide +kernel) rfl rfl hJ (Nat.le_of_ble_eq_true rfl) rfl ?_
  intro p e s m args below meth c hC hK hW hr hlk hsz hAX hE hxN htab
  refine vv_aload_n hC 0 dL_merge_0 rfl rfl (q := 1) rfl ?_
  refine vv_iload_n hC 1 dL_merge_1 rfl rfl (q := 2) rfl ?_
  refine vv_wcall hC hK hE hAX (fun zz h9 => RAs.mono (by rw [← hsz]; exact h9)) (As := [.int w]) (fun zz => c8_merge l hJ hlst AX zz S w) (cwV 1 hC.2.2.2.2 gL_merge_X8_merge rfl rfl rfl hdX8_merge ⟨Nat.le_of_ble_eq_true rfl, Nat.le_of_ble_eq_true rfl⟩) rfl rfl (Nat.le_of_ble_eq_true rfl) ⟨Nat.le_of_ble_eq_true rfl, Nat.le_of_ble_eq_true rfl⟩ (fun hne => ?_) dL_merge_2 (q := 5) rfl (fun h0 => ?_)
  · have hth : thIn [1] (tIx w 6) := by
      (repeat first | exact thIn_ix (by decide) _ _ | exact thIn_rg (by decide) _ _ _ | exact thIn_b2 (by decide) _ | exact thIn_b3 (by decide) _ | refine thIn_tor ?_ ?_)
    rcases hth with h | h
    · exact absurd h hne
    · replace h := List.mem_singleton.mp h
      rw [h]; exact ⟨[], ⟨0, 5, 6, 14⟩, [], htab, (fun z hz => nomatch hz), by decide, by decide, (hC.2.2.2.2 _ (List.mem_of_getElem? (i := 1) rfl)), fun q9 => by
          refine vv_astore_n hC (i := 2) (lv' := (2, .ref q9) :: [(0, .ref (ad 0)), (1, .int w)]) dL_merge_6 rfl (by decide) rfl (q := 7) rfl ?_
          refine vv_ldc hC (v := -99999) (List.mem_of_getElem? (i := 2) rfl) dL_merge_7 (q := 9) rfl ?_
          exact vv_lret hC hK hr hlk (wr_n1 (by decide)).symm ⟨Nat.le_of_ble_eq_true rfl, Nat.le_of_ble_eq_true rfl⟩ (fun f hf => by rw [wr_n2 (by decide)]; exact hf) dL_merge_9⟩
  · exact vv_lret hC hK hr hlk (wr_1 h0).symm ⟨Nat.le_of_ble_eq_true rfl, Nat.le_of_ble_eq_true rfl⟩ (fun f hf => by rw [wr_2 h0]; exact hf) dL_merge_5
theorem hsL_setRate : yL_setRate.cls ≠ "java/lang/invoke/MethodHandle" ∧ yL_setRate.cls ≠ "java/lang/invoke/VarHandle" ∧ (parseMethodDescriptor yL_setRate.desc).map (fun d => d.parameters.length) = some 3 := by decide +kernel
set_option maxRecDepth 100000 in
set_option maxHeartbeats 4000000 in
theorem cn_setRate (l : Launch) {D : va_G} {cI cW cZ cL : ClassId} {ad : Nat → Nat} (hJ : injA ad 90) (hlst : l.stackTraces = false) (AX : Nat → Prop) (z : Nat) (S : sC) (r v : Int32) : kN l yL_setRate wsL_setRate ({ frames := 9, cells := 2, slots := 12, locals := 154 }) D cI cW cZ cL ad AX z [.ref (ad 0), .int r, .int v] S (wr (tRate r v) (rAt (S.1 74) r) (sSet S 74 (rSet (S.1 74) r v)) S).1 (wr (tRate r v) (rAt (S.1 74) r) (sSet S 74 (rSet (S.1 74) r v)) S).2 2 12 := by
  refine vv_enterW (cc := cL_setRate) (maxL := 4) (ret := some .int) (hh := [(0, 6, 7, 14), (0, 6, 11, 17)]) (own := RL) (lv := [(0, .ref (ad 0)), (1, .int r), (2, .int v)]) (by decide +kernel) rfl rfl hJ (Nat.le_of_ble_eq_true rfl) rfl ?_
  intro p e s m args below meth c hC hK hW hr hlk hsz hAX hE hxN htab
  refine vv_aload_n hC 0 dL_setRate_0 rfl rfl (q := 1) rfl ?_
  refine vv_iload_n hC 1 dL_setRate_1 rfl rfl (q := 2) rfl ?_
  refine vv_iload_n hC 2 dL_setRate_2 rfl rfl (q := 3) rfl ?_
  refine vv_wcall hC hK hE hAX (fun zz h9 => RAs.mono (by rw [← hsz]; exact h9)) (As := [.int r, .int v]) (fun zz => c8_setRate l hJ hlst AX zz S r v) (cwV 2 hC.2.2.2.2 gL_setRate_X8_setRate rfl rfl rfl hdX8_setRate ⟨Nat.le_of_ble_eq_true rfl, Nat.le_of_ble_eq_true rfl⟩) rfl rfl (Nat.le_of_ble_eq_true rfl) ⟨Nat.le_of_ble_eq_true rfl, Nat.le_of_ble_eq_true rfl⟩ (fun hne => ?_) dL_setRate_3 (q := 6) rfl (fun h0 => ?_)
  · have hth : thIn [1, 2] (tRate r v) := by
      unfold tRate
      (repeat first | exact thIn_ix (by decide) _ _ | exact thIn_rg (by decide) _ _ _ | exact thIn_b2 (by decide) _ | exact thIn_b3 (by decide) _ | refine thIn_tor ?_ ?_)
    rcases hth with h | h
    · exact absurd h hne
    · rcases List.mem_cons.mp h with h | h
      · rw [h]; exact ⟨[], ⟨0, 6, 7, 14⟩, [⟨0, 6, 11, 17⟩], htab, (fun z hz => nomatch hz), by decide, by decide, (hC.2.2.2.2 _ (List.mem_of_getElem? (i := 1) rfl)), fun q9 => by
            refine vv_astore_n hC (i := 3) (lv' := (3, .ref q9) :: [(0, .ref (ad 0)), (1, .int r), (2, .int v)]) dL_setRate_7 rfl (by decide) rfl (q := 8) rfl ?_
            refine vv_ldc hC (v := -99999) (List.mem_of_getElem? (i := 3) rfl) dL_setRate_8 (q := 10) rfl ?_
            exact vv_lret hC hK hr hlk (wr_n1 (by decide)).symm ⟨Nat.le_of_ble_eq_true rfl, Nat.le_of_ble_eq_true rfl⟩ (fun f hf => by rw [wr_n2 (by decide)]; exact hf) dL_setRate_10⟩
      · replace h := List.mem_singleton.mp h
        rw [h]; exact ⟨[⟨0, 6, 7, 14⟩], ⟨0, 6, 11, 17⟩, [], htab, (fun z hz => by rw [List.mem_singleton.mp hz]; exact Or.inr ⟨by decide, _, (hC.2.2.2.2 _ (List.mem_of_getElem? (i := 1) rfl)), hxN.2.2.1⟩), by decide, by decide, (hC.2.2.2.2 _ (List.mem_of_getElem? (i := 2) rfl)), fun q9 => by
            refine vv_astore_n hC (i := 3) (lv' := (3, .ref q9) :: [(0, .ref (ad 0)), (1, .int r), (2, .int v)]) dL_setRate_11 rfl (by decide) rfl (q := 12) rfl ?_
            refine vv_ldc hC (v := -99999) (List.mem_of_getElem? (i := 3) rfl) dL_setRate_12 (q := 14) rfl ?_
            exact vv_lret hC hK hr hlk (wr_n1 (by decide)).symm ⟨Nat.le_of_ble_eq_true rfl, Nat.le_of_ble_eq_true rfl⟩ (fun f hf => by rw [wr_n2 (by decide)]; exact hf) dL_setRate_14⟩
  · exact vv_lret hC hK hr hlk (wr_1 h0).symm ⟨Nat.le_of_ble_eq_true rfl, Nat.le_of_ble_eq_true rfl⟩ (fun f hf => by rw [wr_2 h0]; exact hf) dL_setRate_6
theorem hsL_order : yL_order.cls ≠ "java/lang/invoke/MethodHandle" ∧ yL_order.cls ≠ "java/lang/invoke/VarHandle" ∧ (parseMethodDescriptor yL_order.desc).map (fun d => d.parameters.length) = some 4 := by decide +kernel
set_option maxRecDepth 100000 in
set_option maxHeartbeats 4000000 in
theorem cn_order (l : Launch) {D : va_G} {cI cW cZ cL : ClassId} {ad : Nat → Nat} (hJ : injA ad 90) (hlst : l.stackTraces = false) (AX : Nat → Prop) (z : Nat) (S : sC) (r a b : Int32) : kN l yL_order wsL_order ({ frames := 10, cells := 6, slots := 36, locals := 178 }) D cI cW cZ cL ad AX z [.ref (ad 0), .int r, .int a, .int b] S (wr (tOrder S r a b) (rOrder S r a b) (sOrder S r a b) S).1 (wr (tOrder S r a b) (rOrder S r a b) (sOrder S r a b) S).2 6 36 := by
  refine vv_enterW (cc := cL_order) (maxL := 5) (ret := some .int) (hh := [(0, 7, 8, 14), (0, 7, 13, 17), (0, 7, 18, 19)]) (own := RL) (lv := [(0, .ref (ad 0)), (1, .int r), (2, .int a), (3, .int b)]) (by decide +kernel) rfl rfl hJ (Nat.le_of_ble_eq_true rfl) rfl ?_
  intro p e s m args below meth c hC hK hW hr hlk hsz hAX hE hxN htab
  refine vv_aload_n hC 0 dL_order_0 rfl rfl (q := 1) rfl ?_
  refine vv_iload_n hC 1 dL_order_1 rfl rfl (q := 2) rfl ?_
  refine vv_iload_n hC 2 dL_order_2 rfl rfl (q := 3) rfl ?_
  refine vv_iload_n hC 3 dL_order_3 rfl rfl (q := 4) rfl ?_
  refine vv_wcall hC hK hE hAX (fun zz h9 => RAs.mono (by rw [← hsz]; exact h9)) (As := [.int r, .int a, .int b]) (fun zz => c8_order l hJ hlst AX zz S r a b) (cwV 3 hC.2.2.2.2 gL_order_X8_order rfl rfl rfl hdX8_order ⟨Nat.le_of_ble_eq_true rfl, Nat.le_of_ble_eq_true rfl⟩) rfl rfl (Nat.le_of_ble_eq_true rfl) ⟨Nat.le_of_ble_eq_true rfl, Nat.le_of_ble_eq_true rfl⟩ (fun hne => ?_) dL_order_4 (q := 7) rfl (fun h0 => ?_)
  · have hth : thIn [1, 2, 3] (tOrder S r a b) := by
      unfold tOrder tSpan tText
      (repeat first | exact thIn_ix (by decide) _ _ | exact thIn_rg (by decide) _ _ _ | exact thIn_b2 (by decide) _ | exact thIn_b3 (by decide) _ | refine thIn_tor ?_ ?_)
    rcases hth with h | h
    · exact absurd h hne
    · rcases List.mem_cons.mp h with h | h
      · rw [h]; exact ⟨[], ⟨0, 7, 8, 14⟩, [⟨0, 7, 13, 17⟩, ⟨0, 7, 18, 19⟩], htab, (fun z hz => nomatch hz), by decide, by decide, (hC.2.2.2.2 _ (List.mem_of_getElem? (i := 1) rfl)), fun q9 => by
            refine vv_astore hC (i := 4) (lv' := (4, .ref q9) :: [(0, .ref (ad 0)), (1, .int r), (2, .int a), (3, .int b)]) dL_order_8 (by decide) rfl (q := 10) rfl ?_
            refine vv_ldc hC (v := -99999) (List.mem_of_getElem? (i := 4) rfl) dL_order_10 (q := 12) rfl ?_
            exact vv_lret hC hK hr hlk (wr_n1 (by decide)).symm ⟨Nat.le_of_ble_eq_true rfl, Nat.le_of_ble_eq_true rfl⟩ (fun f hf => by rw [wr_n2 (by decide)]; exact hf) dL_order_12⟩
      · rcases List.mem_cons.mp h with h | h
        · rw [h]; exact ⟨[⟨0, 7, 8, 14⟩], ⟨0, 7, 13, 17⟩, [⟨0, 7, 18, 19⟩], htab, (fun z hz => by rw [List.mem_singleton.mp hz]; exact Or.inr ⟨by decide, _, (hC.2.2.2.2 _ (List.mem_of_getElem? (i := 1) rfl)), hxN.2.2.1⟩), by decide, by decide, (hC.2.2.2.2 _ (List.mem_of_getElem? (i := 2) rfl)), fun q9 => by
              refine vv_astore hC (i := 4) (lv' := (4, .ref q9) :: [(0, .ref (ad 0)), (1, .int r), (2, .int a), (3, .int b)]) dL_order_13 (by decide) rfl (q := 15) rfl ?_
              refine vv_ldc hC (v := -99999) (List.mem_of_getElem? (i := 4) rfl) dL_order_15 (q := 17) rfl ?_
              exact vv_lret hC hK hr hlk (wr_n1 (by decide)).symm ⟨Nat.le_of_ble_eq_true rfl, Nat.le_of_ble_eq_true rfl⟩ (fun f hf => by rw [wr_n2 (by decide)]; exact hf) dL_order_17⟩
        · replace h := List.mem_singleton.mp h
          rw [h]; exact ⟨[⟨0, 7, 8, 14⟩, ⟨0, 7, 13, 17⟩], ⟨0, 7, 18, 19⟩, [], htab, (fun z hz => by rcases List.mem_cons.mp hz with rfl | hz; exact Or.inr ⟨by decide, _, (hC.2.2.2.2 _ (List.mem_of_getElem? (i := 1) rfl)), hxN.2.2.2.2.1⟩; rw [List.mem_singleton.mp hz]; exact Or.inr ⟨by decide, _, (hC.2.2.2.2 _ (List.mem_of_getElem? (i := 2) rfl)), hxN.2.2.2.2.2⟩), by decide, by decide, (hC.2.2.2.2 _ (List.mem_of_getElem? (i := 3) rfl)), fun q9 => by
              refine vv_astore hC (i := 4) (lv' := (4, .ref q9) :: [(0, .ref (ad 0)), (1, .int r), (2, .int a), (3, .int b)]) dL_order_18 (by decide) rfl (q := 20) rfl ?_
              refine vv_ldc hC (v := -99999) (List.mem_of_getElem? (i := 4) rfl) dL_order_20 (q := 22) rfl ?_
              exact vv_lret hC hK hr hlk (wr_n1 (by decide)).symm ⟨Nat.le_of_ble_eq_true rfl, Nat.le_of_ble_eq_true rfl⟩ (fun f hf => by rw [wr_n2 (by decide)]; exact hf) dL_order_22⟩
  · exact vv_lret hC hK hr hlk (wr_1 h0).symm ⟨Nat.le_of_ble_eq_true rfl, Nat.le_of_ble_eq_true rfl⟩ (fun f hf => by rw [wr_2 h0]; exact hf) dL_order_7
theorem hsL_finish : yL_finish.cls ≠ "java/lang/invoke/MethodHandle" ∧ yL_finish.cls ≠ "java/lang/invoke/VarHandle" ∧ (parseMethodDescriptor yL_finish.desc).map (fun d => d.parameters.length) = some 3 := by decide +kernel
set_option maxRecDepth 100000 in
set_option maxHeartbeats 4000000 in
theorem cn_finish (l : Launch) {D : va_G} {cI cW cZ cL : ClassId} {ad : Nat → Nat} (hJ : injA ad 90) (hlst : l.stackTraces = false) (AX : Nat → Prop) (z : Nat) (S : sC) (r u : Int32) : kN l yL_finish wsL_finish ({ frames := 9, cells := 3, slots := 18, locals := 154 }) D cI cW cZ cL ad AX z [.ref (ad 0), .int r, .int u] S (wr (tFinish S r u) (rAt ((rvDone S r u).1 76) (rAt (S.1 62) r)) (rvDone S r u) S).1 (wr (tFinish S r u) (rAt ((rvDone S r u).1 76) (rAt (S.1 62) r)) (rvDone S r u) S).2 3 18 := by
  refine vv_enterW (cc := cL_finish) (maxL := 4) (ret := some .int) (hh := [(0, 6, 7, 14), (0, 6, 11, 17), (0, 6, 15, 19)]) (own := RL) (lv := [(0, .ref (ad 0)), (1, .int r), (2, .int u)]) (by decide +kernel) rfl rfl hJ (Nat.le_of_ble_eq_true rfl) rfl ?_
  intro p e s m args below meth c hC hK hW hr hlk hsz hAX hE hxN htab
  refine vv_aload_n hC 0 dL_finish_0 rfl rfl (q := 1) rfl ?_
  refine vv_iload_n hC 1 dL_finish_1 rfl rfl (q := 2) rfl ?_
  refine vv_iload_n hC 2 dL_finish_2 rfl rfl (q := 3) rfl ?_
  refine vv_wcall hC hK hE hAX (fun zz h9 => RAs.mono (by rw [← hsz]; exact h9)) (As := [.int r, .int u]) (fun zz => c8_finish l hJ hlst AX zz S r u) (cwV 2 hC.2.2.2.2 gL_finish_X8_finish rfl rfl rfl hdX8_finish ⟨Nat.le_of_ble_eq_true rfl, Nat.le_of_ble_eq_true rfl⟩) rfl rfl (Nat.le_of_ble_eq_true rfl) ⟨Nat.le_of_ble_eq_true rfl, Nat.le_of_ble_eq_true rfl⟩ (fun hne => ?_) dL_finish_3 (q := 6) rfl (fun h0 => ?_)
  · have hth : thIn [1, 2, 3] (tFinish S r u) := by
      unfold tFinish
      (repeat first | exact thIn_ix (by decide) _ _ | exact thIn_rg (by decide) _ _ _ | exact thIn_b2 (by decide) _ | exact thIn_b3 (by decide) _ | refine thIn_tor ?_ ?_)
    rcases hth with h | h
    · exact absurd h hne
    · rcases List.mem_cons.mp h with h | h
      · rw [h]; exact ⟨[], ⟨0, 6, 7, 14⟩, [⟨0, 6, 11, 17⟩, ⟨0, 6, 15, 19⟩], htab, (fun z hz => nomatch hz), by decide, by decide, (hC.2.2.2.2 _ (List.mem_of_getElem? (i := 1) rfl)), fun q9 => by
            refine vv_astore_n hC (i := 3) (lv' := (3, .ref q9) :: [(0, .ref (ad 0)), (1, .int r), (2, .int u)]) dL_finish_7 rfl (by decide) rfl (q := 8) rfl ?_
            refine vv_ldc hC (v := -99999) (List.mem_of_getElem? (i := 4) rfl) dL_finish_8 (q := 10) rfl ?_
            exact vv_lret hC hK hr hlk (wr_n1 (by decide)).symm ⟨Nat.le_of_ble_eq_true rfl, Nat.le_of_ble_eq_true rfl⟩ (fun f hf => by rw [wr_n2 (by decide)]; exact hf) dL_finish_10⟩
      · rcases List.mem_cons.mp h with h | h
        · rw [h]; exact ⟨[⟨0, 6, 7, 14⟩], ⟨0, 6, 11, 17⟩, [⟨0, 6, 15, 19⟩], htab, (fun z hz => by rw [List.mem_singleton.mp hz]; exact Or.inr ⟨by decide, _, (hC.2.2.2.2 _ (List.mem_of_getElem? (i := 1) rfl)), hxN.2.2.1⟩), by decide, by decide, (hC.2.2.2.2 _ (List.mem_of_getElem? (i := 2) rfl)), fun q9 => by
              refine vv_astore_n hC (i := 3) (lv' := (3, .ref q9) :: [(0, .ref (ad 0)), (1, .int r), (2, .int u)]) dL_finish_11 rfl (by decide) rfl (q := 12) rfl ?_
              refine vv_ldc hC (v := -99999) (List.mem_of_getElem? (i := 4) rfl) dL_finish_12 (q := 14) rfl ?_
              exact vv_lret hC hK hr hlk (wr_n1 (by decide)).symm ⟨Nat.le_of_ble_eq_true rfl, Nat.le_of_ble_eq_true rfl⟩ (fun f hf => by rw [wr_n2 (by decide)]; exact hf) dL_finish_14⟩
        · replace h := List.mem_singleton.mp h
          rw [h]; exact ⟨[⟨0, 6, 7, 14⟩, ⟨0, 6, 11, 17⟩], ⟨0, 6, 15, 19⟩, [], htab, (fun z hz => by rcases List.mem_cons.mp hz with rfl | hz; exact Or.inr ⟨by decide, _, (hC.2.2.2.2 _ (List.mem_of_getElem? (i := 1) rfl)), hxN.2.2.2.2.1⟩; rw [List.mem_singleton.mp hz]; exact Or.inr ⟨by decide, _, (hC.2.2.2.2 _ (List.mem_of_getElem? (i := 2) rfl)), hxN.2.2.2.2.2⟩), by decide, by decide, (hC.2.2.2.2 _ (List.mem_of_getElem? (i := 3) rfl)), fun q9 => by
              refine vv_astore_n hC (i := 3) (lv' := (3, .ref q9) :: [(0, .ref (ad 0)), (1, .int r), (2, .int u)]) dL_finish_15 rfl (by decide) rfl (q := 16) rfl ?_
              refine vv_ldc hC (v := -99999) (List.mem_of_getElem? (i := 4) rfl) dL_finish_16 (q := 18) rfl ?_
              exact vv_lret hC hK hr hlk (wr_n1 (by decide)).symm ⟨Nat.le_of_ble_eq_true rfl, Nat.le_of_ble_eq_true rfl⟩ (fun f hf => by rw [wr_n2 (by decide)]; exact hf) dL_finish_18⟩
  · exact vv_lret hC hK hr hlk (wr_1 h0).symm ⟨Nat.le_of_ble_eq_true rfl, Nat.le_of_ble_eq_true rfl⟩ (fun f hf => by rw [wr_2 h0]; exact hf) dL_finish_6
theorem hsL_cancel : yL_cancel.cls ≠ "java/lang/invoke/MethodHandle" ∧ yL_cancel.cls ≠ "java/lang/invoke/VarHandle" ∧ (parseMethodDescriptor yL_cancel.desc).map (fun d => d.parameters.length) = some 2 := by decide +kernel
set_option maxRecDepth 100000 in
set_option maxHeartbeats 4000000 in
theorem cn_cancel (l : Launch) {D : va_G} {cI cW cZ cL : ClassId} {ad : Nat → Nat} (hJ : injA ad 90) (hlst : l.stackTraces = false) (AX : Nat → Prop) (z : Nat) (S : sC) (r : Int32) : kN l yL_cancel wsL_cancel ({ frames := 8, cells := 2, slots := 12, locals := 132 }) D cI cW cZ cL ad AX z [.ref (ad 0), .int r] S (wr (tCancel S r) (nI (unfreeze (sSet S 68 (rSet (S.1 68) r 2)) r).1) ((unfreeze (sSet S 68 (rSet (S.1 68) r 2)) r).2) S).1 (wr (tCancel S r) (nI (unfreeze (sSet S 68 (rSet (S.1 68) r 2)) r).1) ((unfreeze (sSet S 68 (rSet (S.1 68) r 2)) r).2) S).2 2 12 := by
  refine vv_enterW (cc := cL_cancel) (maxL := 3) (ret := some .int) (hh := [(0, 5, 6, 14), (0, 5, 10, 19)]) (own := RL) (lv := [(0, .ref (ad 0)), (1, .int r)]) (by decide +kernel) rfl rfl hJ (Nat.le_of_ble_eq_true rfl) rfl ?_
  intro p e s m args below meth c hC hK hW hr hlk hsz hAX hE hxN htab
  refine vv_aload_n hC 0 dL_cancel_0 rfl rfl (q := 1) rfl ?_
  refine vv_iload_n hC 1 dL_cancel_1 rfl rfl (q := 2) rfl ?_
  refine vv_wcall hC hK hE hAX (fun zz h9 => RAs.mono (by rw [← hsz]; exact h9)) (As := [.int r]) (fun zz => c8_cancel l hJ hlst AX zz S r) (cwV 1 hC.2.2.2.2 gL_cancel_X8_cancel rfl rfl rfl hdX8_cancel ⟨Nat.le_of_ble_eq_true rfl, Nat.le_of_ble_eq_true rfl⟩) rfl rfl (Nat.le_of_ble_eq_true rfl) ⟨Nat.le_of_ble_eq_true rfl, Nat.le_of_ble_eq_true rfl⟩ (fun hne => ?_) dL_cancel_2 (q := 5) rfl (fun h0 => ?_)
  · have hth : thIn [1, 3] (tCancel S r) := by
      unfold tCancel
      (repeat first | exact thIn_ix (by decide) _ _ | exact thIn_rg (by decide) _ _ _ | exact thIn_b2 (by decide) _ | exact thIn_b3 (by decide) _ | refine thIn_tor ?_ ?_)
    rcases hth with h | h
    · exact absurd h hne
    · rcases List.mem_cons.mp h with h | h
      · rw [h]; exact ⟨[], ⟨0, 5, 6, 14⟩, [⟨0, 5, 10, 19⟩], htab, (fun z hz => nomatch hz), by decide, by decide, (hC.2.2.2.2 _ (List.mem_of_getElem? (i := 1) rfl)), fun q9 => by
            refine vv_astore_n hC (i := 2) (lv' := (2, .ref q9) :: [(0, .ref (ad 0)), (1, .int r)]) dL_cancel_6 rfl (by decide) rfl (q := 7) rfl ?_
            refine vv_ldc hC (v := -99999) (List.mem_of_getElem? (i := 3) rfl) dL_cancel_7 (q := 9) rfl ?_
            exact vv_lret hC hK hr hlk (wr_n1 (by decide)).symm ⟨Nat.le_of_ble_eq_true rfl, Nat.le_of_ble_eq_true rfl⟩ (fun f hf => by rw [wr_n2 (by decide)]; exact hf) dL_cancel_9⟩
      · replace h := List.mem_singleton.mp h
        rw [h]; exact ⟨[⟨0, 5, 6, 14⟩], ⟨0, 5, 10, 19⟩, [], htab, (fun z hz => by rw [List.mem_singleton.mp hz]; exact Or.inr ⟨by decide, _, (hC.2.2.2.2 _ (List.mem_of_getElem? (i := 1) rfl)), hxN.2.2.2.2.1⟩), by decide, by decide, (hC.2.2.2.2 _ (List.mem_of_getElem? (i := 2) rfl)), fun q9 => by
            refine vv_astore_n hC (i := 2) (lv' := (2, .ref q9) :: [(0, .ref (ad 0)), (1, .int r)]) dL_cancel_10 rfl (by decide) rfl (q := 11) rfl ?_
            refine vv_ldc hC (v := -99999) (List.mem_of_getElem? (i := 3) rfl) dL_cancel_11 (q := 13) rfl ?_
            exact vv_lret hC hK hr hlk (wr_n1 (by decide)).symm ⟨Nat.le_of_ble_eq_true rfl, Nat.le_of_ble_eq_true rfl⟩ (fun f hf => by rw [wr_n2 (by decide)]; exact hf) dL_cancel_13⟩
  · exact vv_lret hC hK hr hlk (wr_1 h0).symm ⟨Nat.le_of_ble_eq_true rfl, Nat.le_of_ble_eq_true rfl⟩ (fun f hf => by rw [wr_2 h0]; exact hf) dL_cancel_5
theorem hsL_addIssue : yL_addIssue.cls ≠ "java/lang/invoke/MethodHandle" ∧ yL_addIssue.cls ≠ "java/lang/invoke/VarHandle" ∧ (parseMethodDescriptor yL_addIssue.desc).map (fun d => d.parameters.length) = some 3 := by decide +kernel
set_option maxRecDepth 100000 in
set_option maxHeartbeats 4000000 in
theorem cn_addIssue (l : Launch) {D : va_G} {cI cW cZ cL : ClassId} {ad : Nat → Nat} (hJ : injA ad 90) (hlst : l.stackTraces = false) (AX : Nat → Prop) (z : Nat) (S : sC) (d z0 : Int32) : kN l yL_addIssue wsL_addIssue ({ frames := 9, cells := 4, slots := 24, locals := 154 }) D cI cW cZ cL ad AX z [.ref (ad 0), .int d, .int z0] S (wr (tIssue S d z0) (nI ((isAdd S d z0).1 79).length - 1) (isAdd S d z0) S).1 (wr (tIssue S d z0) (nI ((isAdd S d z0).1 79).length - 1) (isAdd S d z0) S).2 4 24 := by
  refine vv_enterW (cc := cL_addIssue) (maxL := 4) (ret := some .int) (hh := [(0, 6, 7, 17), (0, 6, 11, 19)]) (own := RL) (lv := [(0, .ref (ad 0)), (1, .int d), (2, .int z0)]) (by decide +kernel) rfl rfl hJ (Nat.le_of_ble_eq_true rfl) rfl ?_
  intro p e s m args below meth c hC hK hW hr hlk hsz hAX hE hxN htab
  refine vv_aload_n hC 0 dL_addIssue_0 rfl rfl (q := 1) rfl ?_
  refine vv_iload_n hC 1 dL_addIssue_1 rfl rfl (q := 2) rfl ?_
  refine vv_iload_n hC 2 dL_addIssue_2 rfl rfl (q := 3) rfl ?_
  refine vv_wcall hC hK hE hAX (fun zz h9 => RAs.mono (by rw [← hsz]; exact h9)) (As := [.int d, .int z0]) (fun zz => c8_addIssue l hJ hlst AX zz S d z0) (cwV 2 hC.2.2.2.2 gL_addIssue_X8_addIssue rfl rfl rfl hdX8_addIssue ⟨Nat.le_of_ble_eq_true rfl, Nat.le_of_ble_eq_true rfl⟩) rfl rfl (Nat.le_of_ble_eq_true rfl) ⟨Nat.le_of_ble_eq_true rfl, Nat.le_of_ble_eq_true rfl⟩ (fun hne => ?_) dL_addIssue_3 (q := 6) rfl (fun h0 => ?_)
  · have hth : thIn [2, 3] (tIssue S d z0) := by
      unfold tIssue
      (repeat first | exact thIn_ix (by decide) _ _ | exact thIn_rg (by decide) _ _ _ | exact thIn_b2 (by decide) _ | exact thIn_b3 (by decide) _ | refine thIn_tor ?_ ?_)
    rcases hth with h | h
    · exact absurd h hne
    · rcases List.mem_cons.mp h with h | h
      · rw [h]; exact ⟨[], ⟨0, 6, 7, 17⟩, [⟨0, 6, 11, 19⟩], htab, (fun z hz => nomatch hz), by decide, by decide, (hC.2.2.2.2 _ (List.mem_of_getElem? (i := 1) rfl)), fun q9 => by
            refine vv_astore_n hC (i := 3) (lv' := (3, .ref q9) :: [(0, .ref (ad 0)), (1, .int d), (2, .int z0)]) dL_addIssue_7 rfl (by decide) rfl (q := 8) rfl ?_
            refine vv_ldc hC (v := -99999) (List.mem_of_getElem? (i := 3) rfl) dL_addIssue_8 (q := 10) rfl ?_
            exact vv_lret hC hK hr hlk (wr_n1 (by decide)).symm ⟨Nat.le_of_ble_eq_true rfl, Nat.le_of_ble_eq_true rfl⟩ (fun f hf => by rw [wr_n2 (by decide)]; exact hf) dL_addIssue_10⟩
      · replace h := List.mem_singleton.mp h
        rw [h]; exact ⟨[⟨0, 6, 7, 17⟩], ⟨0, 6, 11, 19⟩, [], htab, (fun z hz => by rw [List.mem_singleton.mp hz]; exact Or.inr ⟨by decide, _, (hC.2.2.2.2 _ (List.mem_of_getElem? (i := 1) rfl)), hxN.2.2.2.2.2⟩), by decide, by decide, (hC.2.2.2.2 _ (List.mem_of_getElem? (i := 2) rfl)), fun q9 => by
            refine vv_astore_n hC (i := 3) (lv' := (3, .ref q9) :: [(0, .ref (ad 0)), (1, .int d), (2, .int z0)]) dL_addIssue_11 rfl (by decide) rfl (q := 12) rfl ?_
            refine vv_ldc hC (v := -99999) (List.mem_of_getElem? (i := 3) rfl) dL_addIssue_12 (q := 14) rfl ?_
            exact vv_lret hC hK hr hlk (wr_n1 (by decide)).symm ⟨Nat.le_of_ble_eq_true rfl, Nat.le_of_ble_eq_true rfl⟩ (fun f hf => by rw [wr_n2 (by decide)]; exact hf) dL_addIssue_14⟩
  · exact vv_lret hC hK hr hlk (wr_1 h0).symm ⟨Nat.le_of_ble_eq_true rfl, Nat.le_of_ble_eq_true rfl⟩ (fun f hf => by rw [wr_2 h0]; exact hf) dL_addIssue_6
theorem hsL_pass : yL_pass.cls ≠ "java/lang/invoke/MethodHandle" ∧ yL_pass.cls ≠ "java/lang/invoke/VarHandle" ∧ (parseMethodDescriptor yL_pass.desc).map (fun d => d.parameters.length) = some 2 := by decide +kernel
set_option maxRecDepth 100000 in
set_option maxHeartbeats 4000000 in
theorem cn_pass (l : Launch) {D : va_G} {cI cW cZ cL : ClassId} {ad : Nat → Nat} (hJ : injA ad 90) (hlst : l.stackTraces = false) (AX : Nat → Prop) (z : Nat) (S : sC) (d : Int32) : kN l yL_pass wsL_pass ({ frames := 9, cells := 2, slots := 12, locals := 157 }) D cI cW cZ cL ad AX z [.ref (ad 0), .int d] S (wr (tPass S d) ((paD S d).1) ((paD S d).2) S).1 (wr (tPass S d) ((paD S d).1) ((paD S d).2) S).2 2 12 := by
  refine vv_enterW (cc := cL_pass) (maxL := 3) (ret := some .int) (hh := [(0, 5, 6, 17), (0, 5, 10, 19)]) (own := RL) (lv := [(0, .ref (ad 0)), (1, .int d)]) (by decide +kernel) rfl rfl hJ (Nat.le_of_ble_eq_true rfl) rfl ?_
  intro p e s m args below meth c hC hK hW hr hlk hsz hAX hE hxN htab
  refine vv_aload_n hC 0 dL_pass_0 rfl rfl (q := 1) rfl ?_
  refine vv_iload_n hC 1 dL_pass_1 rfl rfl (q := 2) rfl ?_
  refine vv_wcall hC hK hE hAX (fun zz h9 => RAs.mono (by rw [← hsz]; exact h9)) (As := [.int d]) (fun zz => c8_pass l hJ hlst AX zz S d) (cwV 1 hC.2.2.2.2 gL_pass_X8_pass rfl rfl rfl hdX8_pass ⟨Nat.le_of_ble_eq_true rfl, Nat.le_of_ble_eq_true rfl⟩) rfl rfl (Nat.le_of_ble_eq_true rfl) ⟨Nat.le_of_ble_eq_true rfl, Nat.le_of_ble_eq_true rfl⟩ (fun hne => ?_) dL_pass_2 (q := 5) rfl (fun h0 => ?_)
  · have hth : thIn [2, 3] (tPass S d) := by
      unfold tPass
      (repeat first | exact thIn_ix (by decide) _ _ | exact thIn_rg (by decide) _ _ _ | exact thIn_b2 (by decide) _ | exact thIn_b3 (by decide) _ | refine thIn_tor ?_ ?_)
    rcases hth with h | h
    · exact absurd h hne
    · rcases List.mem_cons.mp h with h | h
      · rw [h]; exact ⟨[], ⟨0, 5, 6, 17⟩, [⟨0, 5, 10, 19⟩], htab, (fun z hz => nomatch hz), by decide, by decide, (hC.2.2.2.2 _ (List.mem_of_getElem? (i := 1) rfl)), fun q9 => by
            refine vv_astore_n hC (i := 2) (lv' := (2, .ref q9) :: [(0, .ref (ad 0)), (1, .int d)]) dL_pass_6 rfl (by decide) rfl (q := 7) rfl ?_
            refine vv_ldc hC (v := -99999) (List.mem_of_getElem? (i := 3) rfl) dL_pass_7 (q := 9) rfl ?_
            exact vv_lret hC hK hr hlk (wr_n1 (by decide)).symm ⟨Nat.le_of_ble_eq_true rfl, Nat.le_of_ble_eq_true rfl⟩ (fun f hf => by rw [wr_n2 (by decide)]; exact hf) dL_pass_9⟩
      · replace h := List.mem_singleton.mp h
        rw [h]; exact ⟨[⟨0, 5, 6, 17⟩], ⟨0, 5, 10, 19⟩, [], htab, (fun z hz => by rw [List.mem_singleton.mp hz]; exact Or.inr ⟨by decide, _, (hC.2.2.2.2 _ (List.mem_of_getElem? (i := 1) rfl)), hxN.2.2.2.2.2⟩), by decide, by decide, (hC.2.2.2.2 _ (List.mem_of_getElem? (i := 2) rfl)), fun q9 => by
            refine vv_astore_n hC (i := 2) (lv' := (2, .ref q9) :: [(0, .ref (ad 0)), (1, .int d)]) dL_pass_10 rfl (by decide) rfl (q := 11) rfl ?_
            refine vv_ldc hC (v := -99999) (List.mem_of_getElem? (i := 3) rfl) dL_pass_11 (q := 13) rfl ?_
            exact vv_lret hC hK hr hlk (wr_n1 (by decide)).symm ⟨Nat.le_of_ble_eq_true rfl, Nat.le_of_ble_eq_true rfl⟩ (fun f hf => by rw [wr_n2 (by decide)]; exact hf) dL_pass_13⟩
  · exact vv_lret hC hK hr hlk (wr_1 h0).symm ⟨Nat.le_of_ble_eq_true rfl, Nat.le_of_ble_eq_true rfl⟩ (fun f hf => by rw [wr_2 h0]; exact hf) dL_pass_5
theorem hsL_comment : yL_comment.cls ≠ "java/lang/invoke/MethodHandle" ∧ yL_comment.cls ≠ "java/lang/invoke/VarHandle" ∧ (parseMethodDescriptor yL_comment.desc).map (fun d => d.parameters.length) = some 3 := by decide +kernel
set_option maxRecDepth 100000 in
set_option maxHeartbeats 4000000 in
theorem cn_comment (l : Launch) {D : va_G} {cI cW cZ cL : ClassId} {ad : Nat → Nat} (hJ : injA ad 90) (hlst : l.stackTraces = false) (AX : Nat → Prop) (z : Nat) (S : sC) (a b : Int32) : kN l yL_comment wsL_comment ({ frames := 10, cells := 4, slots := 24, locals := 176 }) D cI cW cZ cL ad AX z [.ref (ad 0), .int a, .int b] S (wr (tComment S a b) (nI ((sComment S a b).1 86).length - 1) (sComment S a b) S).1 (wr (tComment S a b) (nI ((sComment S a b).1 86).length - 1) (sComment S a b) S).2 4 24 := by
  refine vv_enterW (cc := cL_comment) (maxL := 4) (ret := some .int) (hh := [(0, 6, 7, 14), (0, 6, 11, 17), (0, 6, 15, 19)]) (own := RL) (lv := [(0, .ref (ad 0)), (1, .int a), (2, .int b)]) (by decide +kernel) rfl rfl hJ (Nat.le_of_ble_eq_true rfl) rfl ?_
  intro p e s m args below meth c hC hK hW hr hlk hsz hAX hE hxN htab
  refine vv_aload_n hC 0 dL_comment_0 rfl rfl (q := 1) rfl ?_
  refine vv_iload_n hC 1 dL_comment_1 rfl rfl (q := 2) rfl ?_
  refine vv_iload_n hC 2 dL_comment_2 rfl rfl (q := 3) rfl ?_
  refine vv_wcall hC hK hE hAX (fun zz h9 => RAs.mono (by rw [← hsz]; exact h9)) (As := [.int a, .int b]) (fun zz => c8_comment l hJ hlst AX zz S a b) (cwV 2 hC.2.2.2.2 gL_comment_X8_comment rfl rfl rfl hdX8_comment ⟨Nat.le_of_ble_eq_true rfl, Nat.le_of_ble_eq_true rfl⟩) rfl rfl (Nat.le_of_ble_eq_true rfl) ⟨Nat.le_of_ble_eq_true rfl, Nat.le_of_ble_eq_true rfl⟩ (fun hne => ?_) dL_comment_3 (q := 6) rfl (fun h0 => ?_)
  · have hth : thIn [1, 2, 3] (tComment S a b) := by
      unfold tComment tSpan tText
      (repeat first | exact thIn_ix (by decide) _ _ | exact thIn_rg (by decide) _ _ _ | exact thIn_b2 (by decide) _ | exact thIn_b3 (by decide) _ | refine thIn_tor ?_ ?_)
    rcases hth with h | h
    · exact absurd h hne
    · rcases List.mem_cons.mp h with h | h
      · rw [h]; exact ⟨[], ⟨0, 6, 7, 14⟩, [⟨0, 6, 11, 17⟩, ⟨0, 6, 15, 19⟩], htab, (fun z hz => nomatch hz), by decide, by decide, (hC.2.2.2.2 _ (List.mem_of_getElem? (i := 1) rfl)), fun q9 => by
            refine vv_astore_n hC (i := 3) (lv' := (3, .ref q9) :: [(0, .ref (ad 0)), (1, .int a), (2, .int b)]) dL_comment_7 rfl (by decide) rfl (q := 8) rfl ?_
            refine vv_ldc hC (v := -99999) (List.mem_of_getElem? (i := 4) rfl) dL_comment_8 (q := 10) rfl ?_
            exact vv_lret hC hK hr hlk (wr_n1 (by decide)).symm ⟨Nat.le_of_ble_eq_true rfl, Nat.le_of_ble_eq_true rfl⟩ (fun f hf => by rw [wr_n2 (by decide)]; exact hf) dL_comment_10⟩
      · rcases List.mem_cons.mp h with h | h
        · rw [h]; exact ⟨[⟨0, 6, 7, 14⟩], ⟨0, 6, 11, 17⟩, [⟨0, 6, 15, 19⟩], htab, (fun z hz => by rw [List.mem_singleton.mp hz]; exact Or.inr ⟨by decide, _, (hC.2.2.2.2 _ (List.mem_of_getElem? (i := 1) rfl)), hxN.2.2.1⟩), by decide, by decide, (hC.2.2.2.2 _ (List.mem_of_getElem? (i := 2) rfl)), fun q9 => by
              refine vv_astore_n hC (i := 3) (lv' := (3, .ref q9) :: [(0, .ref (ad 0)), (1, .int a), (2, .int b)]) dL_comment_11 rfl (by decide) rfl (q := 12) rfl ?_
              refine vv_ldc hC (v := -99999) (List.mem_of_getElem? (i := 4) rfl) dL_comment_12 (q := 14) rfl ?_
              exact vv_lret hC hK hr hlk (wr_n1 (by decide)).symm ⟨Nat.le_of_ble_eq_true rfl, Nat.le_of_ble_eq_true rfl⟩ (fun f hf => by rw [wr_n2 (by decide)]; exact hf) dL_comment_14⟩
        · replace h := List.mem_singleton.mp h
          rw [h]; exact ⟨[⟨0, 6, 7, 14⟩, ⟨0, 6, 11, 17⟩], ⟨0, 6, 15, 19⟩, [], htab, (fun z hz => by rcases List.mem_cons.mp hz with rfl | hz; exact Or.inr ⟨by decide, _, (hC.2.2.2.2 _ (List.mem_of_getElem? (i := 1) rfl)), hxN.2.2.2.2.1⟩; rw [List.mem_singleton.mp hz]; exact Or.inr ⟨by decide, _, (hC.2.2.2.2 _ (List.mem_of_getElem? (i := 2) rfl)), hxN.2.2.2.2.2⟩), by decide, by decide, (hC.2.2.2.2 _ (List.mem_of_getElem? (i := 3) rfl)), fun q9 => by
              refine vv_astore_n hC (i := 3) (lv' := (3, .ref q9) :: [(0, .ref (ad 0)), (1, .int a), (2, .int b)]) dL_comment_15 rfl (by decide) rfl (q := 16) rfl ?_
              refine vv_ldc hC (v := -99999) (List.mem_of_getElem? (i := 4) rfl) dL_comment_16 (q := 18) rfl ?_
              exact vv_lret hC hK hr hlk (wr_n1 (by decide)).symm ⟨Nat.le_of_ble_eq_true rfl, Nat.le_of_ble_eq_true rfl⟩ (fun f hf => by rw [wr_n2 (by decide)]; exact hf) dL_comment_18⟩
  · exact vv_lret hC hK hr hlk (wr_1 h0).symm ⟨Nat.le_of_ble_eq_true rfl, Nat.le_of_ble_eq_true rfl⟩ (fun f hf => by rw [wr_2 h0]; exact hf) dL_comment_6
theorem hsL_keep : yL_keep.cls ≠ "java/lang/invoke/MethodHandle" ∧ yL_keep.cls ≠ "java/lang/invoke/VarHandle" ∧ (parseMethodDescriptor yL_keep.desc).map (fun d => d.parameters.length) = some 1 := by decide +kernel
set_option maxRecDepth 100000 in
set_option maxHeartbeats 4000000 in
theorem cn_keep (l : Launch) {D : va_G} {cI cW cZ cL : ClassId} {ad : Nat → Nat} (hJ : injA ad 90) (hlst : l.stackTraces = false) (AX : Nat → Prop) (z : Nat) (S : sC)  : kN l yL_keep wsL_keep ({ frames := 8, cells := 1, slots := 6, locals := 131 }) D cI cW cZ cL ad AX z [.ref (ad 0)] S (wr (tKeep S) S.2.1 (sKeep S) S).1 (wr (tKeep S) S.2.1 (sKeep S) S).2 1 6 := by
  refine vv_enterW (cc := cL_keep) (maxL := 2) (ret := some .int) (hh := [(0, 4, 5, 19)]) (own := RL) (lv := [(0, .ref (ad 0))]) (by decide +kernel) rfl rfl hJ (Nat.le_of_ble_eq_true rfl) rfl ?_
  intro p e s m args below meth c hC hK hW hr hlk hsz hAX hE hxN htab
  refine vv_aload_n hC 0 dL_keep_0 rfl rfl (q := 1) rfl ?_
  refine vv_wcall hC hK hE hAX (fun zz h9 => RAs.mono (by rw [← hsz]; exact h9)) (As := []) (fun zz => c8_keep l hJ hlst AX zz S ) (cwV 0 hC.2.2.2.2 gL_keep_X8_keep rfl rfl rfl hdX8_keep ⟨Nat.le_of_ble_eq_true rfl, Nat.le_of_ble_eq_true rfl⟩) rfl rfl (Nat.le_of_ble_eq_true rfl) ⟨Nat.le_of_ble_eq_true rfl, Nat.le_of_ble_eq_true rfl⟩ (fun hne => ?_) dL_keep_1 (q := 4) rfl (fun h0 => ?_)
  · have hth : thIn [3] (tKeep S) := by
      unfold tKeep
      (repeat first | exact thIn_ix (by decide) _ _ | exact thIn_rg (by decide) _ _ _ | exact thIn_b2 (by decide) _ | exact thIn_b3 (by decide) _ | refine thIn_tor ?_ ?_)
    rcases hth with h | h
    · exact absurd h hne
    · replace h := List.mem_singleton.mp h
      rw [h]; exact ⟨[], ⟨0, 4, 5, 19⟩, [], htab, (fun z hz => nomatch hz), by decide, by decide, (hC.2.2.2.2 _ (List.mem_of_getElem? (i := 1) rfl)), fun q9 => by
          refine vv_astore_n hC (i := 1) (lv' := (1, .ref q9) :: [(0, .ref (ad 0))]) dL_keep_5 rfl (by decide) rfl (q := 6) rfl ?_
          refine vv_ldc hC (v := -99999) (List.mem_of_getElem? (i := 2) rfl) dL_keep_6 (q := 8) rfl ?_
          exact vv_lret hC hK hr hlk (wr_n1 (by decide)).symm ⟨Nat.le_of_ble_eq_true rfl, Nat.le_of_ble_eq_true rfl⟩ (fun f hf => by rw [wr_n2 (by decide)]; exact hf) dL_keep_8⟩
  · exact vv_lret hC hK hr hlk (wr_1 h0).symm ⟨Nat.le_of_ble_eq_true rfl, Nat.le_of_ble_eq_true rfl⟩ (fun f hf => by rw [wr_2 h0]; exact hf) dL_keep_4
theorem hsL_stateOf : yL_stateOf.cls ≠ "java/lang/invoke/MethodHandle" ∧ yL_stateOf.cls ≠ "java/lang/invoke/VarHandle" ∧ (parseMethodDescriptor yL_stateOf.desc).map (fun d => d.parameters.length) = some 2 := by decide +kernel
set_option maxRecDepth 100000 in
set_option maxHeartbeats 4000000 in
theorem cn_stateOf (l : Launch) {D : va_G} {cI cW cZ cL : ClassId} {ad : Nat → Nat} (hJ : injA ad 90) (hlst : l.stackTraces = false) (AX : Nat → Prop) (z : Nat) (S : sC) (r : Int32) : kN l yL_stateOf wsL_stateOf ({ frames := 8, cells := 1, slots := 6, locals := 132 }) D cI cW cZ cL ad AX z [.ref (ad 0), .int r] S (if (tIx r (nI (S.1 62).length)) = 0 then (rAt (S.1 68) r) else -1) S 1 6 := by
  refine vv_enterW (cc := cL_stateOf) (maxL := 3) (ret := some .int) (hh := [(0, 5, 6, 14)]) (own := RL) (lv := [(0, .ref (ad 0)), (1, .int r)]) (by decide +kernel) rfl rfl hJ (Nat.le_of_ble_eq_true rfl) rfl ?_
  intro p e s m args below meth c hC hK hW hr hlk hsz hAX hE hxN htab
  refine vv_aload_n hC 0 dL_stateOf_0 rfl rfl (q := 1) rfl ?_
  refine vv_iload_n hC 1 dL_stateOf_1 rfl rfl (q := 2) rfl ?_
  refine vv_wcall hC hK hE hAX (fun zz h9 => RAs.mono (by rw [← hsz]; exact h9)) (As := [.int r]) (fun zz => c8_stateOf l hJ hlst AX zz S r) (cwV 1 hC.2.2.2.2 gL_stateOf_X8_stateOf rfl rfl rfl hdX8_stateOf ⟨Nat.le_of_ble_eq_true rfl, Nat.le_of_ble_eq_true rfl⟩) rfl rfl (Nat.le_of_ble_eq_true rfl) ⟨Nat.le_of_ble_eq_true rfl, Nat.le_of_ble_eq_true rfl⟩ (fun hne => ?_) dL_stateOf_2 (q := 5) rfl (fun h0 => ?_)
  · have hth : thIn [1] (tIx r (nI (S.1 62).length)) := by
      (repeat first | exact thIn_ix (by decide) _ _ | exact thIn_rg (by decide) _ _ _ | exact thIn_b2 (by decide) _ | exact thIn_b3 (by decide) _ | refine thIn_tor ?_ ?_)
    rcases hth with h | h
    · exact absurd h hne
    · replace h := List.mem_singleton.mp h
      rw [h]; exact ⟨[], ⟨0, 5, 6, 14⟩, [], htab, (fun z hz => nomatch hz), by decide, by decide, (hC.2.2.2.2 _ (List.mem_of_getElem? (i := 1) rfl)), fun q9 => by
          refine vv_astore_n hC (i := 2) (lv' := (2, .ref q9) :: [(0, .ref (ad 0)), (1, .int r)]) dL_stateOf_6 rfl (by decide) rfl (q := 7) rfl ?_
          refine vv_iconst hC (v := -1) dL_stateOf_7 rfl (q := 8) rfl ?_
          exact vv_lret hC hK hr hlk (by rw [if_neg (by decide)]) ⟨Nat.le_of_ble_eq_true rfl, Nat.le_of_ble_eq_true rfl⟩ (fun f hf => hf) dL_stateOf_8⟩
  · exact vv_lret hC hK hr hlk (by rw [if_pos h0]) ⟨Nat.le_of_ble_eq_true rfl, Nat.le_of_ble_eq_true rfl⟩ (fun f hf => hf) dL_stateOf_5
theorem hsL_span : yL_span.cls ≠ "java/lang/invoke/MethodHandle" ∧ yL_span.cls ≠ "java/lang/invoke/VarHandle" ∧ (parseMethodDescriptor yL_span.desc).map (fun d => d.parameters.length) = some 2 := by decide +kernel
set_option maxRecDepth 100000 in
set_option maxHeartbeats 4000000 in
theorem cn_span (l : Launch) {D : va_G} {cI cW cZ cL : ClassId} {ad : Nat → Nat} (hJ : injA ad 90) (hlst : l.stackTraces = false) (AX : Nat → Prop) (z : Nat) (S : sC) (c0 : Int32) : kN l yL_span wsL_span ({ frames := 8, cells := 1, slots := 6, locals := 134 }) D cI cW cZ cL ad AX z [.ref (ad 0), .int c0] S (if (tIx c0 (nI (S.1 86).length)) = 0 then (rSpan S c0) else -2) S 1 6 := by
  refine vv_enterW (cc := cL_span) (maxL := 3) (ret := some .int) (hh := [(0, 5, 6, 14)]) (own := RL) (lv := [(0, .ref (ad 0)), (1, .int c0)]) (by decide +kernel) rfl rfl hJ (Nat.le_of_ble_eq_true rfl) rfl ?_
  intro p e s m args below meth c hC hK hW hr hlk hsz hAX hE hxN htab
  refine vv_aload_n hC 0 dL_span_0 rfl rfl (q := 1) rfl ?_
  refine vv_iload_n hC 1 dL_span_1 rfl rfl (q := 2) rfl ?_
  refine vv_wcall hC hK hE hAX (fun zz h9 => RAs.mono (by rw [← hsz]; exact h9)) (As := [.int c0]) (fun zz => c8_span l hJ hlst AX zz S c0) (cwV 1 hC.2.2.2.2 gL_span_X8_span rfl rfl rfl hdX8_span ⟨Nat.le_of_ble_eq_true rfl, Nat.le_of_ble_eq_true rfl⟩) rfl rfl (Nat.le_of_ble_eq_true rfl) ⟨Nat.le_of_ble_eq_true rfl, Nat.le_of_ble_eq_true rfl⟩ (fun hne => ?_) dL_span_2 (q := 5) rfl (fun h0 => ?_)
  · have hth : thIn [1] (tIx c0 (nI (S.1 86).length)) := by
      (repeat first | exact thIn_ix (by decide) _ _ | exact thIn_rg (by decide) _ _ _ | exact thIn_b2 (by decide) _ | exact thIn_b3 (by decide) _ | refine thIn_tor ?_ ?_)
    rcases hth with h | h
    · exact absurd h hne
    · replace h := List.mem_singleton.mp h
      rw [h]; exact ⟨[], ⟨0, 5, 6, 14⟩, [], htab, (fun z hz => nomatch hz), by decide, by decide, (hC.2.2.2.2 _ (List.mem_of_getElem? (i := 1) rfl)), fun q9 => by
          refine vv_astore_n hC (i := 2) (lv' := (2, .ref q9) :: [(0, .ref (ad 0)), (1, .int c0)]) dL_span_6 rfl (by decide) rfl (q := 7) rfl ?_
          refine vv_bipush hC (v := -2) dL_span_7 rfl (q := 9) rfl ?_
          exact vv_lret hC hK hr hlk (by rw [if_neg (by decide)]) ⟨Nat.le_of_ble_eq_true rfl, Nat.le_of_ble_eq_true rfl⟩ (fun f hf => hf) dL_span_9⟩
  · exact vv_lret hC hK hr hlk (by rw [if_pos h0]) ⟨Nat.le_of_ble_eq_true rfl, Nat.le_of_ble_eq_true rfl⟩ (fun f hf => hf) dL_span_5
theorem hsL_word : yL_word.cls ≠ "java/lang/invoke/MethodHandle" ∧ yL_word.cls ≠ "java/lang/invoke/VarHandle" ∧ (parseMethodDescriptor yL_word.desc).map (fun d => d.parameters.length) = some 2 := by decide +kernel
set_option maxRecDepth 100000 in
set_option maxHeartbeats 4000000 in
theorem cn_word (l : Launch) {D : va_G} {cI cW cZ cL : ClassId} {ad : Nat → Nat} (hJ : injA ad 90) (hlst : l.stackTraces = false) (AX : Nat → Prop) (z : Nat) (S : sC) (n : Int32) : kN l yL_word wsL_word ({ frames := 9, cells := 1, slots := 6, locals := 153 }) D cI cW cZ cL ad AX z [.ref (ad 0), .int n] S (if (tWord S n) = 0 then (1000 * rAt (S.1 5) n + rAt (S.1 3) n) else -1) S 1 6 := by
  refine vv_enterW (cc := cL_word) (maxL := 3) (ret := some .int) (hh := [(0, 5, 6, 14)]) (own := RL) (lv := [(0, .ref (ad 0)), (1, .int n)]) (by decide +kernel) rfl rfl hJ (Nat.le_of_ble_eq_true rfl) rfl ?_
  intro p e s m args below meth c hC hK hW hr hlk hsz hAX hE hxN htab
  refine vv_aload_n hC 0 dL_word_0 rfl rfl (q := 1) rfl ?_
  refine vv_iload_n hC 1 dL_word_1 rfl rfl (q := 2) rfl ?_
  refine vv_wcall hC hK hE hAX (fun zz h9 => RAs.mono (by rw [← hsz]; exact h9)) (As := [.int n]) (fun zz => c8_word l hJ hlst AX zz S n) (cwV 1 hC.2.2.2.2 gL_word_X8_word rfl rfl rfl hdX8_word ⟨Nat.le_of_ble_eq_true rfl, Nat.le_of_ble_eq_true rfl⟩) rfl rfl (Nat.le_of_ble_eq_true rfl) ⟨Nat.le_of_ble_eq_true rfl, Nat.le_of_ble_eq_true rfl⟩ (fun hne => ?_) dL_word_2 (q := 5) rfl (fun h0 => ?_)
  · have hth : thIn [1] (tWord S n) := by
      unfold tWord
      (repeat first | exact thIn_ix (by decide) _ _ | exact thIn_rg (by decide) _ _ _ | exact thIn_b2 (by decide) _ | exact thIn_b3 (by decide) _ | refine thIn_tor ?_ ?_)
    rcases hth with h | h
    · exact absurd h hne
    · replace h := List.mem_singleton.mp h
      rw [h]; exact ⟨[], ⟨0, 5, 6, 14⟩, [], htab, (fun z hz => nomatch hz), by decide, by decide, (hC.2.2.2.2 _ (List.mem_of_getElem? (i := 1) rfl)), fun q9 => by
          refine vv_astore_n hC (i := 2) (lv' := (2, .ref q9) :: [(0, .ref (ad 0)), (1, .int n)]) dL_word_6 rfl (by decide) rfl (q := 7) rfl ?_
          refine vv_iconst hC (v := -1) dL_word_7 rfl (q := 8) rfl ?_
          exact vv_lret hC hK hr hlk (by rw [if_neg (by decide)]) ⟨Nat.le_of_ble_eq_true rfl, Nat.le_of_ble_eq_true rfl⟩ (fun f hf => hf) dL_word_8⟩
  · exact vv_lret hC hK hr hlk (by rw [if_pos h0]) ⟨Nat.le_of_ble_eq_true rfl, Nat.le_of_ble_eq_true rfl⟩ (fun f hf => hf) dL_word_5
