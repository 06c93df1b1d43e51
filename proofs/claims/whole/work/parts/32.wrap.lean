/-! the law's calls: the class's world of 90 cells, and the law's own row of one long behind it -/
def wC (cI cW cL : ClassId) (ad : Nat → Nat) (S : sC) (o : Int64) : (Nat → va_E) → Prop := fun f => ∃ (f0 : Nat → va_E) (g : Nat → Int64), PC cI cW ad S f0 ∧ g 0 = o ∧ f = ud f0 90 (.inl (cL, (1, .inr (.inl g))))
/-- the exceptions are told apart -/
def xN (U : State) : Prop := va_Nc (exN 1) (exN 2) U ∧ va_Nc (exN 1) (exN 3) U ∧ va_Nc (exN 2) (exN 1) U ∧ va_Nc (exN 2) (exN 3) U ∧ va_Nc (exN 3) (exN 1) U ∧ va_Nc (exN 3) (exN 2) U
theorem xN.moved {u U : State} (hvm : u.vm.Alike U.vm) (h : xN u) : xN U := ⟨h.1.moved hvm, h.2.1.moved hvm, h.2.2.1.moved hvm, h.2.2.2.1.moved hvm, h.2.2.2.2.1.moved hvm, h.2.2.2.2.2.moved hvm⟩
def thIn (L : List Nat) (t : Nat) : Prop := t = 0 ∨ t ∈ L
theorem thIn_tor {L : List Nat} {a b : Nat} (ha : thIn L a) (hb : thIn L b) : thIn L (tor a b) := by
  cases a with
  | zero => exact hb
  | succ a => exact ha
theorem thIn_ix {L : List Nat} (h : 1 ∈ L) (i n : Int32) : thIn L (tIx i n) := by unfold tIx; split; exact Or.inr h; exact Or.inl rfl
theorem thIn_rg {L : List Nat} (h : 2 ∈ L) (v a b : Int32) : thIn L (tRg v a b) := by unfold tRg; split; exact Or.inr h; exact Or.inl rfl
theorem thIn_b2 {L : List Nat} (h : 2 ∈ L) (b : Bool) : thIn L (tB2 b) := by unfold tB2; split; exact Or.inl rfl; exact Or.inr h
theorem thIn_b3 {L : List Nat} (h : 3 ∈ L) (b : Bool) : thIn L (tB3 b) := by unfold tB3; split; exact Or.inl rfl; exact Or.inr h
/-- the number that the law's call answers -/
def cd (L : List Nat) (t : Nat) : Nat := if t = 0 then 0 else L.idxOf t + 1
def kL (l : Launch) (y : MethodName) (ws : List Cond) (rm : Room) (D : va_G) (cI cW cZ cL : ClassId) (ad : Nat → Nat) (AX : Nat → Prop) (sz : Nat) (As : List Value) (S : sC) (o : Int64) (L : List Nat) (thr : Nat) (r : Int32) (S1 : sC) (mc ms : Nat) : Prop :=
  Met l y ws rm (va_Pc (.ref (ad 0) :: As) (fun U => xN U ∧ xs0 D vwCl (tyL cI cW cZ cL) ad 91 AX sz (wC cI cW cL ad S o) U)) (va_Qi (fun r' (_ : Unit) => r' = nI (cd L thr)) (fun _ => ws0 D vwCl (tyL cI cW cZ cL) ad 91 (if thr = 0 then wC cI cW cL ad S1 r.toInt64 else wC cI cW cL ad S o)) (RAs ad 91 sz)) mc ms (RAs ad 91 sz)
theorem kL_blind {D : va_G} {cl : List vw_C} {tys : List (ClassId × FieldType)} {ad : Nat → Nat} {N sz : Nat} {AX : Nat → Prop} {P : (Nat → va_E) → Prop} {as : List Value} : FrameBlind (va_Pc as (fun U => xN U ∧ xs0 D cl tys ad N AX sz P U)) := fun a U g mk h => ⟨h.1, xN.moved (u := U) (U := U.calling g mk a) (Vm.Alike.refl U.vm) h.2.1, (xs0_blind (as := as) (P := P) a U g mk ⟨h.1, h.2.2⟩).2⟩
theorem wC_dn {D : va_G} {cl : List vw_C} {ad : Nat → Nat} {f0 : Nat → va_E} {e : va_E} {H : Heap} (h : va_P D cl (WL ad 91 (ud f0 90 e)) H) : va_P D cl (WL ad 90 f0) H ∧ va_at D cl (ad 90, e) H := by
  refine ⟨fun k q hk => ?_, ?_⟩
  · obtain ⟨h1, rfl⟩ := WL_lt hk
    have := h k _ (WL_get (f := ud f0 90 e) (show k < 91 by omega))
    rw [ud_ne (by omega)] at this
    exact this
  · have := h 90 _ (WL_get (f := ud f0 90 e) (show 90 < 91 by omega))
    rw [ud_eq] at this
    exact this
theorem wC_up {D : va_G} {cl : List vw_C} {ad : Nat → Nat} {f0 : Nat → va_E} {e : va_E} {H : Heap} (h : va_P D cl (WL ad 90 f0) H) (h2 : va_at D cl (ad 90, e) H) : va_P D cl (WL ad 91 (ud f0 90 e)) H := fun k q hk => by
  obtain ⟨h1, rfl⟩ := WL_lt hk
  by_cases e1 : k = 90
  · subst e1; rw [ud_eq]; exact h2
  · rw [ud_ne e1]; exact h k _ (WL_get (show k < 90 by omega))
theorem injA.le {ad : Nat → Nat} {m n : Nat} (h : injA ad n) (hm : m ≤ n) : injA ad m := fun i j hi hj => h i j (by omega) (by omega)
section VVW
variable {p : Program} {l : Launch} {e : Env} {R : Room} {s : State} {m : MethodId} {args : Array Value} {below : List Frame} {meth : Method} {c : Code} {nL : Nat} {A AX : Nat → Prop} {H0 : Heap} {cells slots : Nat} {Q : State → Prop} {B B1 : Heap → Prop} {pc q : Nat} {lv lv' : List (Nat × Value)} {st st0 : List Value} {cc bytes : ByteArray} {Ts wsY ws ws' : List Cond} {own Kc : String} {D : va_G} {cl : List vw_C} {tys : List (ClassId × FieldType)} {ad : Nat → Nat} {NN sz : Nat} {P P0 P1 : (Nat → va_E) → Prop} {y : MethodName} {rm : Room} {index maxL n mc ms mc0 ms0 thr : Nat} {ret : Option FieldType} {r v : Int32} {As as : List Value} {Qc : Array Value → State → Outcome → State → Prop} {hh : List (Nat × Nat × Nat × Nat)} {cI cW cZ cL : ClassId} {S S1 : sC} {o : Int64}
theorem vv_enterW (hy : plainName y.cls = true) (hw : ws = Cond.codeWith y cc maxL ret hh :: ws') (hown : y.cls = own) (hJ : injA ad NN) (hlen : (lg_sl as).length ≤ maxL) (hlv : lv_args 0 as = lv)
    (body : ∀ (p : Program) (e : Env) (s : State) (m : MethodId) (args : Array Value) (below : List Frame) (meth : Method) (c : Code), CallFix p m c cc maxL s args ws own → va_K D cl tys s → wdA (RAs ad NN sz) ad NN → meth.sig.returnType = ret → meth.locks = false → s.heap.size = sz → (∀ q, RAs ad NN sz q → AX q) → xE AX s → xN s → c.exceptionTable.toList = tableOf hh →
      vv p l e (headSpec ws rm).room s m args below meth c maxL (RAs ad NN sz) s.heap 0 0 (MQ below Qc args s mc ms (RAs ad NN sz)) (wq D cl ad NN P) 0 lv []) : Met l y ws rm (va_Pc as (fun U => xN U ∧ xs0 D cl tys ad NN AX sz P U)) Qc mc ms (RAs ad NN sz) := by
  subst hlv
  subst hown
  refine va_MetW (cc := cc) (maxL := maxL) (ret := ret) hy hw ?_
  intro p e s m args below meth c s₁ B hml hv
  obtain ⟨rfl, hxN, hsz, hAX, hE, hB, hK⟩ := hv
  have hts := atoms_spec (ws := ws) B.pre
  have hl := lv_entry as (n := maxL) hlen
  have htab := vx_table (x := y) B (hts _ (by rw [hw]; exact List.mem_cons_self))
  rw [lg_entry_eq]
  exact body p e s m _ below meth c ⟨B.exec, B.bytes, hml, findClass_of_methodNamed B.named, hts⟩ hK ⟨hJ, fun j hj => Or.inl ⟨j, hj, rfl⟩⟩ B.returns B.notSynchronized hsz hAX hE hxN htab s.heap [] _ hl hB va_S.rf
theorem vv_lret (C : CallFix p m c cc nL s args Ts own) (hK : va_K D cl tys s) (hr : meth.sig.returnType = some .int) (hlk : meth.locks = false) (hv : v = r) (h0 : cells ≤ mc0 ∧ slots ≤ ms0) (hP1 : ∀ f, P f → P1 f) (d : decode cc pc = .ok (.ireturn, 1)) : vv p l e R s m args below meth c nL A s.heap cells slots (MQ below (va_Qi (fun r' (_ : Unit) => r' = r) (fun _ => ws0 D cl tys ad NN P1) A) args s mc0 ms0 A) (wq D cl ad NN P) pc lv [.int v] := by
  intro H locs ls hl hB hS
  obtain ⟨f, hf, hP⟩ := hB
  refine W.widen h0.1 h0.2 ?_
  exact W.iret C.1 C.2.1 hr (fun t ht hW => ⟨⟨v, (), rfl, hv, ⟨f, hP1 f hf, by rw [ht]; exact hP⟩, va_K.moved hW.alike hK⟩, hS.F ht⟩) hS.2.2 d hlk
theorem vv_lastW (C : CallFix p m c cc nL s args Ts own) (hK : va_K D cl (tyL cI cW cZ cL) s) (hW : wdA A ad 91) {x : Int64} (d : decode cc pc = .ok (.lastore, 1)) (hq : pc + 1 = q) (kk : vv p l e R s m args below meth c nL A H0 cells slots Q (wq D cl ad 91 (wC cI cW cL ad S x)) q lv st) : vv p l e R s m args below meth c nL A H0 cells slots Q (wq D cl ad 91 (wC cI cW cL ad S o)) pc lv (.long x :: .int 0 :: .ref (ad 90) :: st) := by
  refine vv_ex (fun f hf => ?_)
  obtain ⟨f0, g, hf0, hg, rfl⟩ := hf
  exact vv_last C hK hW 90 (by omega) 3 (fun f2 h2 => (congrFun h2 90).trans ud_eq) rfl (vp_in_nI (n := 0) (N := 1) (by decide) (by decide)) (fun f2 h2 => ⟨f0, vp_updL g 0 x, hf0, by simp [vp_updL], by rw [h2]; exact funext fun i => by by_cases e : i = 90 <;> simp [ud, e]⟩) d hq kk
theorem vv_laldW (C : CallFix p m c cc nL s args Ts own) (hK : va_K D cl (tyL cI cW cZ cL) s) (d : decode cc pc = .ok (.laload, 1)) (hq : pc + 1 = q) (kk : vv p l e R s m args below meth c nL A H0 cells slots Q (wq D cl ad 91 (wC cI cW cL ad S o)) q lv (.long o :: st)) : vv p l e R s m args below meth c nL A H0 cells slots Q (wq D cl ad 91 (wC cI cW cL ad S o)) pc lv (.int 0 :: .ref (ad 90) :: st) := by
  refine vv_ex (fun f hf => ?_)
  obtain ⟨f0, g, hf0, hg, rfl⟩ := hf
  refine vv_lald C hK 90 (by omega) 3 (fun f2 h2 => (congrFun h2 90).trans ud_eq) rfl (vp_in_nI (n := 0) (N := 1) (by decide) (by decide)) d hq ?_
  refine vv_wq (P1 := wC cI cW cL ad S o) (fun f h => ⟨f0, g, hf0, hg, h⟩) ?_
  exact vv_eqv (by rw [show (0 : Int32).toNatClampNeg = 0 from rfl, hg]) kk
/-- a call of the class's face, caught here -/
theorem vv_wcall (C : CallFix p m c cc nL s args Ts own) (hK : va_K D vwCl tys s) (hJ : injA ad 91) (hE : xE AX s) (hAX : ∀ q, A q → AX q) (hA : ∀ z, s.heap.size ≤ z → ∀ q, RAs ad 90 z q → A q) (hM : ∀ z, kXi l y wsY rm D vwCl tys ad 90 AX z (.ref (ad 0) :: As) (PC cI cW ad S) thr r (PC cI cW ad S1) mc ms) (cw : CallW R s args own RX8 index y bytes maxL ret wsY rm mc ms n) (hn : As.length = n) (hst : st0 = As.reverse ++ .ref (ad 0) :: st) (hcat : (st.map fun v => v.category).sum ≤ 8) (hroom : cells + mc ≤ R.cells ∧ slots + ms ≤ R.slots)
    (hc : thr ≠ 0 → ∃ (pre : List ExceptionTableEntry) (x : ExceptionTableEntry) (suf : List ExceptionTableEntry), c.exceptionTable.toList = pre ++ x :: suf ∧ (∀ z ∈ pre, covers z pc = false ∨ (z.catchType ≠ 0 ∧ ∃ nm : String, (Cond.classLink own z.catchType nm).before args s = true ∧ va_Nc (exN thr) nm s)) ∧ covers x pc = true ∧ x.catchType ≠ 0 ∧ (Cond.classLink own x.catchType (exN thr)).before args s = true ∧ ∀ q9, vv p l e R s m args below meth c nL A s.heap (cells + mc) (slots + ms) Q (wq D vwCl ad 91 (wC cI cW cL ad S o)) x.handlerPc lv [.ref q9])
    (d : decode cc pc = .ok (.invokevirtual index, 3)) (hq : pc + 3 = q) (kk : thr = 0 → vv p l e R s m args below meth c nL A s.heap (cells + mc) (slots + ms) Q (wq D vwCl ad 91 (wC cI cW cL ad S1 o)) q lv (.int r :: st)) : vv p l e R s m args below meth c nL A s.heap cells slots Q (wq D vwCl ad 91 (wC cI cW cL ad S o)) pc lv st0 := by
  subst hq
  subst hst
  intro H locs ls hl hB hS
  obtain ⟨f, ⟨f0, g, hf0, hg, rfl⟩, hP⟩ := hB
  obtain ⟨hP0, h90⟩ := wC_dn hP
  have hB0 : wq D vwCl ad 90 (PC cI cW ad S) H := ⟨f0, hf0, hP0⟩
  have hlt : ad 90 < H.size := h90.lt
  have hn90 : ¬ RAs ad 90 H.size (ad 90) := by
    rintro (⟨j, hj, h⟩ | h)
    · have := hJ 90 j (by omega) (by omega) h; omega
    · omega
  have hup : ∀ {H1 : Heap} {S2 : sC}, wq D vwCl ad 90 (PC cI cW ad S2) H1 → (∀ q : Nat, q < H.size → ¬ RAs ad 90 H.size q → H1[q]? = H[q]?) → wq D vwCl ad 91 (wC cI cW cL ad S2 o) H1 := by
    intro H1 S2 ⟨f1, hf1, hP1⟩ hk
    exact ⟨_, ⟨f1, g, hf1, hg, rfl⟩, wC_up hP1 (h90.kept (hk _ hlt hn90))⟩
  have hrec : ∃ cellB : Cell, H[ad 0]? = some cellB ∧ cellB.vm.isStatics = false ∧ s.vm.findClass RX8 = some cellB.cls := by
    obtain ⟨fs, hfs⟩ := or8 (j := 0) (by decide +kernel) f0 hf0
    exact va_recv hK hP0 (show vwCl[8]? = some (RX8, TX8, 9) from rfl) ((WL_get (show 0 < 90 by omega)).trans (by rw [hfs]))
  exact vx_calli (vx_runV C (hM H.size) cw ⟨xs0_blind, hrec, fun U hU hW => ⟨rfl, by rw [hU], fun q hq => hAX q (hA _ hS.1 q hq), hE.go hS hAX hU hW, by rw [hU]; exact hB0, va_K.moved hW.alike hK⟩⟩ rfl hn hl.1 rfl (lv_room hcat) d hroom) hS (fun q _ h => hA _ hS.1 q h) (hA _ hS.1) (fun q _ h => hA _ hS.1 q h)
    (fun E ce q9 u t H1 locs1 ht hvm hp hb1 hz hk hS1 hce hcv hcl => by
      obtain ⟨rfl, hb1⟩ := hb1
      subst ht
      obtain ⟨pre, x, suf, h1, h2, h3, h4, h5, h6⟩ := hc hp
      exact vx_catch C.2.2.2.1 pre x suf h1 h2 h3 h4 h5 (va_Nw.use rfl (hE.2.2.2.2.1 thr)) hce hcv hcl (h6 q9 _ _ ls hl (hup hb1.1 hk) hS1))
    (fun r1 u t H1 locs1 ht hvm hp hb1 hz hk hS1 => by
      obtain ⟨h0, rfl⟩ := hp
      subst ht
      exact kk h0 _ _ ls hl (hup hb1.1 hk) hS1)
end VVW
theorem hsL_type : yL_type.cls ≠ "java/lang/invoke/MethodHandle" ∧ yL_type.cls ≠ "java/lang/invoke/VarHandle" ∧ (parseMethodDescriptor yL_type.desc).map (fun d => d.parameters.length) = some 5 := by decide +kernel
set_option maxRecDepth 100000 in
set_option maxHeartbeats 4000000 in
theorem cw_type (l : Launch) {D : va_G} {cI cW cZ cL : ClassId} {ad : Nat → Nat} (hJ : injA ad 91) (hlst : l.stackTraces = false) (AX : Nat → Prop) (z : Nat) (S : sC) (o : Int64) (w pp x : Int32) : kL l yL_type wsL_type ({ frames := 9, cells := 4, slots := 24, locals := 158 }) D cI cW cZ cL ad AX z [.int w, .int pp, .int x, .ref (ad 90)] S o [1, 2, 3] (tType S w pp x) (rType S w pp x) (sType S w pp x) 4 24 := by
  refine vv_enterW (cc := cL_type) (maxL := 6) (ret := some .int) (hh := [(0, 12, 15, 13), (0, 12, 19, 15), (0, 12, 23, 17)]) (own := RL) (lv := [(0, .ref (ad 0)), (1, .int w), (2, .int pp), (3, .int x), (4, .ref (ad 90))]) (by decide +kernel) rfl rfl hJ (Nat.le_of_ble_eq_true rfl) rfl ?_
  intro p e s m args below meth c hC hK hW hr hlk hsz hAX hE hxN htab
  refine vv_aload hC 4 dL_type_0 rfl (q := 2) rfl ?_
  refine vv_iconst hC (v := 0) dL_type_2 rfl (q := 3) rfl ?_
  refine vv_aload_n hC 0 dL_type_3 rfl rfl (q := 4) rfl ?_
  refine vv_iload_n hC 1 dL_type_4 rfl rfl (q := 5) rfl ?_
  refine vv_iload_n hC 2 dL_type_5 rfl rfl (q := 6) rfl ?_
  refine vv_iload_n hC 3 dL_type_6 rfl rfl (q := 7) rfl ?_
  refine vv_wcall hC hK hJ hE hAX (fun zz hzz q hq => by rcases hq with ⟨j, hj, h⟩ | h; exact Or.inl ⟨j, by omega, h⟩; exact Or.inr (by omega)) (As := [.int w, .int pp, .int x]) (fun zz => c8_type l (hJ.le (by omega)) hlst AX zz S w pp x) (cwV 3 hC.2.2.2.2 gL_type_X8_type rfl rfl rfl hdX8_type ⟨Nat.le_of_ble_eq_true rfl, Nat.le_of_ble_eq_true rfl⟩) rfl rfl (Nat.le_of_ble_eq_true rfl) ⟨Nat.le_of_ble_eq_true rfl, Nat.le_of_ble_eq_true rfl⟩ (fun hne => ?_) dL_type_7 (q := 10) rfl (fun h0 => ?_)
  · have hth : thIn [1, 2, 3] (tType S w pp x) := by
      unfold tType
      (repeat first | exact thIn_ix (by decide) _ _ | exact thIn_rg (by decide) _ _ _ | exact thIn_b2 (by decide) _ | exact thIn_b3 (by decide) _ | refine thIn_tor ?_ ?_)
    rcases hth with h | h
    · exact absurd h hne
    · rcases List.mem_cons.mp h with h | h
      · rw [h]; exact ⟨[], ⟨0, 12, 15, 13⟩, [⟨0, 12, 19, 15⟩, ⟨0, 12, 23, 17⟩], htab, (fun z hz => nomatch hz), by decide, by decide, (hC.2.2.2.2 _ (List.mem_of_getElem? (i := 1) rfl)), fun q9 => by
            refine vv_astore hC (i := 5) (lv' := (5, .ref q9) :: [(0, .ref (ad 0)), (1, .int w), (2, .int pp), (3, .int x), (4, .ref (ad 90))]) dL_type_15 (by decide) rfl (q := 17) rfl ?_
            refine vv_iconst hC (v := nI 1) dL_type_17 rfl (q := 18) rfl ?_
            exact vv_lret hC hK hr hlk rfl ⟨Nat.le_of_ble_eq_true rfl, Nat.le_of_ble_eq_true rfl⟩ (fun f hf => by rw [if_neg (by decide)]; exact hf) dL_type_18⟩
      · rcases List.mem_cons.mp h with h | h
        · rw [h]; exact ⟨[⟨0, 12, 15, 13⟩], ⟨0, 12, 19, 15⟩, [⟨0, 12, 23, 17⟩], htab, (fun z hz => by rw [List.mem_singleton.mp hz]; exact Or.inr ⟨by decide, _, (hC.2.2.2.2 _ (List.mem_of_getElem? (i := 1) rfl)), hxN.2.2.1⟩), by decide, by decide, (hC.2.2.2.2 _ (List.mem_of_getElem? (i := 2) rfl)), fun q9 => by
              refine vv_astore hC (i := 5) (lv' := (5, .ref q9) :: [(0, .ref (ad 0)), (1, .int w), (2, .int pp), (3, .int x), (4, .ref (ad 90))]) dL_type_19 (by decide) rfl (q := 21) rfl ?_
              refine vv_iconst hC (v := nI 2) dL_type_21 rfl (q := 22) rfl ?_
              exact vv_lret hC hK hr hlk rfl ⟨Nat.le_of_ble_eq_true rfl, Nat.le_of_ble_eq_true rfl⟩ (fun f hf => by rw [if_neg (by decide)]; exact hf) dL_type_22⟩
        · replace h := List.mem_singleton.mp h
          rw [h]; exact ⟨[⟨0, 12, 15, 13⟩, ⟨0, 12, 19, 15⟩], ⟨0, 12, 23, 17⟩, [], htab, (fun z hz => by rcases List.mem_cons.mp hz with rfl | hz; exact Or.inr ⟨by decide, _, (hC.2.2.2.2 _ (List.mem_of_getElem? (i := 1) rfl)), hxN.2.2.2.2.1⟩; rw [List.mem_singleton.mp hz]; exact Or.inr ⟨by decide, _, (hC.2.2.2.2 _ (List.mem_of_getElem? (i := 2) rfl)), hxN.2.2.2.2.2⟩), by decide, by decide, (hC.2.2.2.2 _ (List.mem_of_getElem? (i := 3) rfl)), fun q9 => by
              refine vv_astore hC (i := 5) (lv' := (5, .ref q9) :: [(0, .ref (ad 0)), (1, .int w), (2, .int pp), (3, .int x), (4, .ref (ad 90))]) dL_type_23 (by decide) rfl (q := 25) rfl ?_
              refine vv_iconst hC (v := nI 3) dL_type_25 rfl (q := 26) rfl ?_
              exact vv_lret hC hK hr hlk rfl ⟨Nat.le_of_ble_eq_true rfl, Nat.le_of_ble_eq_true rfl⟩ (fun f hf => by rw [if_neg (by decide)]; exact hf) dL_type_26⟩
  · refine vv_i2l hC dL_type_10 (q := 11) rfl ?_
    refine vv_lastW hC hK hW dL_type_11 (q := 12) rfl ?_
    refine vv_goto hC (tgt := 27) dL_type_12 (by decide) ?_
    refine vv_iconst hC (v := nI 0) dL_type_27 rfl (q := 28) rfl ?_
    exact vv_lret hC hK hr hlk (by rw [cd, if_pos h0]) ⟨Nat.le_of_ble_eq_true rfl, Nat.le_of_ble_eq_true rfl⟩ (fun f hf => by rw [if_pos h0]; exact hf) dL_type_28
theorem hsL_delete : yL_delete.cls ≠ "java/lang/invoke/MethodHandle" ∧ yL_delete.cls ≠ "java/lang/invoke/VarHandle" ∧ (parseMethodDescriptor yL_delete.desc).map (fun d => d.parameters.length) = some 4 := by decide +kernel
set_option maxRecDepth 100000 in
set_option maxHeartbeats 4000000 in
theorem cw_delete (l : Launch) {D : va_G} {cI cW cZ cL : ClassId} {ad : Nat → Nat} (hJ : injA ad 91) (hlst : l.stackTraces = false) (AX : Nat → Prop) (z : Nat) (S : sC) (o : Int64) (w pp : Int32) : kL l yL_delete wsL_delete ({ frames := 8, cells := 2, slots := 12, locals := 149 }) D cI cW cZ cL ad AX z [.int w, .int pp, .ref (ad 90)] S o [1] (tCopyAt S w pp) (rAt (S.1 (pW w + 1)) pp) (wTake S (pW w) pp) 2 12 := by
  refine vv_enterW (cc := cL_delete) (maxL := 5) (ret := some .int) (hh := [(0, 10, 13, 13)]) (own := RL) (lv := [(0, .ref (ad 0)), (1, .int w), (2, .int pp), (3, .ref (ad 90))]) (by decide +kernel) rfl rfl hJ (Nat.le_of_ble_eq_true rfl) rfl ?_
  intro p e s m args below meth c hC hK hW hr hlk hsz hAX hE hxN htab
  refine vv_aload_n hC 3 dL_delete_0 rfl rfl (q := 1) rfl ?_
  refine vv_iconst hC (v := 0) dL_delete_1 rfl (q := 2) rfl ?_
  refine vv_aload_n hC 0 dL_delete_2 rfl rfl (q := 3) rfl ?_
  refine vv_iload_n hC 1 dL_delete_3 rfl rfl (q := 4) rfl ?_
  refine vv_iload_n hC 2 dL_delete_4 rfl rfl (q := 5) rfl ?_
  refine vv_wcall hC hK hJ hE hAX (fun zz hzz q hq => by rcases hq with ⟨j, hj, h⟩ | h; exact Or.inl ⟨j, by omega, h⟩; exact Or.inr (by omega)) (As := [.int w, .int pp]) (fun zz => c8_delete l (hJ.le (by omega)) hlst AX zz S w pp) (cwV 2 hC.2.2.2.2 gL_delete_X8_delete rfl rfl rfl hdX8_delete ⟨Nat.le_of_ble_eq_true rfl, Nat.le_of_ble_eq_true rfl⟩) rfl rfl (Nat.le_of_ble_eq_true rfl) ⟨Nat.le_of_ble_eq_true rfl, Nat.le_of_ble_eq_true rfl⟩ (fun hne => ?_) dL_delete_5 (q := 8) rfl (fun h0 => ?_)
  · have hth : thIn [1] (tCopyAt S w pp) := by
      unfold tCopyAt
      (repeat first | exact thIn_ix (by decide) _ _ | exact thIn_rg (by decide) _ _ _ | exact thIn_b2 (by decide) _ | exact thIn_b3 (by decide) _ | refine thIn_tor ?_ ?_)
    rcases hth with h | h
    · exact absurd h hne
    · replace h := List.mem_singleton.mp h
      rw [h]; exact ⟨[], ⟨0, 10, 13, 13⟩, [], htab, (fun z hz => nomatch hz), by decide, by decide, (hC.2.2.2.2 _ (List.mem_of_getElem? (i := 1) rfl)), fun q9 => by
          refine vv_astore hC (i := 4) (lv' := (4, .ref q9) :: [(0, .ref (ad 0)), (1, .int w), (2, .int pp), (3, .ref (ad 90))]) dL_delete_13 (by decide) rfl (q := 15) rfl ?_
          refine vv_iconst hC (v := nI 1) dL_delete_15 rfl (q := 16) rfl ?_
          exact vv_lret hC hK hr hlk rfl ⟨Nat.le_of_ble_eq_true rfl, Nat.le_of_ble_eq_true rfl⟩ (fun f hf => by rw [if_neg (by decide)]; exact hf) dL_delete_16⟩
  · refine vv_i2l hC dL_delete_8 (q := 9) rfl ?_
    refine vv_lastW hC hK hW dL_delete_9 (q := 10) rfl ?_
    refine vv_goto hC (tgt := 17) dL_delete_10 (by decide) ?_
    refine vv_iconst hC (v := nI 0) dL_delete_17 rfl (q := 18) rfl ?_
    exact vv_lret hC hK hr hlk (by rw [cd, if_pos h0]) ⟨Nat.le_of_ble_eq_true rfl, Nat.le_of_ble_eq_true rfl⟩ (fun f hf => by rw [if_pos h0]; exact hf) dL_delete_18
theorem hsL_merge : yL_merge.cls ≠ "java/lang/invoke/MethodHandle" ∧ yL_merge.cls ≠ "java/lang/invoke/VarHandle" ∧ (parseMethodDescriptor yL_merge.desc).map (fun d => d.parameters.length) = some 3 := by decide +kernel
set_option maxRecDepth 100000 in
set_option maxHeartbeats 4000000 in
theorem cw_merge (l : Launch) {D : va_G} {cI cW cZ cL : ClassId} {ad : Nat → Nat} (hJ : injA ad 91) (hlst : l.stackTraces = false) (AX : Nat → Prop) (z : Nat) (S : sC) (o : Int64) (w : Int32) : kL l yL_merge wsL_merge ({ frames := 8, cells := 1, slots := 6, locals := 173 }) D cI cW cZ cL ad AX z [.int w, .ref (ad 90)] S o [1] (tIx w 6) (nI (mrg S (pW w)).1) (sMerge S w) 1 6 := by
  refine vv_enterW (cc := cL_merge) (maxL := 4) (ret := some .int) (hh := [(0, 9, 12, 13)]) (own := RL) (lv := [(0, .ref (ad 0)), (1, .int w), (2, .ref (ad 90))]) (by decide +kernel) rfl rfl hJ (Nat.le_of_ble_eq_true rfl) rfl ?_
  intro p e s m args below meth c hC hK hW hr hlk hsz hAX hE hxN htab
  refine vv_aload_n hC 2 dL_merge_0 rfl rfl (q := 1) rfl ?_
  refine vv_iconst hC (v := 0) dL_merge_1 rfl (q := 2) rfl ?_
  refine vv_aload_n hC 0 dL_merge_2 rfl rfl (q := 3) rfl ?_
  refine vv_iload_n hC 1 dL_merge_3 rfl rfl (q := 4) rfl ?_
  refine vv_wcall hC hK hJ hE hAX (fun zz hzz q hq => by rcases hq with ⟨j, hj, h⟩ | h; exact Or.inl ⟨j, by omega, h⟩; exact Or.inr (by omega)) (As := [.int w]) (fun zz => c8_merge l (hJ.le (by omega)) hlst AX zz S w) (cwV 1 hC.2.2.2.2 gL_merge_X8_merge rfl rfl rfl hdX8_merge ⟨Nat.le_of_ble_eq_true rfl, Nat.le_of_ble_eq_true rfl⟩) rfl rfl (Nat.le_of_ble_eq_true rfl) ⟨Nat.le_of_ble_eq_true rfl, Nat.le_of_ble_eq_true rfl⟩ (fun hne => ?_) dL_merge_4 (q := 7) rfl (fun h0 => ?_)
  · have hth : thIn [1] (tIx w 6) := by
      (repeat first | exact thIn_ix (by decide) _ _ | exact thIn_rg (by decide) _ _ _ | exact thIn_b2 (by decide) _ | exact thIn_b3 (by decide) _ | refine thIn_tor ?_ ?_)
    rcases hth with h | h
    · exact absurd h hne
    · replace h := List.mem_singleton.mp h
      rw [h]; exact ⟨[], ⟨0, 9, 12, 13⟩, [], htab, (fun z hz => nomatch hz), by decide, by decide, (hC.2.2.2.2 _ (List.mem_of_getElem? (i := 1) rfl)), fun q9 => by
          refine vv_astore_n hC (i := 3) (lv' := (3, .ref q9) :: [(0, .ref (ad 0)), (1, .int w), (2, .ref (ad 90))]) dL_merge_12 rfl (by decide) rfl (q := 13) rfl ?_
          refine vv_iconst hC (v := nI 1) dL_merge_13 rfl (q := 14) rfl ?_
          exact vv_lret hC hK hr hlk rfl ⟨Nat.le_of_ble_eq_true rfl, Nat.le_of_ble_eq_true rfl⟩ (fun f hf => by rw [if_neg (by decide)]; exact hf) dL_merge_14⟩
  · refine vv_i2l hC dL_merge_7 (q := 8) rfl ?_
    refine vv_lastW hC hK hW dL_merge_8 (q := 9) rfl ?_
    refine vv_goto hC (tgt := 15) dL_merge_9 (by decide) ?_
    refine vv_iconst hC (v := nI 0) dL_merge_15 rfl (q := 16) rfl ?_
    exact vv_lret hC hK hr hlk (by rw [cd, if_pos h0]) ⟨Nat.le_of_ble_eq_true rfl, Nat.le_of_ble_eq_true rfl⟩ (fun f hf => by rw [if_pos h0]; exact hf) dL_merge_16
theorem hsL_copy : yL_copy.cls ≠ "java/lang/invoke/MethodHandle" ∧ yL_copy.cls ≠ "java/lang/invoke/VarHandle" ∧ (parseMethodDescriptor yL_copy.desc).map (fun d => d.parameters.length) = some 3 := by decide +kernel
set_option maxRecDepth 100000 in
set_option maxHeartbeats 4000000 in
theorem cw_copy (l : Launch) {D : va_G} {cI cW cZ cL : ClassId} {ad : Nat → Nat} (hJ : injA ad 91) (hlst : l.stackTraces = false) (AX : Nat → Prop) (z : Nat) (S : sC) (o : Int64) (w : Int32) : kL l yL_copy wsL_copy ({ frames := 8, cells := 1, slots := 6, locals := 133 }) D cI cW cZ cL ad AX z [.int w, .ref (ad 90)] S o [1] (tIx w 6) (nI (S.1 (pW w + 1)).length) S 1 6 := by
  refine vv_enterW (cc := cL_copy) (maxL := 4) (ret := some .int) (hh := [(0, 9, 12, 13)]) (own := RL) (lv := [(0, .ref (ad 0)), (1, .int w), (2, .ref (ad 90))]) (by decide +kernel) rfl rfl hJ (Nat.le_of_ble_eq_true rfl) rfl ?_
  intro p e s m args below meth c hC hK hW hr hlk hsz hAX hE hxN htab
  refine vv_aload_n hC 2 dL_copy_0 rfl rfl (q := 1) rfl ?_
  refine vv_iconst hC (v := 0) dL_copy_1 rfl (q := 2) rfl ?_
  refine vv_aload_n hC 0 dL_copy_2 rfl rfl (q := 3) rfl ?_
  refine vv_iload_n hC 1 dL_copy_3 rfl rfl (q := 4) rfl ?_
  refine vv_wcall hC hK hJ hE hAX (fun zz hzz q hq => by rcases hq with ⟨j, hj, h⟩ | h; exact Or.inl ⟨j, by omega, h⟩; exact Or.inr (by omega)) (As := [.int w]) (fun zz => c8_copy l (hJ.le (by omega)) hlst AX zz S w) (cwV 1 hC.2.2.2.2 gL_copy_X8_copy rfl rfl rfl hdX8_copy ⟨Nat.le_of_ble_eq_true rfl, Nat.le_of_ble_eq_true rfl⟩) rfl rfl (Nat.le_of_ble_eq_true rfl) ⟨Nat.le_of_ble_eq_true rfl, Nat.le_of_ble_eq_true rfl⟩ (fun hne => ?_) dL_copy_4 (q := 7) rfl (fun h0 => ?_)
  · have hth : thIn [1] (tIx w 6) := by
      (repeat first | exact thIn_ix (by decide) _ _ | exact thIn_rg (by decide) _ _ _ | exact thIn_b2 (by decide) _ | exact thIn_b3 (by decide) _ | refine thIn_tor ?_ ?_)
    rcases hth with h | h
    · exact absurd h hne
    · replace h := List.mem_singleton.mp h
      rw [h]; exact ⟨[], ⟨0, 9, 12, 13⟩, [], htab, (fun z hz => nomatch hz), by decide, by decide, (hC.2.2.2.2 _ (List.mem_of_getElem? (i := 1) rfl)), fun q9 => by
          refine vv_astore_n hC (i := 3) (lv' := (3, .ref q9) :: [(0, .ref (ad 0)), (1, .int w), (2, .ref (ad 90))]) dL_copy_12 rfl (by decide) rfl (q := 13) rfl ?_
          refine vv_iconst hC (v := nI 1) dL_copy_13 rfl (q := 14) rfl ?_
          exact vv_lret hC hK hr hlk rfl ⟨Nat.le_of_ble_eq_true rfl, Nat.le_of_ble_eq_true rfl⟩ (fun f hf => by rw [if_neg (by decide)]; exact hf) dL_copy_14⟩
  · refine vv_i2l hC dL_copy_7 (q := 8) rfl ?_
    refine vv_lastW hC hK hW dL_copy_8 (q := 9) rfl ?_
    refine vv_goto hC (tgt := 15) dL_copy_9 (by decide) ?_
    refine vv_iconst hC (v := nI 0) dL_copy_15 rfl (q := 16) rfl ?_
    exact vv_lret hC hK hr hlk (by rw [cd, if_pos h0]) ⟨Nat.le_of_ble_eq_true rfl, Nat.le_of_ble_eq_true rfl⟩ (fun f hf => by rw [if_pos h0]; exact hf) dL_copy_16
theorem hsL_copyAt : yL_copyAt.cls ≠ "java/lang/invoke/MethodHandle" ∧ yL_copyAt.cls ≠ "java/lang/invoke/VarHandle" ∧ (parseMethodDescriptor yL_copyAt.desc).map (fun d => d.parameters.length) = some 4 := by decide +kernel
set_option maxRecDepth 100000 in
set_option maxHeartbeats 4000000 in
theorem cw_copyAt (l : Launch) {D : va_G} {cI cW cZ cL : ClassId} {ad : Nat → Nat} (hJ : injA ad 91) (hlst : l.stackTraces = false) (AX : Nat → Prop) (z : Nat) (S : sC) (o : Int64) (w pp : Int32) : kL l yL_copyAt wsL_copyAt ({ frames := 8, cells := 2, slots := 12, locals := 135 }) D cI cW cZ cL ad AX z [.int w, .int pp, .ref (ad 90)] S o [1] (tCopyAt S w pp) (rAt (S.1 (pW w + 1)) pp) S 2 12 := by
  refine vv_enterW (cc := cL_copyAt) (maxL := 5) (ret := some .int) (hh := [(0, 10, 13, 13)]) (own := RL) (lv := [(0, .ref (ad 0)), (1, .int w), (2, .int pp), (3, .ref (ad 90))]) (by decide +kernel) rfl rfl hJ (Nat.le_of_ble_eq_true rfl) rfl ?_
  intro p e s m args below meth c hC hK hW hr hlk hsz hAX hE hxN htab
  refine vv_aload_n hC 3 dL_copyAt_0 rfl rfl (q := 1) rfl ?_
  refine vv_iconst hC (v := 0) dL_copyAt_1 rfl (q := 2) rfl ?_
  refine vv_aload_n hC 0 dL_copyAt_2 rfl rfl (q := 3) rfl ?_
  refine vv_iload_n hC 1 dL_copyAt_3 rfl rfl (q := 4) rfl ?_
  refine vv_iload_n hC 2 dL_copyAt_4 rfl rfl (q := 5) rfl ?_
  refine vv_wcall hC hK hJ hE hAX (fun zz hzz q hq => by rcases hq with ⟨j, hj, h⟩ | h; exact Or.inl ⟨j, by omega, h⟩; exact Or.inr (by omega)) (As := [.int w, .int pp]) (fun zz => c8_copyAt l (hJ.le (by omega)) hlst AX zz S w pp) (cwV 2 hC.2.2.2.2 gL_copyAt_X8_copyAt rfl rfl rfl hdX8_copyAt ⟨Nat.le_of_ble_eq_true rfl, Nat.le_of_ble_eq_true rfl⟩) rfl rfl (Nat.le_of_ble_eq_true rfl) ⟨Nat.le_of_ble_eq_true rfl, Nat.le_of_ble_eq_true rfl⟩ (fun hne => ?_) dL_copyAt_5 (q := 8) rfl (fun h0 => ?_)
  · have hth : thIn [1] (tCopyAt S w pp) := by
      unfold tCopyAt
      (repeat first | exact thIn_ix (by decide) _ _ | exact thIn_rg (by decide) _ _ _ | exact thIn_b2 (by decide) _ | exact thIn_b3 (by decide) _ | refine thIn_tor ?_ ?_)
    rcases hth with h | h
    · exact absurd h hne
    · replace h := List.mem_singleton.mp h
      rw [h]; exact ⟨[], ⟨0, 10, 13, 13⟩, [], htab, (fun z hz => nomatch hz), by decide, by decide, (hC.2.2.2.2 _ (List.mem_of_getElem? (i := 1) rfl)), fun q9 => by
          refine vv_astore hC (i := 4) (lv' := (4, .ref q9) :: [(0, .ref (ad 0)), (1, .int w), (2, .int pp), (3, .ref (ad 90))]) dL_copyAt_13 (by decide) rfl (q := 15) rfl ?_
          refine vv_iconst hC (v := nI 1) dL_copyAt_15 rfl (q := 16) rfl ?_
          exact vv_lret hC hK hr hlk rfl ⟨Nat.le_of_ble_eq_true rfl, Nat.le_of_ble_eq_true rfl⟩ (fun f hf => by rw [if_neg (by decide)]; exact hf) dL_copyAt_16⟩
  · refine vv_i2l hC dL_copyAt_8 (q := 9) rfl ?_
    refine vv_lastW hC hK hW dL_copyAt_9 (q := 10) rfl ?_
    refine vv_goto hC (tgt := 17) dL_copyAt_10 (by decide) ?_
    refine vv_iconst hC (v := nI 0) dL_copyAt_17 rfl (q := 18) rfl ?_
    exact vv_lret hC hK hr hlk (by rw [cd, if_pos h0]) ⟨Nat.le_of_ble_eq_true rfl, Nat.le_of_ble_eq_true rfl⟩ (fun f hf => by rw [if_pos h0]; exact hf) dL_copyAt_18
theorem hsL_changes : yL_changes.cls ≠ "java/lang/invoke/MethodHandle" ∧ yL_changes.cls ≠ "java/lang/invoke/VarHandle" ∧ (parseMethodDescriptor yL_changes.desc).map (fun d => d.parameters.length) = some 3 := by decide +kernel
set_option maxRecDepth 100000 in
set_option maxHeartbeats 4000000 in
theorem cw_changes (l : Launch) {D : va_G} {cI cW cZ cL : ClassId} {ad : Nat → Nat} (hJ : injA ad 91) (hlst : l.stackTraces = false) (AX : Nat → Prop) (z : Nat) (S : sC) (o : Int64) (w : Int32) : kL l yL_changes wsL_changes ({ frames := 8, cells := 1, slots := 6, locals := 133 }) D cI cW cZ cL ad AX z [.int w, .ref (ad 90)] S o [1] (tIx w 6) (nI (S.1 (pW w + 4)).length) S 1 6 := by
  refine vv_enterW (cc := cL_changes) (maxL := 4) (ret := some .int) (hh := [(0, 9, 12, 13)]) (own := RL) (lv := [(0, .ref (ad 0)), (1, .int w), (2, .ref (ad 90))]) (by decide +kernel) rfl rfl hJ (Nat.le_of_ble_eq_true rfl) rfl ?_
  intro p e s m args below meth c hC hK hW hr hlk hsz hAX hE hxN htab
  refine vv_aload_n hC 2 dL_changes_0 rfl rfl (q := 1) rfl ?_
  refine vv_iconst hC (v := 0) dL_changes_1 rfl (q := 2) rfl ?_
  refine vv_aload_n hC 0 dL_changes_2 rfl rfl (q := 3) rfl ?_
  refine vv_iload_n hC 1 dL_changes_3 rfl rfl (q := 4) rfl ?_
  refine vv_wcall hC hK hJ hE hAX (fun zz hzz q hq => by rcases hq with ⟨j, hj, h⟩ | h; exact Or.inl ⟨j, by omega, h⟩; exact Or.inr (by omega)) (As := [.int w]) (fun zz => c8_changes l (hJ.le (by omega)) hlst AX zz S w) (cwV 1 hC.2.2.2.2 gL_changes_X8_changes rfl rfl rfl hdX8_changes ⟨Nat.le_of_ble_eq_true rfl, Nat.le_of_ble_eq_true rfl⟩) rfl rfl (Nat.le_of_ble_eq_true rfl) ⟨Nat.le_of_ble_eq_true rfl, Nat.le_of_ble_eq_true rfl⟩ (fun hne => ?_) dL_changes_4 (q := 7) rfl (fun h0 => ?_)
  · have hth : thIn [1] (tIx w 6) := by
      (repeat first | exact thIn_ix (by decide) _ _ | exact thIn_rg (by decide) _ _ _ | exact thIn_b2 (by decide) _ | exact thIn_b3 (by decide) _ | refine thIn_tor ?_ ?_)
    rcases hth with h | h
    · exact absurd h hne
    · replace h := List.mem_singleton.mp h
      rw [h]; exact ⟨[], ⟨0, 9, 12, 13⟩, [], htab, (fun z hz => nomatch hz), by decide, by decide, (hC.2.2.2.2 _ (List.mem_of_getElem? (i := 1) rfl)), fun q9 => by
          refine vv_astore_n hC (i := 3) (lv' := (3, .ref q9) :: [(0, .ref (ad 0)), (1, .int w), (2, .ref (ad 90))]) dL_changes_12 rfl (by decide) rfl (q := 13) rfl ?_
          refine vv_iconst hC (v := nI 1) dL_changes_13 rfl (q := 14) rfl ?_
          exact vv_lret hC hK hr hlk rfl ⟨Nat.le_of_ble_eq_true rfl, Nat.le_of_ble_eq_true rfl⟩ (fun f hf => by rw [if_neg (by decide)]; exact hf) dL_changes_14⟩
  · refine vv_i2l hC dL_changes_7 (q := 8) rfl ?_
    refine vv_lastW hC hK hW dL_changes_8 (q := 9) rfl ?_
    refine vv_goto hC (tgt := 15) dL_changes_9 (by decide) ?_
    refine vv_iconst hC (v := nI 0) dL_changes_15 rfl (q := 16) rfl ?_
    exact vv_lret hC hK hr hlk (by rw [cd, if_pos h0]) ⟨Nat.le_of_ble_eq_true rfl, Nat.le_of_ble_eq_true rfl⟩ (fun f hf => by rw [if_pos h0]; exact hf) dL_changes_16
theorem hsL_wordAt : yL_wordAt.cls ≠ "java/lang/invoke/MethodHandle" ∧ yL_wordAt.cls ≠ "java/lang/invoke/VarHandle" ∧ (parseMethodDescriptor yL_wordAt.desc).map (fun d => d.parameters.length) = some 3 := by decide +kernel
set_option maxRecDepth 100000 in
set_option maxHeartbeats 4000000 in
theorem cw_wordAt (l : Launch) {D : va_G} {cI cW cZ cL : ClassId} {ad : Nat → Nat} (hJ : injA ad 91) (hlst : l.stackTraces = false) (AX : Nat → Prop) (z : Nat) (S : sC) (o : Int64) (n : Int32) : kL l yL_wordAt wsL_wordAt ({ frames := 9, cells := 1, slots := 6, locals := 153 }) D cI cW cZ cL ad AX z [.int n, .ref (ad 90)] S o [1] (tText S n) (rAt (S.1 17) n) S 1 6 := by
  refine vv_enterW (cc := cL_wordAt) (maxL := 4) (ret := some .int) (hh := [(0, 9, 12, 13)]) (own := RL) (lv := [(0, .ref (ad 0)), (1, .int n), (2, .ref (ad 90))]) (by decide +kernel) rfl rfl hJ (Nat.le_of_ble_eq_true rfl) rfl ?_
  intro p e s m args below meth c hC hK hW hr hlk hsz hAX hE hxN htab
  refine vv_aload_n hC 2 dL_wordAt_0 rfl rfl (q := 1) rfl ?_
  refine vv_iconst hC (v := 0) dL_wordAt_1 rfl (q := 2) rfl ?_
  refine vv_aload_n hC 0 dL_wordAt_2 rfl rfl (q := 3) rfl ?_
  refine vv_iload_n hC 1 dL_wordAt_3 rfl rfl (q := 4) rfl ?_
  refine vv_wcall hC hK hJ hE hAX (fun zz hzz q hq => by rcases hq with ⟨j, hj, h⟩ | h; exact Or.inl ⟨j, by omega, h⟩; exact Or.inr (by omega)) (As := [.int n]) (fun zz => c8_wordAt l (hJ.le (by omega)) hlst AX zz S n) (cwV 1 hC.2.2.2.2 gL_wordAt_X8_wordAt rfl rfl rfl hdX8_wordAt ⟨Nat.le_of_ble_eq_true rfl, Nat.le_of_ble_eq_true rfl⟩) rfl rfl (Nat.le_of_ble_eq_true rfl) ⟨Nat.le_of_ble_eq_true rfl, Nat.le_of_ble_eq_true rfl⟩ (fun hne => ?_) dL_wordAt_4 (q := 7) rfl (fun h0 => ?_)
  · have hth : thIn [1] (tText S n) := by
      unfold tText
      (repeat first | exact thIn_ix (by decide) _ _ | exact thIn_rg (by decide) _ _ _ | exact thIn_b2 (by decide) _ | exact thIn_b3 (by decide) _ | refine thIn_tor ?_ ?_)
    rcases hth with h | h
    · exact absurd h hne
    · replace h := List.mem_singleton.mp h
      rw [h]; exact ⟨[], ⟨0, 9, 12, 13⟩, [], htab, (fun z hz => nomatch hz), by decide, by decide, (hC.2.2.2.2 _ (List.mem_of_getElem? (i := 1) rfl)), fun q9 => by
          refine vv_astore_n hC (i := 3) (lv' := (3, .ref q9) :: [(0, .ref (ad 0)), (1, .int n), (2, .ref (ad 90))]) dL_wordAt_12 rfl (by decide) rfl (q := 13) rfl ?_
          refine vv_iconst hC (v := nI 1) dL_wordAt_13 rfl (q := 14) rfl ?_
          exact vv_lret hC hK hr hlk rfl ⟨Nat.le_of_ble_eq_true rfl, Nat.le_of_ble_eq_true rfl⟩ (fun f hf => by rw [if_neg (by decide)]; exact hf) dL_wordAt_14⟩
  · refine vv_i2l hC dL_wordAt_7 (q := 8) rfl ?_
    refine vv_lastW hC hK hW dL_wordAt_8 (q := 9) rfl ?_
    refine vv_goto hC (tgt := 15) dL_wordAt_9 (by decide) ?_
    refine vv_iconst hC (v := nI 0) dL_wordAt_15 rfl (q := 16) rfl ?_
    exact vv_lret hC hK hr hlk (by rw [cd, if_pos h0]) ⟨Nat.le_of_ble_eq_true rfl, Nat.le_of_ble_eq_true rfl⟩ (fun f hf => by rw [if_pos h0]; exact hf) dL_wordAt_16
theorem hsL_word : yL_word.cls ≠ "java/lang/invoke/MethodHandle" ∧ yL_word.cls ≠ "java/lang/invoke/VarHandle" ∧ (parseMethodDescriptor yL_word.desc).map (fun d => d.parameters.length) = some 3 := by decide +kernel
set_option maxRecDepth 100000 in
set_option maxHeartbeats 4000000 in
theorem cw_word (l : Launch) {D : va_G} {cI cW cZ cL : ClassId} {ad : Nat → Nat} (hJ : injA ad 91) (hlst : l.stackTraces = false) (AX : Nat → Prop) (z : Nat) (S : sC) (o : Int64) (n : Int32) : kL l yL_word wsL_word ({ frames := 9, cells := 1, slots := 6, locals := 153 }) D cI cW cZ cL ad AX z [.int n, .ref (ad 90)] S o [1] (tWord S n) (1000 * rAt (S.1 5) n + rAt (S.1 3) n) S 1 6 := by
  refine vv_enterW (cc := cL_word) (maxL := 4) (ret := some .int) (hh := [(0, 9, 12, 13)]) (own := RL) (lv := [(0, .ref (ad 0)), (1, .int n), (2, .ref (ad 90))]) (by decide +kernel) rfl rfl hJ (Nat.le_of_ble_eq_true rfl) rfl ?_
  intro p e s m args below meth c hC hK hW hr hlk hsz hAX hE hxN htab
  refine vv_aload_n hC 2 dL_word_0 rfl rfl (q := 1) rfl ?_
  refine vv_iconst hC (v := 0) dL_word_1 rfl (q := 2) rfl ?_
  refine vv_aload_n hC 0 dL_word_2 rfl rfl (q := 3) rfl ?_
  refine vv_iload_n hC 1 dL_word_3 rfl rfl (q := 4) rfl ?_
  refine vv_wcall hC hK hJ hE hAX (fun zz hzz q hq => by rcases hq with ⟨j, hj, h⟩ | h; exact Or.inl ⟨j, by omega, h⟩; exact Or.inr (by omega)) (As := [.int n]) (fun zz => c8_word l (hJ.le (by omega)) hlst AX zz S n) (cwV 1 hC.2.2.2.2 gL_word_X8_word rfl rfl rfl hdX8_word ⟨Nat.le_of_ble_eq_true rfl, Nat.le_of_ble_eq_true rfl⟩) rfl rfl (Nat.le_of_ble_eq_true rfl) ⟨Nat.le_of_ble_eq_true rfl, Nat.le_of_ble_eq_true rfl⟩ (fun hne => ?_) dL_word_4 (q := 7) rfl (fun h0 => ?_)
  · have hth : thIn [1] (tWord S n) := by
      unfold tWord
      (repeat first | exact thIn_ix (by decide) _ _ | exact thIn_rg (by decide) _ _ _ | exact thIn_b2 (by decide) _ | exact thIn_b3 (by decide) _ | refine thIn_tor ?_ ?_)
    rcases hth with h | h
    · exact absurd h hne
    · replace h := List.mem_singleton.mp h
      rw [h]; exact ⟨[], ⟨0, 9, 12, 13⟩, [], htab, (fun z hz => nomatch hz), by decide, by decide, (hC.2.2.2.2 _ (List.mem_of_getElem? (i := 1) rfl)), fun q9 => by
          refine vv_astore_n hC (i := 3) (lv' := (3, .ref q9) :: [(0, .ref (ad 0)), (1, .int n), (2, .ref (ad 90))]) dL_word_12 rfl (by decide) rfl (q := 13) rfl ?_
          refine vv_iconst hC (v := nI 1) dL_word_13 rfl (q := 14) rfl ?_
          exact vv_lret hC hK hr hlk rfl ⟨Nat.le_of_ble_eq_true rfl, Nat.le_of_ble_eq_true rfl⟩ (fun f hf => by rw [if_neg (by decide)]; exact hf) dL_word_14⟩
  · refine vv_i2l hC dL_word_7 (q := 8) rfl ?_
    refine vv_lastW hC hK hW dL_word_8 (q := 9) rfl ?_
    refine vv_goto hC (tgt := 15) dL_word_9 (by decide) ?_
    refine vv_iconst hC (v := nI 0) dL_word_15 rfl (q := 16) rfl ?_
    exact vv_lret hC hK hr hlk (by rw [cd, if_pos h0]) ⟨Nat.le_of_ble_eq_true rfl, Nat.le_of_ble_eq_true rfl⟩ (fun f hf => by rw [if_pos h0]; exact hf) dL_word_16
theorem hsL_placeOf : yL_placeOf.cls ≠ "java/lang/invoke/MethodHandle" ∧ yL_placeOf.cls ≠ "java/lang/invoke/VarHandle" ∧ (parseMethodDescriptor yL_placeOf.desc).map (fun d => d.parameters.length) = some 3 := by decide +kernel
set_option maxRecDepth 100000 in
set_option maxHeartbeats 4000000 in
theorem cw_placeOf (l : Launch) {D : va_G} {cI cW cZ cL : ClassId} {ad : Nat → Nat} (hJ : injA ad 91) (hlst : l.stackTraces = false) (AX : Nat → Prop) (z : Nat) (S : sC) (o : Int64) (n : Int32) : kL l yL_placeOf wsL_placeOf ({ frames := 9, cells := 1, slots := 6, locals := 153 }) D cI cW cZ cL ad AX z [.int n, .ref (ad 90)] S o [1] (tWord S n) (rIdx (S.1 17) n) S 1 6 := by
  refine vv_enterW (cc := cL_placeOf) (maxL := 4) (ret := some .int) (hh := [(0, 9, 12, 13)]) (own := RL) (lv := [(0, .ref (ad 0)), (1, .int n), (2, .ref (ad 90))]) (by decide +kernel) rfl rfl hJ (Nat.le_of_ble_eq_true rfl) rfl ?_
  intro p e s m args below meth c hC hK hW hr hlk hsz hAX hE hxN htab
  refine vv_aload_n hC 2 dL_placeOf_0 rfl rfl (q := 1) rfl ?_
  refine vv_iconst hC (v := 0) dL_placeOf_1 rfl (q := 2) rfl ?_
  refine vv_aload_n hC 0 dL_placeOf_2 rfl rfl (q := 3) rfl ?_
  refine vv_iload_n hC 1 dL_placeOf_3 rfl rfl (q := 4) rfl ?_
  refine vv_wcall hC hK hJ hE hAX (fun zz hzz q hq => by rcases hq with ⟨j, hj, h⟩ | h; exact Or.inl ⟨j, by omega, h⟩; exact Or.inr (by omega)) (As := [.int n]) (fun zz => c8_placeOf l (hJ.le (by omega)) hlst AX zz S n) (cwV 1 hC.2.2.2.2 gL_placeOf_X8_placeOf rfl rfl rfl hdX8_placeOf ⟨Nat.le_of_ble_eq_true rfl, Nat.le_of_ble_eq_true rfl⟩) rfl rfl (Nat.le_of_ble_eq_true rfl) ⟨Nat.le_of_ble_eq_true rfl, Nat.le_of_ble_eq_true rfl⟩ (fun hne => ?_) dL_placeOf_4 (q := 7) rfl (fun h0 => ?_)
  · have hth : thIn [1] (tWord S n) := by
      unfold tWord
      (repeat first | exact thIn_ix (by decide) _ _ | exact thIn_rg (by decide) _ _ _ | exact thIn_b2 (by decide) _ | exact thIn_b3 (by decide) _ | refine thIn_tor ?_ ?_)
    rcases hth with h | h
    · exact absurd h hne
    · replace h := List.mem_singleton.mp h
      rw [h]; exact ⟨[], ⟨0, 9, 12, 13⟩, [], htab, (fun z hz => nomatch hz), by decide, by decide, (hC.2.2.2.2 _ (List.mem_of_getElem? (i := 1) rfl)), fun q9 => by
          refine vv_astore_n hC (i := 3) (lv' := (3, .ref q9) :: [(0, .ref (ad 0)), (1, .int n), (2, .ref (ad 90))]) dL_placeOf_12 rfl (by decide) rfl (q := 13) rfl ?_
          refine vv_iconst hC (v := nI 1) dL_placeOf_13 rfl (q := 14) rfl ?_
          exact vv_lret hC hK hr hlk rfl ⟨Nat.le_of_ble_eq_true rfl, Nat.le_of_ble_eq_true rfl⟩ (fun f hf => by rw [if_neg (by decide)]; exact hf) dL_placeOf_14⟩
  · refine vv_i2l hC dL_placeOf_7 (q := 8) rfl ?_
    refine vv_lastW hC hK hW dL_placeOf_8 (q := 9) rfl ?_
    refine vv_goto hC (tgt := 15) dL_placeOf_9 (by decide) ?_
    refine vv_iconst hC (v := nI 0) dL_placeOf_15 rfl (q := 16) rfl ?_
    exact vv_lret hC hK hr hlk (by rw [cd, if_pos h0]) ⟨Nat.le_of_ble_eq_true rfl, Nat.le_of_ble_eq_true rfl⟩ (fun f hf => by rw [if_pos h0]; exact hf) dL_placeOf_16
theorem hsL_share : yL_share.cls ≠ "java/lang/invoke/MethodHandle" ∧ yL_share.cls ≠ "java/lang/invoke/VarHandle" ∧ (parseMethodDescriptor yL_share.desc).map (fun d => d.parameters.length) = some 3 := by decide +kernel
set_option maxRecDepth 100000 in
set_option maxHeartbeats 4000000 in
theorem cw_share (l : Launch) {D : va_G} {cI cW cZ cL : ClassId} {ad : Nat → Nat} (hJ : injA ad 91) (hlst : l.stackTraces = false) (AX : Nat → Prop) (z : Nat) (S : sC) (o : Int64) (w : Int32) : kL l yL_share wsL_share ({ frames := 8, cells := 1, slots := 6, locals := 132 }) D cI cW cZ cL ad AX z [.int w, .ref (ad 90)] S o [1] (tIx w 6) (nI (cntBy S w)) S 1 6 := by
  refine vv_enterW (cc := cL_share) (maxL := 4) (ret := some .int) (hh := [(0, 9, 12, 13)]) (own := RL) (lv := [(0, .ref (ad 0)), (1, .int w), (2, .ref (ad 90))]) (by decide +kernel) rfl rfl hJ (Nat.le_of_ble_eq_true rfl) rfl ?_
  intro p e s m args below meth c hC hK hW hr hlk hsz hAX hE hxN htab
  refine vv_aload_n hC 2 dL_share_0 rfl rfl (q := 1) rfl ?_
  refine vv_iconst hC (v := 0) dL_share_1 rfl (q := 2) rfl ?_
  refine vv_aload_n hC 0 dL_share_2 rfl rfl (q := 3) rfl ?_
  refine vv_iload_n hC 1 dL_share_3 rfl rfl (q := 4) rfl ?_
  refine vv_wcall hC hK hJ hE hAX (fun zz hzz q hq => by rcases hq with ⟨j, hj, h⟩ | h; exact Or.inl ⟨j, by omega, h⟩; exact Or.inr (by omega)) (As := [.int w]) (fun zz => c8_share l (hJ.le (by omega)) hlst AX zz S w) (cwV 1 hC.2.2.2.2 gL_share_X8_share rfl rfl rfl hdX8_share ⟨Nat.le_of_ble_eq_true rfl, Nat.le_of_ble_eq_true rfl⟩) rfl rfl (Nat.le_of_ble_eq_true rfl) ⟨Nat.le_of_ble_eq_true rfl, Nat.le_of_ble_eq_true rfl⟩ (fun hne => ?_) dL_share_4 (q := 7) rfl (fun h0 => ?_)
  · have hth : thIn [1] (tIx w 6) := by
      (repeat first | exact thIn_ix (by decide) _ _ | exact thIn_rg (by decide) _ _ _ | exact thIn_b2 (by decide) _ | exact thIn_b3 (by decide) _ | refine thIn_tor ?_ ?_)
    rcases hth with h | h
    · exact absurd h hne
    · replace h := List.mem_singleton.mp h
      rw [h]; exact ⟨[], ⟨0, 9, 12, 13⟩, [], htab, (fun z hz => nomatch hz), by decide, by decide, (hC.2.2.2.2 _ (List.mem_of_getElem? (i := 1) rfl)), fun q9 => by
          refine vv_astore_n hC (i := 3) (lv' := (3, .ref q9) :: [(0, .ref (ad 0)), (1, .int w), (2, .ref (ad 90))]) dL_share_12 rfl (by decide) rfl (q := 13) rfl ?_
          refine vv_iconst hC (v := nI 1) dL_share_13 rfl (q := 14) rfl ?_
          exact vv_lret hC hK hr hlk rfl ⟨Nat.le_of_ble_eq_true rfl, Nat.le_of_ble_eq_true rfl⟩ (fun f hf => by rw [if_neg (by decide)]; exact hf) dL_share_14⟩
  · refine vv_i2l hC dL_share_7 (q := 8) rfl ?_
    refine vv_lastW hC hK hW dL_share_8 (q := 9) rfl ?_
    refine vv_goto hC (tgt := 15) dL_share_9 (by decide) ?_
    refine vv_iconst hC (v := nI 0) dL_share_15 rfl (q := 16) rfl ?_
    exact vv_lret hC hK hr hlk (by rw [cd, if_pos h0]) ⟨Nat.le_of_ble_eq_true rfl, Nat.le_of_ble_eq_true rfl⟩ (fun f hf => by rw [if_pos h0]; exact hf) dL_share_16
theorem hsL_shareAnew : yL_shareAnew.cls ≠ "java/lang/invoke/MethodHandle" ∧ yL_shareAnew.cls ≠ "java/lang/invoke/VarHandle" ∧ (parseMethodDescriptor yL_shareAnew.desc).map (fun d => d.parameters.length) = some 3 := by decide +kernel
set_option maxRecDepth 100000 in
set_option maxHeartbeats 4000000 in
theorem cw_shareAnew (l : Launch) {D : va_G} {cI cW cZ cL : ClassId} {ad : Nat → Nat} (hJ : injA ad 91) (hlst : l.stackTraces = false) (AX : Nat → Prop) (z : Nat) (S : sC) (o : Int64) (w : Int32) : kL l yL_shareAnew wsL_shareAnew ({ frames := 8, cells := 1, slots := 6, locals := 132 }) D cI cW cZ cL ad AX z [.int w, .ref (ad 90)] S o [1] (tIx w 6) (anewBy S w) S 1 6 := by
  refine vv_enterW (cc := cL_shareAnew) (maxL := 4) (ret := some .int) (hh := [(0, 9, 12, 13)]) (own := RL) (lv := [(0, .ref (ad 0)), (1, .int w), (2, .ref (ad 90))]) (by decide +kernel) rfl rfl hJ (Nat.le_of_ble_eq_true rfl) rfl ?_
  intro p e s m args below meth c hC hK hW hr hlk hsz hAX hE hxN htab
  refine vv_aload_n hC 2 dL_shareAnew_0 rfl rfl (q := 1) rfl ?_
  refine vv_iconst hC (v := 0) dL_shareAnew_1 rfl (q := 2) rfl ?_
  refine vv_aload_n hC 0 dL_shareAnew_2 rfl rfl (q := 3) rfl ?_
  refine vv_iload_n hC 1 dL_shareAnew_3 rfl rfl (q := 4) rfl ?_
  refine vv_wcall hC hK hJ hE hAX (fun zz hzz q hq => by rcases hq with ⟨j, hj, h⟩ | h; exact Or.inl ⟨j, by omega, h⟩; exact Or.inr (by omega)) (As := [.int w]) (fun zz => c8_shareAnew l (hJ.le (by omega)) hlst AX zz S w) (cwV 1 hC.2.2.2.2 gL_shareAnew_X8_shareAnew rfl rfl rfl hdX8_shareAnew ⟨Nat.le_of_ble_eq_true rfl, Nat.le_of_ble_eq_true rfl⟩) rfl rfl (Nat.le_of_ble_eq_true rfl) ⟨Nat.le_of_ble_eq_true rfl, Nat.le_of_ble_eq_true rfl⟩ (fun hne => ?_) dL_shareAnew_4 (q := 7) rfl (fun h0 => ?_)
  · have hth : thIn [1] (tIx w 6) := by
      (repeat first | exact thIn_ix (by decide) _ _ | exact thIn_rg (by decide) _ _ _ | exact thIn_b2 (by decide) _ | exact thIn_b3 (by decide) _ | refine thIn_tor ?_ ?_)
    rcases hth with h | h
    · exact absurd h hne
    · replace h := List.mem_singleton.mp h
      rw [h]; exact ⟨[], ⟨0, 9, 12, 13⟩, [], htab, (fun z hz => nomatch hz), by decide, by decide, (hC.2.2.2.2 _ (List.mem_of_getElem? (i := 1) rfl)), fun q9 => by
          refine vv_astore_n hC (i := 3) (lv' := (3, .ref q9) :: [(0, .ref (ad 0)), (1, .int w), (2, .ref (ad 90))]) dL_shareAnew_12 rfl (by decide) rfl (q := 13) rfl ?_
          refine vv_iconst hC (v := nI 1) dL_shareAnew_13 rfl (q := 14) rfl ?_
          exact vv_lret hC hK hr hlk rfl ⟨Nat.le_of_ble_eq_true rfl, Nat.le_of_ble_eq_true rfl⟩ (fun f hf => by rw [if_neg (by decide)]; exact hf) dL_shareAnew_14⟩
  · refine vv_i2l hC dL_shareAnew_7 (q := 8) rfl ?_
    refine vv_lastW hC hK hW dL_shareAnew_8 (q := 9) rfl ?_
    refine vv_goto hC (tgt := 15) dL_shareAnew_9 (by decide) ?_
    refine vv_iconst hC (v := nI 0) dL_shareAnew_15 rfl (q := 16) rfl ?_
    exact vv_lret hC hK hr hlk (by rw [cd, if_pos h0]) ⟨Nat.le_of_ble_eq_true rfl, Nat.le_of_ble_eq_true rfl⟩ (fun f hf => by rw [if_pos h0]; exact hf) dL_shareAnew_16
theorem hsL_setRate : yL_setRate.cls ≠ "java/lang/invoke/MethodHandle" ∧ yL_setRate.cls ≠ "java/lang/invoke/VarHandle" ∧ (parseMethodDescriptor yL_setRate.desc).map (fun d => d.parameters.length) = some 4 := by decide +kernel
set_option maxRecDepth 100000 in
set_option maxHeartbeats 4000000 in
theorem cw_setRate (l : Launch) {D : va_G} {cI cW cZ cL : ClassId} {ad : Nat → Nat} (hJ : injA ad 91) (hlst : l.stackTraces = false) (AX : Nat → Prop) (z : Nat) (S : sC) (o : Int64) (r v : Int32) : kL l yL_setRate wsL_setRate ({ frames := 9, cells := 2, slots := 12, locals := 154 }) D cI cW cZ cL ad AX z [.int r, .int v, .ref (ad 90)] S o [1, 2] (tRate r v) (rAt (S.1 74) r) (sSet S 74 (rSet (S.1 74) r v)) 2 12 := by
  refine vv_enterW (cc := cL_setRate) (maxL := 5) (ret := some .int) (hh := [(0, 10, 13, 13), (0, 10, 17, 15)]) (own := RL) (lv := [(0, .ref (ad 0)), (1, .int r), (2, .int v), (3, .ref (ad 90))]) (by decide +kernel) rfl rfl hJ (Nat.le_of_ble_eq_true rfl) rfl ?_
  intro p e s m args below meth c hC hK hW hr hlk hsz hAX hE hxN htab
  refine vv_aload_n hC 3 dL_setRate_0 rfl rfl (q := 1) rfl ?_
  refine vv_iconst hC (v := 0) dL_setRate_1 rfl (q := 2) rfl ?_
  refine vv_aload_n hC 0 dL_setRate_2 rfl rfl (q := 3) rfl ?_
  refine vv_iload_n hC 1 dL_setRate_3 rfl rfl (q := 4) rfl ?_
  refine vv_iload_n hC 2 dL_setRate_4 rfl rfl (q := 5) rfl ?_
  refine vv_wcall hC hK hJ hE hAX (fun zz hzz q hq => by rcases hq with ⟨j, hj, h⟩ | h; exact Or.inl ⟨j, by omega, h⟩; exact Or.inr (by omega)) (As := [.int r, .int v]) (fun zz => c8_setRate l (hJ.le (by omega)) hlst AX zz S r v) (cwV 2 hC.2.2.2.2 gL_setRate_X8_setRate rfl rfl rfl hdX8_setRate ⟨Nat.le_of_ble_eq_true rfl, Nat.le_of_ble_eq_true rfl⟩) rfl rfl (Nat.le_of_ble_eq_true rfl) ⟨Nat.le_of_ble_eq_true rfl, Nat.le_of_ble_eq_true rfl⟩ (fun hne => ?_) dL_setRate_5 (q := 8) rfl (fun h0 => ?_)
  · have hth : thIn [1, 2] (tRate r v) := by
      unfold tRate
      (repeat first | exact thIn_ix (by decide) _ _ | exact thIn_rg (by decide) _ _ _ | exact thIn_b2 (by decide) _ | exact thIn_b3 (by decide) _ | refine thIn_tor ?_ ?_)
    rcases hth with h | h
    · exact absurd h hne
    · rcases List.mem_cons.mp h with h | h
      · rw [h]; exact ⟨[], ⟨0, 10, 13, 13⟩, [⟨0, 10, 17, 15⟩], htab, (fun z hz => nomatch hz), by decide, by decide, (hC.2.2.2.2 _ (List.mem_of_getElem? (i := 1) rfl)), fun q9 => by
            refine vv_astore hC (i := 4) (lv' := (4, .ref q9) :: [(0, .ref (ad 0)), (1, .int r), (2, .int v), (3, .ref (ad 90))]) dL_setRate_13 (by decide) rfl (q := 15) rfl ?_
            refine vv_iconst hC (v := nI 1) dL_setRate_15 rfl (q := 16) rfl ?_
            exact vv_lret hC hK hr hlk rfl ⟨Nat.le_of_ble_eq_true rfl, Nat.le_of_ble_eq_true rfl⟩ (fun f hf => by rw [if_neg (by decide)]; exact hf) dL_setRate_16⟩
      · replace h := List.mem_singleton.mp h
        rw [h]; exact ⟨[⟨0, 10, 13, 13⟩], ⟨0, 10, 17, 15⟩, [], htab, (fun z hz => by rw [List.mem_singleton.mp hz]; exact Or.inr ⟨by decide, _, (hC.2.2.2.2 _ (List.mem_of_getElem? (i := 1) rfl)), hxN.2.2.1⟩), by decide, by decide, (hC.2.2.2.2 _ (List.mem_of_getElem? (i := 2) rfl)), fun q9 => by
            refine vv_astore hC (i := 4) (lv' := (4, .ref q9) :: [(0, .ref (ad 0)), (1, .int r), (2, .int v), (3, .ref (ad 90))]) dL_setRate_17 (by decide) rfl (q := 19) rfl ?_
            refine vv_iconst hC (v := nI 2) dL_setRate_19 rfl (q := 20) rfl ?_
            exact vv_lret hC hK hr hlk rfl ⟨Nat.le_of_ble_eq_true rfl, Nat.le_of_ble_eq_true rfl⟩ (fun f hf => by rw [if_neg (by decide)]; exact hf) dL_setRate_20⟩
  · refine vv_i2l hC dL_setRate_8 (q := 9) rfl ?_
    refine vv_lastW hC hK hW dL_setRate_9 (q := 10) rfl ?_
    refine vv_goto hC (tgt := 21) dL_setRate_10 (by decide) ?_
    refine vv_iconst hC (v := nI 0) dL_setRate_21 rfl (q := 22) rfl ?_
    exact vv_lret hC hK hr hlk (by rw [cd, if_pos h0]) ⟨Nat.le_of_ble_eq_true rfl, Nat.le_of_ble_eq_true rfl⟩ (fun f hf => by rw [if_pos h0]; exact hf) dL_setRate_22
theorem hsL_order : yL_order.cls ≠ "java/lang/invoke/MethodHandle" ∧ yL_order.cls ≠ "java/lang/invoke/VarHandle" ∧ (parseMethodDescriptor yL_order.desc).map (fun d => d.parameters.length) = some 5 := by decide +kernel
set_option maxRecDepth 100000 in
set_option maxHeartbeats 4000000 in
theorem cw_order (l : Launch) {D : va_G} {cI cW cZ cL : ClassId} {ad : Nat → Nat} (hJ : injA ad 91) (hlst : l.stackTraces = false) (AX : Nat → Prop) (z : Nat) (S : sC) (o : Int64) (r a b : Int32) : kL l yL_order wsL_order ({ frames := 10, cells := 6, slots := 36, locals := 178 }) D cI cW cZ cL ad AX z [.int r, .int a, .int b, .ref (ad 90)] S o [1, 2, 3] (tOrder S r a b) (rOrder S r a b) (sOrder S r a b) 6 36 := by
  refine vv_enterW (cc := cL_order) (maxL := 6) (ret := some .int) (hh := [(0, 12, 15, 13), (0, 12, 19, 15), (0, 12, 23, 17)]) (own := RL) (lv := [(0, .ref (ad 0)), (1, .int r), (2, .int a), (3, .int b), (4, .ref (ad 90))]) (by decide +kernel) rfl rfl hJ (Nat.le_of_ble_eq_true rfl) rfl ?_
  intro p e s m args below meth c hC hK hW hr hlk hsz hAX hE hxN htab
  refine vv_aload hC 4 dL_order_0 rfl (q := 2) rfl ?_
  refine vv_iconst hC (v := 0) dL_order_2 rfl (q := 3) rfl ?_
  refine vv_aload_n hC 0 dL_order_3 rfl rfl (q := 4) rfl ?_
  refine vv_iload_n hC 1 dL_order_4 rfl rfl (q := 5) rfl ?_
  refine vv_iload_n hC 2 dL_order_5 rfl rfl (q := 6) rfl ?_
  refine vv_iload_n hC 3 dL_order_6 rfl rfl (q := 7) rfl ?_
  refine vv_wcall hC hK hJ hE hAX (fun zz hzz q hq => by rcases hq with ⟨j, hj, h⟩ | h; exact Or.inl ⟨j, by omega, h⟩; exact Or.inr (by omega)) (As := [.int r, .int a, .int b]) (fun zz => c8_order l (hJ.le (by omega)) hlst AX zz S r a b) (cwV 3 hC.2.2.2.2 gL_order_X8_order rfl rfl rfl hdX8_order ⟨Nat.le_of_ble_eq_true rfl, Nat.le_of_ble_eq_true rfl⟩) rfl rfl (Nat.le_of_ble_eq_true rfl) ⟨Nat.le_of_ble_eq_true rfl, Nat.le_of_ble_eq_true rfl⟩ (fun hne => ?_) dL_order_7 (q := 10) rfl (fun h0 => ?_)
  · have hth : thIn [1, 2, 3] (tOrder S r a b) := by
      unfold tOrder tSpan tText
      (repeat first | exact thIn_ix (by decide) _ _ | exact thIn_rg (by decide) _ _ _ | exact thIn_b2 (by decide) _ | exact thIn_b3 (by decide) _ | refine thIn_tor ?_ ?_)
    rcases hth with h | h
    · exact absurd h hne
    · rcases List.mem_cons.mp h with h | h
      · rw [h]; exact ⟨[], ⟨0, 12, 15, 13⟩, [⟨0, 12, 19, 15⟩, ⟨0, 12, 23, 17⟩], htab, (fun z hz => nomatch hz), by decide, by decide, (hC.2.2.2.2 _ (List.mem_of_getElem? (i := 1) rfl)), fun q9 => by
            refine vv_astore hC (i := 5) (lv' := (5, .ref q9) :: [(0, .ref (ad 0)), (1, .int r), (2, .int a), (3, .int b), (4, .ref (ad 90))]) dL_order_15 (by decide) rfl (q := 17) rfl ?_
            refine vv_iconst hC (v := nI 1) dL_order_17 rfl (q := 18) rfl ?_
            exact vv_lret hC hK hr hlk rfl ⟨Nat.le_of_ble_eq_true rfl, Nat.le_of_ble_eq_true rfl⟩ (fun f hf => by rw [if_neg (by decide)]; exact hf) dL_order_18⟩
      · rcases List.mem_cons.mp h with h | h
        · rw [h]; exact ⟨[⟨0, 12, 15, 13⟩], ⟨0, 12, 19, 15⟩, [⟨0, 12, 23, 17⟩], htab, (fun z hz => by rw [List.mem_singleton.mp hz]; exact Or.inr ⟨by decide, _, (hC.2.2.2.2 _ (List.mem_of_getElem? (i := 1) rfl)), hxN.2.2.1⟩), by decide, by decide, (hC.2.2.2.2 _ (List.mem_of_getElem? (i := 2) rfl)), fun q9 => by
              refine vv_astore hC (i := 5) (lv' := (5, .ref q9) :: [(0, .ref (ad 0)), (1, .int r), (2, .int a), (3, .int b), (4, .ref (ad 90))]) dL_order_19 (by decide) rfl (q := 21) rfl ?_
              refine vv_iconst hC (v := nI 2) dL_order_21 rfl (q := 22) rfl ?_
              exact vv_lret hC hK hr hlk rfl ⟨Nat.le_of_ble_eq_true rfl, Nat.le_of_ble_eq_true rfl⟩ (fun f hf => by rw [if_neg (by decide)]; exact hf) dL_order_22⟩
        · replace h := List.mem_singleton.mp h
          rw [h]; exact ⟨[⟨0, 12, 15, 13⟩, ⟨0, 12, 19, 15⟩], ⟨0, 12, 23, 17⟩, [], htab, (fun z hz => by rcases List.mem_cons.mp hz with rfl | hz; exact Or.inr ⟨by decide, _, (hC.2.2.2.2 _ (List.mem_of_getElem? (i := 1) rfl)), hxN.2.2.2.2.1⟩; rw [List.mem_singleton.mp hz]; exact Or.inr ⟨by decide, _, (hC.2.2.2.2 _ (List.mem_of_getElem? (i := 2) rfl)), hxN.2.2.2.2.2⟩), by decide, by decide, (hC.2.2.2.2 _ (List.mem_of_getElem? (i := 3) rfl)), fun q9 => by
              refine vv_astore hC (i := 5) (lv' := (5, .ref q9) :: [(0, .ref (ad 0)), (1, .int r), (2, .int a), (3, .int b), (4, .ref (ad 90))]) dL_order_23 (by decide) rfl (q := 25) rfl ?_
              refine vv_iconst hC (v := nI 3) dL_order_25 rfl (q := 26) rfl ?_
              exact vv_lret hC hK hr hlk rfl ⟨Nat.le_of_ble_eq_true rfl, Nat.le_of_ble_eq_true rfl⟩ (fun f hf => by rw [if_neg (by decide)]; exact hf) dL_order_26⟩
  · refine vv_i2l hC dL_order_10 (q := 11) rfl ?_
    refine vv_lastW hC hK hW dL_order_11 (q := 12) rfl ?_
    refine vv_goto hC (tgt := 27) dL_order_12 (by decide) ?_
    refine vv_iconst hC (v := nI 0) dL_order_27 rfl (q := 28) rfl ?_
    exact vv_lret hC hK hr hlk (by rw [cd, if_pos h0]) ⟨Nat.le_of_ble_eq_true rfl, Nat.le_of_ble_eq_true rfl⟩ (fun f hf => by rw [if_pos h0]; exact hf) dL_order_28
theorem hsL_finish : yL_finish.cls ≠ "java/lang/invoke/MethodHandle" ∧ yL_finish.cls ≠ "java/lang/invoke/VarHandle" ∧ (parseMethodDescriptor yL_finish.desc).map (fun d => d.parameters.length) = some 4 := by decide +kernel
set_option maxRecDepth 100000 in
set_option maxHeartbeats 4000000 in
theorem cw_finish (l : Launch) {D : va_G} {cI cW cZ cL : ClassId} {ad : Nat → Nat} (hJ : injA ad 91) (hlst : l.stackTraces = false) (AX : Nat → Prop) (z : Nat) (S : sC) (o : Int64) (r u : Int32) : kL l yL_finish wsL_finish ({ frames := 9, cells := 3, slots := 18, locals := 154 }) D cI cW cZ cL ad AX z [.int r, .int u, .ref (ad 90)] S o [1, 2, 3] (tFinish S r u) (rAt ((rvDone S r u).1 76) (rAt (S.1 62) r)) (rvDone S r u) 3 18 := by
  refine vv_enterW (cc := cL_finish) (maxL := 5) (ret := some .int) (hh := [(0, 10, 13, 13), (0, 10, 17, 15), (0, 10, 21, 17)]) (own := RL) (lv := [(0, .ref (ad 0)), (1, .int r), (2, .int u), (3, .ref (ad 90))]) (by decide +kernel) rfl rfl hJ (Nat.le_of_ble_eq_true rfl) rfl ?_
  intro p e s m args below meth c hC hK hW hr hlk hsz hAX hE hxN htab
  refine vv_aload_n hC 3 dL_finish_0 rfl rfl (q := 1) rfl ?_
  refine vv_iconst hC (v := 0) dL_finish_1 rfl (q := 2) rfl ?_
  refine vv_aload_n hC 0 dL_finish_2 rfl rfl (q := 3) rfl ?_
  refine vv_iload_n hC 1 dL_finish_3 rfl rfl (q := 4) rfl ?_
  refine vv_iload_n hC 2 dL_finish_4 rfl rfl (q := 5) rfl ?_
  refine vv_wcall hC hK hJ hE hAX (fun zz hzz q hq => by rcases hq with ⟨j, hj, h⟩ | h; exact Or.inl ⟨j, by omega, h⟩; exact Or.inr (by omega)) (As := [.int r, .int u]) (fun zz => c8_finish l (hJ.le (by omega)) hlst AX zz S r u) (cwV 2 hC.2.2.2.2 gL_finish_X8_finish rfl rfl rfl hdX8_finish ⟨Nat.le_of_ble_eq_true rfl, Nat.le_of_ble_eq_true rfl⟩) rfl rfl (Nat.le_of_ble_eq_true rfl) ⟨Nat.le_of_ble_eq_true rfl, Nat.le_of_ble_eq_true rfl⟩ (fun hne => ?_) dL_finish_5 (q := 8) rfl (fun h0 => ?_)
  · have hth : thIn [1, 2, 3] (tFinish S r u) := by
      unfold tFinish
      (repeat first | exact thIn_ix (by decide) _ _ | exact thIn_rg (by decide) _ _ _ | exact thIn_b2 (by decide) _ | exact thIn_b3 (by decide) _ | refine thIn_tor ?_ ?_)
    rcases hth with h | h
    · exact absurd h hne
    · rcases List.mem_cons.mp h with h | h
      · rw [h]; exact ⟨[], ⟨0, 10, 13, 13⟩, [⟨0, 10, 17, 15⟩, ⟨0, 10, 21, 17⟩], htab, (fun z hz => nomatch hz), by decide, by decide, (hC.2.2.2.2 _ (List.mem_of_getElem? (i := 1) rfl)), fun q9 => by
            refine vv_astore hC (i := 4) (lv' := (4, .ref q9) :: [(0, .ref (ad 0)), (1, .int r), (2, .int u), (3, .ref (ad 90))]) dL_finish_13 (by decide) rfl (q := 15) rfl ?_
            refine vv_iconst hC (v := nI 1) dL_finish_15 rfl (q := 16) rfl ?_
            exact vv_lret hC hK hr hlk rfl ⟨Nat.le_of_ble_eq_true rfl, Nat.le_of_ble_eq_true rfl⟩ (fun f hf => by rw [if_neg (by decide)]; exact hf) dL_finish_16⟩
      · rcases List.mem_cons.mp h with h | h
        · rw [h]; exact ⟨[⟨0, 10, 13, 13⟩], ⟨0, 10, 17, 15⟩, [⟨0, 10, 21, 17⟩], htab, (fun z hz => by rw [List.mem_singleton.mp hz]; exact Or.inr ⟨by decide, _, (hC.2.2.2.2 _ (List.mem_of_getElem? (i := 1) rfl)), hxN.2.2.1⟩), by decide, by decide, (hC.2.2.2.2 _ (List.mem_of_getElem? (i := 2) rfl)), fun q9 => by
              refine vv_astore hC (i := 4) (lv' := (4, .ref q9) :: [(0, .ref (ad 0)), (1, .int r), (2, .int u), (3, .ref (ad 90))]) dL_finish_17 (by decide) rfl (q := 19) rfl ?_
              refine vv_iconst hC (v := nI 2) dL_finish_19 rfl (q := 20) rfl ?_
              exact vv_lret hC hK hr hlk rfl ⟨Nat.le_of_ble_eq_true rfl, Nat.le_of_ble_eq_true rfl⟩ (fun f hf => by rw [if_neg (by decide)]; exact hf) dL_finish_20⟩
        · replace h := List.mem_singleton.mp h
          rw [h]; exact ⟨[⟨0, 10, 13, 13⟩, ⟨0, 10, 17, 15⟩], ⟨0, 10, 21, 17⟩, [], htab, (fun z hz => by rcases List.mem_cons.mp hz with rfl | hz; exact Or.inr ⟨by decide, _, (hC.2.2.2.2 _ (List.mem_of_getElem? (i := 1) rfl)), hxN.2.2.2.2.1⟩; rw [List.mem_singleton.mp hz]; exact Or.inr ⟨by decide, _, (hC.2.2.2.2 _ (List.mem_of_getElem? (i := 2) rfl)), hxN.2.2.2.2.2⟩), by decide, by decide, (hC.2.2.2.2 _ (List.mem_of_getElem? (i := 3) rfl)), fun q9 => by
              refine vv_astore hC (i := 4) (lv' := (4, .ref q9) :: [(0, .ref (ad 0)), (1, .int r), (2, .int u), (3, .ref (ad 90))]) dL_finish_21 (by decide) rfl (q := 23) rfl ?_
              refine vv_iconst hC (v := nI 3) dL_finish_23 rfl (q := 24) rfl ?_
              exact vv_lret hC hK hr hlk rfl ⟨Nat.le_of_ble_eq_true rfl, Nat.le_of_ble_eq_true rfl⟩ (fun f hf => by rw [if_neg (by decide)]; exact hf) dL_finish_24⟩
  · refine vv_i2l hC dL_finish_8 (q := 9) rfl ?_
    refine vv_lastW hC hK hW dL_finish_9 (q := 10) rfl ?_
    refine vv_goto hC (tgt := 25) dL_finish_10 (by decide) ?_
    refine vv_iconst hC (v := nI 0) dL_finish_25 rfl (q := 26) rfl ?_
    exact vv_lret hC hK hr hlk (by rw [cd, if_pos h0]) ⟨Nat.le_of_ble_eq_true rfl, Nat.le_of_ble_eq_true rfl⟩ (fun f hf => by rw [if_pos h0]; exact hf) dL_finish_26
theorem hsL_cancel : yL_cancel.cls ≠ "java/lang/invoke/MethodHandle" ∧ yL_cancel.cls ≠ "java/lang/invoke/VarHandle" ∧ (parseMethodDescriptor yL_cancel.desc).map (fun d => d.parameters.length) = some 3 := by decide +kernel
set_option maxRecDepth 100000 in
set_option maxHeartbeats 4000000 in
theorem cw_cancel (l : Launch) {D : va_G} {cI cW cZ cL : ClassId} {ad : Nat → Nat} (hJ : injA ad 91) (hlst : l.stackTraces = false) (AX : Nat → Prop) (z : Nat) (S : sC) (o : Int64) (r : Int32) : kL l yL_cancel wsL_cancel ({ frames := 8, cells := 2, slots := 12, locals := 132 }) D cI cW cZ cL ad AX z [.int r, .ref (ad 90)] S o [1, 3] (tCancel S r) (nI (unfreeze (sSet S 68 (rSet (S.1 68) r 2)) r).1) ((unfreeze (sSet S 68 (rSet (S.1 68) r 2)) r).2) 2 12 := by
  refine vv_enterW (cc := cL_cancel) (maxL := 4) (ret := some .int) (hh := [(0, 9, 12, 13), (0, 9, 15, 17)]) (own := RL) (lv := [(0, .ref (ad 0)), (1, .int r), (2, .ref (ad 90))]) (by decide +kernel) rfl rfl hJ (Nat.le_of_ble_eq_true rfl) rfl ?_
  intro p e s m args below meth c hC hK hW hr hlk hsz hAX hE hxN htab
  refine vv_aload_n hC 2 dL_cancel_0 rfl rfl (q := 1) rfl ?_
  refine vv_iconst hC (v := 0) dL_cancel_1 rfl (q := 2) rfl ?_
  refine vv_aload_n hC 0 dL_cancel_2 rfl rfl (q := 3) rfl ?_
  refine vv_iload_n hC 1 dL_cancel_3 rfl rfl (q := 4) rfl ?_
  refine vv_wcall hC hK hJ hE hAX (fun zz hzz q hq => by rcases hq with ⟨j, hj, h⟩ | h; exact Or.inl ⟨j, by omega, h⟩; exact Or.inr (by omega)) (As := [.int r]) (fun zz => c8_cancel l (hJ.le (by omega)) hlst AX zz S r) (cwV 1 hC.2.2.2.2 gL_cancel_X8_cancel rfl rfl rfl hdX8_cancel ⟨Nat.le_of_ble_eq_true rfl, Nat.le_of_ble_eq_true rfl⟩) rfl rfl (Nat.le_of_ble_eq_true rfl) ⟨Nat.le_of_ble_eq_true rfl, Nat.le_of_ble_eq_true rfl⟩ (fun hne => ?_) dL_cancel_4 (q := 7) rfl (fun h0 => ?_)
  · have hth : thIn [1, 3] (tCancel S r) := by
      unfold tCancel
      (repeat first | exact thIn_ix (by decide) _ _ | exact thIn_rg (by decide) _ _ _ | exact thIn_b2 (by decide) _ | exact thIn_b3 (by decide) _ | refine thIn_tor ?_ ?_)
    rcases hth with h | h
    · exact absurd h hne
    · rcases List.mem_cons.mp h with h | h
      · rw [h]; exact ⟨[], ⟨0, 9, 12, 13⟩, [⟨0, 9, 15, 17⟩], htab, (fun z hz => nomatch hz), by decide, by decide, (hC.2.2.2.2 _ (List.mem_of_getElem? (i := 1) rfl)), fun q9 => by
            refine vv_astore_n hC (i := 3) (lv' := (3, .ref q9) :: [(0, .ref (ad 0)), (1, .int r), (2, .ref (ad 90))]) dL_cancel_12 rfl (by decide) rfl (q := 13) rfl ?_
            refine vv_iconst hC (v := nI 1) dL_cancel_13 rfl (q := 14) rfl ?_
            exact vv_lret hC hK hr hlk rfl ⟨Nat.le_of_ble_eq_true rfl, Nat.le_of_ble_eq_true rfl⟩ (fun f hf => by rw [if_neg (by decide)]; exact hf) dL_cancel_14⟩
      · replace h := List.mem_singleton.mp h
        rw [h]; exact ⟨[⟨0, 9, 12, 13⟩], ⟨0, 9, 15, 17⟩, [], htab, (fun z hz => by rw [List.mem_singleton.mp hz]; exact Or.inr ⟨by decide, _, (hC.2.2.2.2 _ (List.mem_of_getElem? (i := 1) rfl)), hxN.2.2.2.2.1⟩), by decide, by decide, (hC.2.2.2.2 _ (List.mem_of_getElem? (i := 2) rfl)), fun q9 => by
            refine vv_astore_n hC (i := 3) (lv' := (3, .ref q9) :: [(0, .ref (ad 0)), (1, .int r), (2, .ref (ad 90))]) dL_cancel_15 rfl (by decide) rfl (q := 16) rfl ?_
            refine vv_iconst hC (v := nI 2) dL_cancel_16 rfl (q := 17) rfl ?_
            exact vv_lret hC hK hr hlk rfl ⟨Nat.le_of_ble_eq_true rfl, Nat.le_of_ble_eq_true rfl⟩ (fun f hf => by rw [if_neg (by decide)]; exact hf) dL_cancel_17⟩
  · refine vv_i2l hC dL_cancel_7 (q := 8) rfl ?_
    refine vv_lastW hC hK hW dL_cancel_8 (q := 9) rfl ?_
    refine vv_goto hC (tgt := 18) dL_cancel_9 (by decide) ?_
    refine vv_iconst hC (v := nI 0) dL_cancel_18 rfl (q := 19) rfl ?_
    exact vv_lret hC hK hr hlk (by rw [cd, if_pos h0]) ⟨Nat.le_of_ble_eq_true rfl, Nat.le_of_ble_eq_true rfl⟩ (fun f hf => by rw [if_pos h0]; exact hf) dL_cancel_19
theorem hsL_stateOf : yL_stateOf.cls ≠ "java/lang/invoke/MethodHandle" ∧ yL_stateOf.cls ≠ "java/lang/invoke/VarHandle" ∧ (parseMethodDescriptor yL_stateOf.desc).map (fun d => d.parameters.length) = some 3 := by decide +kernel
set_option maxRecDepth 100000 in
set_option maxHeartbeats 4000000 in
theorem cw_stateOf (l : Launch) {D : va_G} {cI cW cZ cL : ClassId} {ad : Nat → Nat} (hJ : injA ad 91) (hlst : l.stackTraces = false) (AX : Nat → Prop) (z : Nat) (S : sC) (o : Int64) (r : Int32) : kL l yL_stateOf wsL_stateOf ({ frames := 8, cells := 1, slots := 6, locals := 132 }) D cI cW cZ cL ad AX z [.int r, .ref (ad 90)] S o [1] (tIx r (nI (S.1 62).length)) (rAt (S.1 68) r) S 1 6 := by
  refine vv_enterW (cc := cL_stateOf) (maxL := 4) (ret := some .int) (hh := [(0, 9, 12, 13)]) (own := RL) (lv := [(0, .ref (ad 0)), (1, .int r), (2, .ref (ad 90))]) (by decide +kernel) rfl rfl hJ (Nat.le_of_ble_eq_true rfl) rfl ?_
  intro p e s m args below meth c hC hK hW hr hlk hsz hAX hE hxN htab
  refine vv_aload_n hC 2 dL_stateOf_0 rfl rfl (q := 1) rfl ?_
  refine vv_iconst hC (v := 0) dL_stateOf_1 rfl (q := 2) rfl ?_
  refine vv_aload_n hC 0 dL_stateOf_2 rfl rfl (q := 3) rfl ?_
  refine vv_iload_n hC 1 dL_stateOf_3 rfl rfl (q := 4) rfl ?_
  refine vv_wcall hC hK hJ hE hAX (fun zz hzz q hq => by rcases hq with ⟨j, hj, h⟩ | h; exact Or.inl ⟨j, by omega, h⟩; exact Or.inr (by omega)) (As := [.int r]) (fun zz => c8_stateOf l (hJ.le (by omega)) hlst AX zz S r) (cwV 1 hC.2.2.2.2 gL_stateOf_X8_stateOf rfl rfl rfl hdX8_stateOf ⟨Nat.le_of_ble_eq_true rfl, Nat.le_of_ble_eq_true rfl⟩) rfl rfl (Nat.le_of_ble_eq_true rfl) ⟨Nat.le_of_ble_eq_true rfl, Nat.le_of_ble_eq_true rfl⟩ (fun hne => ?_) dL_stateOf_4 (q := 7) rfl (fun h0 => ?_)
  · have hth : thIn [1] (tIx r (nI (S.1 62).length)) := by
      (repeat first | exact thIn_ix (by decide) _ _ | exact thIn_rg (by decide) _ _ _ | exact thIn_b2 (by decide) _ | exact thIn_b3 (by decide) _ | refine thIn_tor ?_ ?_)
    rcases hth with h | h
    · exact absurd h hne
    · replace h := List.mem_singleton.mp h
      rw [h]; exact ⟨[], ⟨0, 9, 12, 13⟩, [], htab, (fun z hz => nomatch hz), by decide, by decide, (hC.2.2.2.2 _ (List.mem_of_getElem? (i := 1) rfl)), fun q9 => by
          refine vv_astore_n hC (i := 3) (lv' := (3, .ref q9) :: [(0, .ref (ad 0)), (1, .int r), (2, .ref (ad 90))]) dL_stateOf_12 rfl (by decide) rfl (q := 13) rfl ?_
          refine vv_iconst hC (v := nI 1) dL_stateOf_13 rfl (q := 14) rfl ?_
          exact vv_lret hC hK hr hlk rfl ⟨Nat.le_of_ble_eq_true rfl, Nat.le_of_ble_eq_true rfl⟩ (fun f hf => by rw [if_neg (by decide)]; exact hf) dL_stateOf_14⟩
  · refine vv_i2l hC dL_stateOf_7 (q := 8) rfl ?_
    refine vv_lastW hC hK hW dL_stateOf_8 (q := 9) rfl ?_
    refine vv_goto hC (tgt := 15) dL_stateOf_9 (by decide) ?_
    refine vv_iconst hC (v := nI 0) dL_stateOf_15 rfl (q := 16) rfl ?_
    exact vv_lret hC hK hr hlk (by rw [cd, if_pos h0]) ⟨Nat.le_of_ble_eq_true rfl, Nat.le_of_ble_eq_true rfl⟩ (fun f hf => by rw [if_pos h0]; exact hf) dL_stateOf_16
theorem hsL_frozenBy : yL_frozenBy.cls ≠ "java/lang/invoke/MethodHandle" ∧ yL_frozenBy.cls ≠ "java/lang/invoke/VarHandle" ∧ (parseMethodDescriptor yL_frozenBy.desc).map (fun d => d.parameters.length) = some 3 := by decide +kernel
set_option maxRecDepth 100000 in
set_option maxHeartbeats 4000000 in
theorem cw_frozenBy (l : Launch) {D : va_G} {cI cW cZ cL : ClassId} {ad : Nat → Nat} (hJ : injA ad 91) (hlst : l.stackTraces = false) (AX : Nat → Prop) (z : Nat) (S : sC) (o : Int64) (n : Int32) : kL l yL_frozenBy wsL_frozenBy ({ frames := 9, cells := 1, slots := 6, locals := 153 }) D cI cW cZ cL ad AX z [.int n, .ref (ad 90)] S o [1] (tWord S n) (rAt (S.1 11) n) S 1 6 := by
  refine vv_enterW (cc := cL_frozenBy) (maxL := 4) (ret := some .int) (hh := [(0, 9, 12, 13)]) (own := RL) (lv := [(0, .ref (ad 0)), (1, .int n), (2, .ref (ad 90))]) (by decide +kernel) rfl rfl hJ (Nat.le_of_ble_eq_true rfl) rfl ?_
  intro p e s m args below meth c hC hK hW hr hlk hsz hAX hE hxN htab
  refine vv_aload_n hC 2 dL_frozenBy_0 rfl rfl (q := 1) rfl ?_
  refine vv_iconst hC (v := 0) dL_frozenBy_1 rfl (q := 2) rfl ?_
  refine vv_aload_n hC 0 dL_frozenBy_2 rfl rfl (q := 3) rfl ?_
  refine vv_iload_n hC 1 dL_frozenBy_3 rfl rfl (q := 4) rfl ?_
  refine vv_wcall hC hK hJ hE hAX (fun zz hzz q hq => by rcases hq with ⟨j, hj, h⟩ | h; exact Or.inl ⟨j, by omega, h⟩; exact Or.inr (by omega)) (As := [.int n]) (fun zz => c8_frozenBy l (hJ.le (by omega)) hlst AX zz S n) (cwV 1 hC.2.2.2.2 gL_frozenBy_X8_frozenBy rfl rfl rfl hdX8_frozenBy ⟨Nat.le_of_ble_eq_true rfl, Nat.le_of_ble_eq_true rfl⟩) rfl rfl (Nat.le_of_ble_eq_true rfl) ⟨Nat.le_of_ble_eq_true rfl, Nat.le_of_ble_eq_true rfl⟩ (fun hne => ?_) dL_frozenBy_4 (q := 7) rfl (fun h0 => ?_)
  · have hth : thIn [1] (tWord S n) := by
      unfold tWord
      (repeat first | exact thIn_ix (by decide) _ _ | exact thIn_rg (by decide) _ _ _ | exact thIn_b2 (by decide) _ | exact thIn_b3 (by decide) _ | refine thIn_tor ?_ ?_)
    rcases hth with h | h
    · exact absurd h hne
    · replace h := List.mem_singleton.mp h
      rw [h]; exact ⟨[], ⟨0, 9, 12, 13⟩, [], htab, (fun z hz => nomatch hz), by decide, by decide, (hC.2.2.2.2 _ (List.mem_of_getElem? (i := 1) rfl)), fun q9 => by
          refine vv_astore_n hC (i := 3) (lv' := (3, .ref q9) :: [(0, .ref (ad 0)), (1, .int n), (2, .ref (ad 90))]) dL_frozenBy_12 rfl (by decide) rfl (q := 13) rfl ?_
          refine vv_iconst hC (v := nI 1) dL_frozenBy_13 rfl (q := 14) rfl ?_
          exact vv_lret hC hK hr hlk rfl ⟨Nat.le_of_ble_eq_true rfl, Nat.le_of_ble_eq_true rfl⟩ (fun f hf => by rw [if_neg (by decide)]; exact hf) dL_frozenBy_14⟩
  · refine vv_i2l hC dL_frozenBy_7 (q := 8) rfl ?_
    refine vv_lastW hC hK hW dL_frozenBy_8 (q := 9) rfl ?_
    refine vv_goto hC (tgt := 15) dL_frozenBy_9 (by decide) ?_
    refine vv_iconst hC (v := nI 0) dL_frozenBy_15 rfl (q := 16) rfl ?_
    exact vv_lret hC hK hr hlk (by rw [cd, if_pos h0]) ⟨Nat.le_of_ble_eq_true rfl, Nat.le_of_ble_eq_true rfl⟩ (fun f hf => by rw [if_pos h0]; exact hf) dL_frozenBy_16
theorem hsL_earned : yL_earned.cls ≠ "java/lang/invoke/MethodHandle" ∧ yL_earned.cls ≠ "java/lang/invoke/VarHandle" ∧ (parseMethodDescriptor yL_earned.desc).map (fun d => d.parameters.length) = some 3 := by decide +kernel
set_option maxRecDepth 100000 in
set_option maxHeartbeats 4000000 in
theorem cw_earned (l : Launch) {D : va_G} {cI cW cZ cL : ClassId} {ad : Nat → Nat} (hJ : injA ad 91) (hlst : l.stackTraces = false) (AX : Nat → Prop) (z : Nat) (S : sC) (o : Int64) (r : Int32) : kL l yL_earned wsL_earned ({ frames := 8, cells := 1, slots := 6, locals := 132 }) D cI cW cZ cL ad AX z [.int r, .ref (ad 90)] S o [1] (tIx r 4) (rAt (S.1 76) r) S 1 6 := by
  refine vv_enterW (cc := cL_earned) (maxL := 4) (ret := some .int) (hh := [(0, 9, 12, 13)]) (own := RL) (lv := [(0, .ref (ad 0)), (1, .int r), (2, .ref (ad 90))]) (by decide +kernel) rfl rfl hJ (Nat.le_of_ble_eq_true rfl) rfl ?_
  intro p e s m args below meth c hC hK hW hr hlk hsz hAX hE hxN htab
  refine vv_aload_n hC 2 dL_earned_0 rfl rfl (q := 1) rfl ?_
  refine vv_iconst hC (v := 0) dL_earned_1 rfl (q := 2) rfl ?_
  refine vv_aload_n hC 0 dL_earned_2 rfl rfl (q := 3) rfl ?_
  refine vv_iload_n hC 1 dL_earned_3 rfl rfl (q := 4) rfl ?_
  refine vv_wcall hC hK hJ hE hAX (fun zz hzz q hq => by rcases hq with ⟨j, hj, h⟩ | h; exact Or.inl ⟨j, by omega, h⟩; exact Or.inr (by omega)) (As := [.int r]) (fun zz => c8_earned l (hJ.le (by omega)) hlst AX zz S r) (cwV 1 hC.2.2.2.2 gL_earned_X8_earned rfl rfl rfl hdX8_earned ⟨Nat.le_of_ble_eq_true rfl, Nat.le_of_ble_eq_true rfl⟩) rfl rfl (Nat.le_of_ble_eq_true rfl) ⟨Nat.le_of_ble_eq_true rfl, Nat.le_of_ble_eq_true rfl⟩ (fun hne => ?_) dL_earned_4 (q := 7) rfl (fun h0 => ?_)
  · have hth : thIn [1] (tIx r 4) := by
      (repeat first | exact thIn_ix (by decide) _ _ | exact thIn_rg (by decide) _ _ _ | exact thIn_b2 (by decide) _ | exact thIn_b3 (by decide) _ | refine thIn_tor ?_ ?_)
    rcases hth with h | h
    · exact absurd h hne
    · replace h := List.mem_singleton.mp h
      rw [h]; exact ⟨[], ⟨0, 9, 12, 13⟩, [], htab, (fun z hz => nomatch hz), by decide, by decide, (hC.2.2.2.2 _ (List.mem_of_getElem? (i := 1) rfl)), fun q9 => by
          refine vv_astore_n hC (i := 3) (lv' := (3, .ref q9) :: [(0, .ref (ad 0)), (1, .int r), (2, .ref (ad 90))]) dL_earned_12 rfl (by decide) rfl (q := 13) rfl ?_
          refine vv_iconst hC (v := nI 1) dL_earned_13 rfl (q := 14) rfl ?_
          exact vv_lret hC hK hr hlk rfl ⟨Nat.le_of_ble_eq_true rfl, Nat.le_of_ble_eq_true rfl⟩ (fun f hf => by rw [if_neg (by decide)]; exact hf) dL_earned_14⟩
  · refine vv_i2l hC dL_earned_7 (q := 8) rfl ?_
    refine vv_lastW hC hK hW dL_earned_8 (q := 9) rfl ?_
    refine vv_goto hC (tgt := 15) dL_earned_9 (by decide) ?_
    refine vv_iconst hC (v := nI 0) dL_earned_15 rfl (q := 16) rfl ?_
    exact vv_lret hC hK hr hlk (by rw [cd, if_pos h0]) ⟨Nat.le_of_ble_eq_true rfl, Nat.le_of_ble_eq_true rfl⟩ (fun f hf => by rw [if_pos h0]; exact hf) dL_earned_16
theorem hsL_addIssue : yL_addIssue.cls ≠ "java/lang/invoke/MethodHandle" ∧ yL_addIssue.cls ≠ "java/lang/invoke/VarHandle" ∧ (parseMethodDescriptor yL_addIssue.desc).map (fun d => d.parameters.length) = some 4 := by decide +kernel
set_option maxRecDepth 100000 in
set_option maxHeartbeats 4000000 in
theorem cw_addIssue (l : Launch) {D : va_G} {cI cW cZ cL : ClassId} {ad : Nat → Nat} (hJ : injA ad 91) (hlst : l.stackTraces = false) (AX : Nat → Prop) (z : Nat) (S : sC) (o : Int64) (d z0 : Int32) : kL l yL_addIssue wsL_addIssue ({ frames := 9, cells := 4, slots := 24, locals := 154 }) D cI cW cZ cL ad AX z [.int d, .int z0, .ref (ad 90)] S o [2, 3] (tIssue S d z0) (nI ((isAdd S d z0).1 79).length - 1) (isAdd S d z0) 4 24 := by
  refine vv_enterW (cc := cL_addIssue) (maxL := 5) (ret := some .int) (hh := [(0, 10, 13, 15), (0, 10, 17, 17)]) (own := RL) (lv := [(0, .ref (ad 0)), (1, .int d), (2, .int z0), (3, .ref (ad 90))]) (by decide +kernel) rfl rfl hJ (Nat.le_of_ble_eq_true rfl) rfl ?_
  intro p e s m args below meth c hC hK hW hr hlk hsz hAX hE hxN htab
  refine vv_aload_n hC 3 dL_addIssue_0 rfl rfl (q := 1) rfl ?_
  refine vv_iconst hC (v := 0) dL_addIssue_1 rfl (q := 2) rfl ?_
  refine vv_aload_n hC 0 dL_addIssue_2 rfl rfl (q := 3) rfl ?_
  refine vv_iload_n hC 1 dL_addIssue_3 rfl rfl (q := 4) rfl ?_
  refine vv_iload_n hC 2 dL_addIssue_4 rfl rfl (q := 5) rfl ?_
  refine vv_wcall hC hK hJ hE hAX (fun zz hzz q hq => by rcases hq with ⟨j, hj, h⟩ | h; exact Or.inl ⟨j, by omega, h⟩; exact Or.inr (by omega)) (As := [.int d, .int z0]) (fun zz => c8_addIssue l (hJ.le (by omega)) hlst AX zz S d z0) (cwV 2 hC.2.2.2.2 gL_addIssue_X8_addIssue rfl rfl rfl hdX8_addIssue ⟨Nat.le_of_ble_eq_true rfl, Nat.le_of_ble_eq_true rfl⟩) rfl rfl (Nat.le_of_ble_eq_true rfl) ⟨Nat.le_of_ble_eq_true rfl, Nat.le_of_ble_eq_true rfl⟩ (fun hne => ?_) dL_addIssue_5 (q := 8) rfl (fun h0 => ?_)
  · have hth : thIn [2, 3] (tIssue S d z0) := by
      unfold tIssue
      (repeat first | exact thIn_ix (by decide) _ _ | exact thIn_rg (by decide) _ _ _ | exact thIn_b2 (by decide) _ | exact thIn_b3 (by decide) _ | refine thIn_tor ?_ ?_)
    rcases hth with h | h
    · exact absurd h hne
    · rcases List.mem_cons.mp h with h | h
      · rw [h]; exact ⟨[], ⟨0, 10, 13, 15⟩, [⟨0, 10, 17, 17⟩], htab, (fun z hz => nomatch hz), by decide, by decide, (hC.2.2.2.2 _ (List.mem_of_getElem? (i := 1) rfl)), fun q9 => by
            refine vv_astore hC (i := 4) (lv' := (4, .ref q9) :: [(0, .ref (ad 0)), (1, .int d), (2, .int z0), (3, .ref (ad 90))]) dL_addIssue_13 (by decide) rfl (q := 15) rfl ?_
            refine vv_iconst hC (v := nI 1) dL_addIssue_15 rfl (q := 16) rfl ?_
            exact vv_lret hC hK hr hlk rfl ⟨Nat.le_of_ble_eq_true rfl, Nat.le_of_ble_eq_true rfl⟩ (fun f hf => by rw [if_neg (by decide)]; exact hf) dL_addIssue_16⟩
      · replace h := List.mem_singleton.mp h
        rw [h]; exact ⟨[⟨0, 10, 13, 15⟩], ⟨0, 10, 17, 17⟩, [], htab, (fun z hz => by rw [List.mem_singleton.mp hz]; exact Or.inr ⟨by decide, _, (hC.2.2.2.2 _ (List.mem_of_getElem? (i := 1) rfl)), hxN.2.2.2.2.2⟩), by decide, by decide, (hC.2.2.2.2 _ (List.mem_of_getElem? (i := 2) rfl)), fun q9 => by
            refine vv_astore hC (i := 4) (lv' := (4, .ref q9) :: [(0, .ref (ad 0)), (1, .int d), (2, .int z0), (3, .ref (ad 90))]) dL_addIssue_17 (by decide) rfl (q := 19) rfl ?_
            refine vv_iconst hC (v := nI 2) dL_addIssue_19 rfl (q := 20) rfl ?_
            exact vv_lret hC hK hr hlk rfl ⟨Nat.le_of_ble_eq_true rfl, Nat.le_of_ble_eq_true rfl⟩ (fun f hf => by rw [if_neg (by decide)]; exact hf) dL_addIssue_20⟩
  · refine vv_i2l hC dL_addIssue_8 (q := 9) rfl ?_
    refine vv_lastW hC hK hW dL_addIssue_9 (q := 10) rfl ?_
    refine vv_goto hC (tgt := 21) dL_addIssue_10 (by decide) ?_
    refine vv_iconst hC (v := nI 0) dL_addIssue_21 rfl (q := 22) rfl ?_
    exact vv_lret hC hK hr hlk (by rw [cd, if_pos h0]) ⟨Nat.le_of_ble_eq_true rfl, Nat.le_of_ble_eq_true rfl⟩ (fun f hf => by rw [if_pos h0]; exact hf) dL_addIssue_22
theorem hsL_waiting : yL_waiting.cls ≠ "java/lang/invoke/MethodHandle" ∧ yL_waiting.cls ≠ "java/lang/invoke/VarHandle" ∧ (parseMethodDescriptor yL_waiting.desc).map (fun d => d.parameters.length) = some 3 := by decide +kernel
set_option maxRecDepth 100000 in
set_option maxHeartbeats 4000000 in
theorem cw_waiting (l : Launch) {D : va_G} {cI cW cZ cL : ClassId} {ad : Nat → Nat} (hJ : injA ad 91) (hlst : l.stackTraces = false) (AX : Nat → Prop) (z : Nat) (S : sC) (o : Int64) (n : Int32) : kL l yL_waiting wsL_waiting ({ frames := 8, cells := 1, slots := 6, locals := 131 }) D cI cW cZ cL ad AX z [.int n, .ref (ad 90)] S o [2] (tB2 (!decide (n < 0))) (rAt (S.1 72) n) S 1 6 := by
  refine vv_enterW (cc := cL_waiting) (maxL := 4) (ret := some .int) (hh := [(0, 9, 12, 15)]) (own := RL) (lv := [(0, .ref (ad 0)), (1, .int n), (2, .ref (ad 90))]) (by decide +kernel) rfl rfl hJ (Nat.le_of_ble_eq_true rfl) rfl ?_
  intro p e s m args below meth c hC hK hW hr hlk hsz hAX hE hxN htab
  refine vv_aload_n hC 2 dL_waiting_0 rfl rfl (q := 1) rfl ?_
  refine vv_iconst hC (v := 0) dL_waiting_1 rfl (q := 2) rfl ?_
  refine vv_aload_n hC 0 dL_waiting_2 rfl rfl (q := 3) rfl ?_
  refine vv_iload_n hC 1 dL_waiting_3 rfl rfl (q := 4) rfl ?_
  refine vv_wcall hC hK hJ hE hAX (fun zz hzz q hq => by rcases hq with ⟨j, hj, h⟩ | h; exact Or.inl ⟨j, by omega, h⟩; exact Or.inr (by omega)) (As := [.int n]) (fun zz => c8_waiting l (hJ.le (by omega)) hlst AX zz S n) (cwV 1 hC.2.2.2.2 gL_waiting_X8_waiting rfl rfl rfl hdX8_waiting ⟨Nat.le_of_ble_eq_true rfl, Nat.le_of_ble_eq_true rfl⟩) rfl rfl (Nat.le_of_ble_eq_true rfl) ⟨Nat.le_of_ble_eq_true rfl, Nat.le_of_ble_eq_true rfl⟩ (fun hne => ?_) dL_waiting_4 (q := 7) rfl (fun h0 => ?_)
  · have hth : thIn [2] (tB2 (!decide (n < 0))) := by
      (repeat first | exact thIn_ix (by decide) _ _ | exact thIn_rg (by decide) _ _ _ | exact thIn_b2 (by decide) _ | exact thIn_b3 (by decide) _ | refine thIn_tor ?_ ?_)
    rcases hth with h | h
    · exact absurd h hne
    · replace h := List.mem_singleton.mp h
      rw [h]; exact ⟨[], ⟨0, 9, 12, 15⟩, [], htab, (fun z hz => nomatch hz), by decide, by decide, (hC.2.2.2.2 _ (List.mem_of_getElem? (i := 1) rfl)), fun q9 => by
          refine vv_astore_n hC (i := 3) (lv' := (3, .ref q9) :: [(0, .ref (ad 0)), (1, .int n), (2, .ref (ad 90))]) dL_waiting_12 rfl (by decide) rfl (q := 13) rfl ?_
          refine vv_iconst hC (v := nI 1) dL_waiting_13 rfl (q := 14) rfl ?_
          exact vv_lret hC hK hr hlk rfl ⟨Nat.le_of_ble_eq_true rfl, Nat.le_of_ble_eq_true rfl⟩ (fun f hf => by rw [if_neg (by decide)]; exact hf) dL_waiting_14⟩
  · refine vv_i2l hC dL_waiting_7 (q := 8) rfl ?_
    refine vv_lastW hC hK hW dL_waiting_8 (q := 9) rfl ?_
    refine vv_goto hC (tgt := 15) dL_waiting_9 (by decide) ?_
    refine vv_iconst hC (v := nI 0) dL_waiting_15 rfl (q := 16) rfl ?_
    exact vv_lret hC hK hr hlk (by rw [cd, if_pos h0]) ⟨Nat.le_of_ble_eq_true rfl, Nat.le_of_ble_eq_true rfl⟩ (fun f hf => by rw [if_pos h0]; exact hf) dL_waiting_16
theorem hsL_pass : yL_pass.cls ≠ "java/lang/invoke/MethodHandle" ∧ yL_pass.cls ≠ "java/lang/invoke/VarHandle" ∧ (parseMethodDescriptor yL_pass.desc).map (fun d => d.parameters.length) = some 3 := by decide +kernel
set_option maxRecDepth 100000 in
set_option maxHeartbeats 4000000 in
theorem cw_pass (l : Launch) {D : va_G} {cI cW cZ cL : ClassId} {ad : Nat → Nat} (hJ : injA ad 91) (hlst : l.stackTraces = false) (AX : Nat → Prop) (z : Nat) (S : sC) (o : Int64) (d : Int32) : kL l yL_pass wsL_pass ({ frames := 9, cells := 2, slots := 12, locals := 157 }) D cI cW cZ cL ad AX z [.int d, .ref (ad 90)] S o [2, 3] (tPass S d) ((paD S d).1) ((paD S d).2) 2 12 := by
  refine vv_enterW (cc := cL_pass) (maxL := 4) (ret := some .int) (hh := [(0, 9, 12, 15), (0, 9, 15, 17)]) (own := RL) (lv := [(0, .ref (ad 0)), (1, .int d), (2, .ref (ad 90))]) (by decide +kernel) rfl rfl hJ (Nat.le_of_ble_eq_true rfl) rfl ?_
  intro p e s m args below meth c hC hK hW hr hlk hsz hAX hE hxN htab
  refine vv_aload_n hC 2 dL_pass_0 rfl rfl (q := 1) rfl ?_
  refine vv_iconst hC (v := 0) dL_pass_1 rfl (q := 2) rfl ?_
  refine vv_aload_n hC 0 dL_pass_2 rfl rfl (q := 3) rfl ?_
  refine vv_iload_n hC 1 dL_pass_3 rfl rfl (q := 4) rfl ?_
  refine vv_wcall hC hK hJ hE hAX (fun zz hzz q hq => by rcases hq with ⟨j, hj, h⟩ | h; exact Or.inl ⟨j, by omega, h⟩; exact Or.inr (by omega)) (As := [.int d]) (fun zz => c8_pass l (hJ.le (by omega)) hlst AX zz S d) (cwV 1 hC.2.2.2.2 gL_pass_X8_pass rfl rfl rfl hdX8_pass ⟨Nat.le_of_ble_eq_true rfl, Nat.le_of_ble_eq_true rfl⟩) rfl rfl (Nat.le_of_ble_eq_true rfl) ⟨Nat.le_of_ble_eq_true rfl, Nat.le_of_ble_eq_true rfl⟩ (fun hne => ?_) dL_pass_4 (q := 7) rfl (fun h0 => ?_)
  · have hth : thIn [2, 3] (tPass S d) := by
      unfold tPass
      (repeat first | exact thIn_ix (by decide) _ _ | exact thIn_rg (by decide) _ _ _ | exact thIn_b2 (by decide) _ | exact thIn_b3 (by decide) _ | refine thIn_tor ?_ ?_)
    rcases hth with h | h
    · exact absurd h hne
    · rcases List.mem_cons.mp h with h | h
      · rw [h]; exact ⟨[], ⟨0, 9, 12, 15⟩, [⟨0, 9, 15, 17⟩], htab, (fun z hz => nomatch hz), by decide, by decide, (hC.2.2.2.2 _ (List.mem_of_getElem? (i := 1) rfl)), fun q9 => by
            refine vv_astore_n hC (i := 3) (lv' := (3, .ref q9) :: [(0, .ref (ad 0)), (1, .int d), (2, .ref (ad 90))]) dL_pass_12 rfl (by decide) rfl (q := 13) rfl ?_
            refine vv_iconst hC (v := nI 1) dL_pass_13 rfl (q := 14) rfl ?_
            exact vv_lret hC hK hr hlk rfl ⟨Nat.le_of_ble_eq_true rfl, Nat.le_of_ble_eq_true rfl⟩ (fun f hf => by rw [if_neg (by decide)]; exact hf) dL_pass_14⟩
      · replace h := List.mem_singleton.mp h
        rw [h]; exact ⟨[⟨0, 9, 12, 15⟩], ⟨0, 9, 15, 17⟩, [], htab, (fun z hz => by rw [List.mem_singleton.mp hz]; exact Or.inr ⟨by decide, _, (hC.2.2.2.2 _ (List.mem_of_getElem? (i := 1) rfl)), hxN.2.2.2.2.2⟩), by decide, by decide, (hC.2.2.2.2 _ (List.mem_of_getElem? (i := 2) rfl)), fun q9 => by
            refine vv_astore_n hC (i := 3) (lv' := (3, .ref q9) :: [(0, .ref (ad 0)), (1, .int d), (2, .ref (ad 90))]) dL_pass_15 rfl (by decide) rfl (q := 16) rfl ?_
            refine vv_iconst hC (v := nI 2) dL_pass_16 rfl (q := 17) rfl ?_
            exact vv_lret hC hK hr hlk rfl ⟨Nat.le_of_ble_eq_true rfl, Nat.le_of_ble_eq_true rfl⟩ (fun f hf => by rw [if_neg (by decide)]; exact hf) dL_pass_17⟩
  · refine vv_i2l hC dL_pass_7 (q := 8) rfl ?_
    refine vv_lastW hC hK hW dL_pass_8 (q := 9) rfl ?_
    refine vv_goto hC (tgt := 18) dL_pass_9 (by decide) ?_
    refine vv_iconst hC (v := nI 0) dL_pass_18 rfl (q := 19) rfl ?_
    exact vv_lret hC hK hr hlk (by rw [cd, if_pos h0]) ⟨Nat.le_of_ble_eq_true rfl, Nat.le_of_ble_eq_true rfl⟩ (fun f hf => by rw [if_pos h0]; exact hf) dL_pass_19
theorem hsL_printed : yL_printed.cls ≠ "java/lang/invoke/MethodHandle" ∧ yL_printed.cls ≠ "java/lang/invoke/VarHandle" ∧ (parseMethodDescriptor yL_printed.desc).map (fun d => d.parameters.length) = some 3 := by decide +kernel
set_option maxRecDepth 100000 in
set_option maxHeartbeats 4000000 in
theorem cw_printed (l : Launch) {D : va_G} {cI cW cZ cL : ClassId} {ad : Nat → Nat} (hJ : injA ad 91) (hlst : l.stackTraces = false) (AX : Nat → Prop) (z : Nat) (S : sC) (o : Int64) (i : Int32) : kL l yL_printed wsL_printed ({ frames := 8, cells := 1, slots := 6, locals := 132 }) D cI cW cZ cL ad AX z [.int i, .ref (ad 90)] S o [1] (tIx i (nI (S.1 79).length)) (rAt (S.1 83) i) S 1 6 := by
  refine vv_enterW (cc := cL_printed) (maxL := 4) (ret := some .int) (hh := [(0, 9, 12, 13)]) (own := RL) (lv := [(0, .ref (ad 0)), (1, .int i), (2, .ref (ad 90))]) (by decide +kernel) rfl rfl hJ (Nat.le_of_ble_eq_true rfl) rfl ?_
  intro p e s m args below meth c hC hK hW hr hlk hsz hAX hE hxN htab
  refine vv_aload_n hC 2 dL_printed_0 rfl rfl (q := 1) rfl ?_
  refine vv_iconst hC (v := 0) dL_printed_1 rfl (q := 2) rfl ?_
  refine vv_aload_n hC 0 dL_printed_2 rfl rfl (q := 3) rfl ?_
  refine vv_iload_n hC 1 dL_printed_3 rfl rfl (q := 4) rfl ?_
  refine vv_wcall hC hK hJ hE hAX (fun zz hzz q hq => by rcases hq with ⟨j, hj, h⟩ | h; exact Or.inl ⟨j, by omega, h⟩; exact Or.inr (by omega)) (As := [.int i]) (fun zz => c8_printed l (hJ.le (by omega)) hlst AX zz S i) (cwV 1 hC.2.2.2.2 gL_printed_X8_printed rfl rfl rfl hdX8_printed ⟨Nat.le_of_ble_eq_true rfl, Nat.le_of_ble_eq_true rfl⟩) rfl rfl (Nat.le_of_ble_eq_true rfl) ⟨Nat.le_of_ble_eq_true rfl, Nat.le_of_ble_eq_true rfl⟩ (fun hne => ?_) dL_printed_4 (q := 7) rfl (fun h0 => ?_)
  · have hth : thIn [1] (tIx i (nI (S.1 79).length)) := by
      (repeat first | exact thIn_ix (by decide) _ _ | exact thIn_rg (by decide) _ _ _ | exact thIn_b2 (by decide) _ | exact thIn_b3 (by decide) _ | refine thIn_tor ?_ ?_)
    rcases hth with h | h
    · exact absurd h hne
    · replace h := List.mem_singleton.mp h
      rw [h]; exact ⟨[], ⟨0, 9, 12, 13⟩, [], htab, (fun z hz => nomatch hz), by decide, by decide, (hC.2.2.2.2 _ (List.mem_of_getElem? (i := 1) rfl)), fun q9 => by
          refine vv_astore_n hC (i := 3) (lv' := (3, .ref q9) :: [(0, .ref (ad 0)), (1, .int i), (2, .ref (ad 90))]) dL_printed_12 rfl (by decide) rfl (q := 13) rfl ?_
          refine vv_iconst hC (v := nI 1) dL_printed_13 rfl (q := 14) rfl ?_
          exact vv_lret hC hK hr hlk rfl ⟨Nat.le_of_ble_eq_true rfl, Nat.le_of_ble_eq_true rfl⟩ (fun f hf => by rw [if_neg (by decide)]; exact hf) dL_printed_14⟩
  · refine vv_i2l hC dL_printed_7 (q := 8) rfl ?_
    refine vv_lastW hC hK hW dL_printed_8 (q := 9) rfl ?_
    refine vv_goto hC (tgt := 15) dL_printed_9 (by decide) ?_
    refine vv_iconst hC (v := nI 0) dL_printed_15 rfl (q := 16) rfl ?_
    exact vv_lret hC hK hr hlk (by rw [cd, if_pos h0]) ⟨Nat.le_of_ble_eq_true rfl, Nat.le_of_ble_eq_true rfl⟩ (fun f hf => by rw [if_pos h0]; exact hf) dL_printed_16
theorem hsL_royalties : yL_royalties.cls ≠ "java/lang/invoke/MethodHandle" ∧ yL_royalties.cls ≠ "java/lang/invoke/VarHandle" ∧ (parseMethodDescriptor yL_royalties.desc).map (fun d => d.parameters.length) = some 3 := by decide +kernel
set_option maxRecDepth 100000 in
set_option maxHeartbeats 4000000 in
theorem cw_royalties (l : Launch) {D : va_G} {cI cW cZ cL : ClassId} {ad : Nat → Nat} (hJ : injA ad 91) (hlst : l.stackTraces = false) (AX : Nat → Prop) (z : Nat) (S : sC) (o : Int64) (w : Int32) : kL l yL_royalties wsL_royalties ({ frames := 8, cells := 1, slots := 6, locals := 132 }) D cI cW cZ cL ad AX z [.int w, .ref (ad 90)] S o [1] (tIx w 6) (rAt (S.1 59) w) S 1 6 := by
  refine vv_enterW (cc := cL_royalties) (maxL := 4) (ret := some .int) (hh := [(0, 9, 12, 13)]) (own := RL) (lv := [(0, .ref (ad 0)), (1, .int w), (2, .ref (ad 90))]) (by decide +kernel) rfl rfl hJ (Nat.le_of_ble_eq_true rfl) rfl ?_
  intro p e s m args below meth c hC hK hW hr hlk hsz hAX hE hxN htab
  refine vv_aload_n hC 2 dL_royalties_0 rfl rfl (q := 1) rfl ?_
  refine vv_iconst hC (v := 0) dL_royalties_1 rfl (q := 2) rfl ?_
  refine vv_aload_n hC 0 dL_royalties_2 rfl rfl (q := 3) rfl ?_
  refine vv_iload_n hC 1 dL_royalties_3 rfl rfl (q := 4) rfl ?_
  refine vv_wcall hC hK hJ hE hAX (fun zz hzz q hq => by rcases hq with ⟨j, hj, h⟩ | h; exact Or.inl ⟨j, by omega, h⟩; exact Or.inr (by omega)) (As := [.int w]) (fun zz => c8_royalties l (hJ.le (by omega)) hlst AX zz S w) (cwV 1 hC.2.2.2.2 gL_royalties_X8_royalties rfl rfl rfl hdX8_royalties ⟨Nat.le_of_ble_eq_true rfl, Nat.le_of_ble_eq_true rfl⟩) rfl rfl (Nat.le_of_ble_eq_true rfl) ⟨Nat.le_of_ble_eq_true rfl, Nat.le_of_ble_eq_true rfl⟩ (fun hne => ?_) dL_royalties_4 (q := 7) rfl (fun h0 => ?_)
  · have hth : thIn [1] (tIx w 6) := by
      (repeat first | exact thIn_ix (by decide) _ _ | exact thIn_rg (by decide) _ _ _ | exact thIn_b2 (by decide) _ | exact thIn_b3 (by decide) _ | refine thIn_tor ?_ ?_)
    rcases hth with h | h
    · exact absurd h hne
    · replace h := List.mem_singleton.mp h
      rw [h]; exact ⟨[], ⟨0, 9, 12, 13⟩, [], htab, (fun z hz => nomatch hz), by decide, by decide, (hC.2.2.2.2 _ (List.mem_of_getElem? (i := 1) rfl)), fun q9 => by
          refine vv_astore_n hC (i := 3) (lv' := (3, .ref q9) :: [(0, .ref (ad 0)), (1, .int w), (2, .ref (ad 90))]) dL_royalties_12 rfl (by decide) rfl (q := 13) rfl ?_
          refine vv_iconst hC (v := nI 1) dL_royalties_13 rfl (q := 14) rfl ?_
          exact vv_lret hC hK hr hlk rfl ⟨Nat.le_of_ble_eq_true rfl, Nat.le_of_ble_eq_true rfl⟩ (fun f hf => by rw [if_neg (by decide)]; exact hf) dL_royalties_14⟩
  · refine vv_i2l hC dL_royalties_7 (q := 8) rfl ?_
    refine vv_lastW hC hK hW dL_royalties_8 (q := 9) rfl ?_
    refine vv_goto hC (tgt := 15) dL_royalties_9 (by decide) ?_
    refine vv_iconst hC (v := nI 0) dL_royalties_15 rfl (q := 16) rfl ?_
    exact vv_lret hC hK hr hlk (by rw [cd, if_pos h0]) ⟨Nat.le_of_ble_eq_true rfl, Nat.le_of_ble_eq_true rfl⟩ (fun f hf => by rw [if_pos h0]; exact hf) dL_royalties_16
theorem hsL_comment : yL_comment.cls ≠ "java/lang/invoke/MethodHandle" ∧ yL_comment.cls ≠ "java/lang/invoke/VarHandle" ∧ (parseMethodDescriptor yL_comment.desc).map (fun d => d.parameters.length) = some 4 := by decide +kernel
set_option maxRecDepth 100000 in
set_option maxHeartbeats 4000000 in
theorem cw_comment (l : Launch) {D : va_G} {cI cW cZ cL : ClassId} {ad : Nat → Nat} (hJ : injA ad 91) (hlst : l.stackTraces = false) (AX : Nat → Prop) (z : Nat) (S : sC) (o : Int64) (a b : Int32) : kL l yL_comment wsL_comment ({ frames := 10, cells := 4, slots := 24, locals := 176 }) D cI cW cZ cL ad AX z [.int a, .int b, .ref (ad 90)] S o [1, 2, 3] (tComment S a b) (nI ((sComment S a b).1 86).length - 1) (sComment S a b) 4 24 := by
  refine vv_enterW (cc := cL_comment) (maxL := 5) (ret := some .int) (hh := [(0, 10, 13, 13), (0, 10, 17, 15), (0, 10, 21, 17)]) (own := RL) (lv := [(0, .ref (ad 0)), (1, .int a), (2, .int b), (3, .ref (ad 90))]) (by decide +kernel) rfl rfl hJ (Nat.le_of_ble_eq_true rfl) rfl ?_
  intro p e s m args below meth c hC hK hW hr hlk hsz hAX hE hxN htab
  refine vv_aload_n hC 3 dL_comment_0 rfl rfl (q := 1) rfl ?_
  refine vv_iconst hC (v := 0) dL_comment_1 rfl (q := 2) rfl ?_
  refine vv_aload_n hC 0 dL_comment_2 rfl rfl (q := 3) rfl ?_
  refine vv_iload_n hC 1 dL_comment_3 rfl rfl (q := 4) rfl ?_
  refine vv_iload_n hC 2 dL_comment_4 rfl rfl (q := 5) rfl ?_
  refine vv_wcall hC hK hJ hE hAX (fun zz hzz q hq => by rcases hq with ⟨j, hj, h⟩ | h; exact Or.inl ⟨j, by omega, h⟩; exact Or.inr (by omega)) (As := [.int a, .int b]) (fun zz => c8_comment l (hJ.le (by omega)) hlst AX zz S a b) (cwV 2 hC.2.2.2.2 gL_comment_X8_comment rfl rfl rfl hdX8_comment ⟨Nat.le_of_ble_eq_true rfl, Nat.le_of_ble_eq_true rfl⟩) rfl rfl (Nat.le_of_ble_eq_true rfl) ⟨Nat.le_of_ble_eq_true rfl, Nat.le_of_ble_eq_true rfl⟩ (fun hne => ?_) dL_comment_5 (q := 8) rfl (fun h0 => ?_)
  · have hth : thIn [1, 2, 3] (tComment S a b) := by
      unfold tComment tSpan tText
      (repeat first | exact thIn_ix (by decide) _ _ | exact thIn_rg (by decide) _ _ _ | exact thIn_b2 (by decide) _ | exact thIn_b3 (by decide) _ | refine thIn_tor ?_ ?_)
    rcases hth with h | h
    · exact absurd h hne
    · rcases List.mem_cons.mp h with h | h
      · rw [h]; exact ⟨[], ⟨0, 10, 13, 13⟩, [⟨0, 10, 17, 15⟩, ⟨0, 10, 21, 17⟩], htab, (fun z hz => nomatch hz), by decide, by decide, (hC.2.2.2.2 _ (List.mem_of_getElem? (i := 1) rfl)), fun q9 => by
            refine vv_astore hC (i := 4) (lv' := (4, .ref q9) :: [(0, .ref (ad 0)), (1, .int a), (2, .int b), (3, .ref (ad 90))]) dL_comment_13 (by decide) rfl (q := 15) rfl ?_
            refine vv_iconst hC (v := nI 1) dL_comment_15 rfl (q := 16) rfl ?_
            exact vv_lret hC hK hr hlk rfl ⟨Nat.le_of_ble_eq_true rfl, Nat.le_of_ble_eq_true rfl⟩ (fun f hf => by rw [if_neg (by decide)]; exact hf) dL_comment_16⟩
      · rcases List.mem_cons.mp h with h | h
        · rw [h]; exact ⟨[⟨0, 10, 13, 13⟩], ⟨0, 10, 17, 15⟩, [⟨0, 10, 21, 17⟩], htab, (fun z hz => by rw [List.mem_singleton.mp hz]; exact Or.inr ⟨by decide, _, (hC.2.2.2.2 _ (List.mem_of_getElem? (i := 1) rfl)), hxN.2.2.1⟩), by decide, by decide, (hC.2.2.2.2 _ (List.mem_of_getElem? (i := 2) rfl)), fun q9 => by
              refine vv_astore hC (i := 4) (lv' := (4, .ref q9) :: [(0, .ref (ad 0)), (1, .int a), (2, .int b), (3, .ref (ad 90))]) dL_comment_17 (by decide) rfl (q := 19) rfl ?_
              refine vv_iconst hC (v := nI 2) dL_comment_19 rfl (q := 20) rfl ?_
              exact vv_lret hC hK hr hlk rfl ⟨Nat.le_of_ble_eq_true rfl, Nat.le_of_ble_eq_true rfl⟩ (fun f hf => by rw [if_neg (by decide)]; exact hf) dL_comment_20⟩
        · replace h := List.mem_singleton.mp h
          rw [h]; exact ⟨[⟨0, 10, 13, 13⟩, ⟨0, 10, 17, 15⟩], ⟨0, 10, 21, 17⟩, [], htab, (fun z hz => by rcases List.mem_cons.mp hz with rfl | hz; exact Or.inr ⟨by decide, _, (hC.2.2.2.2 _ (List.mem_of_getElem? (i := 1) rfl)), hxN.2.2.2.2.1⟩; rw [List.mem_singleton.mp hz]; exact Or.inr ⟨by decide, _, (hC.2.2.2.2 _ (List.mem_of_getElem? (i := 2) rfl)), hxN.2.2.2.2.2⟩), by decide, by decide, (hC.2.2.2.2 _ (List.mem_of_getElem? (i := 3) rfl)), fun q9 => by
              refine vv_astore hC (i := 4) (lv' := (4, .ref q9) :: [(0, .ref (ad 0)), (1, .int a), (2, .int b), (3, .ref (ad 90))]) dL_comment_21 (by decide) rfl (q := 23) rfl ?_
              refine vv_iconst hC (v := nI 3) dL_comment_23 rfl (q := 24) rfl ?_
              exact vv_lret hC hK hr hlk rfl ⟨Nat.le_of_ble_eq_true rfl, Nat.le_of_ble_eq_true rfl⟩ (fun f hf => by rw [if_neg (by decide)]; exact hf) dL_comment_24⟩
  · refine vv_i2l hC dL_comment_8 (q := 9) rfl ?_
    refine vv_lastW hC hK hW dL_comment_9 (q := 10) rfl ?_
    refine vv_goto hC (tgt := 25) dL_comment_10 (by decide) ?_
    refine vv_iconst hC (v := nI 0) dL_comment_25 rfl (q := 26) rfl ?_
    exact vv_lret hC hK hr hlk (by rw [cd, if_pos h0]) ⟨Nat.le_of_ble_eq_true rfl, Nat.le_of_ble_eq_true rfl⟩ (fun f hf => by rw [if_pos h0]; exact hf) dL_comment_26
theorem hsL_span : yL_span.cls ≠ "java/lang/invoke/MethodHandle" ∧ yL_span.cls ≠ "java/lang/invoke/VarHandle" ∧ (parseMethodDescriptor yL_span.desc).map (fun d => d.parameters.length) = some 3 := by decide +kernel
set_option maxRecDepth 100000 in
set_option maxHeartbeats 4000000 in
theorem cw_span (l : Launch) {D : va_G} {cI cW cZ cL : ClassId} {ad : Nat → Nat} (hJ : injA ad 91) (hlst : l.stackTraces = false) (AX : Nat → Prop) (z : Nat) (S : sC) (o : Int64) (c0 : Int32) : kL l yL_span wsL_span ({ frames := 8, cells := 1, slots := 6, locals := 134 }) D cI cW cZ cL ad AX z [.int c0, .ref (ad 90)] S o [1] (tIx c0 (nI (S.1 86).length)) (rSpan S c0) S 1 6 := by
  refine vv_enterW (cc := cL_span) (maxL := 4) (ret := some .int) (hh := [(0, 9, 12, 13)]) (own := RL) (lv := [(0, .ref (ad 0)), (1, .int c0), (2, .ref (ad 90))]) (by decide +kernel) rfl rfl hJ (Nat.le_of_ble_eq_true rfl) rfl ?_
  intro p e s m args below meth c hC hK hW hr hlk hsz hAX hE hxN htab
  refine vv_aload_n hC 2 dL_span_0 rfl rfl (q := 1) rfl ?_
  refine vv_iconst hC (v := 0) dL_span_1 rfl (q := 2) rfl ?_
  refine vv_aload_n hC 0 dL_span_2 rfl rfl (q := 3) rfl ?_
  refine vv_iload_n hC 1 dL_span_3 rfl rfl (q := 4) rfl ?_
  refine vv_wcall hC hK hJ hE hAX (fun zz hzz q hq => by rcases hq with ⟨j, hj, h⟩ | h; exact Or.inl ⟨j, by omega, h⟩; exact Or.inr (by omega)) (As := [.int c0]) (fun zz => c8_span l (hJ.le (by omega)) hlst AX zz S c0) (cwV 1 hC.2.2.2.2 gL_span_X8_span rfl rfl rfl hdX8_span ⟨Nat.le_of_ble_eq_true rfl, Nat.le_of_ble_eq_true rfl⟩) rfl rfl (Nat.le_of_ble_eq_true rfl) ⟨Nat.le_of_ble_eq_true rfl, Nat.le_of_ble_eq_true rfl⟩ (fun hne => ?_) dL_span_4 (q := 7) rfl (fun h0 => ?_)
  · have hth : thIn [1] (tIx c0 (nI (S.1 86).length)) := by
      (repeat first | exact thIn_ix (by decide) _ _ | exact thIn_rg (by decide) _ _ _ | exact thIn_b2 (by decide) _ | exact thIn_b3 (by decide) _ | refine thIn_tor ?_ ?_)
    rcases hth with h | h
    · exact absurd h hne
    · replace h := List.mem_singleton.mp h
      rw [h]; exact ⟨[], ⟨0, 9, 12, 13⟩, [], htab, (fun z hz => nomatch hz), by decide, by decide, (hC.2.2.2.2 _ (List.mem_of_getElem? (i := 1) rfl)), fun q9 => by
          refine vv_astore_n hC (i := 3) (lv' := (3, .ref q9) :: [(0, .ref (ad 0)), (1, .int c0), (2, .ref (ad 90))]) dL_span_12 rfl (by decide) rfl (q := 13) rfl ?_
          refine vv_iconst hC (v := nI 1) dL_span_13 rfl (q := 14) rfl ?_
          exact vv_lret hC hK hr hlk rfl ⟨Nat.le_of_ble_eq_true rfl, Nat.le_of_ble_eq_true rfl⟩ (fun f hf => by rw [if_neg (by decide)]; exact hf) dL_span_14⟩
  · refine vv_i2l hC dL_span_7 (q := 8) rfl ?_
    refine vv_lastW hC hK hW dL_span_8 (q := 9) rfl ?_
    refine vv_goto hC (tgt := 15) dL_span_9 (by decide) ?_
    refine vv_iconst hC (v := nI 0) dL_span_15 rfl (q := 16) rfl ?_
    exact vv_lret hC hK hr hlk (by rw [cd, if_pos h0]) ⟨Nat.le_of_ble_eq_true rfl, Nat.le_of_ble_eq_true rfl⟩ (fun f hf => by rw [if_pos h0]; exact hf) dL_span_16
theorem hsL_keep : yL_keep.cls ≠ "java/lang/invoke/MethodHandle" ∧ yL_keep.cls ≠ "java/lang/invoke/VarHandle" ∧ (parseMethodDescriptor yL_keep.desc).map (fun d => d.parameters.length) = some 2 := by decide +kernel
set_option maxRecDepth 100000 in
set_option maxHeartbeats 4000000 in
theorem cw_keep (l : Launch) {D : va_G} {cI cW cZ cL : ClassId} {ad : Nat → Nat} (hJ : injA ad 91) (hlst : l.stackTraces = false) (AX : Nat → Prop) (z : Nat) (S : sC) (o : Int64)  : kL l yL_keep wsL_keep ({ frames := 8, cells := 1, slots := 6, locals := 131 }) D cI cW cZ cL ad AX z [.ref (ad 90)] S o [3] (tKeep S) S.2.1 (sKeep S) 1 6 := by
  refine vv_enterW (cc := cL_keep) (maxL := 3) (ret := some .int) (hh := [(0, 8, 11, 17)]) (own := RL) (lv := [(0, .ref (ad 0)), (1, .ref (ad 90))]) (by decide +kernel) rfl rfl hJ (Nat.le_of_ble_eq_true rfl) rfl ?_
  intro p e s m args below meth c hC hK hW hr hlk hsz hAX hE hxN htab
  refine vv_aload_n hC 1 dL_keep_0 rfl rfl (q := 1) rfl ?_
  refine vv_iconst hC (v := 0) dL_keep_1 rfl (q := 2) rfl ?_
  refine vv_aload_n hC 0 dL_keep_2 rfl rfl (q := 3) rfl ?_
  refine vv_wcall hC hK hJ hE hAX (fun zz hzz q hq => by rcases hq with ⟨j, hj, h⟩ | h; exact Or.inl ⟨j, by omega, h⟩; exact Or.inr (by omega)) (As := []) (fun zz => c8_keep l (hJ.le (by omega)) hlst AX zz S ) (cwV 0 hC.2.2.2.2 gL_keep_X8_keep rfl rfl rfl hdX8_keep ⟨Nat.le_of_ble_eq_true rfl, Nat.le_of_ble_eq_true rfl⟩) rfl rfl (Nat.le_of_ble_eq_true rfl) ⟨Nat.le_of_ble_eq_true rfl, Nat.le_of_ble_eq_true rfl⟩ (fun hne => ?_) dL_keep_3 (q := 6) rfl (fun h0 => ?_)
  · have hth : thIn [3] (tKeep S) := by
      unfold tKeep
      (repeat first | exact thIn_ix (by decide) _ _ | exact thIn_rg (by decide) _ _ _ | exact thIn_b2 (by decide) _ | exact thIn_b3 (by decide) _ | refine thIn_tor ?_ ?_)
    rcases hth with h | h
    · exact absurd h hne
    · replace h := List.mem_singleton.mp h
      rw [h]; exact ⟨[], ⟨0, 8, 11, 17⟩, [], htab, (fun z hz => nomatch hz), by decide, by decide, (hC.2.2.2.2 _ (List.mem_of_getElem? (i := 1) rfl)), fun q9 => by
          refine vv_astore_n hC (i := 2) (lv' := (2, .ref q9) :: [(0, .ref (ad 0)), (1, .ref (ad 90))]) dL_keep_11 rfl (by decide) rfl (q := 12) rfl ?_
          refine vv_iconst hC (v := nI 1) dL_keep_12 rfl (q := 13) rfl ?_
          exact vv_lret hC hK hr hlk rfl ⟨Nat.le_of_ble_eq_true rfl, Nat.le_of_ble_eq_true rfl⟩ (fun f hf => by rw [if_neg (by decide)]; exact hf) dL_keep_13⟩
  · refine vv_i2l hC dL_keep_6 (q := 7) rfl ?_
    refine vv_lastW hC hK hW dL_keep_7 (q := 8) rfl ?_
    refine vv_goto hC (tgt := 14) dL_keep_8 (by decide) ?_
    refine vv_iconst hC (v := nI 0) dL_keep_14 rfl (q := 15) rfl ?_
    exact vv_lret hC hK hr hlk (by rw [cd, if_pos h0]) ⟨Nat.le_of_ble_eq_true rfl, Nat.le_of_ble_eq_true rfl⟩ (fun f hf => by rw [if_pos h0]; exact hf) dL_keep_15
theorem hsL_compare : yL_compare.cls ≠ "java/lang/invoke/MethodHandle" ∧ yL_compare.cls ≠ "java/lang/invoke/VarHandle" ∧ (parseMethodDescriptor yL_compare.desc).map (fun d => d.parameters.length) = some 4 := by decide +kernel
set_option maxRecDepth 100000 in
set_option maxHeartbeats 4000000 in
theorem cw_compare (l : Launch) {D : va_G} {cI cW cZ cL : ClassId} {ad : Nat → Nat} (hJ : injA ad 91) (hlst : l.stackTraces = false) (AX : Nat → Prop) (z : Nat) (S : sC) (o : Int64) (a b : Int32) : kL l yL_compare wsL_compare ({ frames := 8, cells := 2, slots := 12, locals := 133 }) D cI cW cZ cL ad AX z [.int a, .int b, .ref (ad 90)] S o [1] (tCompare S a b) (1000 * nI (keptOnly S b a) + nI (keptOnly S a b)) S 2 12 := by
  refine vv_enterW (cc := cL_compare) (maxL := 5) (ret := some .int) (hh := [(0, 10, 13, 13)]) (own := RL) (lv := [(0, .ref (ad 0)), (1, .int a), (2, .int b), (3, .ref (ad 90))]) (by decide +kernel) rfl rfl hJ (Nat.le_of_ble_eq_true rfl) rfl ?_
  intro p e s m args below meth c hC hK hW hr hlk hsz hAX hE hxN htab
  refine vv_aload_n hC 3 dL_compare_0 rfl rfl (q := 1) rfl ?_
  refine vv_iconst hC (v := 0) dL_compare_1 rfl (q := 2) rfl ?_
  refine vv_aload_n hC 0 dL_compare_2 rfl rfl (q := 3) rfl ?_
  refine vv_iload_n hC 1 dL_compare_3 rfl rfl (q := 4) rfl ?_
  refine vv_iload_n hC 2 dL_compare_4 rfl rfl (q := 5) rfl ?_
  refine vv_wcall hC hK hJ hE hAX (fun zz hzz q hq => by rcases hq with ⟨j, hj, h⟩ | h; exact Or.inl ⟨j, by omega, h⟩; exact Or.inr (by omega)) (As := [.int a, .int b]) (fun zz => c8_compare l (hJ.le (by omega)) hlst AX zz S a b) (cwV 2 hC.2.2.2.2 gL_compare_X8_compare rfl rfl rfl hdX8_compare ⟨Nat.le_of_ble_eq_true rfl, Nat.le_of_ble_eq_true rfl⟩) rfl rfl (Nat.le_of_ble_eq_true rfl) ⟨Nat.le_of_ble_eq_true rfl, Nat.le_of_ble_eq_true rfl⟩ (fun hne => ?_) dL_compare_5 (q := 8) rfl (fun h0 => ?_)
  · have hth : thIn [1] (tCompare S a b) := by
      unfold tCompare
      (repeat first | exact thIn_ix (by decide) _ _ | exact thIn_rg (by decide) _ _ _ | exact thIn_b2 (by decide) _ | exact thIn_b3 (by decide) _ | refine thIn_tor ?_ ?_)
    rcases hth with h | h
    · exact absurd h hne
    · replace h := List.mem_singleton.mp h
      rw [h]; exact ⟨[], ⟨0, 10, 13, 13⟩, [], htab, (fun z hz => nomatch hz), by decide, by decide, (hC.2.2.2.2 _ (List.mem_of_getElem? (i := 1) rfl)), fun q9 => by
          refine vv_astore hC (i := 4) (lv' := (4, .ref q9) :: [(0, .ref (ad 0)), (1, .int a), (2, .int b), (3, .ref (ad 90))]) dL_compare_13 (by decide) rfl (q := 15) rfl ?_
          refine vv_iconst hC (v := nI 1) dL_compare_15 rfl (q := 16) rfl ?_
          exact vv_lret hC hK hr hlk rfl ⟨Nat.le_of_ble_eq_true rfl, Nat.le_of_ble_eq_true rfl⟩ (fun f hf => by rw [if_neg (by decide)]; exact hf) dL_compare_16⟩
  · refine vv_i2l hC dL_compare_8 (q := 9) rfl ?_
    refine vv_lastW hC hK hW dL_compare_9 (q := 10) rfl ?_
    refine vv_goto hC (tgt := 17) dL_compare_10 (by decide) ?_
    refine vv_iconst hC (v := nI 0) dL_compare_17 rfl (q := 18) rfl ?_
    exact vv_lret hC hK hr hlk (by rw [cd, if_pos h0]) ⟨Nat.le_of_ble_eq_true rfl, Nat.le_of_ble_eq_true rfl⟩ (fun f hf => by rw [if_pos h0]; exact hf) dL_compare_18
