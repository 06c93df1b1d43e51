/-! the law's calls over one object of the class: its 90 cells at ad; what lies elsewhere stays -/
/-- the exceptions are told apart -/
def xN (U : State) : Prop := va_Nc (exN 1) (exN 2) U ∧ va_Nc (exN 1) (exN 3) U ∧ va_Nc (exN 2) (exN 1) U ∧ va_Nc (exN 2) (exN 3) U ∧ va_Nc (exN 3) (exN 1) U ∧ va_Nc (exN 3) (exN 2) U
theorem xN.moved {u U : State} (hvm : u.vm.Alike U.vm) (h : xN u) : xN U := ⟨h.1.moved hvm, h.2.1.moved hvm, h.2.2.1.moved hvm, h.2.2.2.1.moved hvm, h.2.2.2.2.1.moved hvm, h.2.2.2.2.2.moved hvm⟩
def thIn (L : List Nat) (t : Nat) : Prop := t = 0 ∨ t ∈ L
theorem thIn_tor {L : List Nat} {a b : Nat} (ha : thIn L a) (hb : thIn L b) : thIn L (tor a b) := by
  cases a with
  | zero => exact hb
  | succ a => exact ha
theorem thIn_ix {L : List Nat} (h : 1 ∈ L) (i n : Int32) : thIn L (tIx i n) := by unfold tIx; split; exact Or.inr h; exact Or.inl rfl
theorem thIn_rg {L : List Nat} (h : 2 ∈ L) (v a b : Int32) : thIn L (tRg v a b) := by unfold tRg; split; exact Or.inr h; exact Or.inl rfl
theorem thIn_b2 {L : List Nat} (h : 2 ∈ L) (b : Bool) : thIn L (tB2 b) := by unfold tB2; split; exact Or.inl rfl; exact Or.inr h
theorem thIn_b3 {L : List Nat} (h : 3 ∈ L) (b : Bool) : thIn L (tB3 b) := by unfold tB3; split; exact Or.inl rfl; exact Or.inr h
theorem injA.le {ad : Nat → Nat} {m n : Nat} (h : injA ad n) (hm : m ≤ n) : injA ad m := fun i j hi hj => h i j (by omega) (by omega)
theorem wq_kept {D : va_G} {cl : List vw_C} {ad : Nat → Nat} {n : Nat} {P : (Nat → va_E) → Prop} {H H1 : Heap} (h : wq D cl ad n P H) (hk : ∀ j, j < n → H1[ad j]? = H[ad j]?) : wq D cl ad n P H1 := by
  obtain ⟨f, hf, hP⟩ := h
  exact ⟨f, hf, hP.kept fun k q hq => by obtain ⟨h1, rfl⟩ := WL_lt hq; exact hk k h1⟩
def kN (l : Launch) (y : MethodName) (ws : List Cond) (rm : Room) (D : va_G) (cI cW cZ cL : ClassId) (ad : Nat → Nat) (AX : Nat → Prop) (sz : Nat) (As : List Value) (S : sC) (r : Int32) (S1 : sC) (mc ms : Nat) : Prop :=
  Met l y ws rm (va_Pc As (fun U => xN U ∧ xs0 D vwCl (tyL cI cW cZ cL) ad 90 AX sz (PC cI cW ad S) U)) (va_Qi (fun r' (_ : Unit) => r' = r) (fun _ => ws0 D vwCl (tyL cI cW cZ cL) ad 90 (PC cI cW ad S1)) (RAs ad 90 sz)) mc ms (RAs ad 90 sz)
theorem kN_blind {D : va_G} {cl : List vw_C} {tys : List (ClassId × FieldType)} {ad : Nat → Nat} {N sz : Nat} {AX : Nat → Prop} {P : (Nat → va_E) → Prop} {as : List Value} : FrameBlind (va_Pc as (fun U => xN U ∧ xs0 D cl tys ad N AX sz P U)) := fun a U g mk h => ⟨h.1, xN.moved (u := U) (U := U.calling g mk a) (Vm.Alike.refl U.vm) h.2.1, (xs0_blind (as := as) (P := P) a U g mk ⟨h.1, h.2.2⟩).2⟩
/-- a method that knows no world -/
def kP (l : Launch) (y : MethodName) (ws : List Cond) (rm : Room) (As : List Value) (r : Int32) : Prop :=
  Met l y ws rm (va_Pc As (fun _ => True)) (va_Qi (fun r' (_ : Unit) => r' = r) (fun _ _ => True) (fun _ => False)) 0 0 (fun _ => False)
theorem kP_blind {as : List Value} : FrameBlind (va_Pc as (fun _ => True)) := fun a U g mk h => ⟨h.1, trivial⟩
/-- one object within B: what B says of it, and B1 out of B when that object alone has changed -/
def Foc (D : va_G) (cI cW : ClassId) (ad : Nat → Nat) (S S1 : sC) (B B1 : Heap → Prop) : Prop :=
  (∀ H, B H → wq D vwCl ad 90 (PC cI cW ad S) H) ∧ ∀ H H1 : Heap, B H → wq D vwCl ad 90 (PC cI cW ad S1) H1 → (∀ q : Nat, q < H.size → ¬ RA ad 90 q → H1[q]? = H[q]?) → B1 H1
theorem Foc_1 {D : va_G} {cI cW : ClassId} {ad : Nat → Nat} {S S1 : sC} : Foc D cI cW ad S S1 (wq D vwCl ad 90 (PC cI cW ad S)) (wq D vwCl ad 90 (PC cI cW ad S1)) := ⟨fun _ h => h, fun _ _ _ h _ => h⟩
def Stb (B : Heap → Prop) : Prop := ∀ H H1 : Heap, B H → (∀ q : Nat, q < H.size → H1[q]? = H[q]?) → B H1
theorem Stb_1 {D : va_G} {cl : List vw_C} {ad : Nat → Nat} {N : Nat} {P : (Nat → va_E) → Prop} : Stb (wq D cl ad N P) := fun H H1 h hk => wq_kept h fun j hj => hk _ (wq_lt h hj)
section VVF
variable {p : Program} {l : Launch} {e : Env} {R : Room} {s : State} {m : MethodId} {args : Array Value} {below : List Frame} {meth : Method} {c : Code} {nL : Nat} {A AX : Nat → Prop} {H0 : Heap} {cells slots : Nat} {Q : State → Prop} {B B1 : Heap → Prop} {pc q : Nat} {lv lv' : List (Nat × Value)} {st st0 : List Value} {cc bytes : ByteArray} {Ts wsY ws ws' : List Cond} {own Kc : String} {D : va_G} {cl : List vw_C} {tys : List (ClassId × FieldType)} {ad : Nat → Nat} {NN sz : Nat} {P P0 P1 : (Nat → va_E) → Prop} {y : MethodName} {rm : Room} {index maxL n mc ms mc0 ms0 thr : Nat} {ret : Option FieldType} {r v : Int32} {As as : List Value} {Qc : Array Value → State → Outcome → State → Prop} {hh : List (Nat × Nat × Nat × Nat)} {cI cW cZ cL : ClassId} {S S1 : sC}
theorem vv_enterW (hy : plainName y.cls = true) (hw : ws = Cond.codeWith y cc maxL ret hh :: ws') (hown : y.cls = own) (hJ : injA ad NN) (hlen : (lg_sl as).length ≤ maxL) (hlv : lv_args 0 as = lv)
    (body : ∀ (p : Program) (e : Env) (s : State) (m : MethodId) (args : Array Value) (below : List Frame) (meth : Method) (c : Code), CallFix p m c cc maxL s args ws own → va_K D cl tys s → wdA (RAs ad NN sz) ad NN → meth.sig.returnType = ret → meth.locks = false → s.heap.size = sz → (∀ q, RAs ad NN sz q → AX q) → xE AX s → xN s → c.exceptionTable.toList = tableOf hh →
      vv p l e (headSpec ws rm).room s m args below meth c maxL (RAs ad NN sz) s.heap 0 0 (MQ below Qc args s mc ms (RAs ad NN sz)) (wq D cl ad NN P) 0 lv []) : Met l y ws rm (va_Pc as (fun U => xN U ∧ xs0 D cl tys ad NN AX sz P U)) Qc mc ms (RAs ad NN sz) := by
  subst hlv
  subst hown
  refine va_MetW (cc := cc) (maxL := maxL) (ret := ret) hy hw ?_
  intro p e s m args below meth c s₁ B hml hv
  obtain ⟨rfl, hxN, hsz, hAX, hE, hB, hK⟩ := hv
  have hts := atoms_spec (ws := ws) B.pre
  have hl := lv_entry as (n := maxL) hlen
  have htab := vx_table (x := y) B (hts _ (by rw [hw]; exact List.mem_cons_self))
  rw [lg_entry_eq]
  exact body p e s m _ below meth c ⟨B.exec, B.bytes, hml, findClass_of_methodNamed B.named, hts⟩ hK ⟨hJ, fun j hj => Or.inl ⟨j, hj, rfl⟩⟩ B.returns B.notSynchronized hsz hAX hE hxN htab s.heap [] _ hl hB va_S.rf
theorem vv_lret (C : CallFix p m c cc nL s args Ts own) (hK : va_K D cl tys s) (hr : meth.sig.returnType = some .int) (hlk : meth.locks = false) (hv : v = r) (h0 : cells ≤ mc0 ∧ slots ≤ ms0) (hP1 : ∀ f, P f → P1 f) (d : decode cc pc = .ok (.ireturn, 1)) : vv p l e R s m args below meth c nL A s.heap cells slots (MQ below (va_Qi (fun r' (_ : Unit) => r' = r) (fun _ => ws0 D cl tys ad NN P1) A) args s mc0 ms0 A) (wq D cl ad NN P) pc lv [.int v] := by
  intro H locs ls hl hB hS
  obtain ⟨f, hf, hP⟩ := hB
  refine W.widen h0.1 h0.2 ?_
  exact W.iret C.1 C.2.1 hr (fun t ht hW => ⟨⟨v, (), rfl, hv, ⟨f, hP1 f hf, by rw [ht]; exact hP⟩, va_K.moved hW.alike hK⟩, hS.F ht⟩) hS.2.2 d hlk
theorem vv_enterN (hy : plainName y.cls = true) (hw : ws = Cond.code y cc maxL ret :: ws') (hown : y.cls = own) (hJ : injA ad NN) (hlen : (lg_sl as).length ≤ maxL) (hlv : lv_args 0 as = lv)
    (body : ∀ (p : Program) (e : Env) (s : State) (m : MethodId) (args : Array Value) (below : List Frame) (meth : Method) (c : Code), CallFix p m c cc maxL s args ws own → va_K D cl tys s → wdA (RAs ad NN sz) ad NN → meth.sig.returnType = ret → meth.locks = false → s.heap.size = sz → (∀ q, RAs ad NN sz q → AX q) → xE AX s → xN s →
      vv p l e (headSpec ws rm).room s m args below meth c maxL (RAs ad NN sz) s.heap 0 0 (MQ below Qc args s mc ms (RAs ad NN sz)) (wq D cl ad NN P) 0 lv []) : Met l y ws rm (va_Pc as (fun U => xN U ∧ xs0 D cl tys ad NN AX sz P U)) Qc mc ms (RAs ad NN sz) := by
  subst hlv
  subst hown
  refine Met.ofW (cc := cc) (maxL := maxL) (ret := ret) hy hw ?_
  intro p e s m args below meth c s₁ B hml hv
  obtain ⟨rfl, hxN, hsz, hAX, hE, hB, hK⟩ := hv
  have hts := atoms_spec (ws := ws) B.pre
  have hl := lv_entry as (n := maxL) hlen
  rw [lg_entry_eq]
  exact body p e s m _ below meth c ⟨B.exec, B.bytes, hml, findClass_of_methodNamed B.named, hts⟩ hK ⟨hJ, fun j hj => Or.inl ⟨j, hj, rfl⟩⟩ B.returns B.notSynchronized hsz hAX hE hxN s.heap [] _ hl hB va_S.rf
theorem vv_enterP (hy : plainName y.cls = true) (hw : ws = Cond.code y cc maxL ret :: ws') (hown : y.cls = own) (hlen : (lg_sl as).length ≤ maxL) (hlv : lv_args 0 as = lv)
    (body : ∀ (p : Program) (e : Env) (s : State) (m : MethodId) (args : Array Value) (below : List Frame) (meth : Method) (c : Code), CallFix p m c cc maxL s args ws own → meth.sig.returnType = ret → meth.locks = false →
      vv p l e (headSpec ws rm).room s m args below meth c maxL (fun _ => False) s.heap 0 0 (MQ below (va_Qi (fun r' (_ : Unit) => r' = r) (fun _ _ => True) (fun _ => False)) args s 0 0 (fun _ => False)) (fun _ => True) 0 lv []) : kP l y ws rm as r := by
  subst hlv
  subst hown
  refine Met.ofW (cc := cc) (maxL := maxL) (ret := ret) hy hw ?_
  intro p e s m args below meth c s₁ B hml hv
  obtain ⟨rfl, -⟩ := hv
  have hts := atoms_spec (ws := ws) B.pre
  have hl := lv_entry as (n := maxL) hlen
  rw [lg_entry_eq]
  exact body p e s m _ below meth c ⟨B.exec, B.bytes, hml, findClass_of_methodNamed B.named, hts⟩ B.returns B.notSynchronized s.heap [] _ hl trivial va_S.rf
theorem vv_pret (C : CallFix p m c cc nL s args Ts own) (hr : meth.sig.returnType = some .int) (hlk : meth.locks = false) (hv : v = r) (d : decode cc pc = .ok (.ireturn, 1)) : vv p l e R s m args below meth c nL A s.heap cells slots (MQ below (va_Qi (fun r' (_ : Unit) => r' = r) (fun _ _ => True) A) args s cells slots A) B pc lv [.int v] := by
  intro H locs ls hl hB hS
  exact W.iret C.1 C.2.1 hr (fun t ht hW => ⟨⟨v, (), rfl, hv, trivial⟩, hS.F ht⟩) hS.2.2 d hlk
theorem vv_lzret (C : CallFix p m c cc nL s args Ts own) (hK : va_K D cl tys s) (hr : meth.sig.returnType = some .boolean) (hlk : meth.locks = false) (hnn : narrow .boolean (.int v) = .int v) (hv : v = r) (h0 : cells ≤ mc0 ∧ slots ≤ ms0) (hP1 : ∀ f, P f → P1 f) (d : decode cc pc = .ok (.ireturn, 1)) : vv p l e R s m args below meth c nL A s.heap cells slots (MQ below (va_Qi (fun r' (_ : Unit) => r' = r) (fun _ => ws0 D cl tys ad NN P1) A) args s mc0 ms0 A) (wq D cl ad NN P) pc lv [.int v] := by
  intro H locs ls hl hB hS
  obtain ⟨f, hf, hP⟩ := hB
  refine W.widen h0.1 h0.2 ?_
  exact W.zret (ty := .boolean) C.1 C.2.1 hr hnn (fun t ht hW => ⟨⟨v, (), rfl, hv, ⟨f, hP1 f hf, by rw [ht]; exact hP⟩, va_K.moved hW.alike hK⟩, hS.F ht⟩) hS.2.2 d hlk
theorem vv_ldc (C : CallFix p m c cc nL s args Ts own) {v : Int32} (hconst : Jvm.Cond.constant own index v ∈ Ts) (d : decode cc pc = .ok (.ldc index, 2)) (hq : pc + 2 = q) (k : vv p l e R s m args below meth c nL A H0 cells slots Q B q lv (.int v :: st)) : vv p l e R s m args below meth c nL A H0 cells slots Q B pc lv st := by
  subst hq
  exact fun H locs ls hl hB hS => lv_ldc C.1 C.2.1 C.2.2.2.1 (C.2.2.2.2 _ hconst) d (k H locs ls hl hB hS)
theorem vv_irem (C : CallFix p m c cc nL s args Ts own) {x y : Int32} (d : decode cc pc = .ok (.irem, 1)) (hne : ¬ y = 0) (hq : pc + 1 = q) (k : vv p l e R s m args below meth c nL A H0 cells slots Q B q lv (.int (x - x / y * y) :: st)) : vv p l e R s m args below meth c nL A H0 cells slots Q B pc lv (.int y :: .int x :: st) := by
  subst hq
  exact fun H locs ls hl hB hS => lv_irem C.1 C.2.1 d hne (k H locs ls hl hB hS)
theorem vv_idiv (C : CallFix p m c cc nL s args Ts own) {x y : Int32} (d : decode cc pc = .ok (.idiv, 1)) (hne : ¬ y = 0) (hq : pc + 1 = q) (k : vv p l e R s m args below meth c nL A H0 cells slots Q B q lv (.int (x / y) :: st)) : vv p l e R s m args below meth c nL A H0 cells slots Q B pc lv (.int y :: .int x :: st) := by
  subst hq
  exact fun H locs ls hl hB hS => lv_idiv C.1 C.2.1 d hne (k H locs ls hl hB hS)
theorem vv_ishr (C : CallFix p m c cc nL s args Ts own) {x y : Int32} (d : decode cc pc = .ok (.ishr, 1)) (hq : pc + 1 = q) (k : vv p l e R s m args below meth c nL A H0 cells slots Q B q lv (.int (x >>> (y &&& 31)) :: st)) : vv p l e R s m args below meth c nL A H0 cells slots Q B pc lv (.int y :: .int x :: st) := by
  subst hq
  exact fun H locs ls hl hB hS => lv_ishr C.1 C.2.1 d (k H locs ls hl hB hS)
/-- a call of the class's face, caught here -/
theorem vv_wcall (C : CallFix p m c cc nL s args Ts own) (hK : va_K D vwCl tys s) (hE : xE AX s) (hAX : ∀ q, A q → AX q) (hA : ∀ z, s.heap.size ≤ z → ∀ q, RAs ad 90 z q → A q) (hM : ∀ z, kXi l y wsY rm D vwCl tys ad 90 AX z (.ref (ad 0) :: As) (PC cI cW ad S) thr r (PC cI cW ad S1) mc ms) (cw : CallW R s args own RX8 index y bytes maxL ret wsY rm mc ms n) (hn : As.length = n) (hst : st0 = As.reverse ++ .ref (ad 0) :: st) (hcat : (st.map fun v => v.category).sum ≤ 8) (hroom : cells + mc ≤ R.cells ∧ slots + ms ≤ R.slots)
    (hc : thr ≠ 0 → ∃ (pre : List ExceptionTableEntry) (x : ExceptionTableEntry) (suf : List ExceptionTableEntry), c.exceptionTable.toList = pre ++ x :: suf ∧ (∀ z ∈ pre, covers z pc = false ∨ (z.catchType ≠ 0 ∧ ∃ nm : String, (Cond.classLink own z.catchType nm).before args s = true ∧ va_Nc (exN thr) nm s)) ∧ covers x pc = true ∧ x.catchType ≠ 0 ∧ (Cond.classLink own x.catchType (exN thr)).before args s = true ∧ ∀ q9, vv p l e R s m args below meth c nL A s.heap (cells + mc) (slots + ms) Q (wq D vwCl ad 90 (PC cI cW ad S)) x.handlerPc lv [.ref q9])
    (d : decode cc pc = .ok (.invokevirtual index, 3)) (hq : pc + 3 = q) (kk : thr = 0 → vv p l e R s m args below meth c nL A s.heap (cells + mc) (slots + ms) Q (wq D vwCl ad 90 (PC cI cW ad S1)) q lv (.int r :: st)) : vv p l e R s m args below meth c nL A s.heap cells slots Q (wq D vwCl ad 90 (PC cI cW ad S)) pc lv st0 := by
  subst hq
  subst hst
  intro H locs ls hl hB hS
  have hrec : ∃ cellB : Cell, H[ad 0]? = some cellB ∧ cellB.vm.isStatics = false ∧ s.vm.findClass RX8 = some cellB.cls := by
    obtain ⟨f0, hf0, hP0⟩ := hB
    obtain ⟨fs, hfs⟩ := or8 (j := 0) (by decide +kernel) f0 hf0
    exact va_recv hK hP0 (show vwCl[8]? = some (RX8, TX8, 9) from rfl) ((WL_get (show 0 < 90 by omega)).trans (by rw [hfs]))
  exact vx_calli (vx_runV C (hM H.size) cw ⟨xs0_blind, hrec, fun U hU hW => ⟨rfl, by rw [hU], fun q hq => hAX q (hA _ hS.1 q hq), hE.go hS hAX hU hW, by rw [hU]; exact hB, va_K.moved hW.alike hK⟩⟩ rfl hn hl.1 rfl (lv_room hcat) d hroom) hS (fun q _ h => hA _ hS.1 q h) (hA _ hS.1) (fun q _ h => hA _ hS.1 q h)
    (fun E ce q9 u t H1 locs1 ht hvm hp hb1 hz hk hS1 hce hcv hcl => by
      obtain ⟨rfl, hb1⟩ := hb1
      subst ht
      obtain ⟨pre, x, suf, h1, h2, h3, h4, h5, h6⟩ := hc hp
      exact vx_catch C.2.2.2.1 pre x suf h1 h2 h3 h4 h5 (va_Nw.use rfl (hE.2.2.2.2.1 thr)) hce hcv hcl (h6 q9 _ _ ls hl hb1.1 hS1))
    (fun r1 u t H1 locs1 ht hvm hp hb1 hz hk hS1 => by
      obtain ⟨h0, rfl⟩ := hp
      subst ht
      exact kk h0 _ _ ls hl hb1.1 hS1)
theorem Foc_rc (hF : Foc D cI cW ad S S1 B B1) (hK : va_K D vwCl tys s) {H : Heap} (hB : B H) : ∃ cellB : Cell, H[ad 0]? = some cellB ∧ cellB.vm.isStatics = false ∧ s.vm.findClass RX8 = some cellB.cls := by
  obtain ⟨f0, hf0, hP0⟩ := hF.1 H hB
  obtain ⟨fs, hfs⟩ := or8 (j := 0) (by decide +kernel) f0 hf0
  exact va_recv hK hP0 (show vwCl[8]? = some (RX8, TX8, 9) from rfl) ((WL_get (show 0 < 90 by omega)).trans (by rw [hfs]))
/-- a call that never throws -/
theorem vv_fcm (C : CallFix p m c cc nL s args Ts own) (hK : va_K D vwCl tys s) (hA : ∀ q, RA ad 90 q → A q) (hF : Foc D cI cW ad S S1 B B1) (hM : kMi l y wsY rm D vwCl tys ad 90 (.ref (ad 0) :: As) (PC cI cW ad S) r (PC cI cW ad S1)) (cw : CallW R s args own RX8 index y bytes maxL ret wsY rm 0 0 n) (hn : As.length = n) (hst : st0 = As.reverse ++ .ref (ad 0) :: st) (hcat : (st.map fun v => v.category).sum ≤ 8) (hroom : cells + 0 ≤ R.cells ∧ slots + 0 ≤ R.slots) (d : decode cc pc = .ok (.invokevirtual index, 3)) (hq : pc + 3 = q) (kk : vv p l e R s m args below meth c nL A H0 cells slots Q B1 q lv (.int r :: st)) : vv p l e R s m args below meth c nL A H0 cells slots Q B pc lv st0 := by
  subst hq
  subst hst
  intro H locs ls hl hB hS
  exact va_calli (va_runV C hM cw ⟨ws0_blind, Foc_rc hF hK hB, fun U hU hW => ⟨rfl, by rw [hU]; exact hF.1 H hB, va_K.moved hW.alike hK⟩⟩ rfl hn hl.1 rfl (lv_room hcat) d hroom) hS (fun q _ h => hA q h) hA (fun r1 u t H1 locs1 ht hvm hp hb1 hz1 hk hS1 => by
    subst hp
    subst ht
    exact kk _ _ ls hl (hF.2 H _ hB hb1.1 hk) hS1)
theorem nRAs {q z : Nat} (h1 : q < z) (h2 : ¬ RA ad 90 q) : ¬ RAs ad 90 z q := by
  rintro (h | h)
  · exact h2 h
  · omega
/-- a call that may throw, and doesn't -/
theorem vv_fcx (C : CallFix p m c cc nL s args Ts own) (hK : va_K D vwCl tys s) (hE : xE AX s) (hAX : ∀ q, A q → AX q) (hA : ∀ z, s.heap.size ≤ z → ∀ q, RAs ad 90 z q → A q) (hF : Foc D cI cW ad S S1 B B1) (hM : ∀ z, kXi l y wsY rm D vwCl tys ad 90 AX z (.ref (ad 0) :: As) (PC cI cW ad S) thr r (PC cI cW ad S1) mc ms) (h0 : thr = 0) (cw : CallW R s args own RX8 index y bytes maxL ret wsY rm mc ms n) (hn : As.length = n) (hst : st0 = As.reverse ++ .ref (ad 0) :: st) (hcat : (st.map fun v => v.category).sum ≤ 8) (hroom : cells + mc ≤ R.cells ∧ slots + ms ≤ R.slots) (d : decode cc pc = .ok (.invokevirtual index, 3)) (hq : pc + 3 = q) (kk : vv p l e R s m args below meth c nL A s.heap (cells + mc) (slots + ms) Q B1 q lv (.int r :: st)) : vv p l e R s m args below meth c nL A s.heap cells slots Q B pc lv st0 := by
  subst hq
  subst hst
  intro H locs ls hl hB hS
  exact vx_calli (vx_runV C (hM H.size) cw ⟨xs0_blind, Foc_rc hF hK hB, fun U hU hW => ⟨rfl, by rw [hU], fun q hq => hAX q (hA _ hS.1 q hq), hE.go hS hAX hU hW, by rw [hU]; exact hF.1 H hB, va_K.moved hW.alike hK⟩⟩ rfl hn hl.1 rfl (lv_room hcat) d hroom) hS (fun q _ h => hA _ hS.1 q h) (hA _ hS.1) (fun q _ h => hA _ hS.1 q h)
    (fun E ce q9 u t H1 locs1 ht hvm hp hb1 hz hk hS1 hce hcv hcl => absurd h0 hp)
    (fun r1 u t H1 locs1 ht hvm hp hb1 hz hk hS1 => by
      obtain ⟨-, rfl⟩ := hp
      subst ht
      exact kk _ _ ls hl (hF.2 H _ hB hb1.1 fun q h1 h2 => hk q h1 (nRAs h1 h2)) hS1)
/-- a call of the law's own, with a table of exceptions or without -/
theorem vv_fcnW (C : CallFix p m c cc nL s args Ts own) (hK : va_K D vwCl (tyL cI cW cZ cL) s) (hE : xE AX s) (hN : xN s) (hAX : ∀ q, A q → AX q) (hA : ∀ z, s.heap.size ≤ z → ∀ q, RAs ad 90 z q → A q) (hF : Foc D cI cW ad S S1 B B1) (hM : ∀ z, kN l y wsY rm D cI cW cZ cL ad AX z As S r S1 mc ms) (cw : vx_CSW R s args own index y bytes maxL ret hh wsY rm mc ms n) (hn : As.length = n) (hst : st0 = As.reverse ++ st) (hcat : (st.map fun v => v.category).sum ≤ 8) (hroom : cells + mc ≤ R.cells ∧ slots + ms ≤ R.slots) (d : decode cc pc = .ok (.invokestatic index, 3)) (hq : pc + 3 = q) (kk : vv p l e R s m args below meth c nL A s.heap (cells + mc) (slots + ms) Q B1 q lv (.int r :: st)) : vv p l e R s m args below meth c nL A s.heap cells slots Q B pc lv st0 := by
  subst hq
  subst hst
  intro H locs ls hl hB hS
  exact va_calli (vx_runSW C (hM H.size) cw ⟨kN_blind, fun U hU hW => ⟨rfl, hN.moved hW.alike, by rw [hU], fun q hq => hAX q (hA _ hS.1 q hq), hE.go hS hAX hU hW, by rw [hU]; exact hF.1 H hB, va_K.moved hW.alike hK⟩⟩ rfl hn hl.1 rfl (lv_room hcat) d hroom) hS (fun q _ h => hA _ hS.1 q h) (hA _ hS.1) (fun r1 u t H1 locs1 ht hvm hp hb1 hz1 hk hS1 => by
    subst hp
    subst ht
    exact kk _ _ ls hl (hF.2 H _ hB hb1.1 fun q h1 h2 => hk q h1 (nRAs h1 h2)) hS1)
theorem vv_fcn (C : CallFix p m c cc nL s args Ts own) (hK : va_K D vwCl (tyL cI cW cZ cL) s) (hE : xE AX s) (hN : xN s) (hAX : ∀ q, A q → AX q) (hA : ∀ z, s.heap.size ≤ z → ∀ q, RAs ad 90 z q → A q) (hF : Foc D cI cW ad S S1 B B1) (hM : ∀ z, kN l y wsY rm D cI cW cZ cL ad AX z As S r S1 mc ms) (cw : CallB R s args own index y bytes maxL ret wsY rm mc ms n ∧ (Cond.static y).before args s = true) (hn : As.length = n) (hst : st0 = As.reverse ++ st) (hcat : (st.map fun v => v.category).sum ≤ 8) (hroom : cells + mc ≤ R.cells ∧ slots + ms ≤ R.slots) (d : decode cc pc = .ok (.invokestatic index, 3)) (hq : pc + 3 = q) (kk : vv p l e R s m args below meth c nL A s.heap (cells + mc) (slots + ms) Q B1 q lv (.int r :: st)) : vv p l e R s m args below meth c nL A s.heap cells slots Q B pc lv st0 := by
  subst hq
  subst hst
  intro H locs ls hl hB hS
  exact va_calli (va_runS C (hM H.size) cw ⟨kN_blind, fun U hU hW => ⟨rfl, hN.moved hW.alike, by rw [hU], fun q hq => hAX q (hA _ hS.1 q hq), hE.go hS hAX hU hW, by rw [hU]; exact hF.1 H hB, va_K.moved hW.alike hK⟩⟩ rfl hn hl.1 rfl (lv_room hcat) d hroom) hS (fun q _ h => hA _ hS.1 q h) (hA _ hS.1) (fun r1 u t H1 locs1 ht hvm hp hb1 hz1 hk hS1 => by
    subst hp
    subst ht
    exact kk _ _ ls hl (hF.2 H _ hB hb1.1 fun q h1 h2 => hk q h1 (nRAs h1 h2)) hS1)
theorem vv_fcp (C : CallFix p m c cc nL s args Ts own) (hB : Stb B) (hM : kP l y wsY rm As r) (cw : CallB R s args own index y bytes maxL ret wsY rm 0 0 n ∧ (Cond.static y).before args s = true) (hn : As.length = n) (hst : st0 = As.reverse ++ st) (hcat : (st.map fun v => v.category).sum ≤ 8) (hroom : cells + 0 ≤ R.cells ∧ slots + 0 ≤ R.slots) (d : decode cc pc = .ok (.invokestatic index, 3)) (hq : pc + 3 = q) (kk : vv p l e R s m args below meth c nL A H0 cells slots Q B q lv (.int r :: st)) : vv p l e R s m args below meth c nL A H0 cells slots Q B pc lv st0 := by
  subst hq
  subst hst
  intro H locs ls hl hB1 hS
  exact va_calli (va_runS C hM cw ⟨kP_blind, fun U hU hW => ⟨rfl, trivial⟩⟩ rfl hn hl.1 rfl (lv_room hcat) d hroom) hS (fun q _ h => absurd h id) (fun q h => absurd h id) (fun r1 u t H1 locs1 ht hvm hp hb1 hz1 hk hS1 => by
    subst hp
    subst ht
    exact kk _ _ ls hl (hB H _ hB1 fun q h1 => hk q h1 id) hS1)
/-- where two roads meet: the value, whichever it is -/
theorem vv_val {a b : Int32} (h : a = b) (kk : vv p l e R s m args below meth c nL A H0 cells slots Q B pc lv (.int b :: st)) : vv p l e R s m args below meth c nL A H0 cells slots Q B pc lv (.int a :: st) := h ▸ kk
end VVF
/-! two objects, the one's cells behind the other's -/
def adO (z : Nat) : Nat → Nat := fun i => z + i
def adP (z : Nat) : Nat → Nat := fun i => (z + 90) + i
theorem adO_inj (z : Nat) : injA (adO z) 90 := fun i j hi hj h => by unfold adO at h; omega
theorem adP_inj (z : Nat) : injA (adP z) 90 := fun i j hi hj h => by unfold adP at h; omega
def B2 (D : va_G) (cI cW : ClassId) (z : Nat) (S T : sC) : Heap → Prop := fun H => wq D vwCl (adO z) 90 (PC cI cW (adO z) S) H ∧ wq D vwCl (adP z) 90 (PC cI cW (adP z) T) H
section VB2
variable {D : va_G} {cI cW cZ cL : ClassId} {z : Nat} {S S1 T T1 : sC}
theorem Foc_o : Foc D cI cW (adO z) S S1 (B2 D cI cW z S T) (B2 D cI cW z S1 T) := ⟨fun H h => h.1, fun H H1 h h1 hk => ⟨h1, wq_kept h.2 fun j hj => hk _ (wq_lt h.2 hj) (by rintro ⟨i, hi, e⟩; unfold adO adP at e; omega)⟩⟩
theorem Foc_p : Foc D cI cW (adP z) T T1 (B2 D cI cW z S T) (B2 D cI cW z S T1) := ⟨fun H h => h.2, fun H H1 h h1 hk => ⟨wq_kept h.1 fun j hj => hk _ (wq_lt h.1 hj) (by rintro ⟨i, hi, e⟩; unfold adO adP at e; omega), h1⟩⟩
theorem Stb_2 : Stb (B2 D cI cW z S T) := fun H H1 h hk => ⟨Stb_1 H H1 h.1 hk, Stb_1 H H1 h.2 hk⟩
theorem hA_o {n : Nat} (hz : z ≤ n) : ∀ zz, n ≤ zz → ∀ q, RAs (adO z) 90 zz q → AZ z q := fun zz h q hq => by
  rcases hq with ⟨j, hj, rfl⟩ | h1
  · show z ≤ adO z j; unfold adO; omega
  · show z ≤ q; omega
theorem hA_p {n : Nat} (hz : z ≤ n) : ∀ zz, n ≤ zz → ∀ q, RAs (adP z) 90 zz q → AZ z q := fun zz h q hq => by
  rcases hq with ⟨j, hj, rfl⟩ | h1
  · show z ≤ adP z j; unfold adP; omega
  · show z ≤ q; omega
theorem hR_o : ∀ q, RA (adO z) 90 q → AZ z q := fun q hq => by obtain ⟨j, hj, rfl⟩ := hq; show z ≤ adO z j; unfold adO; omega
theorem hR_p : ∀ q, RA (adP z) 90 q → AZ z q := fun q hq => by obtain ⟨j, hj, rfl⟩ := hq; show z ≤ adP z j; unfold adP; omega
theorem wq_len {ad : Nat → Nat} {H : Heap} (h : wq D vwCl ad 90 (PC cI cW ad S) H) : wfC S := by
  obtain ⟨f, hf, -⟩ := h
  exact oc_wf f hf
/-- the law's method over two objects alike: it answers 1 -/
def kA (l : Launch) (y : MethodName) (ws : List Cond) (rm : Room) (D : va_G) (cI cW cZ cL : ClassId) (z : Nat) (S : sC) (mc ms : Nat) : Prop :=
  Met l y ws rm (va_Pc [.ref (adO z 0), .ref (adP z 0)] (fun U => xN U ∧ xE (AZ z) U ∧ z ≤ U.heap.size ∧ va_K D vwCl (tyL cI cW cZ cL) U ∧ B2 D cI cW z S S U.heap)) (va_Qi (fun r' (_ : Unit) => r' = 1) (fun _ U => B2 D cI cW z S S U.heap) (AZ z)) mc ms (AZ z)
theorem kA_blind {as : List Value} : FrameBlind (va_Pc as (fun U => xN U ∧ xE (AZ z) U ∧ z ≤ U.heap.size ∧ va_K D vwCl (tyL cI cW cZ cL) U ∧ B2 D cI cW z S S U.heap)) := fun a U g mk h => ⟨h.1, xN.moved (u := U) (U := U.calling g mk a) (Vm.Alike.refl U.vm) h.2.1, h.2.2.1.calling, h.2.2.2.1, va_K.moved (u := U) (U := U.calling g mk a) (Vm.Alike.refl U.vm) h.2.2.2.2.1, h.2.2.2.2.2⟩
end VB2
section VVG
variable {p : Program} {l : Launch} {e : Env} {R : Room} {s : State} {m : MethodId} {args : Array Value} {below : List Frame} {meth : Method} {c : Code} {nL : Nat} {A AX : Nat → Prop} {H0 : Heap} {cells slots : Nat} {Q : State → Prop} {B B1 : Heap → Prop} {pc q : Nat} {lv lv' : List (Nat × Value)} {st st0 : List Value} {cc bytes : ByteArray} {Ts wsY ws ws' : List Cond} {own Kc : String} {D : va_G} {y : MethodName} {rm : Room} {index maxL n mc ms mc0 ms0 z : Nat} {ret : Option FieldType} {r v : Int32} {As as : List Value} {Qc : Array Value → State → Outcome → State → Prop} {cI cW cZ cL : ClassId} {S : sC}
theorem vv_enter2 (hy : plainName y.cls = true) (hw : ws = Cond.code y cc maxL ret :: ws') (hown : y.cls = own) (hlen : 2 ≤ maxL)
    (body : ∀ (p : Program) (e : Env) (s : State) (m : MethodId) (args : Array Value) (below : List Frame) (meth : Method) (c : Code), CallFix p m c cc maxL s args ws own → va_K D vwCl (tyL cI cW cZ cL) s → meth.sig.returnType = ret → meth.locks = false → z ≤ s.heap.size → xE (AZ z) s → xN s → wfC S →
      vv p l e (headSpec ws rm).room s m args below meth c maxL (AZ z) s.heap 0 0 (MQ below (va_Qi (fun r' (_ : Unit) => r' = 1) (fun _ U => B2 D cI cW z S S U.heap) (AZ z)) args s mc ms (AZ z)) (B2 D cI cW z S S) 0 [(0, .ref (adO z 0)), (1, .ref (adP z 0))] []) : kA l y ws rm D cI cW cZ cL z S mc ms := by
  subst hown
  refine Met.ofW (cc := cc) (maxL := maxL) (ret := ret) hy hw ?_
  intro p e s m args below meth c s₁ B hml hv
  obtain ⟨rfl, hxN, hE, hz, hK, hB⟩ := hv
  have hts := atoms_spec (ws := ws) B.pre
  have hl := lv_entry [.ref (adO z 0), .ref (adP z 0)] (n := maxL) hlen
  rw [lg_entry_eq]
  exact body p e s m _ below meth c ⟨B.exec, B.bytes, hml, findClass_of_methodNamed B.named, hts⟩ hK B.returns B.notSynchronized hz hE hxN (wq_len hB.1) s.heap [] _ hl hB va_S.rf
theorem vv_zret2 (C : CallFix p m c cc nL s args Ts own) (hr : meth.sig.returnType = some .boolean) (hlk : meth.locks = false) (h0 : cells ≤ mc0 ∧ slots ≤ ms0) (d : decode cc pc = .ok (.ireturn, 1)) : vv p l e R s m args below meth c nL (AZ z) s.heap cells slots (MQ below (va_Qi (fun r' (_ : Unit) => r' = 1) (fun _ U => B2 D cI cW z S S U.heap) (AZ z)) args s mc0 ms0 (AZ z)) (B2 D cI cW z S S) pc lv [.int 1] := by
  intro H locs ls hl hB hS
  refine W.widen h0.1 h0.2 ?_
  exact W.zret (ty := .boolean) C.1 C.2.1 hr rfl (fun t ht hW => ⟨⟨1, (), rfl, rfl, by show B2 D cI cW z S S t.heap; rw [ht]; exact hB⟩, hS.F ht⟩) hS.2.2 d hlk
theorem vv_fca (C : CallFix p m c cc nL s args Ts own) (hK : va_K D vwCl (tyL cI cW cZ cL) s) (hE : xE (AZ z) s) (hN : xN s) (hz : z ≤ s.heap.size) (hM : kA l y wsY rm D cI cW cZ cL z S mc ms) (cw : CallB R s args own index y bytes maxL ret wsY rm mc ms 2 ∧ (Cond.static y).before args s = true) (hcat : (st.map fun v => v.category).sum ≤ 8) (hroom : cells + mc ≤ R.cells ∧ slots + ms ≤ R.slots) (d : decode cc pc = .ok (.invokestatic index, 3)) (hq : pc + 3 = q) (kk : vv p l e R s m args below meth c nL (AZ z) s.heap (cells + mc) (slots + ms) Q (B2 D cI cW z S S) q lv (.int 1 :: st)) : vv p l e R s m args below meth c nL (AZ z) s.heap cells slots Q (B2 D cI cW z S S) pc lv (.ref (adP z 0) :: .ref (adO z 0) :: st) := by
  subst hq
  intro H locs ls hl hB hS
  exact va_calli (va_runS (As := [.ref (adO z 0), .ref (adP z 0)]) C hM cw ⟨kA_blind, fun U hU hW => ⟨rfl, hN.moved hW.alike, hE.go hS (fun _ h => h) hU hW, by rw [hU]; exact Nat.le_trans hz hS.1, va_K.moved hW.alike hK, by rw [hU]; exact hB⟩⟩ rfl rfl hl.1 rfl (lv_room hcat) d hroom) hS (fun q _ h => h) (fun q h => h) (fun r1 u t H1 locs1 ht hvm hp hb1 hz1 hk hS1 => by
    subst hp
    subst ht
    exact kk _ _ ls hl hb1 hS1)
end VVG
