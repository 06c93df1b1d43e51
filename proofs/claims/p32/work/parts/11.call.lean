/-! contracts over worlds of cells ad 0 .. ad (NN - 1): what is there is some f with P f -/
def RA (ad : Nat → Nat) (N : Nat) : Nat → Prop := fun q => ∃ j, j < N ∧ q = ad j
def ws0 (D : va_G) (cl : List vw_C) (tys : List (ClassId × FieldType)) (ad : Nat → Nat) (N : Nat) (P : (Nat → va_E) → Prop) : State → Prop := fun U => wq D cl ad N P U.heap ∧ va_K D cl tys U
/-- the method answers r, and then P1 holds -/
def kMi (l : Launch) (y : MethodName) (ws : List Cond) (rm : Room) (D : va_G) (cl : List vw_C) (tys : List (ClassId × FieldType)) (ad : Nat → Nat) (N : Nat) (as : List Value) (P : (Nat → va_E) → Prop) (r : Int32) (P1 : (Nat → va_E) → Prop) : Prop :=
  Met l y ws rm (va_Pc as (ws0 D cl tys ad N P)) (va_Qi (fun r' (_ : Unit) => r' = r) (fun _ => ws0 D cl tys ad N P1) (RA ad N)) 0 0 (RA ad N)
def kMv (l : Launch) (y : MethodName) (ws : List Cond) (rm : Room) (D : va_G) (cl : List vw_C) (tys : List (ClassId × FieldType)) (ad : Nat → Nat) (N : Nat) (as : List Value) (P : (Nat → va_E) → Prop) (P1 : (Nat → va_E) → Prop) : Prop :=
  Met l y ws rm (va_Pc as (ws0 D cl tys ad N P)) (va_Qv (fun (_ : Unit) => True) (fun _ => ws0 D cl tys ad N P1) (RA ad N)) 0 0 (RA ad N)
/-- the method answers the object at the address a -/
def kMr (l : Launch) (y : MethodName) (ws : List Cond) (rm : Room) (D : va_G) (cl : List vw_C) (tys : List (ClassId × FieldType)) (ad : Nat → Nat) (N : Nat) (as : List Value) (P : (Nat → va_E) → Prop) (a : Nat) (P1 : (Nat → va_E) → Prop) : Prop :=
  Met l y ws rm (va_Pc as (ws0 D cl tys ad N P)) (va_Qr (fun (_ : Unit) => True) (fun _ a' t => a' = a ∧ ws0 D cl tys ad N P1 t) (RA ad N)) 0 0 (RA ad N)
def injA (ad : Nat → Nat) (N : Nat) : Prop := ∀ i j, i < N → j < N → ad i = ad j → i = j
theorem injA.wd {ad : Nat → Nat} {N : Nat} (h : injA ad N) : wdA (RA ad N) ad N := ⟨h, fun j hj => ⟨j, hj, rfl⟩⟩
theorem ws0_blind {D : va_G} {cl : List vw_C} {tys : List (ClassId × FieldType)} {ad : Nat → Nat} {N : Nat} {P : (Nat → va_E) → Prop} {as : List Value} : FrameBlind (va_Pc as (ws0 D cl tys ad N P)) := fun a U g mk h => ⟨h.1, h.2.1, va_K.moved (u := U) (U := U.calling g mk a) (Vm.Alike.refl U.vm) h.2.2⟩
section VV3
variable {p : Program} {l : Launch} {e : Env} {R : Room} {s : State} {m : MethodId} {args : Array Value} {below : List Frame} {meth : Method} {c : Code} {nL : Nat} {A : Nat → Prop} {H0 : Heap} {cells slots : Nat} {Q : State → Prop} {B B1 : Heap → Prop} {pc q : Nat} {lv lv' : List (Nat × Value)} {st st0 : List Value} {cc bytes : ByteArray} {Ts wsY ws ws' : List Cond} {own Kc : String} {D : va_G} {cl : List vw_C} {tys : List (ClassId × FieldType)} {ad : Nat → Nat} {NN : Nat} {P P1 : (Nat → va_E) → Prop} {y : MethodName} {rm : Room} {index maxL n mc ms : Nat} {ret : Option FieldType} {r v : Int32} {As as : List Value} {Qc : Array Value → State → Outcome → State → Prop}
theorem vv_enter (hy : plainName y.cls = true) (hw : ws = Cond.code y cc maxL ret :: ws') (hown : y.cls = own) (hJ : injA ad NN) (hlen : (lg_sl as).length ≤ maxL) (hlv : lv_args 0 as = lv)
    (body : ∀ (p : Program) (e : Env) (s : State) (m : MethodId) (args : Array Value) (below : List Frame) (meth : Method) (c : Code), CallFix p m c cc maxL s args ws own → va_K D cl tys s → wdA (RA ad NN) ad NN → meth.sig.returnType = ret → meth.locks = false →
      vv p l e (headSpec ws rm).room s m args below meth c maxL (RA ad NN) s.heap 0 0 (MQ below Qc args s mc ms (RA ad NN)) (wq D cl ad NN P) 0 lv []) : Met l y ws rm (va_Pc as (ws0 D cl tys ad NN P)) Qc mc ms (RA ad NN) := by
  subst hlv
  subst hown
  refine Met.ofW (cc := cc) (maxL := maxL) (ret := ret) hy hw ?_
  intro p e s m args below meth c s₁ B hml hv
  obtain ⟨rfl, hB, hK⟩ := hv
  have hts := atoms_spec (ws := ws) B.pre
  have hl := lv_entry as (n := maxL) hlen
  rw [lg_entry_eq]
  exact body p e s m _ below meth c ⟨B.exec, B.bytes, hml, findClass_of_methodNamed B.named, hts⟩ hK hJ.wd B.returns B.notSynchronized s.heap [] _ hl hB va_S.rf

theorem vv_iret (C : CallFix p m c cc nL s args Ts own) (hK : va_K D cl tys s) (hr : meth.sig.returnType = some .int) (hlk : meth.locks = false) (hv : v = r) (hP1 : ∀ f, P f → P1 f) (d : decode cc pc = .ok (.ireturn, 1)) : vv p l e R s m args below meth c nL (RA ad NN) s.heap mc ms (MQ below (va_Qi (fun r' (_ : Unit) => r' = r) (fun _ => ws0 D cl tys ad NN P1) (RA ad NN)) args s mc ms (RA ad NN)) (wq D cl ad NN P) pc lv [.int v] := by
  intro H locs ls hl hB hS
  obtain ⟨f, hf, hP⟩ := hB
  exact W.iret C.1 C.2.1 hr (fun t ht hW => ⟨⟨v, (), rfl, hv, ⟨f, hP1 f hf, by rw [ht]; exact hP⟩, va_K.moved hW.alike hK⟩, hS.F ht⟩) hS.2.2 d hlk
theorem vv_zret (C : CallFix p m c cc nL s args Ts own) (hK : va_K D cl tys s) (hr : meth.sig.returnType = some .boolean) (hlk : meth.locks = false) (hn : narrow .boolean (.int v) = .int v) (hv : v = r) (hP1 : ∀ f, P f → P1 f) (d : decode cc pc = .ok (.ireturn, 1)) : vv p l e R s m args below meth c nL (RA ad NN) s.heap mc ms (MQ below (va_Qi (fun r' (_ : Unit) => r' = r) (fun _ => ws0 D cl tys ad NN P1) (RA ad NN)) args s mc ms (RA ad NN)) (wq D cl ad NN P) pc lv [.int v] := by
  intro H locs ls hl hB hS
  obtain ⟨f, hf, hP⟩ := hB
  exact W.zret (ty := .boolean) C.1 C.2.1 hr hn (fun t ht hW => ⟨⟨v, (), rfl, hv, ⟨f, hP1 f hf, by rw [ht]; exact hP⟩, va_K.moved hW.alike hK⟩, hS.F ht⟩) hS.2.2 d hlk
theorem vv_vret (C : CallFix p m c cc nL s args Ts own) (hK : va_K D cl tys s) (hr : meth.sig.returnType = none) (hlk : meth.locks = false) (hP1 : ∀ f, P f → P1 f) (d : decode cc pc = .ok (.return_, 1)) : vv p l e R s m args below meth c nL (RA ad NN) s.heap mc ms (MQ below (va_Qv (fun (_ : Unit) => True) (fun _ => ws0 D cl tys ad NN P1) (RA ad NN)) args s mc ms (RA ad NN)) (wq D cl ad NN P) pc lv [] := by
  intro H locs ls hl hB hS
  obtain ⟨f, hf, hP⟩ := hB
  exact W.vret C.1 C.2.1 hr (fun t ht hW => ⟨⟨(), rfl, trivial, ⟨f, hP1 f hf, by rw [ht]; exact hP⟩, va_K.moved hW.alike hK⟩, hS.F ht⟩) hS.2.2 d hlk
theorem vv_aret {a b : Nat} {nm : String} (C : CallFix p m c cc nL s args Ts own) (hK : va_K D cl tys s) (hr : meth.sig.returnType = some (.object nm)) (hlk : meth.locks = false) (hv : b = a) (hP1 : ∀ f, P f → P1 f) (d : decode cc pc = .ok (.areturn, 1)) : vv p l e R s m args below meth c nL (RA ad NN) s.heap mc ms (MQ below (va_Qr (fun (_ : Unit) => True) (fun _ a' t => a' = a ∧ ws0 D cl tys ad NN P1 t) (RA ad NN)) args s mc ms (RA ad NN)) (wq D cl ad NN P) pc lv [.ref b] := by
  intro H locs ls hl hB hS
  obtain ⟨f, hf, hP⟩ := hB
  exact W.aret (rt := .object nm) C.1 C.2.1 hr (Or.inl ⟨nm, rfl⟩) (Or.inr ⟨b, rfl⟩) (fun t ht hW => ⟨⟨(), b, rfl, trivial, hv, ⟨f, hP1 f hf, by rw [ht]; exact hP⟩, va_K.moved hW.alike hK⟩, hS.F ht⟩) hS.2.2 d hlk
theorem vv_calli (C : CallFix p m c cc nL s args Ts own) (hK : va_K D cl tys s) (hA : ∀ q, RA ad NN q → A q) (jr : Nat) (hjr : jr < NN) {ci Nk : Nat} {T : u_T} (hrc : ∀ f, P f → ∃ fs, f jr = .inr (ci, fs)) (hc : cl[ci]? = some (Kc, T, Nk)) (hM : kMi l y wsY rm D cl tys ad NN (.ref (ad jr) :: As) P r P1) (cw : CallW R s args own Kc index y bytes maxL ret wsY rm 0 0 n) (hn : As.length = n) (hst : st0 = As.reverse ++ .ref (ad jr) :: st) (hcat : (st.map fun v => v.category).sum ≤ 8) (hroom : cells + 0 ≤ R.cells ∧ slots + 0 ≤ R.slots) (d : decode cc pc = .ok (.invokevirtual index, 3)) (hq : pc + 3 = q) (kk : vv p l e R s m args below meth c nL A H0 cells slots Q (wq D cl ad NN P1) q lv (.int r :: st)) : vv p l e R s m args below meth c nL A H0 cells slots Q (wq D cl ad NN P) pc lv st0 := by
  subst hq
  subst hst
  intro H locs ls hl hB hS
  have hrec : ∃ cellB : Cell, H[ad jr]? = some cellB ∧ cellB.vm.isStatics = false ∧ s.vm.findClass Kc = some cellB.cls := by
    obtain ⟨f, hf, hP⟩ := hB
    obtain ⟨fs, hfs⟩ := hrc f hf
    exact va_recv hK hP hc ((WL_get hjr).trans (by rw [hfs]))
  exact va_calli (va_runV C hM cw ⟨ws0_blind, hrec, fun U hU hW => ⟨rfl, by rw [hU]; exact hB, va_K.moved hW.alike hK⟩⟩ rfl hn hl.1 rfl (lv_room hcat) d hroom) hS (fun q _ h => hA q h) hA (fun r1 u t H1 locs1 ht hvm hp hb1 hz hk hS1 => by subst hp; subst ht; exact kk _ _ ls hl hb1.1 hS1)
theorem vv_callv (C : CallFix p m c cc nL s args Ts own) (hK : va_K D cl tys s) (hA : ∀ q, RA ad NN q → A q) (jr : Nat) (hjr : jr < NN) {ci Nk : Nat} {T : u_T} (hrc : ∀ f, P f → ∃ fs, f jr = .inr (ci, fs)) (hc : cl[ci]? = some (Kc, T, Nk)) (hM : kMv l y wsY rm D cl tys ad NN (.ref (ad jr) :: As) P P1) (cw : CallW R s args own Kc index y bytes maxL ret wsY rm 0 0 n) (hn : As.length = n) (hst : st0 = As.reverse ++ .ref (ad jr) :: st) (hcat : (st.map fun v => v.category).sum ≤ 8) (hroom : cells + 0 ≤ R.cells ∧ slots + 0 ≤ R.slots) (d : decode cc pc = .ok (.invokevirtual index, 3)) (hq : pc + 3 = q) (kk : vv p l e R s m args below meth c nL A H0 cells slots Q (wq D cl ad NN P1) q lv (st)) : vv p l e R s m args below meth c nL A H0 cells slots Q (wq D cl ad NN P) pc lv st0 := by
  subst hq
  subst hst
  intro H locs ls hl hB hS
  have hrec : ∃ cellB : Cell, H[ad jr]? = some cellB ∧ cellB.vm.isStatics = false ∧ s.vm.findClass Kc = some cellB.cls := by
    obtain ⟨f, hf, hP⟩ := hB
    obtain ⟨fs, hfs⟩ := hrc f hf
    exact va_recv hK hP hc ((WL_get hjr).trans (by rw [hfs]))
  exact va_callv (va_runV C hM cw ⟨ws0_blind, hrec, fun U hU hW => ⟨rfl, by rw [hU]; exact hB, va_K.moved hW.alike hK⟩⟩ rfl hn hl.1 rfl (lv_room hcat) d hroom) hS (fun q _ h => hA q h) hA (fun u t H1 locs1 ht hvm hp hb1 hz hk hS1 => by subst ht; exact kk _ _ ls hl hb1.1 hS1)
theorem vv_callr {a : Nat} (C : CallFix p m c cc nL s args Ts own) (hK : va_K D cl tys s) (hA : ∀ q, RA ad NN q → A q) (jr : Nat) (hjr : jr < NN) {ci Nk : Nat} {T : u_T} (hrc : ∀ f, P f → ∃ fs, f jr = .inr (ci, fs)) (hc : cl[ci]? = some (Kc, T, Nk)) (hM : kMr l y wsY rm D cl tys ad NN (.ref (ad jr) :: As) P a P1) (cw : CallW R s args own Kc index y bytes maxL ret wsY rm 0 0 n) (hn : As.length = n) (hst : st0 = As.reverse ++ .ref (ad jr) :: st) (hcat : (st.map fun v => v.category).sum ≤ 8) (hroom : cells + 0 ≤ R.cells ∧ slots + 0 ≤ R.slots) (d : decode cc pc = .ok (.invokevirtual index, 3)) (hq : pc + 3 = q) (kk : vv p l e R s m args below meth c nL A H0 cells slots Q (wq D cl ad NN P1) q lv (.ref a :: st)) : vv p l e R s m args below meth c nL A H0 cells slots Q (wq D cl ad NN P) pc lv st0 := by
  subst hq
  subst hst
  intro H locs ls hl hB hS
  have hrec : ∃ cellB : Cell, H[ad jr]? = some cellB ∧ cellB.vm.isStatics = false ∧ s.vm.findClass Kc = some cellB.cls := by
    obtain ⟨f, hf, hP⟩ := hB
    obtain ⟨fs, hfs⟩ := hrc f hf
    exact va_recv hK hP hc ((WL_get hjr).trans (by rw [hfs]))
  exact va_callr (va_runV C hM cw ⟨ws0_blind, hrec, fun U hU hW => ⟨rfl, by rw [hU]; exact hB, va_K.moved hW.alike hK⟩⟩ rfl hn hl.1 rfl (lv_room hcat) d hroom) hS (fun q _ h => hA q h) hA (fun u ra t H1 locs1 ht hvm hp hb1 hz hk hS1 => by obtain ⟨rfl, hb1⟩ := hb1; subst ht; exact kk _ _ ls hl hb1.1 hS1)
theorem vv_callsi (C : CallFix p m c cc nL s args Ts own) (hK : va_K D cl tys s) (hA : ∀ q, RA ad NN q → A q) (hM : kMi l y wsY rm D cl tys ad NN As P r P1) (cw : CallB R s args own index y bytes maxL ret wsY rm 0 0 n ∧ (Cond.static y).before args s = true) (hn : As.length = n) (hst : st0 = As.reverse ++ st) (hcat : (st.map fun v => v.category).sum ≤ 8) (hroom : cells + 0 ≤ R.cells ∧ slots + 0 ≤ R.slots) (d : decode cc pc = .ok (.invokestatic index, 3)) (hq : pc + 3 = q) (kk : vv p l e R s m args below meth c nL A H0 cells slots Q (wq D cl ad NN P1) q lv (.int r :: st)) : vv p l e R s m args below meth c nL A H0 cells slots Q (wq D cl ad NN P) pc lv st0 := by
  subst hq
  subst hst
  intro H locs ls hl hB hS
  exact va_calli (va_runS C hM cw ⟨ws0_blind, fun U hU hW => ⟨rfl, by rw [hU]; exact hB, va_K.moved hW.alike hK⟩⟩ rfl hn hl.1 rfl (lv_room hcat) d hroom) hS (fun q _ h => hA q h) hA (fun r1 u t H1 locs1 ht hvm hp hb1 hz hk hS1 => by subst hp; subst ht; exact kk _ _ ls hl hb1.1 hS1)
theorem vv_copyi (C : CallFix p m c cc nL s args Ts own) (hK : va_K D cl tys s) (hW : wdA A ad NN) (j : Nat) (hj : j < NN) (t0 : Nat) {cA : ClassId} {k0 : Nat} {g : Nat → Int32} (he : ∀ f, P f → f j = .inl (cA, k0, .inl g)) (ht : tys[t0]? = some (cA, .int)) {sp dp k : Int32} (h1 : ¬ sp < 0) (h2 : ¬ dp < 0) (h3 : ¬ k < 0) (h4 : sp.toNatClampNeg + k.toNatClampNeg ≤ k0) (h5 : dp.toNatClampNeg + k.toNatClampNeg ≤ k0) (hlink : Cond.methodLink own index arraycopyName ∈ Ts) (hnat : Cond.native arraycopyName ∈ Ts) (hstat : Cond.static arraycopyName ∈ Ts) (hini : Cond.initialized "java/lang/System" ∈ Ts) (hframes : 1 ≤ R.frames) (hlocals : (st.map fun v => v.category).sum + (nativeFrameWords "java/lang/System" "arraycopy" 5 + 11) ≤ R.locals) (hP1 : ∀ f, P f → P1 (ud f j (.inl (cA, k0, .inl (va_cpy g g sp.toNatClampNeg dp.toNatClampNeg k.toNatClampNeg))))) (d : decode cc pc = .ok (.invokestatic index, 3)) (hq : pc + 3 = q) (kk : vv p l e R s m args below meth c nL A H0 cells slots Q (wq D cl ad NN P1) q lv st) : vv p l e R s m args below meth c nL A H0 cells slots Q (wq D cl ad NN P) pc lv (.int k :: .int dp :: .ref (ad j) :: .int sp :: .ref (ad j) :: st) := by
  subst hq
  intro H locs ls hl hB hS
  obtain ⟨f, hf, hP⟩ := hB
  have hts := C.2.2.2.2
  exact va_copyi C.1 C.2.1 (C.2.2.1.trans hl.1.symm) C.2.2.2.1 (hts _ hlink) (hts _ hnat) (hts _ hstat) (hts _ hini) hK hP (wd_D hW f) hS j j t0 t0 ((WL_get hj).trans (by rw [he f hf])) ((WL_get hj).trans (by rw [he f hf])) ht ht rfl h1 h2 h3 h4 h5 (fun _ _ => rfl) hframes hlocals d (fun H1 locs1 hP1' _ hS1 => kk H1 locs1 ls hl ⟨_, hP1 f hf, by rw [WL_set] at hP1'; exact hP1'⟩ hS1)
end VV3
