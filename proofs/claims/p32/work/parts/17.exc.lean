section VXQ
variable {p : Program} {l : Launch} {e : Env} {R : Room} {s : State} {m : MethodId} {args : Array Value} {below : List Frame} {meth : Method} {c : Code} {H : Heap} {locs : List Loc} {cells slots : Nat} {Q : State → Prop} {mc ms : Nat} {free : Addr → Prop} {A0 A1 : Nat → Prop} {H0 : Heap} {a : Array Value} {ls : Array Slot} {st0 rest : List Value} {pc : Nat}
theorem vx_callq {S SX : Type} {post : Option Nat → S → Prop} {px : SX → Prop} {B : S → State → Prop} {BX : String → SX → State → Prop} {AX : Nat → Prop} (hr : vx_Run p l e R s m args below meth c H locs cells slots mc ms (F0 m pc ls st0) rest (va_Qq post B A1 a) (vx_X px BX AX) free) (hS : va_S A0 H0 H locs) (hA : ∀ q, q < H.size → A1 q → A0 q) (hf : ∀ q, free q → A0 q) (hAX : ∀ q, q < H.size → AX q → A0 q)
    (kx : ∀ (E : String) (ce : Cell) (q9 : Addr) (u : SX) (t : State) (H1 : Heap) (locs1 : List Loc), t.heap = H1 → s.vm.Alike t.vm → px u → BX E u t → H.size ≤ H1.size → (∀ q : Nat, q < H.size → ¬ AX q → H1[q]? = H[q]?) → va_S A0 H0 H1 locs1 → H1[q9]? = some ce → ce.vm = .none → s.vm.findClass E = some ce.cls → vx_W p l e R s m args below meth c H1 locs1 (cells + mc) (slots + ms) Q (F0 m pc ls rest) q9)
    (kk : ∀ (r : Option Nat) (u : S) (t : State) (H1 : Heap) (locs1 : List Loc), t.heap = H1 → s.vm.Alike t.vm → post r u → B u t → H.size ≤ H1.size → (∀ q : Nat, q < H.size → ¬ A1 q → H1[q]? = H[q]?) → va_S A0 H0 H1 locs1 → W p l e R s m args below meth c H1 locs1 (cells + mc) (slots + ms) Q (F0 m (pc + 3) ls (va_rf r :: rest))) : W p l e R s m args below meth c H locs cells slots Q (F0 m pc ls st0) := by
  intro T hT X
  rcases hr T hT X with ⟨v, st₀, t, T', L, h0, X', hL, e1, e2, ⟨⟨r, u, hv, hp, hb⟩, hF⟩, st⟩ | ⟨q, st₀, t, T', L, E, ce, h0, X', hL, e1, e2, ⟨u, hp, hb, hF⟩, hce, hcv, hcl, st⟩
  · cases hv
    obtain ⟨k1, k2, k3⟩ := vx_keep h0 e1 hS hA hf hL hF
    obtain ⟨t2, a1, b1⟩ := kk r u t T'.heap (locs ++ L) e1.symm (by rw [← e2]; exact X'.warmed.alike) hp hb k1 k2 k3 T' rfl X'
    exact ⟨t2, st t2 a1, b1⟩
  · obtain ⟨k1, k2, k3⟩ := vx_keep h0 e1 hS hAX hf hL hF
    obtain ⟨t2, a1, b1⟩ := kx E ce q u t T'.heap (locs ++ L) e1.symm (by rw [← e2]; exact X'.warmed.alike) hp hb k1 k2 k3 (by rw [e1]; exact hce) hcv hcl T' rfl X'
    exact ⟨t2, st.trans a1, b1⟩
end VXQ
/-! methods that throw: contracts and rows over vv -/
def exN (k : Nat) : String := if k = 1 then "java/lang/IndexOutOfBoundsException" else if k = 2 then "java/lang/IllegalArgumentException" else "java/lang/IllegalStateException"
def exNs : List String := ["java/lang/RuntimeException", "java/lang/Exception"]
def exDs : List String := ["java/lang/RuntimeException", "java/lang/Exception", "java/lang/Throwable"]
/-- what a throw needs of the start -/
def xE (A : Nat → Prop) (U : State) : Prop :=
  (∃ a, vk_R RX8 217 "there is no such writer" a U) ∧ (∃ a, vk_R RX8 222 "there is nothing of this number or at this place" a U) ∧ (∃ a, vk_R RX8 226 "an argument is out of its range" a U) ∧ (∃ a, vk_R RX8 231 "the state does not allow this call" a U) ∧
  (∀ k, va_Nw (.castable (exN k) (exN k)) U) ∧ (∀ C, va_Nw (.declares (Bundle.initS C)) U ∨ C ∉ exDs) ∧ vx_Zq Bundle.tN "UNASSIGNED_STACK" Bundle.steD A U U.heap ∧ vx_Zq Bundle.tN "SUPPRESSED_SENTINEL" Bundle.listD A U U.heap
theorem xE.go {A A1 : Nat → Prop} {s U : State} {H : Heap} {locs : List Loc} (h : xE A s) (hS : va_S A1 s.heap H locs) (hA : ∀ q, A1 q → A q) (hU : U.heap = H) (hW : s.WarmedH U.vm) : xE A U := by
  obtain ⟨⟨a1, h1⟩, ⟨a2, h2⟩, ⟨a3, h3⟩, ⟨a4, h4⟩, hc, hd, hz1, hz2⟩ := h
  refine ⟨⟨a1, vk_R.warm hW h1⟩, ⟨a2, vk_R.warm hW h2⟩, ⟨a3, vk_R.warm hW h3⟩, ⟨a4, vk_R.warm hW h4⟩, fun k => va_Nw.warmC hW (hc k), fun C => (hd C).imp (fun h => va_Nw.warmD hW h) id, ?_, ?_⟩
  · rw [hU]; exact (vx_Zq.moved hW.alike hz1).kept (fun a ha hn => hS.2.1 a ha (fun h => hn (hA a h)))
  · rw [hU]; exact (vx_Zq.moved hW.alike hz2).kept (fun a ha hn => hS.2.1 a ha (fun h => hn (hA a h)))
theorem xE.calling {A : Nat → Prop} {U : State} {g : JFrame} {mk : MethodId} {a : Array Value} (h : xE A U) : xE A (U.calling g mk a) := by
  obtain ⟨⟨a1, h1⟩, ⟨a2, h2⟩, ⟨a3, h3⟩, ⟨a4, h4⟩, hc, hd, hz1, hz2⟩ := h
  refine ⟨⟨a1, vk_R.same rfl h1⟩, ⟨a2, vk_R.same rfl h2⟩, ⟨a3, vk_R.same rfl h3⟩, ⟨a4, vk_R.same rfl h4⟩, fun k => va_Nw.same rfl rfl (hc k), fun C => (hd C).imp (fun h => va_Nw.same rfl rfl h) id, ?_, ?_⟩
  · exact vx_Zq.moved (u := U) (U := U.calling g mk a) (Vm.Alike.refl U.vm) hz1
  · exact vx_Zq.moved (u := U) (U := U.calling g mk a) (Vm.Alike.refl U.vm) hz2
/-- the cells of the world, and those that are made -/
def RAs (ad : Nat → Nat) (N sz : Nat) : Nat → Prop := fun q => RA ad N q ∨ sz ≤ q
theorem RAs.mono {ad : Nat → Nat} {N a b : Nat} (h : a ≤ b) : ∀ q, RAs ad N b q → RAs ad N a q := fun q hq => hq.imp id (fun h2 => Nat.le_trans h h2)
def xs0 (D : va_G) (cl : List vw_C) (tys : List (ClassId × FieldType)) (ad : Nat → Nat) (N : Nat) (AX : Nat → Prop) (sz : Nat) (P : (Nat → va_E) → Prop) : State → Prop := fun U => U.heap.size = sz ∧ (∀ q, RAs ad N sz q → AX q) ∧ xE AX U ∧ wq D cl ad N P U.heap ∧ va_K D cl tys U
theorem xs0_blind {D : va_G} {cl : List vw_C} {tys : List (ClassId × FieldType)} {ad : Nat → Nat} {N sz : Nat} {AX : Nat → Prop} {P : (Nat → va_E) → Prop} {as : List Value} : FrameBlind (va_Pc as (xs0 D cl tys ad N AX sz P)) := fun a U g mk h => ⟨h.1, h.2.1, h.2.2.1, h.2.2.2.1.calling, h.2.2.2.2.1, va_K.moved (u := U) (U := U.calling g mk a) (Vm.Alike.refl U.vm) h.2.2.2.2.2⟩
abbrev xXC (D : va_G) (cl : List vw_C) (tys : List (ClassId × FieldType)) (ad : Nat → Nat) (N : Nat) (A : Nat → Prop) (thr : Nat) (P : (Nat → va_E) → Prop) : String → State → State → Prop := vx_X (fun (_ : Unit) => thr ≠ 0) (fun E _ t => E = exN thr ∧ ws0 D cl tys ad N P t) A
/-- thr = 0: it returns, and then P1 holds; else it throws exN thr, and P still holds -/
def kXv (l : Launch) (y : MethodName) (ws : List Cond) (rm : Room) (D : va_G) (cl : List vw_C) (tys : List (ClassId × FieldType)) (ad : Nat → Nat) (N : Nat) (AX : Nat → Prop) (sz : Nat) (as : List Value) (P : (Nat → va_E) → Prop) (thr : Nat) (P1 : (Nat → va_E) → Prop) (mc ms : Nat) : Prop :=
  vx_Met l y ws rm (va_Pc as (xs0 D cl tys ad N AX sz P)) (va_Qv (fun (_ : Unit) => thr = 0) (fun _ => ws0 D cl tys ad N P1) (RAs ad N sz)) (xXC D cl tys ad N (RAs ad N sz) thr P) mc ms (RAs ad N sz)
def kXi (l : Launch) (y : MethodName) (ws : List Cond) (rm : Room) (D : va_G) (cl : List vw_C) (tys : List (ClassId × FieldType)) (ad : Nat → Nat) (N : Nat) (AX : Nat → Prop) (sz : Nat) (as : List Value) (P : (Nat → va_E) → Prop) (thr : Nat) (r : Int32) (P1 : (Nat → va_E) → Prop) (mc ms : Nat) : Prop :=
  vx_Met l y ws rm (va_Pc as (xs0 D cl tys ad N AX sz P)) (va_Qi (fun r' (_ : Unit) => thr = 0 ∧ r' = r) (fun _ => ws0 D cl tys ad N P1) (RAs ad N sz)) (xXC D cl tys ad N (RAs ad N sz) thr P) mc ms (RAs ad N sz)
def kXr (l : Launch) (y : MethodName) (ws : List Cond) (rm : Room) (D : va_G) (cl : List vw_C) (tys : List (ClassId × FieldType)) (ad : Nat → Nat) (N : Nat) (AX : Nat → Prop) (sz : Nat) (as : List Value) (P : (Nat → va_E) → Prop) (thr : Nat) (a : Nat) (P1 : (Nat → va_E) → Prop) (mc ms : Nat) : Prop :=
  vx_Met l y ws rm (va_Pc as (xs0 D cl tys ad N AX sz P)) (va_Qq (fun r' (_ : Unit) => thr = 0 ∧ r' = some a) (fun _ => ws0 D cl tys ad N P1) (RAs ad N sz)) (xXC D cl tys ad N (RAs ad N sz) thr P) mc ms (RAs ad N sz)
section VV4
variable {p : Program} {l : Launch} {e : Env} {R : Room} {s : State} {m : MethodId} {args : Array Value} {below : List Frame} {meth : Method} {c : Code} {nL : Nat} {A AX : Nat → Prop} {H0 : Heap} {cells slots : Nat} {Q : State → Prop} {B B1 : Heap → Prop} {pc q : Nat} {lv lv' : List (Nat × Value)} {st st0 : List Value} {cc bytes : ByteArray} {Ts wsY ws ws' : List Cond} {own Kc : String} {D : va_G} {cl : List vw_C} {tys : List (ClassId × FieldType)} {ad : Nat → Nat} {NN sz : Nat} {P P0 P1 : (Nat → va_E) → Prop} {y : MethodName} {rm : Room} {index maxL n mc ms mc0 ms0 thr thr0 : Nat} {ret : Option FieldType} {r v : Int32} {As as : List Value} {Qc : Array Value → State → Outcome → State → Prop} {XC : String → State → State → Prop}
theorem vv_enterX (hy : plainName y.cls = true) (hw : ws = Cond.code y cc maxL ret :: ws') (hown : y.cls = own) (hJ : injA ad NN) (hlen : (lg_sl as).length ≤ maxL) (hlv : lv_args 0 as = lv)
    (body : ∀ (p : Program) (e : Env) (s : State) (m : MethodId) (args : Array Value) (below : List Frame) (meth : Method) (c : Code), CallFix p m c cc maxL s args ws own → va_K D cl tys s → wdA (RAs ad NN sz) ad NN → meth.sig.returnType = ret → meth.locks = false → s.heap.size = sz → (∀ q, RAs ad NN sz q → AX q) → xE AX s → (∀ x ∈ c.exceptionTable.toList, False) →
      vv p l e (headSpec ws rm).room s m args below meth c maxL (RAs ad NN sz) s.heap 0 0 (vx_MQ below Qc XC args s mc ms (RAs ad NN sz)) (wq D cl ad NN P) 0 lv []) : vx_Met l y ws rm (va_Pc as (xs0 D cl tys ad NN AX sz P)) Qc XC mc ms (RAs ad NN sz) := by
  subst hlv
  subst hown
  refine vx_ofW (cc := cc) (maxL := maxL) (ret := ret) hy hw ?_
  intro p e s m args below meth c s₁ B hml hx hv
  obtain ⟨rfl, hsz, hAX, hE, hB, hK⟩ := hv
  have hts := atoms_spec (ws := ws) B.pre
  have hl := lv_entry as (n := maxL) hlen
  rw [lg_entry_eq]
  exact body p e s m _ below meth c ⟨B.exec, B.bytes, hml, findClass_of_methodNamed B.named, hts⟩ hK ⟨hJ, fun j hj => Or.inl ⟨j, hj, rfl⟩⟩ B.returns B.notSynchronized hsz hAX hE hx s.heap [] _ hl hB va_S.rf

theorem vv_xcallv (C : CallFix p m c cc nL s args Ts own) (hK : va_K D cl tys s) (hlocks : meth.locks = false) (hout : ∀ x ∈ c.exceptionTable.toList, False) (hE : xE AX s) (hAX : ∀ q, A q → AX q) (hA : ∀ z, s.heap.size ≤ z → ∀ q, RAs ad NN z q → A q) (jr : Nat) (hjr : jr < NN) {ci Nk : Nat} {T : u_T} (hrc : ∀ f, P f → ∃ fs, f jr = .inr (ci, fs)) (hc : cl[ci]? = some (Kc, T, Nk)) (hM : ∀ z, kXv l y wsY rm D cl tys ad NN AX z (.ref (ad jr) :: As) P thr P1 mc ms) (cw : CallW R s args own Kc index y bytes maxL ret wsY rm mc ms n) (hn : As.length = n) (hst : st0 = As.reverse ++ .ref (ad jr) :: st) (hcat : (st.map fun v => v.category).sum ≤ 8) (hroom : cells + mc ≤ R.cells ∧ slots + ms ≤ R.slots) (hc0 : cells + mc ≤ mc0 ∧ slots + ms ≤ ms0) (hP0 : ∀ f, P f → P0 f) (kx : thr ≠ 0 → thr0 = thr) (d : decode cc pc = .ok (.invokevirtual index, 3)) (hq : pc + 3 = q) (kk : thr = 0 → vv p l e R s m args below meth c nL A s.heap (cells + mc) (slots + ms) (vx_MQ below Qc (xXC D cl tys ad NN A thr0 P0) args s mc0 ms0 A) (wq D cl ad NN P1) q lv (st)) : vv p l e R s m args below meth c nL A s.heap cells slots (vx_MQ below Qc (xXC D cl tys ad NN A thr0 P0) args s mc0 ms0 A) (wq D cl ad NN P) pc lv st0 := by
  subst hq
  subst hst
  intro H locs ls hl hB hS
  have hrec : ∃ cellB : Cell, H[ad jr]? = some cellB ∧ cellB.vm.isStatics = false ∧ s.vm.findClass Kc = some cellB.cls := by
    obtain ⟨f, hf, hP⟩ := hB
    obtain ⟨fs, hfs⟩ := hrc f hf
    exact va_recv hK hP hc ((WL_get hjr).trans (by rw [hfs]))
  exact vx_callv (vx_runV C (hM H.size) cw ⟨xs0_blind, hrec, fun U hU hW => ⟨rfl, by rw [hU], fun q hq => hAX q (hA _ hS.1 q hq), hE.go hS hAX hU hW, by rw [hU]; exact hB, va_K.moved hW.alike hK⟩⟩ rfl hn hl.1 rfl (lv_room hcat) d hroom) hS (fun q _ h => hA _ hS.1 q h) (hA _ hS.1) (fun q _ h => hA _ hS.1 q h) (fun E ce q9 u t H1 locs1 ht hvm hp hb1 hz hk hS1 hce hcv hcl => by obtain ⟨rfl, hb1⟩ := hb1; subst ht; exact vx_out (fun x hx => absurd (hout x hx) id) hlocks hce hcv hcl (fun t' ht' hvm' => ⟨(), by rw [kx hp]; exact hp, ⟨by rw [kx hp], by rw [ht']; exact (by obtain ⟨f, hf, hP⟩ := hb1.1; exact ⟨f, hP0 f hf, hP⟩), va_K.moved hvm' hK⟩, hS1.F ht'⟩) hS1.2.2 hc0.1 hc0.2) (fun u t H1 locs1 ht hvm hp hb1 hz hk hS1 => by subst ht; exact kk hp _ _ ls hl hb1.1 hS1)
theorem vv_xcallr {a : Nat} (C : CallFix p m c cc nL s args Ts own) (hK : va_K D cl tys s) (hlocks : meth.locks = false) (hout : ∀ x ∈ c.exceptionTable.toList, False) (hE : xE AX s) (hAX : ∀ q, A q → AX q) (hA : ∀ z, s.heap.size ≤ z → ∀ q, RAs ad NN z q → A q) (jr : Nat) (hjr : jr < NN) {ci Nk : Nat} {T : u_T} (hrc : ∀ f, P f → ∃ fs, f jr = .inr (ci, fs)) (hc : cl[ci]? = some (Kc, T, Nk)) (hM : ∀ z, kXr l y wsY rm D cl tys ad NN AX z (.ref (ad jr) :: As) P thr a P1 mc ms) (cw : CallW R s args own Kc index y bytes maxL ret wsY rm mc ms n) (hn : As.length = n) (hst : st0 = As.reverse ++ .ref (ad jr) :: st) (hcat : (st.map fun v => v.category).sum ≤ 8) (hroom : cells + mc ≤ R.cells ∧ slots + ms ≤ R.slots) (hc0 : cells + mc ≤ mc0 ∧ slots + ms ≤ ms0) (hP0 : ∀ f, P f → P0 f) (kx : thr ≠ 0 → thr0 = thr) (d : decode cc pc = .ok (.invokevirtual index, 3)) (hq : pc + 3 = q) (kk : thr = 0 → vv p l e R s m args below meth c nL A s.heap (cells + mc) (slots + ms) (vx_MQ below Qc (xXC D cl tys ad NN A thr0 P0) args s mc0 ms0 A) (wq D cl ad NN P1) q lv (.ref a :: st)) : vv p l e R s m args below meth c nL A s.heap cells slots (vx_MQ below Qc (xXC D cl tys ad NN A thr0 P0) args s mc0 ms0 A) (wq D cl ad NN P) pc lv st0 := by
  subst hq
  subst hst
  intro H locs ls hl hB hS
  have hrec : ∃ cellB : Cell, H[ad jr]? = some cellB ∧ cellB.vm.isStatics = false ∧ s.vm.findClass Kc = some cellB.cls := by
    obtain ⟨f, hf, hP⟩ := hB
    obtain ⟨fs, hfs⟩ := hrc f hf
    exact va_recv hK hP hc ((WL_get hjr).trans (by rw [hfs]))
  exact vx_callq (vx_runV C (hM H.size) cw ⟨xs0_blind, hrec, fun U hU hW => ⟨rfl, by rw [hU], fun q hq => hAX q (hA _ hS.1 q hq), hE.go hS hAX hU hW, by rw [hU]; exact hB, va_K.moved hW.alike hK⟩⟩ rfl hn hl.1 rfl (lv_room hcat) d hroom) hS (fun q _ h => hA _ hS.1 q h) (hA _ hS.1) (fun q _ h => hA _ hS.1 q h) (fun E ce q9 u t H1 locs1 ht hvm hp hb1 hz hk hS1 hce hcv hcl => by obtain ⟨rfl, hb1⟩ := hb1; subst ht; exact vx_out (fun x hx => absurd (hout x hx) id) hlocks hce hcv hcl (fun t' ht' hvm' => ⟨(), by rw [kx hp]; exact hp, ⟨by rw [kx hp], by rw [ht']; exact (by obtain ⟨f, hf, hP⟩ := hb1.1; exact ⟨f, hP0 f hf, hP⟩), va_K.moved hvm' hK⟩, hS1.F ht'⟩) hS1.2.2 hc0.1 hc0.2) (fun r1 u t H1 locs1 ht hvm hp hb1 hz hk hS1 => by obtain ⟨h0, rfl⟩ := hp; subst ht; exact kk h0 _ _ ls hl hb1.1 hS1)
theorem vv_xcallsv (C : CallFix p m c cc nL s args Ts own) (hK : va_K D cl tys s) (hlocks : meth.locks = false) (hout : ∀ x ∈ c.exceptionTable.toList, False) (hE : xE AX s) (hAX : ∀ q, A q → AX q) (hA : ∀ z, s.heap.size ≤ z → ∀ q, RAs ad NN z q → A q) (hM : ∀ z, kXv l y wsY rm D cl tys ad NN AX z As P thr P1 mc ms) (cw : CallB R s args own index y bytes maxL ret wsY rm mc ms n ∧ (Cond.static y).before args s = true) (hn : As.length = n) (hst : st0 = As.reverse ++ st) (hcat : (st.map fun v => v.category).sum ≤ 8) (hroom : cells + mc ≤ R.cells ∧ slots + ms ≤ R.slots) (hc0 : cells + mc ≤ mc0 ∧ slots + ms ≤ ms0) (hP0 : ∀ f, P f → P0 f) (kx : thr ≠ 0 → thr0 = thr) (d : decode cc pc = .ok (.invokestatic index, 3)) (hq : pc + 3 = q) (kk : thr = 0 → vv p l e R s m args below meth c nL A s.heap (cells + mc) (slots + ms) (vx_MQ below Qc (xXC D cl tys ad NN A thr0 P0) args s mc0 ms0 A) (wq D cl ad NN P1) q lv (st)) : vv p l e R s m args below meth c nL A s.heap cells slots (vx_MQ below Qc (xXC D cl tys ad NN A thr0 P0) args s mc0 ms0 A) (wq D cl ad NN P) pc lv st0 := by
  subst hq
  subst hst
  intro H locs ls hl hB hS
  exact vx_callv (vx_runS C (hM H.size) cw ⟨xs0_blind, fun U hU hW => ⟨rfl, by rw [hU], fun q hq => hAX q (hA _ hS.1 q hq), hE.go hS hAX hU hW, by rw [hU]; exact hB, va_K.moved hW.alike hK⟩⟩ rfl hn hl.1 rfl (lv_room hcat) d hroom) hS (fun q _ h => hA _ hS.1 q h) (hA _ hS.1) (fun q _ h => hA _ hS.1 q h) (fun E ce q9 u t H1 locs1 ht hvm hp hb1 hz hk hS1 hce hcv hcl => by obtain ⟨rfl, hb1⟩ := hb1; subst ht; exact vx_out (fun x hx => absurd (hout x hx) id) hlocks hce hcv hcl (fun t' ht' hvm' => ⟨(), by rw [kx hp]; exact hp, ⟨by rw [kx hp], by rw [ht']; exact (by obtain ⟨f, hf, hP⟩ := hb1.1; exact ⟨f, hP0 f hf, hP⟩), va_K.moved hvm' hK⟩, hS1.F ht'⟩) hS1.2.2 hc0.1 hc0.2) (fun u t H1 locs1 ht hvm hp hb1 hz hk hS1 => by subst ht; exact kk hp _ _ ls hl hb1.1 hS1)
theorem vv_throwS (C : CallFix p m c cc nL s args Ts own) (hK : va_K D cl tys s) (hlst : l.stackTraces = false) (hlocks : meth.locks = false) (hout : ∀ x ∈ c.exceptionTable.toList, False) (hE : xE AX s) (hAX : ∀ q, A q → AX q) (hsz : ∀ q, s.heap.size ≤ q → A q) (k : Nat) (hk : k ≠ 0) {ik is ic : Nat} {tx : String} (hstr : ∃ a, vk_R own is tx a s) (hcls : Bundle.fit (exN k) = true)
    (hlink : Cond.classLink own ik (exN k) ∈ Ts) (hini : Cond.initialized (exN k) ∈ Ts) (hat : ∀ w ∈ (vx_atS own ic (exN k) exNs).filter goodWord, w ∈ Ts) (hng : ∀ w ∈ (vx_atS own ic (exN k) exNs).filter (fun w => !goodWord w), w ∈ [Cond.castable (exN k) (exN k), Cond.declares (Bundle.initS "java/lang/RuntimeException"), Cond.declares (Bundle.initS "java/lang/Exception"), Cond.declares (Bundle.initS "java/lang/Throwable")]) (hgood : ∀ w ∈ Cond.classLink own ik (exN k) :: Cond.initialized (exN k) :: vx_atS own ic (exN k) exNs, vx_ot w = true)
    (d0 : decode cc pc = .ok (.new ik, 3)) (d3 : decode cc (pc + 3) = .ok (.dup, 1)) (d4 : decode cc (pc + 4) = .ok (.ldc is, 2)) (d6 : decode cc (pc + 6) = .ok (.invokespecial ic, 3)) (d9 : decode cc (pc + 9) = .ok (.athrow, 1))
    (hRframes : 5 < R.frames) (hRlocals : (st.map fun v => v.category).sum + 82 ≤ R.locals) (hRc : cells + 1 ≤ R.cells ∧ slots + 6 ≤ R.slots) (hc0 : cells + 1 ≤ mc0 ∧ slots + 6 ≤ ms0) (ht0 : thr0 = k) (hP0 : ∀ f, P f → P0 f) : vv p l e R s m args below meth c nL A s.heap cells slots (vx_MQ below Qc (xXC D cl tys ad NN A thr0 P0) args s mc0 ms0 A) (wq D cl ad NN P) pc lv st := by
  subst ht0
  intro H locs ls hl hB hS
  obtain ⟨sa, hstr⟩ := hstr
  have hts := C.2.2.2.2
  have hE2 := hE.2.2.2.2
  have hdd : ∀ C, C ∈ exDs → (Cond.declares (Bundle.initS C)).before args s = true := fun C hC => (hE2.2.1 C).elim (fun h => va_Nw.use rfl h) (fun h => absurd hC h)
  refine vx_throwS (names := exNs) (sa := sa) (A := A) C.1 C.2.1 hlst C.2.2.2.1 hcls (by decide +kernel) (hts _ hlink) (hts _ hini) hstr (vx_hat (fun w h => hts w (hat w h)) hng (vx_c (va_Nw.use rfl (hE2.1 thr0)) (vx_c (hdd _ (by decide)) (vx_c (hdd _ (by decide)) (vx_c (hdd _ (by decide)) vx_n))))) hgood (hE2.2.2.1.narrow hAX) (hE2.2.2.2.narrow hAX) hS (hl.1.trans C.2.2.1.symm) d0 d3 d4 d6 d9 (fun x hx => absurd (hout x hx) id) hRframes hRlocals hRc.1 hRc.2 hlocks (fun t hvm hz hq => ?_) hS.2.2 hc0.1 hc0.2
  refine ⟨(), hk, ⟨rfl, ?_, va_K.moved hvm hK⟩, Nat.le_trans hS.1 hz, fun q h1 h2 => (hq q (Nat.lt_of_lt_of_le h1 hS.1)).trans (hS.2.1 q h1 h2)⟩
  obtain ⟨f, hf, hP⟩ := hB
  exact ⟨f, hP0 f hf, hP.kept (fun k2 q hk2 => hq _ (vx_lt hP hk2))⟩
theorem vv_xvret (C : CallFix p m c cc nL s args Ts own) (hK : va_K D cl tys s) (hr : meth.sig.returnType = none) (hlk : meth.locks = false) (ht0 : thr = 0) (h0 : cells ≤ mc0 ∧ slots ≤ ms0) (hP1 : ∀ f, P f → P1 f) (d : decode cc pc = .ok (.return_, 1)) : vv p l e R s m args below meth c nL A s.heap cells slots (vx_MQ below (va_Qv (fun (_ : Unit) => thr = 0) (fun _ => ws0 D cl tys ad NN P1) A) XC args s mc0 ms0 A) (wq D cl ad NN P) pc lv [] := by
  intro H locs ls hl hB hS
  obtain ⟨f, hf, hP⟩ := hB
  refine W.widen h0.1 h0.2 (vx_ret ?_)
  exact W.vret C.1 C.2.1 hr (fun t ht hW => ⟨⟨(), rfl, ht0, ⟨f, hP1 f hf, by rw [ht]; exact hP⟩, va_K.moved hW.alike hK⟩, hS.F ht⟩) hS.2.2 d hlk
theorem vv_xiret (C : CallFix p m c cc nL s args Ts own) (hK : va_K D cl tys s) (hr : meth.sig.returnType = some .int) (hlk : meth.locks = false) (ht0 : thr = 0) (hv : v = r) (h0 : cells ≤ mc0 ∧ slots ≤ ms0) (hP1 : ∀ f, P f → P1 f) (d : decode cc pc = .ok (.ireturn, 1)) : vv p l e R s m args below meth c nL A s.heap cells slots (vx_MQ below (va_Qi (fun r' (_ : Unit) => thr = 0 ∧ r' = r) (fun _ => ws0 D cl tys ad NN P1) A) XC args s mc0 ms0 A) (wq D cl ad NN P) pc lv [.int v] := by
  intro H locs ls hl hB hS
  obtain ⟨f, hf, hP⟩ := hB
  refine W.widen h0.1 h0.2 (vx_ret ?_)
  exact W.iret C.1 C.2.1 hr (fun t ht hW => ⟨⟨v, (), rfl, ⟨ht0, hv⟩, ⟨f, hP1 f hf, by rw [ht]; exact hP⟩, va_K.moved hW.alike hK⟩, hS.F ht⟩) hS.2.2 d hlk
theorem vv_xaret {a b : Nat} {nm : String} (C : CallFix p m c cc nL s args Ts own) (hK : va_K D cl tys s) (hr : meth.sig.returnType = some (.object nm)) (hlk : meth.locks = false) (ht0 : thr = 0) (hv : b = a) (h0 : cells ≤ mc0 ∧ slots ≤ ms0) (hP1 : ∀ f, P f → P1 f) (d : decode cc pc = .ok (.areturn, 1)) : vv p l e R s m args below meth c nL A s.heap cells slots (vx_MQ below (va_Qq (fun r' (_ : Unit) => thr = 0 ∧ r' = some a) (fun _ => ws0 D cl tys ad NN P1) A) XC args s mc0 ms0 A) (wq D cl ad NN P) pc lv [.ref b] := by
  intro H locs ls hl hB hS
  obtain ⟨f, hf, hP⟩ := hB
  refine W.widen h0.1 h0.2 (vx_ret ?_)
  exact W.aret (rt := .object nm) C.1 C.2.1 hr (Or.inl ⟨nm, rfl⟩) (Or.inr ⟨b, rfl⟩) (fun t ht hW => ⟨⟨some b, (), rfl, ⟨ht0, by rw [hv]⟩, ⟨f, hP1 f hf, by rw [ht]; exact hP⟩, va_K.moved hW.alike hK⟩, hS.F ht⟩) hS.2.2 d hlk
end VV4
