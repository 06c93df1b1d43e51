/-! constructors: cell i of a world that grows lies at z + i; what is there agrees with a picture -/
def AZ (z : Nat) : Nat → Prop := fun q => z ≤ q
def agr (n : Nat) (F : Nat → va_E) : (Nat → va_E) → Prop := fun f => ∀ i, i < n → f i = F i
def mix (F : Nat → va_E) (j : Nat) (G : Nat → va_E) : Nat → va_E := fun i => if i < j then F i else G i
def opn (F : Nat → va_E) (j : Nat) (o : va_E) (G : Nat → va_E) : Nat → va_E := fun i => if i < j then F i else if i = j then o else G i
theorem opn_at {F G : Nat → va_E} {j : Nat} {o : va_E} : opn F j o G j = o := by rw [opn, if_neg (Nat.lt_irrefl j), if_pos rfl]
theorem opn_up {F G : Nat → va_E} {j i : Nat} {o : va_E} (h : j < i) : opn F j o G i = G i := by rw [opn, if_neg (by omega), if_neg (by omega)]
theorem agr_at {n : Nat} {F f : Nat → va_E} {j : Nat} {o : va_E} (hj : j < n) (hF : F j = o) (h : agr n F f) : f j = o := (h j hj).trans hF
theorem agr_new {n : Nat} {F f : Nat → va_E} (e : va_E) (h : agr n F f) : agr (n + 1) (ud F n e) (ud f n e) := fun i hi => by
  by_cases e1 : i = n
  · subst e1; rw [ud_eq, ud_eq]
  · rw [ud_ne e1, ud_ne e1]; exact h i (by omega)
theorem agr_start {F f : Nat → va_E} {j : Nat} {o : va_E} {G : Nat → va_E} (hF : F j = o) (h : agr (j + 1) F f) : agr (j + 1) (opn F j o G) f := fun i hi => by
  rw [h i hi, opn]
  by_cases e : i < j
  · rw [if_pos e]
  · rw [if_neg e, if_pos (by omega), show i = j by omega, hF]
theorem agr_one {n j : Nat} {F G f : Nat → va_E} {o e : va_E} (hj : j < n) (hG : G n = e) (h : agr (n + 1) (ud (opn F j o G) n e) f) : agr (n + 1) (opn F j o G) f := fun i hi => by
  rw [h i hi]
  by_cases e1 : i = n
  · subst e1; rw [ud_eq, opn_up hj, hG]
  · rw [ud_ne e1]
theorem agr_many {n n' j : Nat} {F G f : Nat → va_E} {o e : va_E} (hj : j < n) (h : agr n' (mix (ud (opn F j o G) n e) n G) f) : agr n' (opn F j o G) f := fun i hi => by
  rw [h i hi, mix]
  by_cases e1 : i < n
  · rw [if_pos e1, ud_ne (by omega)]
  · rw [if_neg e1, opn_up (by omega)]
theorem agr_stat {n n' j : Nat} {F G f : Nat → va_E} {o : va_E} (hj : j < n) (h : agr n' (mix (opn F j o G) n G) f) : agr n' (opn F j o G) f := fun i hi => by
  rw [h i hi, mix]
  by_cases e1 : i < n
  · rw [if_pos e1]
  · rw [if_neg e1, opn_up (by omega)]
theorem agr_put {n j : Nat} {F G f : Nat → va_E} {o o2 : va_E} (hj : j < n) (h : agr n (opn F j o G) f) : agr n (opn F j o2 G) (ud f j o2) := fun i hi => by
  by_cases e1 : i = j
  · subst e1; rw [ud_eq, opn_at]
  · rw [ud_ne e1, h i hi, opn, opn, if_neg e1, if_neg e1]
theorem agr_end {n j : Nat} {F G f : Nat → va_E} {o : va_E} (hG : G j = o) (h : agr n (opn F j o G) f) : agr n (mix F j G) f := fun i hi => by
  rw [h i hi, opn, mix]
  by_cases e : i < j
  · rw [if_pos e, if_pos e]
  · rw [if_neg e, if_neg e]
    by_cases e1 : i = j
    · rw [if_pos e1, e1, hG]
    · rw [if_neg e1]
theorem wq_lt {D : va_G} {cl : List vw_C} {ad : Nat → Nat} {n : Nat} {P : (Nat → va_E) → Prop} {H : Heap} (h : wq D cl ad n P H) {j : Nat} (hj : j < n) : ad j < H.size := by
  obtain ⟨f, -, hP⟩ := h
  exact (hP j _ (WL_get hj)).lt
theorem WL_push {ad : Nat → Nat} {n : Nat} {f : Nat → va_E} (e : va_E) : WL ad n f ++ [(ad n, e)] = WL ad (n + 1) (ud f n e) := by
  rw [WL, WL, List.range_succ, List.map_append]
  congr 1
  · refine List.map_congr_left fun j hj => ?_
    rw [ud_ne (by have := List.mem_range.mp hj; omega)]
  · simp [ud]
theorem wd_az {z : Nat} {ad : Nat → Nat} (hAd : ∀ i, ad i = z + i) (n : Nat) : wdA (AZ z) ad n := ⟨fun i j _ _ h => by rw [hAd, hAd] at h; omega, fun j _ => by rw [hAd]; exact Nat.le_add_right z j⟩
theorem inj_az {z : Nat} {ad : Nat → Nat} (hAd : ∀ i, ad i = z + i) (n : Nat) : injA ad n := fun i j _ _ h => by rw [hAd, hAd] at h; omega
/-- what the tables say beside the words: the writers' array, the constructors of nest mates -/
def nestL : List (String × Nat × MethodName) := [(RX2, 11, yX6_init), (RX2, 32, yX0_init), (RX7, 22, yX0_init), (RX8, 9, yX2_init), (RX8, 29, yX7_init), (RX8, 42, yX4_init), (RX8, 49, yX3_init), (RX8, 56, yX1_init)]
def xC (U : State) : Prop := va_AO RX7 U ∧ ∀ q ∈ nestL, va_Nw (.methodLinkNest q.1 q.2.1 q.2.2 "DraftCommon") U
theorem xC.moved {s U : State} (hW : s.WarmedH U.vm) (h : xC s) : xC U := ⟨va_AO.moved hW.alike h.1, fun q hq => (h.2 q hq).warmM hW⟩
theorem xC.calling {U : State} {g : JFrame} {mk : MethodId} {a : Array Value} (h : xC U) : xC (U.calling g mk a) := ⟨va_AO.moved (u := U) (U := U.calling g mk a) (Vm.Alike.refl U.vm) h.1, fun q hq => (h.2 q hq).same rfl rfl⟩
/-- a constructor at work: k cells lie there at its start, k2 at its end -/
def kC (l : Launch) (y : MethodName) (ws : List Cond) (rm : Room) (D : va_G) (cl : List vw_C) (tys : List (ClassId × FieldType)) (ad : Nat → Nat) (z k k2 : Nat) (as : List Value) (P P2 : (Nat → va_E) → Prop) (mc ms : Nat) : Prop :=
  Met l y ws rm (va_Pc as (fun U => U.heap.size = z + k ∧ xC U ∧ ws0 D cl tys ad k P U)) (va_Qv (fun (_ : Unit) => True) (fun _ U => U.heap.size = z + k2 ∧ ws0 D cl tys ad k2 P2 U) (AZ z)) mc ms (AZ z)
def kCr (l : Launch) (y : MethodName) (ws : List Cond) (rm : Room) (D : va_G) (cl : List vw_C) (tys : List (ClassId × FieldType)) (ad : Nat → Nat) (z k k2 : Nat) (as : List Value) (P : (Nat → va_E) → Prop) (a : Nat) (P2 : (Nat → va_E) → Prop) (mc ms : Nat) : Prop :=
  Met l y ws rm (va_Pc as (fun U => U.heap.size = z + k ∧ xC U ∧ ws0 D cl tys ad k P U)) (va_Qr (fun (_ : Unit) => True) (fun _ a' U => a' = a ∧ U.heap.size = z + k2 ∧ ws0 D cl tys ad k2 P2 U) (AZ z)) mc ms (AZ z)
theorem kC_blind {D : va_G} {cl : List vw_C} {tys : List (ClassId × FieldType)} {ad : Nat → Nat} {z k : Nat} {P : (Nat → va_E) → Prop} {as : List Value} : FrameBlind (va_Pc as (fun U => U.heap.size = z + k ∧ xC U ∧ ws0 D cl tys ad k P U)) := fun a U g mk h => ⟨h.1, h.2.1, xC.calling (g := g) (mk := mk) (a := a) h.2.2.1, h.2.2.2.1, va_K.moved (u := U) (U := U.calling g mk a) (Vm.Alike.refl U.vm) h.2.2.2.2⟩
section VVC
variable {p : Program} {l : Launch} {e : Env} {R : Room} {s : State} {m : MethodId} {args : Array Value} {below : List Frame} {meth : Method} {c : Code} {nL : Nat} {A : Nat → Prop} {H0 : Heap} {cells slots : Nat} {Q : State → Prop} {B B1 : Heap → Prop} {pc q : Nat} {lv lv' : List (Nat × Value)} {st st0 : List Value} {cc bytes : ByteArray} {Ts wsY ws ws' : List Cond} {own Kc : String} {D : va_G} {cl : List vw_C} {tys : List (ClassId × FieldType)} {ad : Nat → Nat} {z k n n2 : Nat} {P P1 : (Nat → va_E) → Prop} {y : MethodName} {rm : Room} {index maxL nA mc ms : Nat} {ret : Option FieldType} {v : Int32} {As as : List Value} {Qc : Array Value → State → Outcome → State → Prop}
theorem vv_enterC (hy : plainName y.cls = true) (hw : ws = Cond.code y cc maxL ret :: ws') (hown : y.cls = own) (hAd : ∀ i, ad i = z + i) (hlen : (lg_sl as).length ≤ maxL) (hlv : lv_args 0 as = lv)
    (body : ∀ (p : Program) (e : Env) (s : State) (m : MethodId) (args : Array Value) (below : List Frame) (meth : Method) (c : Code), CallFix p m c cc maxL s args ws own → va_K D cl tys s → s.heap.size = z + k → xC s → meth.name = y.name → meth.sig.returnType = ret → meth.locks = false →
      vv p l e (headSpec ws rm).room s m args below meth c maxL (AZ z) s.heap 0 0 (MQ below Qc args s mc ms (AZ z)) (wq D cl ad k P) 0 lv []) : Met l y ws rm (va_Pc as (fun U => U.heap.size = z + k ∧ xC U ∧ ws0 D cl tys ad k P U)) Qc mc ms (AZ z) := by
  subst hlv
  subst hown
  refine Met.ofW (cc := cc) (maxL := maxL) (ret := ret) hy hw ?_
  intro p e s m args below meth c s₁ B hml hv
  obtain ⟨rfl, hz, hAO, hB, hK⟩ := hv
  have hts := atoms_spec (ws := ws) B.pre
  have hl := lv_entry as (n := maxL) hlen
  rw [lg_entry_eq]
  exact body p e s m _ below meth c ⟨B.exec, B.bytes, hml, findClass_of_methodNamed B.named, hts⟩ hK hz hAO (name_of_methodNamed B.named B.method).1 B.returns B.notSynchronized s.heap [] _ hl hB va_S.rf
/-- the heap's size is known -/
theorem vv_sz (hAd : ∀ i, ad i = z + i) (hz : s.heap.size = z + k) (hn : k + cells = n) (h1 : 1 ≤ n ∨ cells = 0) (kk : ∀ (H : Heap) (locs : List Loc) (ls : Array Slot), H.size = z + n → lv_has ls nL lv → wq D cl ad n P H → va_S A s.heap H locs → W p l e R s m args below meth c H locs cells slots Q (F0 m pc ls st)) : vv p l e R s m args below meth c nL A s.heap cells slots Q (wq D cl ad n P) pc lv st := by
  intro H locs ls hl hB hS T hT X
  have h2 := X.heapSize
  rw [hT] at h2
  have h4 : s.heap.size ≤ H.size := hS.1
  have h3 : z + n ≤ H.size := by
    rcases h1 with h1 | h1
    · have h3 := wq_lt hB (j := n - 1) (by omega)
      rw [hAd] at h3
      omega
    · omega
  exact kk H locs ls (by omega) hl hB hS T hT X
theorem vv_newC (C : CallFix p m c cc nL s args Ts own) (hK : va_K D cl tys s) (hAd : ∀ i, ad i = z + i) (hz : s.heap.size = z + k) (hn : k + cells = n) (h1 : 1 ≤ n ∨ cells = 0) {K : String} {T : u_T} {N ci index : Nat} (hin : ∀ w ∈ u_ws K T N, w ∈ Ts) (ty : Nat → FieldType) (hty : ∀ k, k < N → parseFieldDescriptor (T k).2.2.1 = some (ty k)) (hcl : Cond.classLink own index K ∈ Ts) (hinst : Cond.instantiable K N ∈ Ts) (hini : Cond.initialized K ∈ Ts) (hc : cl[ci]? = some (K, T, N)) {fs : List Value} (hfs : ∀ j, j < N → defaultValue (ty j) = vp_V fs j) (hcells : cells + 1 ≤ R.cells) (hslots : slots + N ≤ R.slots) (hP1 : ∀ f, P f → P1 (ud f n (.inr (ci, fs)))) (d : decode cc pc = .ok (.new index, 3)) (hq : pc + 3 = q) (kk : vv p l e R s m args below meth c nL (AZ z) s.heap (cells + 1) (slots + N) Q (wq D cl ad (n + 1) P1) q lv (.ref (ad n) :: st)) : vv p l e R s m args below meth c nL (AZ z) s.heap cells slots Q (wq D cl ad n P) pc lv st := by
  subst hq
  refine vv_sz hAd hz hn h1 fun H locs ls hsz hl hB hS => ?_
  obtain ⟨f, hf, hP⟩ := hB
  have hts := C.2.2.2.2
  refine va_new (C := K) (T := T) (N := N) C.1 C.2.1 hts hin ty hty C.2.2.2.1 (hts _ hcl) (hts _ hinst) (hts _ hini) hK hP (wd_D (wd_az hAd n) f) hS (fun q h => by show z ≤ q; omega) hc hfs hcells hslots d (fun q0 H1 hP' hD' hS' => ?_)
  have hlt : q0 < H1.size := (hP' n (q0, .inr (ci, fs)) (by rw [List.getElem?_append_right (by simp [WL]), show n - (WL ad n f).length = 0 by simp [WL]]; rfl)).lt
  have hge : z ≤ q0 := hD'.2 n (q0, .inr (ci, fs)) (by rw [List.getElem?_append_right (by simp [WL]), show n - (WL ad n f).length = 0 by simp [WL]]; rfl)
  have hne : ∀ i, i < n → ad i ≠ q0 := fun i hi h => by
    have := hD'.1 i n (ad i, f i) (q0, .inr (ci, fs)) (by rw [List.getElem?_append_left (by simp [WL]; exact hi)]; exact WL_get hi) (by rw [List.getElem?_append_right (by simp [WL]), show n - (WL ad n f).length = 0 by simp [WL]]; rfl) h
    omega
  intro T hT X
  have h2 := X.heapSize
  rw [hT] at h2
  have hq0 : q0 = ad n := by
    rw [hAd]
    by_cases hh : q0 < z + n
    · exact absurd (hAd (q0 - z)) (fun h => hne (q0 - z) (by omega) (by omega))
    · omega
  subst hq0
  rw [WL_push] at hP'
  exact kk H1 locs ls hl ⟨_, hP1 f hf, hP'⟩ hS' T hT X
theorem vv_newaC (C : CallFix p m c cc nL s args Ts own) (hK : va_K D cl tys s) (hAd : ∀ i, ad i = z + i) (hz : s.heap.size = z + k) (hn : k + cells = n) (h1 : 1 ≤ n ∨ cells = 0) {atype : ArrayType} {ty : FieldType} (harr : Cond.arrayClass ty ∈ Ts) (hty : newarray.typeOf atype = ty) (t0 : Nat) {cI : ClassId} (ht : tys[t0]? = some (cI, ty)) (hRA : ∀ c, va_RA s c ty → s.vm.findClass ("[" ++ ty.toString) = some c) {nn : Int32} {N' : Nat} (ha : ∀ cA : ClassId, vp_cell cA (N', .inl fun _ => 0) = arrV cA N' (fun _ => defaultValue ty)) (hnn : ¬ nn < 0) (hN : nn.toNatClampNeg = N') (hbytes : N' * componentBytes ty ≤ 536870912) (hcells : cells + 1 ≤ R.cells) (hslots : slots + N' ≤ R.slots) (hP1 : ∀ f, P f → P1 (ud f n (.inl (cI, (N', .inl fun _ => 0))))) (d : decode cc pc = .ok (.newarray atype, 2)) (hq : pc + 2 = q) (kk : vv p l e R s m args below meth c nL (AZ z) s.heap (cells + 1) (slots + N') Q (wq D cl ad (n + 1) P1) q lv (.ref (ad n) :: st)) : vv p l e R s m args below meth c nL (AZ z) s.heap cells slots Q (wq D cl ad n P) pc lv (.int nn :: st) := by
  subst hq
  refine vv_sz hAd hz hn h1 fun H locs ls hsz hl hB hS => ?_
  obtain ⟨f, hf, hP⟩ := hB
  have hts := C.2.2.2.2
  refine va_newa C.1 C.2.1 (by rw [hty]; exact hts _ harr) hty hK hP (wd_D (wd_az hAd n) f) hS (fun q h => by show z ≤ q; omega) ha hnn hN hbytes hcells hslots d (fun q0 cA H1 hK' hP' hD' hS' => ?_)
  have hcA : cA = cI := Option.some.inj ((hRA _ (hK'.2 tys.length (cA, ty) (by rw [List.getElem?_append_right (Nat.le_refl _), Nat.sub_self]; rfl)).2).symm.trans (hRA _ (hK.2 t0 _ ht).2))
  subst hcA
  have hlt : q0 < H1.size := (hP' n (q0, .inl (cA, (N', .inl fun _ => 0))) (by rw [List.getElem?_append_right (by simp [WL]), show n - (WL ad n f).length = 0 by simp [WL]]; rfl)).lt
  have hge : z ≤ q0 := hD'.2 n (q0, .inl (cA, (N', .inl fun _ => 0))) (by rw [List.getElem?_append_right (by simp [WL]), show n - (WL ad n f).length = 0 by simp [WL]]; rfl)
  have hne : ∀ i, i < n → ad i ≠ q0 := fun i hi h => by
    have := hD'.1 i n (ad i, f i) (q0, .inl (cA, (N', .inl fun _ => 0))) (by rw [List.getElem?_append_left (by simp [WL]; exact hi)]; exact WL_get hi) (by rw [List.getElem?_append_right (by simp [WL]), show n - (WL ad n f).length = 0 by simp [WL]]; rfl) h
    omega
  intro T hT X
  have h2 := X.heapSize
  rw [hT] at h2
  have hq0 : q0 = ad n := by
    rw [hAd]
    by_cases hh : q0 < z + n
    · exact absurd (hAd (q0 - z)) (fun h => hne (q0 - z) (by omega) (by omega))
    · omega
  subst hq0
  rw [WL_push] at hP'
  exact kk H1 locs ls hl ⟨_, hP1 f hf, hP'⟩ hS' T hT X
theorem vv_newqC (C : CallFix p m c cc nL s args Ts own) (hK : va_K D cl tys s) (hAd : ∀ i, ad i = z + i) (hz : s.heap.size = z + k) (hn : k + cells = n) (h1 : 1 ≤ n ∨ cells = 0) {K : String} (hcl : Cond.classLink own index K ∈ Ts) (hAO_ : va_AO K s) (t0 : Nat) {cI : ClassId} (ht : tys[t0]? = some (cI, .object K)) {nn : Int32} {N' : Nat} (hnn : ¬ nn < 0) (hN : nn.toNatClampNeg = N') (hbytes : N' * 4 ≤ 536870912) (hcells : cells + 1 ≤ R.cells) (hslots : slots + N' ≤ R.slots) (hP1 : ∀ f, P f → P1 (ud f n (.inl (cI, (N', .inr (.inr (.inr (.inr fun _ => none)))))))) (d : decode cc pc = .ok (.anewarray index, 3)) (hq : pc + 3 = q) (kk : vv p l e R s m args below meth c nL (AZ z) s.heap (cells + 1) (slots + N') Q (wq D cl ad (n + 1) P1) q lv (.ref (ad n) :: st)) : vv p l e R s m args below meth c nL (AZ z) s.heap cells slots Q (wq D cl ad n P) pc lv (.int nn :: st) := by
  subst hq
  refine vv_sz hAd hz hn h1 fun H locs ls hsz hl hB hS => ?_
  obtain ⟨f, hf, hP⟩ := hB
  have hts := C.2.2.2.2
  refine va_newq C.1 C.2.1 C.2.2.2.1 (hts _ hcl) hAO_ hK hP (wd_D (wd_az hAd n) f) hS (fun q h => by show z ≤ q; omega) hnn hN hbytes hcells hslots d (fun q0 cA H1 hK' hP' hD' hS' => ?_)
  have hcA : cA = cI := by
    obtain ⟨_, _, _, _, _, h9⟩ := (hK'.2 tys.length (cA, .object K) (by rw [List.getElem?_append_right (Nat.le_refl _), Nat.sub_self]; rfl)).2
    obtain ⟨_, _, _, _, _, h8⟩ := (hK.2 t0 _ ht).2
    exact Option.some.inj (h9.symm.trans h8)
  subst hcA
  have hlt : q0 < H1.size := (hP' n (q0, .inl (cA, (N', .inr (.inr (.inr (.inr fun _ => none)))))) (by rw [List.getElem?_append_right (by simp [WL]), show n - (WL ad n f).length = 0 by simp [WL]]; rfl)).lt
  have hge : z ≤ q0 := hD'.2 n (q0, .inl (cA, (N', .inr (.inr (.inr (.inr fun _ => none)))))) (by rw [List.getElem?_append_right (by simp [WL]), show n - (WL ad n f).length = 0 by simp [WL]]; rfl)
  have hne : ∀ i, i < n → ad i ≠ q0 := fun i hi h => by
    have := hD'.1 i n (ad i, f i) (q0, .inl (cA, (N', .inr (.inr (.inr (.inr fun _ => none)))))) (by rw [List.getElem?_append_left (by simp [WL]; exact hi)]; exact WL_get hi) (by rw [List.getElem?_append_right (by simp [WL]), show n - (WL ad n f).length = 0 by simp [WL]]; rfl) h
    omega
  intro T hT X
  have h2 := X.heapSize
  rw [hT] at h2
  have hq0 : q0 = ad n := by
    rw [hAd]
    by_cases hh : q0 < z + n
    · exact absurd (hAd (q0 - z)) (fun h => hne (q0 - z) (by omega) (by omega))
    · omega
  subst hq0
  rw [WL_push] at hP'
  exact kk H1 locs ls hl ⟨_, hP1 f hf, hP'⟩ hS' T hT X
theorem vv_aast (C : CallFix p m c cc nL s args Ts own) (hK : va_K D cl tys s) (hW : wdA A ad n) (j : Nat) (hj : j < n) (jv : Nat) (hjv : jv < n) (t0 : Nat) {cA : ClassId} {r : vw_C} {ci N' : Nat} {g : Nat → Option Nat} (he : ∀ f, P f → f j = .inl (cA, N', .inr (.inr (.inr (.inr g))))) (ht : tys[t0]? = some (cA, .object r.1)) (hv : ∀ f, P f → ∃ vs, f jv = .inr (ci, vs)) (hc : cl[ci]? = some r) {i : Int32} (hi : vp_in i N') (hP1 : ∀ f, P f → P1 (ud f j (.inl (cA, N', .inr (.inr (.inr (.inr (va_up g i.toNatClampNeg (some (ad jv)))))))))) (d : decode cc pc = .ok (.aastore, 1)) (hq : pc + 1 = q) (kk : vv p l e R s m args below meth c nL A H0 cells slots Q (wq D cl ad n P1) q lv st) : vv p l e R s m args below meth c nL A H0 cells slots Q (wq D cl ad n P) pc lv (.ref (ad jv) :: .int i :: .ref (ad j) :: st) := by
  subst hq
  intro H locs ls hl hB hS
  obtain ⟨f, hf, hP⟩ := hB
  obtain ⟨vs, hvs⟩ := hv f hf
  exact va_astq C.1 C.2.1 hK hP (wd_D hW f) hS j t0 jv ci ((WL_get hj).trans (by rw [he f hf])) ht ((WL_get hjv).trans (by rw [hvs])) hc hi d (fun H1 locs1 hP1' _ hS1 => kk H1 locs1 ls hl ⟨_, hP1 f hf, by rw [WL_set] at hP1'; exact hP1'⟩ hS1)
theorem vv_objinit (C : CallFix p m c cc nL s args Ts own) {a : Nat} (hlink : Cond.methodLink own index objectInit ∈ Ts) (hinst : Cond.instanceMethod objectInit ∈ Ts) (hcode : Cond.code objectInit ⟨#[0xb1]⟩ 1 none ∈ Ts) (hfr : 1 ≤ R.frames) (hlo : (st.map fun v => v.category).sum + 12 ≤ R.locals) (d : decode cc pc = .ok (.invokespecial index, 3)) (hq : pc + 3 = q) (kk : vv p l e R s m args below meth c nL A H0 cells slots Q B q lv st) : vv p l e R s m args below meth c nL A H0 cells slots Q B pc lv (.ref a :: st) := by
  subst hq
  intro H locs ls hl hB hS
  have hts := C.2.2.2.2
  exact W.objInit C.1 C.2.1 C.2.2.2.1 (hts _ hlink) (hts _ hinst) (hts _ hcode) rfl (by rw [C.2.2.1]; exact hl.1) rfl d hfr (by simpa [F0] using hlo) (kk H locs ls hl hB hS)
theorem vv_callC (C : CallFix p m c cc nL s args Ts own) (hK : va_K D cl tys s) (hAd : ∀ i, ad i = z + i) (hz : s.heap.size = z + k) (hn : k + cells = n) (h1 : 1 ≤ n ∨ cells = 0) (hAO : xC s) {a : Nat} (hM : kC l y wsY rm D cl tys ad z n n2 (.ref a :: As) P P1 mc ms) (cw : CallB R s args own index y bytes maxL none wsY rm mc ms nA ∧ y.name = "<init>" ∧ (Cond.instanceMethod y).before args s = true) (hnA : As.length = nA) (hst : st0 = As.reverse ++ .ref a :: st) (hcat : (st.map fun v => v.category).sum ≤ 8) (hroom : cells + mc ≤ R.cells ∧ slots + ms ≤ R.slots) (d : decode cc pc = .ok (.invokespecial index, 3)) (hq : pc + 3 = q) (kk : vv p l e R s m args below meth c nL (AZ z) s.heap (cells + mc) (slots + ms) Q (wq D cl ad n2 P1) q lv st) : vv p l e R s m args below meth c nL (AZ z) s.heap cells slots Q (wq D cl ad n P) pc lv st0 := by
  subst hq
  subst hst
  refine vv_sz hAd hz hn h1 fun H locs ls hsz hl hB hS => ?_
  exact va_callv (va_runI C hM cw ⟨kC_blind, fun U hU hW => ⟨rfl, by rw [hU]; exact hsz, xC.moved hW hAO, by rw [hU]; exact hB, va_K.moved hW.alike hK⟩⟩ rfl hnA hl.1 rfl (lv_room hcat) d hroom) hS (fun q _ h => h) (fun _ h => h) (fun u t H1 locs1 ht hvm hp hb1 hz1 hk hS1 => by subst ht; exact kk _ _ ls hl hb1.2.1 hS1)
theorem vv_callN (C : CallFix p m c cc nL s args Ts own) (hK : va_K D cl tys s) (hAd : ∀ i, ad i = z + i) (hz : s.heap.size = z + k) (hn : k + cells = n) (h1 : 1 ≤ n ∨ cells = 0) (hAO : xC s) {a : Nat} {host : String} (hM : kC l y wsY rm D cl tys ad z n n2 (.ref a :: As) P P1 mc ms) (cw : va_CN R s args own index y host bytes maxL none wsY rm mc ms nA ∧ y.name = "<init>" ∧ (Cond.instanceMethod y).before args s = true) (hnA : As.length = nA) (hst : st0 = As.reverse ++ .ref a :: st) (hcat : (st.map fun v => v.category).sum ≤ 8) (hroom : cells + mc ≤ R.cells ∧ slots + ms ≤ R.slots) (d : decode cc pc = .ok (.invokespecial index, 3)) (hq : pc + 3 = q) (kk : vv p l e R s m args below meth c nL (AZ z) s.heap (cells + mc) (slots + ms) Q (wq D cl ad n2 P1) q lv st) : vv p l e R s m args below meth c nL (AZ z) s.heap cells slots Q (wq D cl ad n P) pc lv st0 := by
  subst hq
  subst hst
  refine vv_sz hAd hz hn h1 fun H locs ls hsz hl hB hS => ?_
  exact va_callv (va_runIN C hM cw ⟨kC_blind, fun U hU hW => ⟨rfl, by rw [hU]; exact hsz, xC.moved hW hAO, by rw [hU]; exact hB, va_K.moved hW.alike hK⟩⟩ rfl hnA hl.1 rfl (lv_room hcat) d hroom) hS (fun q _ h => h) (fun _ h => h) (fun u t H1 locs1 ht hvm hp hb1 hz1 hk hS1 => by subst ht; exact kk _ _ ls hl hb1.2.1 hS1)
theorem vv_callCr (C : CallFix p m c cc nL s args Ts own) (hK : va_K D cl tys s) (hAd : ∀ i, ad i = z + i) (hz : s.heap.size = z + k) (hn : k + cells = n) (h1 : 1 ≤ n ∨ cells = 0) (hAO : xC s) {a : Nat} (hM : kCr l y wsY rm D cl tys ad z n n2 As P a P1 mc ms) (cw : CallB R s args own index y bytes maxL ret wsY rm mc ms nA ∧ (Cond.static y).before args s = true) (hnA : As.length = nA) (hst : st0 = As.reverse ++ st) (hcat : (st.map fun v => v.category).sum ≤ 8) (hroom : cells + mc ≤ R.cells ∧ slots + ms ≤ R.slots) (d : decode cc pc = .ok (.invokestatic index, 3)) (hq : pc + 3 = q) (kk : vv p l e R s m args below meth c nL (AZ z) s.heap (cells + mc) (slots + ms) Q (wq D cl ad n2 P1) q lv (.ref a :: st)) : vv p l e R s m args below meth c nL (AZ z) s.heap cells slots Q (wq D cl ad n P) pc lv st0 := by
  subst hq
  subst hst
  refine vv_sz hAd hz hn h1 fun H locs ls hsz hl hB hS => ?_
  exact va_callr (va_runS C hM cw ⟨kC_blind, fun U hU hW => ⟨rfl, by rw [hU]; exact hsz, xC.moved hW hAO, by rw [hU]; exact hB, va_K.moved hW.alike hK⟩⟩ rfl hnA hl.1 rfl (lv_room hcat) d hroom) hS (fun q _ h => h) (fun _ h => h) (fun u ra t H1 locs1 ht hvm hp hb1 hz1 hk hS1 => by obtain ⟨rfl, -, hb1⟩ := hb1; subst ht; exact kk _ _ ls hl hb1.1 hS1)
theorem vv_vretC (C : CallFix p m c cc nL s args Ts own) (hK : va_K D cl tys s) (hAd : ∀ i, ad i = z + i) (hz : s.heap.size = z + k) (hn : k + mc = n) (h1 : 1 ≤ n) (hr : meth.sig.returnType = none) (hlk : meth.locks = false) (hP1 : ∀ f, P f → P1 f) (d : decode cc pc = .ok (.return_, 1)) : vv p l e R s m args below meth c nL (AZ z) s.heap mc ms (MQ below (va_Qv (fun (_ : Unit) => True) (fun _ U => U.heap.size = z + n ∧ ws0 D cl tys ad n P1 U) (AZ z)) args s mc ms (AZ z)) (wq D cl ad n P) pc lv [] := by
  refine vv_sz hAd hz hn (Or.inl h1) fun H locs ls hsz hl hB hS => ?_
  obtain ⟨f, hf, hP⟩ := hB
  exact W.vret C.1 C.2.1 hr (fun t ht hW => ⟨⟨(), rfl, trivial, by rw [ht]; exact hsz, ⟨f, hP1 f hf, by rw [ht]; exact hP⟩, va_K.moved hW.alike hK⟩, hS.F ht⟩) hS.2.2 d hlk
theorem vv_aretC {a b : Nat} {nm : String} (C : CallFix p m c cc nL s args Ts own) (hK : va_K D cl tys s) (hAd : ∀ i, ad i = z + i) (hz : s.heap.size = z + k) (hn : k + mc = n) (h1 : 1 ≤ n) (hr : meth.sig.returnType = some (.object nm)) (hlk : meth.locks = false) (hv : b = a) (hP1 : ∀ f, P f → P1 f) (d : decode cc pc = .ok (.areturn, 1)) : vv p l e R s m args below meth c nL (AZ z) s.heap mc ms (MQ below (va_Qr (fun (_ : Unit) => True) (fun _ a' U => a' = a ∧ U.heap.size = z + n ∧ ws0 D cl tys ad n P1 U) (AZ z)) args s mc ms (AZ z)) (wq D cl ad n P) pc lv [.ref b] := by
  refine vv_sz hAd hz hn (Or.inl h1) fun H locs ls hsz hl hB hS => ?_
  obtain ⟨f, hf, hP⟩ := hB
  exact W.aret (rt := .object nm) C.1 C.2.1 hr (Or.inl ⟨nm, rfl⟩) (Or.inr ⟨b, rfl⟩) (fun t ht hW => ⟨⟨(), b, rfl, trivial, hv, by rw [ht]; exact hsz, ⟨f, hP1 f hf, by rw [ht]; exact hP⟩, va_K.moved hW.alike hK⟩, hS.F ht⟩) hS.2.2 d hlk
end VVC
