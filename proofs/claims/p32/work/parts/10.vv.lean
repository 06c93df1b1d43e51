/-! one-step rules over vv: W for every heap that holds B, every locals that hold lv -/
section VV1
variable {p : Program} {l : Launch} {e : Env} {R : Room} {s : State} {m : MethodId} {args : Array Value} {below : List Frame} {meth : Method} {c : Code} {nL : Nat} {A : Nat → Prop} {H0 : Heap} {cells slots : Nat} {Q : State → Prop} {B B1 : Heap → Prop} {pc q : Nat} {lv lv' : List (Nat × Value)} {st : List Value} {cc : ByteArray} {Ts : List Cond} {own : String}
def vv (p : Program) (l : Launch) (e : Env) (R : Room) (s : State) (m : MethodId) (args : Array Value) (below : List Frame) (meth : Method) (c : Code) (nL : Nat) (A : Nat → Prop) (H0 : Heap) (cells slots : Nat) (Q : State → Prop) (B : Heap → Prop) (pc : Nat) (lv : List (Nat × Value)) (st : List Value) : Prop :=
  ∀ (H : Heap) (locs : List Loc) (ls : Array Slot), lv_has ls nL lv → B H → va_S A H0 H locs → W p l e R s m args below meth c H locs cells slots Q (F0 m pc ls st)
theorem vv_cons (h : ∀ H, B H → B1 H) (k : vv p l e R s m args below meth c nL A H0 cells slots Q B1 pc lv st) : vv p l e R s m args below meth c nL A H0 cells slots Q B pc lv st := fun H locs ls hl hB hS => k H locs ls hl (h H hB) hS
theorem vv_pure {P : Prop} (h : ∀ H, B H → P) (k : P → vv p l e R s m args below meth c nL A H0 cells slots Q B pc lv st) : vv p l e R s m args below meth c nL A H0 cells slots Q B pc lv st := fun H locs ls hl hB hS => k (h H hB) H locs ls hl hB hS
theorem vv_lv (ks : List Nat) (h : lv_pick lv ks = lv') (k : vv p l e R s m args below meth c nL A H0 cells slots Q B pc lv' st) : vv p l e R s m args below meth c nL A H0 cells slots Q B pc lv st := fun H locs ls hl hB hS => k H locs ls (lv_sub hl ks h) hB hS
theorem vv_eqv {st' : List Value} (h : st = st') (k : vv p l e R s m args below meth c nL A H0 cells slots Q B pc lv st') : vv p l e R s m args below meth c nL A H0 cells slots Q B pc lv st := h ▸ k
theorem vv_eql (h : lv = lv') (k : vv p l e R s m args below meth c nL A H0 cells slots Q B pc lv' st) : vv p l e R s m args below meth c nL A H0 cells slots Q B pc lv st := h ▸ k
theorem vv_widen {k n : Nat} (h1 : cells ≤ k) (h2 : slots ≤ n) (kk : vv p l e R s m args below meth c nL A H0 k n Q B pc lv st) : vv p l e R s m args below meth c nL A H0 cells slots Q B pc lv st := fun H locs ls hl hB hS => W.widen h1 h2 (kk H locs ls hl hB hS)

theorem vv_iconst (C : CallFix p m c cc nL s args Ts own) {n : Int} {v : Int32} (d : decode cc pc = .ok (.iconst n, 1)) (hv : Int32.ofInt n = v) (hq : pc + 1 = q) (k : vv p l e R s m args below meth c nL A H0 cells slots Q B q lv (.int v :: st)) : vv p l e R s m args below meth c nL A H0 cells slots Q B pc lv (st) := by
  subst hq
  exact fun H locs ls hl hB hS => lv_iconst C.1 C.2.1 d hv (k H locs ls hl hB hS)
theorem vv_bipush (C : CallFix p m c cc nL s args Ts own) {n : Int} {v : Int32} (d : decode cc pc = .ok (.bipush n, 2)) (hv : (Int8.ofInt n).toInt32 = v) (hq : pc + 2 = q) (k : vv p l e R s m args below meth c nL A H0 cells slots Q B q lv (.int v :: st)) : vv p l e R s m args below meth c nL A H0 cells slots Q B pc lv (st) := by
  subst hq
  exact fun H locs ls hl hB hS => lv_bipush C.1 C.2.1 d hv (k H locs ls hl hB hS)
theorem vv_sipush (C : CallFix p m c cc nL s args Ts own) {n : Int} {v : Int32} (d : decode cc pc = .ok (.sipush n, 3)) (hv : (Int16.ofInt n).toInt32 = v) (hq : pc + 3 = q) (k : vv p l e R s m args below meth c nL A H0 cells slots Q B q lv (.int v :: st)) : vv p l e R s m args below meth c nL A H0 cells slots Q B pc lv (st) := by
  subst hq
  exact fun H locs ls hl hB hS => lv_sipush C.1 C.2.1 d hv (k H locs ls hl hB hS)
theorem vv_iload_n (C : CallFix p m c cc nL s args Ts own) {k0 : Fin 4} {i : Nat} {x : Int32} (j : Nat) (d : decode cc pc = .ok (.iload_n k0, 1)) (hi : (k0 : Nat) = i) (h : lv[j]? = some (i, .int x)) (hq : pc + 1 = q) (k : vv p l e R s m args below meth c nL A H0 cells slots Q B q lv (.int x :: st)) : vv p l e R s m args below meth c nL A H0 cells slots Q B pc lv (st) := by
  subst hq
  exact fun H locs ls hl hB hS => lv_iload_n C.1 C.2.1 d hi (lv_at hl j h) (k H locs ls hl hB hS)
theorem vv_iload (C : CallFix p m c cc nL s args Ts own) {i : Nat} {x : Int32} (j : Nat) (d : decode cc pc = .ok (.iload i, 2)) (h : lv[j]? = some (i, .int x)) (hq : pc + 2 = q) (k : vv p l e R s m args below meth c nL A H0 cells slots Q B q lv (.int x :: st)) : vv p l e R s m args below meth c nL A H0 cells slots Q B pc lv (st) := by
  subst hq
  exact fun H locs ls hl hB hS => lv_iload C.1 C.2.1 d (lv_at hl j h) (k H locs ls hl hB hS)
theorem vv_aload_n (C : CallFix p m c cc nL s args Ts own) {k0 : Fin 4} {i : Nat} {x : Nat} (j : Nat) (d : decode cc pc = .ok (.aload_n k0, 1)) (hi : (k0 : Nat) = i) (h : lv[j]? = some (i, .ref x)) (hq : pc + 1 = q) (k : vv p l e R s m args below meth c nL A H0 cells slots Q B q lv (.ref x :: st)) : vv p l e R s m args below meth c nL A H0 cells slots Q B pc lv (st) := by
  subst hq
  exact fun H locs ls hl hB hS => lv_aload_n C.1 C.2.1 d hi (lv_at hl j h) (k H locs ls hl hB hS)
theorem vv_aload (C : CallFix p m c cc nL s args Ts own) {i : Nat} {x : Nat} (j : Nat) (d : decode cc pc = .ok (.aload i, 2)) (h : lv[j]? = some (i, .ref x)) (hq : pc + 2 = q) (k : vv p l e R s m args below meth c nL A H0 cells slots Q B q lv (.ref x :: st)) : vv p l e R s m args below meth c nL A H0 cells slots Q B pc lv (st) := by
  subst hq
  exact fun H locs ls hl hB hS => lv_aload C.1 C.2.1 d (lv_at hl j h) (k H locs ls hl hB hS)
theorem vv_iadd (C : CallFix p m c cc nL s args Ts own) {x y : Int32} (d : decode cc pc = .ok (.iadd, 1))  (hq : pc + 1 = q) (k : vv p l e R s m args below meth c nL A H0 cells slots Q B q lv (.int (x + y) :: st)) : vv p l e R s m args below meth c nL A H0 cells slots Q B pc lv (.int y :: .int x :: st) := by
  subst hq
  exact fun H locs ls hl hB hS => lv_iadd C.1 C.2.1 d (k H locs ls hl hB hS)
theorem vv_isub (C : CallFix p m c cc nL s args Ts own) {x y : Int32} (d : decode cc pc = .ok (.isub, 1))  (hq : pc + 1 = q) (k : vv p l e R s m args below meth c nL A H0 cells slots Q B q lv (.int (x - y) :: st)) : vv p l e R s m args below meth c nL A H0 cells slots Q B pc lv (.int y :: .int x :: st) := by
  subst hq
  exact fun H locs ls hl hB hS => lv_isub C.1 C.2.1 d (k H locs ls hl hB hS)
theorem vv_imul (C : CallFix p m c cc nL s args Ts own) {x y : Int32} (d : decode cc pc = .ok (.imul, 1))  (hq : pc + 1 = q) (k : vv p l e R s m args below meth c nL A H0 cells slots Q B q lv (.int (x * y) :: st)) : vv p l e R s m args below meth c nL A H0 cells slots Q B pc lv (.int y :: .int x :: st) := by
  subst hq
  exact fun H locs ls hl hB hS => lv_imul C.1 C.2.1 d (k H locs ls hl hB hS)
theorem vv_iand (C : CallFix p m c cc nL s args Ts own) {x y : Int32} (d : decode cc pc = .ok (.iand, 1))  (hq : pc + 1 = q) (k : vv p l e R s m args below meth c nL A H0 cells slots Q B q lv (.int (x &&& y) :: st)) : vv p l e R s m args below meth c nL A H0 cells slots Q B pc lv (.int y :: .int x :: st) := by
  subst hq
  exact fun H locs ls hl hB hS => lv_iand C.1 C.2.1 d (k H locs ls hl hB hS)
theorem vv_ior (C : CallFix p m c cc nL s args Ts own) {x y : Int32} (d : decode cc pc = .ok (.ior, 1))  (hq : pc + 1 = q) (k : vv p l e R s m args below meth c nL A H0 cells slots Q B q lv (.int (x ||| y) :: st)) : vv p l e R s m args below meth c nL A H0 cells slots Q B pc lv (.int y :: .int x :: st) := by
  subst hq
  exact fun H locs ls hl hB hS => lv_ior C.1 C.2.1 d (k H locs ls hl hB hS)
theorem vv_ishl (C : CallFix p m c cc nL s args Ts own) {x y : Int32} (d : decode cc pc = .ok (.ishl, 1))  (hq : pc + 1 = q) (k : vv p l e R s m args below meth c nL A H0 cells slots Q B q lv (.int (x <<< (y &&& 31)) :: st)) : vv p l e R s m args below meth c nL A H0 cells slots Q B pc lv (.int y :: .int x :: st) := by
  subst hq
  exact fun H locs ls hl hB hS => lv_ishl C.1 C.2.1 d (k H locs ls hl hB hS)
theorem vv_ineg (C : CallFix p m c cc nL s args Ts own) {x : Int32} (d : decode cc pc = .ok (.ineg, 1))  (hq : pc + 1 = q) (k : vv p l e R s m args below meth c nL A H0 cells slots Q B q lv (.int (-x) :: st)) : vv p l e R s m args below meth c nL A H0 cells slots Q B pc lv (.int x :: st) := by
  subst hq
  exact fun H locs ls hl hB hS => lv_ineg C.1 C.2.1 d (k H locs ls hl hB hS)
theorem vv_dup (C : CallFix p m c cc nL s args Ts own) {v : Value} (d : decode cc pc = .ok (.dup, 1)) (hv : v.category = 1) (hq : pc + 1 = q) (k : vv p l e R s m args below meth c nL A H0 cells slots Q B q lv (v :: v :: st)) : vv p l e R s m args below meth c nL A H0 cells slots Q B pc lv (v :: st) := by
  subst hq
  exact fun H locs ls hl hB hS => lv_dup C.1 C.2.1 d hv (k H locs ls hl hB hS)
theorem vv_i2l (C : CallFix p m c cc nL s args Ts own) {x : Int32} (d : decode cc pc = .ok (.i2l, 1))  (hq : pc + 1 = q) (k : vv p l e R s m args below meth c nL A H0 cells slots Q B q lv (.long x.toInt64 :: st)) : vv p l e R s m args below meth c nL A H0 cells slots Q B pc lv (.int x :: st) := by
  subst hq
  exact fun H locs ls hl hB hS => lv_i2l C.1 C.2.1 d rfl (k H locs ls hl hB hS)
theorem vv_istore_n (C : CallFix p m c cc nL s args Ts own) {k0 : Fin 4} {i : Nat} {x : Int32} (d : decode cc pc = .ok (.istore_n k0, 1)) (hi : (k0 : Nat) = i) (hn : i < nL) (hl' : (i, Value.int x) :: lv.filter (fun q => !(q.1 == i) && !(q.1 + 1 == i && q.2.category == 2)) = lv') (hq : pc + 1 = q) (k : vv p l e R s m args below meth c nL A H0 cells slots Q B q lv' st) : vv p l e R s m args below meth c nL A H0 cells slots Q B pc lv (Value.int x :: st) := by
  subst hq
  exact fun H locs ls hl hB hS => lv_istore_n C.1 C.2.1 d hi hl hn hl' (fun ls2 hl2 => k H locs ls2 hl2 hB hS)
theorem vv_istore (C : CallFix p m c cc nL s args Ts own) {i : Nat} {x : Int32} (d : decode cc pc = .ok (.istore i, 2))  (hn : i < nL) (hl' : (i, Value.int x) :: lv.filter (fun q => !(q.1 == i) && !(q.1 + 1 == i && q.2.category == 2)) = lv') (hq : pc + 2 = q) (k : vv p l e R s m args below meth c nL A H0 cells slots Q B q lv' st) : vv p l e R s m args below meth c nL A H0 cells slots Q B pc lv (Value.int x :: st) := by
  subst hq
  exact fun H locs ls hl hB hS => lv_istore C.1 C.2.1 d hl hn hl' (fun ls2 hl2 => k H locs ls2 hl2 hB hS)
theorem vv_astore_n (C : CallFix p m c cc nL s args Ts own) {k0 : Fin 4} {i : Nat} {x : Nat} (d : decode cc pc = .ok (.astore_n k0, 1)) (hi : (k0 : Nat) = i) (hn : i < nL) (hl' : (i, Value.ref x) :: lv.filter (fun q => !(q.1 == i) && !(q.1 + 1 == i && q.2.category == 2)) = lv') (hq : pc + 1 = q) (k : vv p l e R s m args below meth c nL A H0 cells slots Q B q lv' st) : vv p l e R s m args below meth c nL A H0 cells slots Q B pc lv (Value.ref x :: st) := by
  subst hq
  exact fun H locs ls hl hB hS => lv_astore_n C.1 C.2.1 d hi hl hn hl' (fun ls2 hl2 => k H locs ls2 hl2 hB hS)
theorem vv_astore (C : CallFix p m c cc nL s args Ts own) {i : Nat} {x : Nat} (d : decode cc pc = .ok (.astore i, 2))  (hn : i < nL) (hl' : (i, Value.ref x) :: lv.filter (fun q => !(q.1 == i) && !(q.1 + 1 == i && q.2.category == 2)) = lv') (hq : pc + 2 = q) (k : vv p l e R s m args below meth c nL A H0 cells slots Q B q lv' st) : vv p l e R s m args below meth c nL A H0 cells slots Q B pc lv (Value.ref x :: st) := by
  subst hq
  exact fun H locs ls hl hB hS => lv_astore C.1 C.2.1 d hl hn hl' (fun ls2 hl2 => k H locs ls2 hl2 hB hS)
theorem vv_null (C : CallFix p m c cc nL s args Ts own) (d : decode cc pc = .ok (.aconst_null, 1)) (hq : pc + 1 = q) (k : vv p l e R s m args below meth c nL A H0 cells slots Q B q lv (.null :: st)) : vv p l e R s m args below meth c nL A H0 cells slots Q B pc lv st := by
  subst hq
  exact fun H locs ls hl hB hS => lv_null C.1 C.2.1 d (k H locs ls hl hB hS)
theorem vv_aload_nN (C : CallFix p m c cc nL s args Ts own) {k0 : Fin 4} {i : Nat} (j : Nat) (d : decode cc pc = .ok (.aload_n k0, 1)) (hi : (k0 : Nat) = i) (h : lv[j]? = some (i, .null)) (hq : pc + 1 = q) (k : vv p l e R s m args below meth c nL A H0 cells slots Q B q lv (.null :: st)) : vv p l e R s m args below meth c nL A H0 cells slots Q B pc lv st := by
  subst hq
  exact fun H locs ls hl hB hS => lv_aload_nN C.1 C.2.1 d hi (lv_at hl j h) (k H locs ls hl hB hS)
theorem vv_astore_nN (C : CallFix p m c cc nL s args Ts own) {k0 : Fin 4} {i : Nat} (d : decode cc pc = .ok (.astore_n k0, 1)) (hi : (k0 : Nat) = i) (hn : i < nL) (hl' : (i, Value.null) :: lv.filter (fun q => !(q.1 == i) && !(q.1 + 1 == i && q.2.category == 2)) = lv') (hq : pc + 1 = q) (k : vv p l e R s m args below meth c nL A H0 cells slots Q B q lv' st) : vv p l e R s m args below meth c nL A H0 cells slots Q B pc lv (Value.null :: st) := by
  subst hq
  exact fun H locs ls hl hB hS => lv_astore_nN C.1 C.2.1 d hi hl hn hl' (fun ls2 hl2 => k H locs ls2 hl2 hB hS)
theorem vv_ifnonnull (C : CallFix p m c cc nL s args Ts own) {x : Nat} {off : Int} {tgt : Nat} (d : decode cc pc = .ok (.ifnonnull off, 3)) (ht : (pc : Int) + off = (tgt : Int)) (k : vv p l e R s m args below meth c nL A H0 cells slots Q B tgt lv st) : vv p l e R s m args below meth c nL A H0 cells slots Q B pc lv (.ref x :: st) := fun H locs ls hl hB hS => lv_ifnonnull C.1 C.2.1 d ht (k H locs ls hl hB hS)
theorem vv_ifnonnullN (C : CallFix p m c cc nL s args Ts own) {off : Int} (d : decode cc pc = .ok (.ifnonnull off, 3)) (hq : pc + 3 = q) (k : vv p l e R s m args below meth c nL A H0 cells slots Q B q lv st) : vv p l e R s m args below meth c nL A H0 cells slots Q B pc lv (.null :: st) := by
  subst hq
  exact fun H locs ls hl hB hS => lv_ifnonnullN C.1 C.2.1 d (k H locs ls hl hB hS)
theorem vv_iinc (C : CallFix p m c cc nL s args Ts own) {i : Nat} {n : Int} {x v : Int32} (j : Nat) (d : decode cc pc = .ok (.iinc i n, 3)) (h : lv[j]? = some (i, .int x)) (hv : x + Int32.ofInt n = v) (hn : i < nL) (hl' : (i, Value.int v) :: lv.filter (fun q => !(q.1 == i) && !(q.1 + 1 == i && q.2.category == 2)) = lv') (hq : pc + 3 = q) (k : vv p l e R s m args below meth c nL A H0 cells slots Q B q lv' st) : vv p l e R s m args below meth c nL A H0 cells slots Q B pc lv st := by
  subst hq
  exact fun H locs ls hl hB hS => lv_iinc C.1 C.2.1 d hl h hv hn hl' (fun ls2 hl2 => k H locs ls2 hl2 hB hS)
theorem vv_goto (C : CallFix p m c cc nL s args Ts own) {off : Int} {tgt : Nat} (d : decode cc pc = .ok (.goto off, 3)) (ht : (pc : Int) + off = (tgt : Int)) (k : vv p l e R s m args below meth c nL A H0 cells slots Q B tgt lv st) : vv p l e R s m args below meth c nL A H0 cells slots Q B pc lv st := fun H locs ls hl hB hS => lv_goto C.1 C.2.1 d ht (k H locs ls hl hB hS)
theorem vv_if_eq (C : CallFix p m c cc nL s args Ts own) {x : Int32} {off : Int} {tgt : Nat} (d : decode cc pc = .ok (.ifCond .eq off, 3)) (ht : (pc : Int) + off = (tgt : Int)) (hq : pc + 3 = q) (kt : x = 0 → vv p l e R s m args below meth c nL A H0 cells slots Q B tgt lv st) (kf : ¬ x = 0 → vv p l e R s m args below meth c nL A H0 cells slots Q B q lv st) : vv p l e R s m args below meth c nL A H0 cells slots Q B pc lv (.int x :: st) := by
  subst hq
  exact fun H locs ls hl hB hS => lv_if_eq C.1 C.2.1 d ht (fun h => kt h H locs ls hl hB hS) (fun h => kf h H locs ls hl hB hS)
theorem vv_if_ne (C : CallFix p m c cc nL s args Ts own) {x : Int32} {off : Int} {tgt : Nat} (d : decode cc pc = .ok (.ifCond .ne off, 3)) (ht : (pc : Int) + off = (tgt : Int)) (hq : pc + 3 = q) (kt : ¬ x = 0 → vv p l e R s m args below meth c nL A H0 cells slots Q B tgt lv st) (kf : x = 0 → vv p l e R s m args below meth c nL A H0 cells slots Q B q lv st) : vv p l e R s m args below meth c nL A H0 cells slots Q B pc lv (.int x :: st) := by
  subst hq
  exact fun H locs ls hl hB hS => lv_if_ne C.1 C.2.1 d ht (fun h => kt h H locs ls hl hB hS) (fun h => kf h H locs ls hl hB hS)
theorem vv_if_lt (C : CallFix p m c cc nL s args Ts own) {x : Int32} {off : Int} {tgt : Nat} (d : decode cc pc = .ok (.ifCond .lt off, 3)) (ht : (pc : Int) + off = (tgt : Int)) (hq : pc + 3 = q) (kt : x < 0 → vv p l e R s m args below meth c nL A H0 cells slots Q B tgt lv st) (kf : ¬ x < 0 → vv p l e R s m args below meth c nL A H0 cells slots Q B q lv st) : vv p l e R s m args below meth c nL A H0 cells slots Q B pc lv (.int x :: st) := by
  subst hq
  exact fun H locs ls hl hB hS => lv_if_lt C.1 C.2.1 d ht (fun h => kt h H locs ls hl hB hS) (fun h => kf h H locs ls hl hB hS)
theorem vv_if_ge (C : CallFix p m c cc nL s args Ts own) {x : Int32} {off : Int} {tgt : Nat} (d : decode cc pc = .ok (.ifCond .ge off, 3)) (ht : (pc : Int) + off = (tgt : Int)) (hq : pc + 3 = q) (kt : 0 ≤ x → vv p l e R s m args below meth c nL A H0 cells slots Q B tgt lv st) (kf : ¬ 0 ≤ x → vv p l e R s m args below meth c nL A H0 cells slots Q B q lv st) : vv p l e R s m args below meth c nL A H0 cells slots Q B pc lv (.int x :: st) := by
  subst hq
  exact fun H locs ls hl hB hS => lv_if_ge C.1 C.2.1 d ht (fun h => kt h H locs ls hl hB hS) (fun h => kf h H locs ls hl hB hS)
theorem vv_if_le (C : CallFix p m c cc nL s args Ts own) {x : Int32} {off : Int} {tgt : Nat} (d : decode cc pc = .ok (.ifCond .le off, 3)) (ht : (pc : Int) + off = (tgt : Int)) (hq : pc + 3 = q) (kt : x ≤ 0 → vv p l e R s m args below meth c nL A H0 cells slots Q B tgt lv st) (kf : ¬ x ≤ 0 → vv p l e R s m args below meth c nL A H0 cells slots Q B q lv st) : vv p l e R s m args below meth c nL A H0 cells slots Q B pc lv (.int x :: st) := by
  subst hq
  exact fun H locs ls hl hB hS => lv_if_le C.1 C.2.1 d ht (fun h => kt h H locs ls hl hB hS) (fun h => kf h H locs ls hl hB hS)
theorem vv_icmp_eq (C : CallFix p m c cc nL s args Ts own) {x y : Int32} {off : Int} {tgt : Nat} (d : decode cc pc = .ok (.if_icmp .eq off, 3)) (ht : (pc : Int) + off = (tgt : Int)) (hq : pc + 3 = q) (kt : x = y → vv p l e R s m args below meth c nL A H0 cells slots Q B tgt lv st) (kf : ¬ x = y → vv p l e R s m args below meth c nL A H0 cells slots Q B q lv st) : vv p l e R s m args below meth c nL A H0 cells slots Q B pc lv (.int y :: .int x :: st) := by
  subst hq
  exact fun H locs ls hl hB hS => lv_icmp_eq C.1 C.2.1 d ht (fun h => kt h H locs ls hl hB hS) (fun h => kf h H locs ls hl hB hS)
theorem vv_icmp_ne (C : CallFix p m c cc nL s args Ts own) {x y : Int32} {off : Int} {tgt : Nat} (d : decode cc pc = .ok (.if_icmp .ne off, 3)) (ht : (pc : Int) + off = (tgt : Int)) (hq : pc + 3 = q) (kt : ¬ x = y → vv p l e R s m args below meth c nL A H0 cells slots Q B tgt lv st) (kf : x = y → vv p l e R s m args below meth c nL A H0 cells slots Q B q lv st) : vv p l e R s m args below meth c nL A H0 cells slots Q B pc lv (.int y :: .int x :: st) := by
  subst hq
  exact fun H locs ls hl hB hS => lv_icmp_ne C.1 C.2.1 d ht (fun h => kt h H locs ls hl hB hS) (fun h => kf h H locs ls hl hB hS)
theorem vv_icmp_lt (C : CallFix p m c cc nL s args Ts own) {x y : Int32} {off : Int} {tgt : Nat} (d : decode cc pc = .ok (.if_icmp .lt off, 3)) (ht : (pc : Int) + off = (tgt : Int)) (hq : pc + 3 = q) (kt : x < y → vv p l e R s m args below meth c nL A H0 cells slots Q B tgt lv st) (kf : ¬ x < y → vv p l e R s m args below meth c nL A H0 cells slots Q B q lv st) : vv p l e R s m args below meth c nL A H0 cells slots Q B pc lv (.int y :: .int x :: st) := by
  subst hq
  exact fun H locs ls hl hB hS => lv_icmp_lt C.1 C.2.1 d ht (fun h => kt h H locs ls hl hB hS) (fun h => kf h H locs ls hl hB hS)
theorem vv_icmp_ge (C : CallFix p m c cc nL s args Ts own) {x y : Int32} {off : Int} {tgt : Nat} (d : decode cc pc = .ok (.if_icmp .ge off, 3)) (ht : (pc : Int) + off = (tgt : Int)) (hq : pc + 3 = q) (kt : y ≤ x → vv p l e R s m args below meth c nL A H0 cells slots Q B tgt lv st) (kf : ¬ y ≤ x → vv p l e R s m args below meth c nL A H0 cells slots Q B q lv st) : vv p l e R s m args below meth c nL A H0 cells slots Q B pc lv (.int y :: .int x :: st) := by
  subst hq
  exact fun H locs ls hl hB hS => lv_icmp_ge C.1 C.2.1 d ht (fun h => kt h H locs ls hl hB hS) (fun h => kf h H locs ls hl hB hS)
theorem vv_icmp_gt (C : CallFix p m c cc nL s args Ts own) {x y : Int32} {off : Int} {tgt : Nat} (d : decode cc pc = .ok (.if_icmp .gt off, 3)) (ht : (pc : Int) + off = (tgt : Int)) (hq : pc + 3 = q) (kt : y < x → vv p l e R s m args below meth c nL A H0 cells slots Q B tgt lv st) (kf : ¬ y < x → vv p l e R s m args below meth c nL A H0 cells slots Q B q lv st) : vv p l e R s m args below meth c nL A H0 cells slots Q B pc lv (.int y :: .int x :: st) := by
  subst hq
  exact fun H locs ls hl hB hS => lv_icmp_gt C.1 C.2.1 d ht (fun h => kt h H locs ls hl hB hS) (fun h => kf h H locs ls hl hB hS)
theorem vv_icmp_le (C : CallFix p m c cc nL s args Ts own) {x y : Int32} {off : Int} {tgt : Nat} (d : decode cc pc = .ok (.if_icmp .le off, 3)) (ht : (pc : Int) + off = (tgt : Int)) (hq : pc + 3 = q) (kt : x ≤ y → vv p l e R s m args below meth c nL A H0 cells slots Q B tgt lv st) (kf : ¬ x ≤ y → vv p l e R s m args below meth c nL A H0 cells slots Q B q lv st) : vv p l e R s m args below meth c nL A H0 cells slots Q B pc lv (.int y :: .int x :: st) := by
  subst hq
  exact fun H locs ls hl hB hS => lv_icmp_le C.1 C.2.1 d ht (fun h => kt h H locs ls hl hB hS) (fun h => kf h H locs ls hl hB hS)
end VV1
/-! worlds of N cells at addresses ad 0, ad 1 .. -/
def WL (ad : Nat → Nat) (N : Nat) (f : Nat → va_E) : va_W := (List.range N).map fun j => (ad j, f j)
theorem WL_get {ad : Nat → Nat} {N : Nat} {f : Nat → va_E} {j : Nat} (h : j < N) : (WL ad N f)[j]? = some (ad j, f j) := by
  simp [WL, h]
theorem WL_lt {ad : Nat → Nat} {N : Nat} {f : Nat → va_E} {j : Nat} {q : Nat × va_E} (h : (WL ad N f)[j]? = some q) : j < N ∧ q = (ad j, f j) := by
  have h1 : j < N := by
    have := (List.getElem?_eq_some_iff.mp h).1
    simpa [WL] using this
  rw [WL_get h1] at h
  exact ⟨h1, (Option.some.inj h).symm⟩
def ud (f : Nat → va_E) (j : Nat) (e : va_E) : Nat → va_E := fun i => if i = j then e else f i
theorem WL_set {ad : Nat → Nat} {N : Nat} {f : Nat → va_E} {j : Nat} (e : va_E) : (WL ad N f).set j (ad j, e) = WL ad N (ud f j e) := by
  apply List.ext_getElem?
  intro i
  rw [List.getElem?_set]
  by_cases hi : i < N
  · rw [WL_get (f := ud f j e) hi]
    by_cases hij : j = i
    · subst hij
      simp [WL, hi, ud]
    · rw [if_neg hij, WL_get hi]
      simp [ud, Ne.symm hij]
  · have h1 : (WL ad N f)[i]? = none := by simp [WL]; omega
    have h2 : (WL ad N (ud f j e))[i]? = none := by simp [WL]; omega
    rw [h1, h2]
    by_cases hij : j = i
    · subst hij
      simp [WL, hi]
    · simp [hij]
def wdA (A : Nat → Prop) (ad : Nat → Nat) (N : Nat) : Prop := (∀ i j, i < N → j < N → ad i = ad j → i = j) ∧ ∀ j, j < N → A (ad j)
theorem wd_D {A : Nat → Prop} {ad : Nat → Nat} {N : Nat} (h : wdA A ad N) (f : Nat → va_E) : va_D A (WL ad N f) := by
  refine ⟨fun i j p q hi hj hpq => ?_, fun k q hk => ?_⟩
  · obtain ⟨h1, rfl⟩ := WL_lt hi
    obtain ⟨h2, rfl⟩ := WL_lt hj
    exact h.1 i j h1 h2 hpq
  · obtain ⟨h1, rfl⟩ := WL_lt hk
    exact h.2 k h1
/-- the heap holds some f with P f -/
def wq (D : va_G) (cl : List vw_C) (ad : Nat → Nat) (N : Nat) (P : (Nat → va_E) → Prop) : Heap → Prop := fun H => ∃ f, P f ∧ va_P D cl (WL ad N f) H
section VV2
variable {p : Program} {l : Launch} {e : Env} {R : Room} {s : State} {m : MethodId} {args : Array Value} {below : List Frame} {meth : Method} {c : Code} {nL : Nat} {A : Nat → Prop} {H0 : Heap} {cells slots : Nat} {Q : State → Prop} {B B1 : Heap → Prop} {pc q : Nat} {lv lv' : List (Nat × Value)} {st : List Value} {cc : ByteArray} {Ts : List Cond} {own : String} {D : va_G} {cl : List vw_C} {tys : List (ClassId × FieldType)} {ad : Nat → Nat} {NN : Nat} {P P1 : (Nat → va_E) → Prop}

theorem vv_ex (k : ∀ f, P f → vv p l e R s m args below meth c nL A H0 cells slots Q (wq D cl ad NN (fun f' => f' = f)) pc lv st) : vv p l e R s m args below meth c nL A H0 cells slots Q (wq D cl ad NN P) pc lv st := fun H locs ls hl hB hS => by
  obtain ⟨f, hf, hP⟩ := hB
  exact k f hf H locs ls hl ⟨f, rfl, hP⟩ hS
theorem vv_wq (h : ∀ f, P f → P1 f) (k : vv p l e R s m args below meth c nL A H0 cells slots Q (wq D cl ad NN P1) pc lv st) : vv p l e R s m args below meth c nL A H0 cells slots Q (wq D cl ad NN P) pc lv st := vv_cons (fun H hB => by
  obtain ⟨f, hf, hP⟩ := hB
  exact ⟨f, h f hf, hP⟩) k
theorem vv_get (C : CallFix p m c cc nL s args Ts own) (hK : va_K D cl tys s) {K ref : String} {T : u_T} {N ci index : Nat} (hin : ∀ w ∈ u_ws K T N, w ∈ Ts) (j : Nat) (hj : j < NN) {fs : List Value} (he : ∀ f, P f → f j = .inr (ci, fs)) (hc : cl[ci]? = some (K, T, N)) (k : Nat) (hk : k < N) (hlink : Cond.fieldLink own index ref (T k).2.1 (T k).2.2.1 ∈ Ts) (href : (T k).1 = ref) {v : Value} (hv : fs[k]? = some v) (d : decode cc pc = .ok (.getfield index, 3)) (hq : pc + 3 = q) (kk : vv p l e R s m args below meth c nL A H0 cells slots Q (wq D cl ad NN P) q lv (v :: st)) : vv p l e R s m args below meth c nL A H0 cells slots Q (wq D cl ad NN P) pc lv (.ref (ad j) :: st) := by
  subst hq
  subst href
  intro H locs ls hl hB hS
  obtain ⟨f, hf, hP⟩ := id hB
  exact va_get (C := K) (T := T) (N := N) C.1 C.2.1 C.2.2.2.2 hin C.2.2.2.1 hK hP j ((WL_get hj).trans (by rw [he f hf])) hc k hk (C.2.2.2.2 _ hlink) (fun x h => h) hv d (kk H locs ls hl hB hS)
theorem vv_put (C : CallFix p m c cc nL s args Ts own) (hK : va_K D cl tys s) (hW : wdA A ad NN) {K ref : String} {T : u_T} {N ci index : Nat} (hin : ∀ w ∈ u_ws K T N, w ∈ Ts) (ty0 : Nat → FieldType) (hty : ∀ k, k < N → parseFieldDescriptor (T k).2.2.1 = some (ty0 k)) (hnm : ∀ a, a < N → ∀ b, b < N → a ≠ b → (T a).2.1 ≠ (T b).2.1) (j : Nat) (hj : j < NN) {fs : List Value} (he : ∀ f, P f → f j = .inr (ci, fs)) (hc : cl[ci]? = some (K, T, N)) (k : Nat) (hk : k < N) (hlink : Cond.fieldLink own index ref (T k).2.1 (T k).2.2.1 ∈ Ts) (href : (T k).1 = ref) (hfin : (T k).2.2.2 = false) {ty : FieldType} {v : Value} (hd : parseFieldDescriptor (T k).2.2.1 = some ty) (hn : narrow ty v = v) (hfit : fits ty v = true) (hlen : k < fs.length) (hP1 : ∀ f, P f → P1 (ud f j (.inr (ci, fs.set k v)))) (d : decode cc pc = .ok (.putfield index, 3)) (hq : pc + 3 = q) (kk : vv p l e R s m args below meth c nL A H0 cells slots Q (wq D cl ad NN P1) q lv st) : vv p l e R s m args below meth c nL A H0 cells slots Q (wq D cl ad NN P) pc lv (v :: .ref (ad j) :: st) := by
  subst hq
  subst href
  intro H locs ls hl hB hS
  obtain ⟨f, hf, hP⟩ := hB
  exact va_put (C := K) (T := T) (N := N) C.1 C.2.1 C.2.2.2.2 hin ty0 hty hnm C.2.2.2.1 hK hP (wd_D hW f) hS j ((WL_get hj).trans (by rw [he f hf])) hc k hk (C.2.2.2.2 _ hlink) (fun x h => h) hfin hd hn hfit hlen d (fun H1 locs1 hP1' _ hS1 => kk H1 locs1 ls hl ⟨_, hP1 f hf, by rw [WL_set] at hP1'; exact hP1'⟩ hS1)
theorem vv_putF (C : CallFix p m c cc nL s args Ts own) (hK : va_K D cl tys s) (hW : wdA A ad NN) {K ref : String} {T : u_T} {N ci index : Nat} (hin : ∀ w ∈ u_ws K T N, w ∈ Ts) (ty0 : Nat → FieldType) (hty : ∀ k, k < N → parseFieldDescriptor (T k).2.2.1 = some (ty0 k)) (hnm : ∀ a, a < N → ∀ b, b < N → a ≠ b → (T a).2.1 ≠ (T b).2.1) (j : Nat) (hj : j < NN) {fs : List Value} (he : ∀ f, P f → f j = .inr (ci, fs)) (hc : cl[ci]? = some (K, T, N)) (k : Nat) (hk : k < N) (hlink : Cond.fieldLink own index ref (T k).2.1 (T k).2.2.1 ∈ Ts) (href : (T k).1 = ref) (hfin : (T k).2.2.2 = true) (hin2 : meth.name = "<init>") (hdecl : (T k).1 = own) {ty : FieldType} {v : Value} (hd : parseFieldDescriptor (T k).2.2.1 = some ty) (hn : narrow ty v = v) (hfit : fits ty v = true) (hlen : k < fs.length) (hP1 : ∀ f, P f → P1 (ud f j (.inr (ci, fs.set k v)))) (d : decode cc pc = .ok (.putfield index, 3)) (hq : pc + 3 = q) (kk : vv p l e R s m args below meth c nL A H0 cells slots Q (wq D cl ad NN P1) q lv st) : vv p l e R s m args below meth c nL A H0 cells slots Q (wq D cl ad NN P) pc lv (v :: .ref (ad j) :: st) := by
  subst hq
  subst href
  intro H locs ls hl hB hS
  obtain ⟨f, hf, hP⟩ := hB
  exact va_putF (C := K) (T := T) (N := N) C.1 C.2.1 C.2.2.2.2 hin ty0 hty hnm C.2.2.2.1 hK hP (wd_D hW f) hS j ((WL_get hj).trans (by rw [he f hf])) hc k hk (C.2.2.2.2 _ hlink) (fun x h => h) hfin hin2 hdecl hd hn hfit hlen d (fun H1 locs1 hP1' _ hS1 => kk H1 locs1 ls hl ⟨_, hP1 f hf, by rw [WL_set] at hP1'; exact hP1'⟩ hS1)
theorem vv_iald (C : CallFix p m c cc nL s args Ts own) (hK : va_K D cl tys s) (j : Nat) (hj : j < NN) (t0 : Nat) {cA : ClassId} {n : Nat} {g : Nat → Int32} (he : ∀ f, P f → f j = .inl (cA, n, .inl g)) (ht : tys[t0]? = some (cA, .int)) {i : Int32} (hi : vp_in i n) (d : decode cc pc = .ok (.iaload, 1)) (hq : pc + 1 = q) (kk : vv p l e R s m args below meth c nL A H0 cells slots Q (wq D cl ad NN P) q lv (.int (g i.toNatClampNeg) :: st)) : vv p l e R s m args below meth c nL A H0 cells slots Q (wq D cl ad NN P) pc lv (.int i :: .ref (ad j) :: st) := by
  subst hq
  intro H locs ls hl hB hS
  obtain ⟨f, hf, hP⟩ := id hB
  exact va_iald C.1 C.2.1 hK hP j t0 ((WL_get hj).trans (by rw [he f hf])) ht hi d (kk H locs ls hl hB hS)
theorem vv_zald (C : CallFix p m c cc nL s args Ts own) (hK : va_K D cl tys s) (j : Nat) (hj : j < NN) (t0 : Nat) {cA : ClassId} {n : Nat} {g : Nat → Int32} (he : ∀ f, P f → f j = .inl (cA, n, .inl g)) (ht : tys[t0]? = some (cA, .boolean)) {i : Int32} (hi : vp_in i n) (d : decode cc pc = .ok (.baload, 1)) (hq : pc + 1 = q) (kk : vv p l e R s m args below meth c nL A H0 cells slots Q (wq D cl ad NN P) q lv (.int (g i.toNatClampNeg) :: st)) : vv p l e R s m args below meth c nL A H0 cells slots Q (wq D cl ad NN P) pc lv (.int i :: .ref (ad j) :: st) := by
  subst hq
  intro H locs ls hl hB hS
  obtain ⟨f, hf, hP⟩ := id hB
  exact va_zald C.1 C.2.1 hK hP j t0 ((WL_get hj).trans (by rw [he f hf])) ht hi d (kk H locs ls hl hB hS)
theorem vv_lald (C : CallFix p m c cc nL s args Ts own) (hK : va_K D cl tys s) (j : Nat) (hj : j < NN) (t0 : Nat) {cA : ClassId} {n : Nat} {g : Nat → Int64} (he : ∀ f, P f → f j = .inl (cA, n, .inr (.inl g))) (ht : tys[t0]? = some (cA, .long)) {i : Int32} (hi : vp_in i n) (d : decode cc pc = .ok (.laload, 1)) (hq : pc + 1 = q) (kk : vv p l e R s m args below meth c nL A H0 cells slots Q (wq D cl ad NN P) q lv (.long (g i.toNatClampNeg) :: st)) : vv p l e R s m args below meth c nL A H0 cells slots Q (wq D cl ad NN P) pc lv (.int i :: .ref (ad j) :: st) := by
  subst hq
  intro H locs ls hl hB hS
  obtain ⟨f, hf, hP⟩ := id hB
  exact va_lald C.1 C.2.1 hK hP j t0 ((WL_get hj).trans (by rw [he f hf])) ht hi d (kk H locs ls hl hB hS)
theorem vv_iast (C : CallFix p m c cc nL s args Ts own) (hK : va_K D cl tys s) (hW : wdA A ad NN) (j : Nat) (hj : j < NN) (t0 : Nat) {cA : ClassId} {n : Nat} {g : Nat → Int32} (he : ∀ f, P f → f j = .inl (cA, n, .inl g)) (ht : tys[t0]? = some (cA, .int)) {i : Int32} {x : Int32} (hi : vp_in i n) (hP1 : ∀ f, P f → P1 (ud f j (.inl (cA, n, .inl (upd g i.toNatClampNeg x))))) (d : decode cc pc = .ok (.iastore, 1)) (hq : pc + 1 = q) (kk : vv p l e R s m args below meth c nL A H0 cells slots Q (wq D cl ad NN P1) q lv st) : vv p l e R s m args below meth c nL A H0 cells slots Q (wq D cl ad NN P) pc lv (.int x :: .int i :: .ref (ad j) :: st) := by
  subst hq
  intro H locs ls hl hB hS
  obtain ⟨f, hf, hP⟩ := hB
  exact va_iast C.1 C.2.1 hK hP (wd_D hW f) hS j t0 ((WL_get hj).trans (by rw [he f hf])) ht hi d (fun H1 locs1 hP1' _ hS1 => kk H1 locs1 ls hl ⟨_, hP1 f hf, by rw [WL_set] at hP1'; exact hP1'⟩ hS1)
theorem vv_zast (C : CallFix p m c cc nL s args Ts own) (hK : va_K D cl tys s) (hW : wdA A ad NN) (j : Nat) (hj : j < NN) (t0 : Nat) {cA : ClassId} {n : Nat} {g : Nat → Int32} (he : ∀ f, P f → f j = .inl (cA, n, .inl g)) (ht : tys[t0]? = some (cA, .boolean)) {i : Int32} {x : Int32} (hi : vp_in i n) (hP1 : ∀ f, P f → P1 (ud f j (.inl (cA, n, .inl (upd g i.toNatClampNeg (vp_nar .boolean x)))))) (d : decode cc pc = .ok (.bastore, 1)) (hq : pc + 1 = q) (kk : vv p l e R s m args below meth c nL A H0 cells slots Q (wq D cl ad NN P1) q lv st) : vv p l e R s m args below meth c nL A H0 cells slots Q (wq D cl ad NN P) pc lv (.int x :: .int i :: .ref (ad j) :: st) := by
  subst hq
  intro H locs ls hl hB hS
  obtain ⟨f, hf, hP⟩ := hB
  exact va_zast C.1 C.2.1 hK hP (wd_D hW f) hS j t0 ((WL_get hj).trans (by rw [he f hf])) ht hi d (fun H1 locs1 hP1' _ hS1 => kk H1 locs1 ls hl ⟨_, hP1 f hf, by rw [WL_set] at hP1'; exact hP1'⟩ hS1)
theorem vv_last (C : CallFix p m c cc nL s args Ts own) (hK : va_K D cl tys s) (hW : wdA A ad NN) (j : Nat) (hj : j < NN) (t0 : Nat) {cA : ClassId} {n : Nat} {g : Nat → Int64} (he : ∀ f, P f → f j = .inl (cA, n, .inr (.inl g))) (ht : tys[t0]? = some (cA, .long)) {i : Int32} {x : Int64} (hi : vp_in i n) (hP1 : ∀ f, P f → P1 (ud f j (.inl (cA, n, .inr (.inl (vp_updL g i.toNatClampNeg x)))))) (d : decode cc pc = .ok (.lastore, 1)) (hq : pc + 1 = q) (kk : vv p l e R s m args below meth c nL A H0 cells slots Q (wq D cl ad NN P1) q lv st) : vv p l e R s m args below meth c nL A H0 cells slots Q (wq D cl ad NN P) pc lv (.long x :: .int i :: .ref (ad j) :: st) := by
  subst hq
  intro H locs ls hl hB hS
  obtain ⟨f, hf, hP⟩ := hB
  exact va_last C.1 C.2.1 hK hP (wd_D hW f) hS j t0 ((WL_get hj).trans (by rw [he f hf])) ht hi d (fun H1 locs1 hP1' _ hS1 => kk H1 locs1 ls hl ⟨_, hP1 f hf, by rw [WL_set] at hP1'; exact hP1'⟩ hS1)
theorem vv_alen (C : CallFix p m c cc nL s args Ts own) (hK : va_K D cl tys s) (j : Nat) (hj : j < NN) (t0 : Nat) {cA : ClassId} {x : vp_A} {ty : FieldType} (he : ∀ f, P f → ∃ g, f j = .inl (cA, x.1, g)) (ht : tys[t0]? = some (cA, ty)) {v : Int32} (hv : Int32.ofNat x.1 = v) (d : decode cc pc = .ok (.arraylength, 1)) (hq : pc + 1 = q) (kk : vv p l e R s m args below meth c nL A H0 cells slots Q (wq D cl ad NN P) q lv (.int v :: st)) : vv p l e R s m args below meth c nL A H0 cells slots Q (wq D cl ad NN P) pc lv (.ref (ad j) :: st) := by
  subst hq
  intro H locs ls hl hB hS
  obtain ⟨f, hf, hP⟩ := id hB
  obtain ⟨g, hg⟩ := he f hf
  exact va_alen C.1 C.2.1 hK hP j t0 (x := (x.1, g)) ((WL_get hj).trans (by rw [hg])) ht hv d (kk H locs ls hl hB hS)
theorem vv_aald (C : CallFix p m c cc nL s args Ts own) (hK : va_K D cl tys s) (j : Nat) (hj : j < NN) (t0 : Nat) {cA : ClassId} {K : String} {n : Nat} {g : Nat → Option Nat} (he : ∀ f, P f → f j = .inl (cA, n, .inr (.inr (.inr (.inr g))))) (ht : tys[t0]? = some (cA, .object K)) {i : Int32} (hi : vp_in i n) {a : Nat} (hg : g i.toNatClampNeg = some a) (d : decode cc pc = .ok (.aaload, 1)) (hq : pc + 1 = q) (kk : vv p l e R s m args below meth c nL A H0 cells slots Q (wq D cl ad NN P) q lv (.ref a :: st)) : vv p l e R s m args below meth c nL A H0 cells slots Q (wq D cl ad NN P) pc lv (.int i :: .ref (ad j) :: st) := by
  subst hq
  intro H locs ls hl hB hS
  obtain ⟨f, hf, hP⟩ := id hB
  exact va_aldq C.1 C.2.1 hK hP j t0 ((WL_get hj).trans (by rw [he f hf])) ht hi d (by rw [hg]; exact kk H locs ls hl hB hS)
end VV2
