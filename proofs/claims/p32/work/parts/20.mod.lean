/-! one-step rows over numbers nI n -/
section VVN
variable {p : Program} {l : Launch} {e : Env} {R : Room} {s : State} {m : MethodId} {args : Array Value} {below : List Frame} {meth : Method} {c : Code} {nL : Nat} {A : Nat → Prop} {H0 : Heap} {cells slots : Nat} {Q : State → Prop} {B B1 : Heap → Prop} {pc q : Nat} {lv lv' : List (Nat × Value)} {st : List Value} {cc : ByteArray} {Ts : List Cond} {own : String} {D : va_G} {cl : List vw_C} {tys : List (ClassId × FieldType)} {ad : Nat → Nat} {NN : Nat} {P P1 : (Nat → va_E) → Prop}
theorem vv_iaddN (C : CallFix p m c cc nL s args Ts own) {a b : Nat} (d : decode cc pc = .ok (.iadd, 1)) (hq : pc + 1 = q) (k : vv p l e R s m args below meth c nL A H0 cells slots Q B q lv (.int (nI (a + b)) :: st)) : vv p l e R s m args below meth c nL A H0 cells slots Q B pc lv (.int (nI b) :: .int (nI a) :: st) := vv_iadd C d hq (by rw [nI_add]; exact k)
theorem vv_isubN (C : CallFix p m c cc nL s args Ts own) {a b : Nat} (h : b ≤ a) (d : decode cc pc = .ok (.isub, 1)) (hq : pc + 1 = q) (k : vv p l e R s m args below meth c nL A H0 cells slots Q B q lv (.int (nI (a - b)) :: st)) : vv p l e R s m args below meth c nL A H0 cells slots Q B pc lv (.int (nI b) :: .int (nI a) :: st) := vv_isub C d hq (by rw [pk_sub h]; exact k)
theorem vv_imulN (C : CallFix p m c cc nL s args Ts own) {a b : Nat} (d : decode cc pc = .ok (.imul, 1)) (hq : pc + 1 = q) (k : vv p l e R s m args below meth c nL A H0 cells slots Q B q lv (.int (nI (a * b)) :: st)) : vv p l e R s m args below meth c nL A H0 cells slots Q B pc lv (.int (nI b) :: .int (nI a) :: st) := vv_imul C d hq (by rw [pk_mul]; exact k)
theorem vv_icmpN_eq (C : CallFix p m c cc nL s args Ts own) {a b : Nat} {off : Int} {tgt : Nat} (ha : a < 2 ^ 31) (hb : b < 2 ^ 31) (d : decode cc pc = .ok (.if_icmp .eq off, 3)) (ht : (pc : Int) + off = (tgt : Int)) (hq : pc + 3 = q) (kt : a = b → vv p l e R s m args below meth c nL A H0 cells slots Q B tgt lv st) (kf : ¬ a = b → vv p l e R s m args below meth c nL A H0 cells slots Q B q lv st) : vv p l e R s m args below meth c nL A H0 cells slots Q B pc lv (.int (nI b) :: .int (nI a) :: st) := vv_icmp_eq C d ht hq (fun h => kt ((nI_eq ha hb).mp h)) (fun h => kf (fun e => h (by rw [e])))
theorem vv_icmpN_ne (C : CallFix p m c cc nL s args Ts own) {a b : Nat} {off : Int} {tgt : Nat} (ha : a < 2 ^ 31) (hb : b < 2 ^ 31) (d : decode cc pc = .ok (.if_icmp .ne off, 3)) (ht : (pc : Int) + off = (tgt : Int)) (hq : pc + 3 = q) (kt : ¬ a = b → vv p l e R s m args below meth c nL A H0 cells slots Q B tgt lv st) (kf : a = b → vv p l e R s m args below meth c nL A H0 cells slots Q B q lv st) : vv p l e R s m args below meth c nL A H0 cells slots Q B pc lv (.int (nI b) :: .int (nI a) :: st) := vv_icmp_ne C d ht hq (fun h => kt (fun e => h (by rw [e]))) (fun h => kf ((nI_eq ha hb).mp h))
theorem vv_icmpN_lt (C : CallFix p m c cc nL s args Ts own) {a b : Nat} {off : Int} {tgt : Nat} (ha : a < 2 ^ 31) (hb : b < 2 ^ 31) (d : decode cc pc = .ok (.if_icmp .lt off, 3)) (ht : (pc : Int) + off = (tgt : Int)) (hq : pc + 3 = q) (kt : a < b → vv p l e R s m args below meth c nL A H0 cells slots Q B tgt lv st) (kf : ¬ a < b → vv p l e R s m args below meth c nL A H0 cells slots Q B q lv st) : vv p l e R s m args below meth c nL A H0 cells slots Q B pc lv (.int (nI b) :: .int (nI a) :: st) := vv_icmp_lt C d ht hq (fun h => kt ((nI_ltI ha hb).mp h)) (fun h => kf (fun e => h ((nI_ltI ha hb).mpr e)))
theorem vv_icmpN_ge (C : CallFix p m c cc nL s args Ts own) {a b : Nat} {off : Int} {tgt : Nat} (ha : a < 2 ^ 31) (hb : b < 2 ^ 31) (d : decode cc pc = .ok (.if_icmp .ge off, 3)) (ht : (pc : Int) + off = (tgt : Int)) (hq : pc + 3 = q) (kt : b ≤ a → vv p l e R s m args below meth c nL A H0 cells slots Q B tgt lv st) (kf : ¬ b ≤ a → vv p l e R s m args below meth c nL A H0 cells slots Q B q lv st) : vv p l e R s m args below meth c nL A H0 cells slots Q B pc lv (.int (nI b) :: .int (nI a) :: st) := vv_icmp_ge C d ht hq (fun h => kt ((nI_leI hb ha).mp h)) (fun h => kf (fun e => h ((nI_leI hb ha).mpr e)))
theorem vv_icmpN_gt (C : CallFix p m c cc nL s args Ts own) {a b : Nat} {off : Int} {tgt : Nat} (ha : a < 2 ^ 31) (hb : b < 2 ^ 31) (d : decode cc pc = .ok (.if_icmp .gt off, 3)) (ht : (pc : Int) + off = (tgt : Int)) (hq : pc + 3 = q) (kt : b < a → vv p l e R s m args below meth c nL A H0 cells slots Q B tgt lv st) (kf : ¬ b < a → vv p l e R s m args below meth c nL A H0 cells slots Q B q lv st) : vv p l e R s m args below meth c nL A H0 cells slots Q B pc lv (.int (nI b) :: .int (nI a) :: st) := vv_icmp_gt C d ht hq (fun h => kt ((nI_ltI hb ha).mp h)) (fun h => kf (fun e => h ((nI_ltI hb ha).mpr e)))
theorem vv_icmpN_le (C : CallFix p m c cc nL s args Ts own) {a b : Nat} {off : Int} {tgt : Nat} (ha : a < 2 ^ 31) (hb : b < 2 ^ 31) (d : decode cc pc = .ok (.if_icmp .le off, 3)) (ht : (pc : Int) + off = (tgt : Int)) (hq : pc + 3 = q) (kt : a ≤ b → vv p l e R s m args below meth c nL A H0 cells slots Q B tgt lv st) (kf : ¬ a ≤ b → vv p l e R s m args below meth c nL A H0 cells slots Q B q lv st) : vv p l e R s m args below meth c nL A H0 cells slots Q B pc lv (.int (nI b) :: .int (nI a) :: st) := vv_icmp_le C d ht hq (fun h => kt ((nI_leI ha hb).mp h)) (fun h => kf (fun e => h ((nI_leI ha hb).mpr e)))
theorem vv_ialdN (C : CallFix p m c cc nL s args Ts own) (hK : va_K D cl tys s) (j : Nat) (hj : j < NN) (t0 : Nat) {cA : ClassId} {n k : Nat} {g : Nat → Int32} (he : ∀ f, P f → f j = .inl (cA, n, .inl g)) (ht : tys[t0]? = some (cA, .int)) (hk : k < n) (hn : n < 2 ^ 31) (d : decode cc pc = .ok (.iaload, 1)) (hq : pc + 1 = q) (kk : vv p l e R s m args below meth c nL A H0 cells slots Q (wq D cl ad NN P) q lv (.int (g k) :: st)) : vv p l e R s m args below meth c nL A H0 cells slots Q (wq D cl ad NN P) pc lv (.int (nI k) :: .ref (ad j) :: st) := vv_iald C hK j hj t0 he ht (vp_in_nI hk hn) d hq (by rw [nI_clamp (Nat.lt_trans hk hn)]; exact kk)
theorem vv_zaldN (C : CallFix p m c cc nL s args Ts own) (hK : va_K D cl tys s) (j : Nat) (hj : j < NN) (t0 : Nat) {cA : ClassId} {n k : Nat} {g : Nat → Int32} (he : ∀ f, P f → f j = .inl (cA, n, .inl g)) (ht : tys[t0]? = some (cA, .boolean)) (hk : k < n) (hn : n < 2 ^ 31) (d : decode cc pc = .ok (.baload, 1)) (hq : pc + 1 = q) (kk : vv p l e R s m args below meth c nL A H0 cells slots Q (wq D cl ad NN P) q lv (.int (g k) :: st)) : vv p l e R s m args below meth c nL A H0 cells slots Q (wq D cl ad NN P) pc lv (.int (nI k) :: .ref (ad j) :: st) := vv_zald C hK j hj t0 he ht (vp_in_nI hk hn) d hq (by rw [nI_clamp (Nat.lt_trans hk hn)]; exact kk)
theorem vv_iastN (C : CallFix p m c cc nL s args Ts own) (hK : va_K D cl tys s) (hW : wdA A ad NN) (j : Nat) (hj : j < NN) (t0 : Nat) {cA : ClassId} {n k : Nat} {g : Nat → Int32} (he : ∀ f, P f → f j = .inl (cA, n, .inl g)) (ht : tys[t0]? = some (cA, .int)) {x : Int32} (hk : k < n) (hn : n < 2 ^ 31) (hP1 : ∀ f, P f → P1 (ud f j (.inl (cA, n, .inl (upd g k x))))) (d : decode cc pc = .ok (.iastore, 1)) (hq : pc + 1 = q) (kk : vv p l e R s m args below meth c nL A H0 cells slots Q (wq D cl ad NN P1) q lv st) : vv p l e R s m args below meth c nL A H0 cells slots Q (wq D cl ad NN P) pc lv (.int x :: .int (nI k) :: .ref (ad j) :: st) := vv_iast C hK hW j hj t0 he ht (vp_in_nI hk hn) (by rw [nI_clamp (Nat.lt_trans hk hn)]; exact hP1) d hq kk
theorem vv_zastN (C : CallFix p m c cc nL s args Ts own) (hK : va_K D cl tys s) (hW : wdA A ad NN) (j : Nat) (hj : j < NN) (t0 : Nat) {cA : ClassId} {n k : Nat} {g : Nat → Int32} (he : ∀ f, P f → f j = .inl (cA, n, .inl g)) (ht : tys[t0]? = some (cA, .boolean)) {x : Int32} (hk : k < n) (hn : n < 2 ^ 31) (hP1 : ∀ f, P f → P1 (ud f j (.inl (cA, n, .inl (upd g k (vp_nar .boolean x)))))) (d : decode cc pc = .ok (.bastore, 1)) (hq : pc + 1 = q) (kk : vv p l e R s m args below meth c nL A H0 cells slots Q (wq D cl ad NN P1) q lv st) : vv p l e R s m args below meth c nL A H0 cells slots Q (wq D cl ad NN P) pc lv (.int x :: .int (nI k) :: .ref (ad j) :: st) := vv_zast C hK hW j hj t0 he ht (vp_in_nI hk hn) (by rw [nI_clamp (Nat.lt_trans hk hn)]; exact hP1) d hq kk
theorem vv_ifN_eq (C : CallFix p m c cc nL s args Ts own) {a : Nat} {off : Int} {tgt : Nat} (ha : a < 2 ^ 31) (d : decode cc pc = .ok (.ifCond .eq off, 3)) (ht : (pc : Int) + off = (tgt : Int)) (hq : pc + 3 = q) (kt : a = 0 → vv p l e R s m args below meth c nL A H0 cells slots Q B tgt lv st) (kf : ¬ a = 0 → vv p l e R s m args below meth c nL A H0 cells slots Q B q lv st) : vv p l e R s m args below meth c nL A H0 cells slots Q B pc lv (.int (nI a) :: st) := vv_if_eq C d ht hq (fun h => kt ((nI_eq ha (by omega)).mp h)) (fun h => kf (fun e => h (by rw [e]; rfl)))
theorem vv_ifN_ne (C : CallFix p m c cc nL s args Ts own) {a : Nat} {off : Int} {tgt : Nat} (ha : a < 2 ^ 31) (d : decode cc pc = .ok (.ifCond .ne off, 3)) (ht : (pc : Int) + off = (tgt : Int)) (hq : pc + 3 = q) (kt : ¬ a = 0 → vv p l e R s m args below meth c nL A H0 cells slots Q B tgt lv st) (kf : a = 0 → vv p l e R s m args below meth c nL A H0 cells slots Q B q lv st) : vv p l e R s m args below meth c nL A H0 cells slots Q B pc lv (.int (nI a) :: st) := vv_if_ne C d ht hq (fun h => kt (fun e => h (by rw [e]; rfl))) (fun h => kf ((nI_eq ha (by omega)).mp h))
theorem vv_ifN_lt (C : CallFix p m c cc nL s args Ts own) {a : Nat} {off : Int} {tgt : Nat} (ha : a < 2 ^ 31) (d : decode cc pc = .ok (.ifCond .lt off, 3)) (ht : (pc : Int) + off = (tgt : Int)) (hq : pc + 3 = q) (kf : vv p l e R s m args below meth c nL A H0 cells slots Q B q lv st) : vv p l e R s m args below meth c nL A H0 cells slots Q B pc lv (.int (nI a) :: st) := vv_if_lt C d ht hq (fun h => absurd h (nI_pos ha)) (fun _ => kf)
theorem nI_decN {a : Nat} (h : 1 ≤ a) : nI a + Int32.ofInt (-1) = nI (a - 1) := by
  rw [nI_dec, ← pk_sub h]; rfl
theorem nI_m1ne {a : Nat} (h : a < 2 ^ 31) : ¬ nI a = -1 := fun e => absurd (show (-1 : Int32) < 0 by decide) (e ▸ nI_pos h)
theorem vv_dup2 (C : CallFix p m c cc nL s args Ts own) {v1 v2 : Value} (d : decode cc pc = .ok (.dup2, 1)) (h1 : v1.category = 1) (h2 : v2.category = 1) (hq : pc + 1 = q) (k : vv p l e R s m args below meth c nL A H0 cells slots Q B q lv (v1 :: v2 :: v1 :: v2 :: st)) : vv p l e R s m args below meth c nL A H0 cells slots Q B pc lv (v1 :: v2 :: st) := by
  subst hq
  exact fun H locs ls hl hB hS => lv_dup2_11 C.1 C.2.1 d h1 h2 (k H locs ls hl hB hS)
end VVN
/-! the reference's state: numbers by their fields' places, rows by their cells (1 values, 2 writers, 3 anchors, 4 isInDraft, 5 isThere, 6 freezers, 7 row, 8 copyLengths, 9 copies, 10 changeCounts, 11 changes, 12 royalties, 13 rates, 14 earned, 15 reviewers, 16 states, 17 sizes, 18 pays, 19 urgencies, 20 finishedAs, 21 days, 22 rooms, 23 prints, 24 firsts, 25 lasts, 26 kept) -/
abbrev sM : Type := (Nat → Nat) × (Nat → Nat → Int32)
def sS (S : sM) (k v : Nat) : sM := (fun j => if j = k then v else S.1 j, S.2)
def sA (S : sM) (i : Nat) (g : Nat → Int32) : sM := (S.1, fun j => if j = i then g else S.2 j)
def lenML : List Nat := [0, 300, 300, 300, 300, 300, 300, 300, 6, 1800, 6, 4200, 6, 4, 4, 30, 30, 30, 30, 30, 30, 12, 12, 12, 40, 40, 6000]
def lenM (j : Nat) : Nat := lenML.getD j 0
def bMj (j : Nat) : Bool := j == 4 || j == 5 || j == 26
def fldM (ad : Nat → Nat) (S : sM) : List Value := [.int (nI (S.1 0)), .int (nI (S.1 1)), .ref (ad 1), .ref (ad 2), .ref (ad 3), .ref (ad 4), .ref (ad 5), .ref (ad 6), .int (nI (S.1 8)), .ref (ad 7), .ref (ad 8), .ref (ad 9), .ref (ad 10), .ref (ad 11), .ref (ad 12), .ref (ad 13), .ref (ad 14), .int (nI (S.1 17)), .ref (ad 15), .ref (ad 16), .ref (ad 17), .ref (ad 18), .ref (ad 19), .ref (ad 20), .int (nI (S.1 24)), .int (nI (S.1 25)), .ref (ad 21), .ref (ad 22), .ref (ad 23), .int (nI (S.1 29)), .int (nI (S.1 30)), .ref (ad 24), .ref (ad 25), .int (nI (S.1 33)), .ref (ad 26)]
def fM (cI cZ : ClassId) (ad : Nat → Nat) (S : sM) (j : Nat) : va_E :=
  if j = 0 then .inr (9, fldM ad S) else if bMj j then .inl (cZ, (lenM j, .inl (S.2 j))) else .inl (cI, (lenM j, .inl (S.2 j)))
def PM (cI cZ : ClassId) (ad : Nat → Nat) (S : sM) (f : Nat → va_E) : Prop := f = fM cI cZ ad S
section OM
variable {cI cZ : ClassId} {ad : Nat → Nat} {S : sM} {j : Nat}
theorem om0 : ∀ f, PM cI cZ ad S f → f 0 = .inr (9, fldM ad S) := fun f h => h ▸ rfl
theorem or9 : ∀ f, PM cI cZ ad S f → ∃ fs, f 0 = .inr (9, fs) := fun f h => ⟨_, om0 f h⟩
theorem omI (h0 : j ≠ 0) (hb : bMj j = false) : ∀ f, PM cI cZ ad S f → f j = .inl (cI, (lenM j, .inl (S.2 j))) := fun f h => by rw [h, fM, if_neg h0, hb]; rfl
theorem omZ (h0 : j ≠ 0) (hb : bMj j = true) : ∀ f, PM cI cZ ad S f → f j = .inl (cZ, (lenM j, .inl (S.2 j))) := fun f h => by rw [h, fM, if_neg h0, hb]; rfl
theorem om_a (h0 : j ≠ 0) {k : Nat} (h : k ≠ j) (g : Nat → Int32) : fM cI cZ ad (sA S j g) k = fM cI cZ ad S k := by
  unfold fM
  by_cases e : k = 0
  · subst e; rfl
  · simp only [e, if_false, sA, h]
theorem om_aI (h0 : j ≠ 0) (hb : bMj j = false) (g : Nat → Int32) : ∀ f, PM cI cZ ad S f → PM cI cZ ad (sA S j g) (ud f j (.inl (cI, (lenM j, .inl g)))) := fun f h => by
  refine funext fun k => ?_
  by_cases e : k = j
  · subst e; rw [ud_eq, fM, if_neg h0, hb]; simp [sA]
  · rw [ud_ne e, om_a h0 e, h]
theorem om_aZ (h0 : j ≠ 0) (hb : bMj j = true) (g : Nat → Int32) : ∀ f, PM cI cZ ad S f → PM cI cZ ad (sA S j g) (ud f j (.inl (cZ, (lenM j, .inl g)))) := fun f h => by
  refine funext fun k => ?_
  by_cases e : k = j
  · subst e; rw [ud_eq, fM, if_neg h0, hb]; simp [sA]
  · rw [ud_ne e, om_a h0 e, h]
theorem sA_sA {g g2 : Nat → Int32} : sA (sA S j g) j g2 = sA S j g2 := by
  simp only [sA]
  congr 1
  funext k
  by_cases e : k = j <;> simp [e]
theorem sS_sS {v v2 : Nat} : sS (sS S j v) j v2 = sS S j v2 := by
  simp only [sS]
  congr 1
  funext k
  by_cases e : k = j <;> simp [e]
theorem sA_1 {g : Nat → Int32} : (sA S j g).2 j = g := by simp [sA]
theorem om_s {k v : Nat} {i : Nat} (hf : (fldM ad S).set i (.int (nI v)) = fldM ad (sS S k v)) : ∀ f, PM cI cZ ad S f → PM cI cZ ad (sS S k v) (ud f 0 (.inr (9, (fldM ad S).set i (.int (nI v))))) := fun f h => by
  refine funext fun n => ?_
  by_cases e : n = 0
  · subst e; rw [ud_eq, hf]; rfl
  · rw [ud_ne e, h]; simp only [fM, e, if_false, sS]
theorem om_s0 (v : Nat) : ∀ f, PM cI cZ ad S f → PM cI cZ ad (sS S 0 v) (ud f 0 (.inr (9, (fldM ad S).set 0 (.int (nI v))))) := om_s rfl
theorem om_s1 (v : Nat) : ∀ f, PM cI cZ ad S f → PM cI cZ ad (sS S 1 v) (ud f 0 (.inr (9, (fldM ad S).set 1 (.int (nI v))))) := om_s rfl
theorem om_s8 (v : Nat) : ∀ f, PM cI cZ ad S f → PM cI cZ ad (sS S 8 v) (ud f 0 (.inr (9, (fldM ad S).set 8 (.int (nI v))))) := om_s rfl
theorem om_s17 (v : Nat) : ∀ f, PM cI cZ ad S f → PM cI cZ ad (sS S 17 v) (ud f 0 (.inr (9, (fldM ad S).set 17 (.int (nI v))))) := om_s rfl
theorem om_s24 (v : Nat) : ∀ f, PM cI cZ ad S f → PM cI cZ ad (sS S 24 v) (ud f 0 (.inr (9, (fldM ad S).set 24 (.int (nI v))))) := om_s rfl
theorem om_s25 (v : Nat) : ∀ f, PM cI cZ ad S f → PM cI cZ ad (sS S 25 v) (ud f 0 (.inr (9, (fldM ad S).set 25 (.int (nI v))))) := om_s rfl
theorem om_s29 (v : Nat) : ∀ f, PM cI cZ ad S f → PM cI cZ ad (sS S 29 v) (ud f 0 (.inr (9, (fldM ad S).set 29 (.int (nI v))))) := om_s rfl
theorem om_s30 (v : Nat) : ∀ f, PM cI cZ ad S f → PM cI cZ ad (sS S 30 v) (ud f 0 (.inr (9, (fldM ad S).set 30 (.int (nI v))))) := om_s rfl
theorem om_s33 (v : Nat) : ∀ f, PM cI cZ ad S f → PM cI cZ ad (sS S 33 v) (ud f 0 (.inr (9, (fldM ad S).set 33 (.int (nI v))))) := om_s rfl
end OM
/-! what the reference's methods do, as functions -/
def tn (x : Int32) : Nat := x.toNatClampNeg
def inB (v a b : Int32) : Bool := decide (a ≤ v) && decide (v ≤ b)
theorem inB_t {v a b : Int32} (h : inB v a b = true) : a ≤ v ∧ v ≤ b := by
  unfold inB at h
  rw [Bool.and_eq_true] at h
  exact ⟨of_decide_eq_true h.1, of_decide_eq_true h.2⟩
theorem inB_n {v : Int32} {b : Nat} (hb : b < 2 ^ 31) (h : inB v 0 (nI b) = true) : v = nI (tn v) ∧ tn v ≤ b := by
  obtain ⟨h1, h2⟩ := inB_t h
  obtain ⟨k, hk, rfl⟩ := nI_of (Int32.not_lt.mpr h1)
  rw [nI_leI hk hb] at h2
  rw [tn, nI_clamp hk]
  exact ⟨rfl, h2⟩
theorem inB_m1 {v : Int32} {b : Nat} (hb : b < 2 ^ 30) (h : inB v 0 (nI b - 1) = true) : v = nI (tn v) ∧ tn v < b := by
  obtain ⟨h1, h2⟩ := inB_t h
  obtain ⟨k, hk, rfl⟩ := nI_of (Int32.not_lt.mpr h1)
  rw [tn, nI_clamp hk]
  refine ⟨rfl, ?_⟩
  cases b with
  | zero => exact absurd (Int32.le_trans h1 h2) (by decide)
  | succ b => rw [nI_pred, nI_leI hk (by omega)] at h2; omega
theorem tn_n {n : Nat} (h : n < 2 ^ 31) : tn (nI n) = n := nI_clamp h
