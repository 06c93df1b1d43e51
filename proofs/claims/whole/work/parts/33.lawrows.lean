/-! the law's body: both worlds, and the row of one long -/
def adW (z : Nat) : Nat → Nat := fun i => if i < 90 then z + i else z + 117
def adM (z : Nat) : Nat → Nat := fun i => (z + 90) + i
theorem adW_inj (z : Nat) : injA (adW z) 91 := fun i j hi hj h => by
  unfold adW at h
  split at h <;> split at h <;> omega
theorem adM_inj (z : Nat) : injA (adM z) 27 := fun i j hi hj h => by unfold adM at h; omega
theorem adW_ge (z : Nat) {i : Nat} : z ≤ adW z i := by unfold adW; split <;> omega
theorem adM_ge (z : Nat) {i : Nat} : z ≤ adM z i := by unfold adM; omega
theorem adWM (z : Nat) {i j : Nat} (hi : i < 91) (hj : j < 27) : adW z i ≠ adM z j := by unfold adW adM; split <;> omega
def BL (D : va_G) (cI cW cZ cL : ClassId) (z : Nat) (S : sC) (T : sM) (o : Int64) : Heap → Prop := fun H => wq D vwCl (adW z) 91 (wC cI cW cL (adW z) S o) H ∧ wq D vwCl (adM z) 27 (PM cI cZ (adM z) T) H
theorem wq_kept {D : va_G} {cl : List vw_C} {ad : Nat → Nat} {n : Nat} {P : (Nat → va_E) → Prop} {H H1 : Heap} (h : wq D cl ad n P H) (hk : ∀ j, j < n → H1[ad j]? = H[ad j]?) : wq D cl ad n P H1 := by
  obtain ⟨f, hf, hP⟩ := h
  exact ⟨f, hf, hP.kept fun k q hq => by obtain ⟨h1, rfl⟩ := WL_lt hq; exact hk k h1⟩
section VVL
variable {p : Program} {l : Launch} {e : Env} {R : Room} {s : State} {m : MethodId} {args : Array Value} {below : List Frame} {meth : Method} {c : Code} {nL : Nat} {A AX : Nat → Prop} {H0 : Heap} {cells slots : Nat} {Q : State → Prop} {B B1 : Heap → Prop} {pc q : Nat} {lv lv' : List (Nat × Value)} {st st0 : List Value} {cc bytes : ByteArray} {Ts wsY ws ws' : List Cond} {own Kc : String} {D : va_G} {y : MethodName} {rm : Room} {index maxL n mc ms mc0 ms0 thr b L : Nat} {ret : Option FieldType} {r v : Int32} {As as : List Value} {hh : List (Nat × Nat × Nat × Nat)} {cI cW cZ cL : ClassId} {S S1 : sC} {T T1 : sM} {o : Int64} {z : Nat} {xs : Nat → Int32} {Lc : List Nat}
theorem vv_lawW (C : CallFix p m c cc nL s args Ts own) (hK : va_K D vwCl (tyL cI cW cZ cL) s) (hz : s.heap.size = z) (hE : xE (AZ z) s) (hN : xN s) (hM : ∀ sz, kL l y wsY rm D cI cW cZ cL (adW z) (AZ z) sz As S o Lc thr r S1 mc ms) (cw : vx_CSW R s args own index y bytes maxL ret hh wsY rm mc ms n) (hn : (Value.ref (adW z 0) :: As).length = n) (hst : st0 = (Value.ref (adW z 0) :: As).reverse ++ st) (hcat : (st.map fun v => v.category).sum ≤ 8) (hroom : cells + mc ≤ R.cells ∧ slots + ms ≤ R.slots) (d : decode cc pc = .ok (.invokestatic index, 3)) (hq : pc + 3 = q) (kk : vv p l e R s m args below meth c nL (AZ z) s.heap (cells + mc) (slots + ms) Q (BL D cI cW cZ cL z (if thr = 0 then S1 else S) T (if thr = 0 then r.toInt64 else o)) q lv (.int (nI (cd Lc thr)) :: st)) : vv p l e R s m args below meth c nL (AZ z) s.heap cells slots Q (BL D cI cW cZ cL z S T o) pc lv st0 := by
  subst hq
  subst hst
  intro H locs ls hl hB hS
  obtain ⟨hB1, hB2⟩ := hB
  have hle : z ≤ H.size := by rw [← hz]; exact hS.1
  have hAX : ∀ q, RAs (adW z) 91 H.size q → AZ z q := fun q hq => by
    rcases hq with ⟨j, hj, rfl⟩ | h
    · exact adW_ge z
    · exact Nat.le_trans hle h
  exact va_calli (vx_runSW C (hM H.size) cw ⟨kL_blind, fun U hU hW => ⟨rfl, hN.moved hW.alike, by rw [hU], hAX, hE.go hS (fun _ h => h) hU hW, by rw [hU]; exact hB1, va_K.moved hW.alike hK⟩⟩ rfl hn hl.1 rfl (lv_room hcat) d hroom) hS (fun q _ h => hAX q h) hAX (fun r1 u t H1 locs1 ht hvm hp hb1 hz1 hk hS1 => by
    subst hp
    subst ht
    refine kk _ _ ls hl ⟨?_, wq_kept hB2 fun j hj => hk _ (wq_lt hB2 hj) ?_⟩ hS1
    · have h1 := hb1.1
      by_cases h0 : thr = 0
      · rw [if_pos h0] at h1; rw [if_pos h0, if_pos h0]; exact h1
      · rw [if_neg h0] at h1; rw [if_neg h0, if_neg h0]; exact h1
    · rintro (⟨i, hi, h⟩ | h)
      · exact adWM z hi hj h.symm
      · have := wq_lt hB2 hj; omega)
theorem vv_lawM (C : CallFix p m c cc nL s args Ts own) (hK : va_K D vwCl (tyL cI cW cZ cL) s) (hM : kMi l y wsY rm D vwCl (tyL cI cW cZ cL) (adM z) 27 (.ref (adM z 0) :: As) (PM cI cZ (adM z) T) r (PM cI cZ (adM z) T1)) (cw : CallW R s args own RX9 index y bytes maxL ret wsY rm 0 0 n) (hn : As.length = n) (hst : st0 = As.reverse ++ .ref (adM z 0) :: st) (hcat : (st.map fun v => v.category).sum ≤ 8) (hroom : cells + 0 ≤ R.cells ∧ slots + 0 ≤ R.slots) (d : decode cc pc = .ok (.invokevirtual index, 3)) (hq : pc + 3 = q) (kk : vv p l e R s m args below meth c nL (AZ z) s.heap cells slots Q (BL D cI cW cZ cL z S T1 o) q lv (.int r :: st)) : vv p l e R s m args below meth c nL (AZ z) s.heap cells slots Q (BL D cI cW cZ cL z S T o) pc lv st0 := by
  subst hq
  subst hst
  intro H locs ls hl hB hS
  obtain ⟨hB1, hB2⟩ := hB
  have hrec : ∃ cellB : Cell, H[adM z 0]? = some cellB ∧ cellB.vm.isStatics = false ∧ s.vm.findClass RX9 = some cellB.cls := by
    obtain ⟨f, hf, hP⟩ := id hB2
    obtain ⟨fs, hfs⟩ := or9 f hf
    exact va_recv hK hP (show vwCl[9]? = some (RX9, TX9, 35) from rfl) ((WL_get (show 0 < 27 by omega)).trans (by rw [hfs]))
  have hA : ∀ q, RA (adM z) 27 q → AZ z q := fun q hq => by obtain ⟨j, hj, rfl⟩ := hq; exact adM_ge z
  exact va_calli (va_runV C hM cw ⟨ws0_blind, hrec, fun U hU hW => ⟨rfl, by rw [hU]; exact hB2, va_K.moved hW.alike hK⟩⟩ rfl hn hl.1 rfl (lv_room hcat) d hroom) hS (fun q _ h => hA q h) hA (fun r1 u t H1 locs1 ht hvm hp hb1 hz1 hk hS1 => by
    subst hp
    subst ht
    refine kk _ _ ls hl ⟨wq_kept hB1 fun j hj => hk _ (wq_lt hB1 hj) ?_, hb1.1⟩ hS1
    rintro ⟨i, hi, h⟩
    exact adWM z hj hi h)
theorem vv_lawC (C : CallFix p m c cc nL s args Ts own) (hK : va_K D vwCl (tyL cI cW cZ cL) s) (hM : kMi l y wsY rm D vwCl (tyL cI cW cZ cL) (adW z) 90 (.ref (adW z 0) :: As) (PC cI cW (adW z) S) r (PC cI cW (adW z) S1)) (cw : CallW R s args own RX8 index y bytes maxL ret wsY rm 0 0 n) (hn : As.length = n) (hst : st0 = As.reverse ++ .ref (adW z 0) :: st) (hcat : (st.map fun v => v.category).sum ≤ 8) (hroom : cells + 0 ≤ R.cells ∧ slots + 0 ≤ R.slots) (d : decode cc pc = .ok (.invokevirtual index, 3)) (hq : pc + 3 = q) (kk : vv p l e R s m args below meth c nL (AZ z) s.heap cells slots Q (BL D cI cW cZ cL z S1 T o) q lv (.int r :: st)) : vv p l e R s m args below meth c nL (AZ z) s.heap cells slots Q (BL D cI cW cZ cL z S T o) pc lv st0 := by
  subst hq
  subst hst
  intro H locs ls hl hB hS
  obtain ⟨⟨f, ⟨f0, g, hf0, hg, rfl⟩, hP⟩, hB2⟩ := hB
  obtain ⟨hP0, h90⟩ := wC_dn hP
  have hB0 : wq D vwCl (adW z) 90 (PC cI cW (adW z) S) H := ⟨f0, hf0, hP0⟩
  have hrec : ∃ cellB : Cell, H[adW z 0]? = some cellB ∧ cellB.vm.isStatics = false ∧ s.vm.findClass RX8 = some cellB.cls := by
    obtain ⟨fs, hfs⟩ := or8 (j := 0) (by decide +kernel) f0 hf0
    exact va_recv hK hP0 (show vwCl[8]? = some (RX8, TX8, 9) from rfl) ((WL_get (show 0 < 90 by omega)).trans (by rw [hfs]))
  have hA : ∀ q, RA (adW z) 90 q → AZ z q := fun q hq => by obtain ⟨j, hj, rfl⟩ := hq; exact adW_ge z
  exact va_calli (va_runV C hM cw ⟨ws0_blind, hrec, fun U hU hW => ⟨rfl, by rw [hU]; exact hB0, va_K.moved hW.alike hK⟩⟩ rfl hn hl.1 rfl (lv_room hcat) d hroom) hS (fun q _ h => hA q h) hA (fun r1 u t H1 locs1 ht hvm hp hb1 hz1 hk hS1 => by
    subst hp
    subst ht
    obtain ⟨f1, hf1, hP1⟩ := hb1.1
    refine kk _ _ ls hl ⟨⟨_, ⟨f1, g, hf1, hg, rfl⟩, wC_up hP1 (h90.kept (hk _ h90.lt ?_))⟩, wq_kept hB2 fun j hj => hk _ (wq_lt hB2 hj) ?_⟩ hS1
    · rintro ⟨i, hi, h⟩
      have := adW_inj z 90 i (by omega) (by omega) h
      omega
    · rintro ⟨i, hi, h⟩
      exact adWM z (show i < 91 by omega) hj h.symm)
theorem vv_lawL (C : CallFix p m c cc nL s args Ts own) (hK : va_K D vwCl (tyL cI cW cZ cL) s) (d : decode cc pc = .ok (.laload, 1)) (hq : pc + 1 = q) (kk : vv p l e R s m args below meth c nL A H0 cells slots Q (BL D cI cW cZ cL z S T o) q lv (.long o :: st)) : vv p l e R s m args below meth c nL A H0 cells slots Q (BL D cI cW cZ cL z S T o) pc lv (.int 0 :: .ref (adW z 90) :: st) := by
  subst hq
  intro H locs ls hl hB hS
  obtain ⟨f, ⟨f0, g, hf0, hg, rfl⟩, hP⟩ := hB.1
  refine va_lald C.1 C.2.1 hK hP 90 3 ((WL_get (show 90 < 91 by omega)).trans (by rw [ud_eq])) rfl (vp_in_nI (n := 0) (N := 1) (by decide) (by decide)) d ?_
  rw [show (0 : Int32).toNatClampNeg = 0 from rfl, hg]
  exact kk H locs ls hl hB hS
theorem vv_sld (C : CallFix p m c cc nL s args Ts own) (hX : va_X b L xs s s.heap) (hbl : b < s.heap.size) (hbA : ¬ A b) {j : Nat} (hj : j < L) (hL : L < 2 ^ 31) (d : decode cc pc = .ok (.iaload, 1)) (hq : pc + 1 = q) (kk : vv p l e R s m args below meth c nL A s.heap cells slots Q B q lv (.int (xs j) :: st)) : vv p l e R s m args below meth c nL A s.heap cells slots Q B pc lv (.int (nI j) :: .ref b :: st) := by
  subst hq
  intro H locs ls hl hB hS
  refine va_sld C.1 C.2.1 hX hbl hbA hS (vp_in_nI hj hL) d ?_
  rw [nI_clamp (by omega)]
  exact kk H locs ls hl hB hS
theorem vv_slen (C : CallFix p m c cc nL s args Ts own) (hX : va_X b L xs s s.heap) (hbl : b < s.heap.size) (hbA : ¬ A b) (d : decode cc pc = .ok (.arraylength, 1)) (hq : pc + 1 = q) (kk : vv p l e R s m args below meth c nL A s.heap cells slots Q B q lv (.int (nI L) :: st)) : vv p l e R s m args below meth c nL A s.heap cells slots Q B pc lv (.ref b :: st) := by
  subst hq
  intro H locs ls hl hB hS
  exact va_slen C.1 C.2.1 hX hbl hbA hS d (kk H locs ls hl hB hS)
theorem vv_lcmp (C : CallFix p m c cc nL s args Ts own) {x : Int64} (d : decode cc pc = .ok (.lcmp, 1)) (hq : pc + 1 = q) (kk : vv p l e R s m args below meth c nL A H0 cells slots Q B q lv (.int 0 :: st)) : vv p l e R s m args below meth c nL A H0 cells slots Q B pc lv (.long x :: .long x :: st) := by
  subst hq
  intro H locs ls hl hB hS
  refine W.lcmp C.1 C.2.1 d ?_
  rw [show lg_cmp x x = 0 by simp [lg_cmp]]
  exact kk H locs ls hl hB hS
theorem vv_tableIn (C : CallFix p m c cc nL s args Ts own) {dflt lo hi : Int} {offs : Array Int} {len : Nat} {x : Int32} {off : Int} {tgt : Nat} (d : decode cc pc = .ok (.tableswitch dflt lo hi offs, len)) (h1 : ¬ x.toInt < lo) (h2 : ¬ hi < x.toInt) (ho : offs[(x.toInt - lo).toNat]? = some off) (ht : (pc : Int) + off = (tgt : Int)) (kk : vv p l e R s m args below meth c nL A H0 cells slots Q B tgt lv st) : vv p l e R s m args below meth c nL A H0 cells slots Q B pc lv (.int x :: st) := fun H locs ls hl hB hS => lv_tableIn C.1 C.2.1 d h1 h2 ho ht (kk H locs ls hl hB hS)
theorem vv_tableOut (C : CallFix p m c cc nL s args Ts own) {dflt lo hi : Int} {offs : Array Int} {len : Nat} {x : Int32} {tgt : Nat} (d : decode cc pc = .ok (.tableswitch dflt lo hi offs, len)) (h : x.toInt < lo ∨ hi < x.toInt) (ht : (pc : Int) + dflt = (tgt : Int)) (kk : vv p l e R s m args below meth c nL A H0 cells slots Q B tgt lv st) : vv p l e R s m args below meth c nL A H0 cells slots Q B pc lv (.int x :: st) := fun H locs ls hl hB hS => lv_tableOut C.1 C.2.1 d h ht (kk H locs ls hl hB hS)
end VVL
def opK_type (Rel : Nat → sC → sM → Prop) : Prop := ∀ (k : Nat) (S : sC) (T : sM) (a0 a1 a2 : Int32), k < 512 → Rel k S T → (IM T) ∧ mtType T a0 a1 a2 = cd [1, 2, 3] (tType S a0 a1 a2) ∧ (if mtType T a0 a1 a2 = 0 then msType T (tn a0) (tn a1) a2 else sS T 0 (mtType T a0 a1 a2)).1 0 = mtType T a0 a1 a2 ∧ ((tType S a0 a1 a2) = 0 → nI (T.1 1) = (rType S a0 a1 a2)) ∧ Rel (k + 1) (if (tType S a0 a1 a2) = 0 then (sType S a0 a1 a2) else S) (if mtType T a0 a1 a2 = 0 then msType T (tn a0) (tn a1) a2 else sS T 0 (mtType T a0 a1 a2))
def opK_delete (Rel : Nat → sC → sM → Prop) : Prop := ∀ (k : Nat) (S : sC) (T : sM) (a0 a1 : Int32), k < 512 → Rel k S T → (IM T) ∧ mtCp T a0 a1 = cd [1] (tCopyAt S a0 a1) ∧ (if mtCp T a0 a1 = 0 then msDel T (tn a0) (tn a1) else sS T 0 1).1 0 = mtCp T a0 a1 ∧ ((tCopyAt S a0 a1) = 0 → T.2 9 (300 * tn a0 + tn a1) = (rAt (S.1 (pW a0 + 1)) a1)) ∧ Rel (k + 1) (if (tCopyAt S a0 a1) = 0 then (wTake S (pW a0) a1) else S) (if mtCp T a0 a1 = 0 then msDel T (tn a0) (tn a1) else sS T 0 1)
def opK_merge (Rel : Nat → sC → sM → Prop) : Prop := ∀ (k : Nat) (S : sC) (T : sM) (a0 : Int32), k < 512 → Rel k S T → (IM T ∧ (inB a0 0 5 = true → mOk T (tn a0))) ∧ mtW a0 = cd [1] (tIx a0 6) ∧ (if mtW a0 = 0 then msMrg T (tn a0) else sS T 0 (mtW a0)).1 0 = mtW a0 ∧ ((tIx a0 6) = 0 → nI (mMrg T (tn a0) (tn (T.2 10 (tn a0)))).2 = (nI (mrg S (pW a0)).1)) ∧ Rel (k + 1) (if (tIx a0 6) = 0 then (sMerge S a0) else S) (if mtW a0 = 0 then msMrg T (tn a0) else sS T 0 (mtW a0))
def opK_copy (Rel : Nat → sC → sM → Prop) : Prop := ∀ (k : Nat) (S : sC) (T : sM) (a0 : Int32), k < 512 → Rel k S T → (True) ∧ mtW a0 = cd [1] (tIx a0 6) ∧ (if mtW a0 = 0 then sS T 0 0 else sS T 0 (mtW a0)).1 0 = mtW a0 ∧ ((tIx a0 6) = 0 → T.2 8 (tn a0) = (nI (S.1 (pW a0 + 1)).length)) ∧ Rel (k + 1) (if (tIx a0 6) = 0 then S else S) (if mtW a0 = 0 then sS T 0 0 else sS T 0 (mtW a0))
def opK_copyAt (Rel : Nat → sC → sM → Prop) : Prop := ∀ (k : Nat) (S : sC) (T : sM) (a0 a1 : Int32), k < 512 → Rel k S T → (IM T) ∧ mtCp T a0 a1 = cd [1] (tCopyAt S a0 a1) ∧ (if mtCp T a0 a1 = 0 then sS T 0 0 else sS T 0 1).1 0 = mtCp T a0 a1 ∧ ((tCopyAt S a0 a1) = 0 → T.2 9 (300 * tn a0 + tn a1) = (rAt (S.1 (pW a0 + 1)) a1)) ∧ Rel (k + 1) (if (tCopyAt S a0 a1) = 0 then S else S) (if mtCp T a0 a1 = 0 then sS T 0 0 else sS T 0 1)
def opK_changes (Rel : Nat → sC → sM → Prop) : Prop := ∀ (k : Nat) (S : sC) (T : sM) (a0 : Int32), k < 512 → Rel k S T → (True) ∧ mtW a0 = cd [1] (tIx a0 6) ∧ (if mtW a0 = 0 then sS T 0 0 else sS T 0 (mtW a0)).1 0 = mtW a0 ∧ ((tIx a0 6) = 0 → T.2 10 (tn a0) = (nI (S.1 (pW a0 + 4)).length)) ∧ Rel (k + 1) (if (tIx a0 6) = 0 then S else S) (if mtW a0 = 0 then sS T 0 0 else sS T 0 (mtW a0))
def opK_wordAt (Rel : Nat → sC → sM → Prop) : Prop := ∀ (k : Nat) (S : sC) (T : sM) (a0 : Int32), k < 512 → Rel k S T → (IM T) ∧ mtTx T a0 = cd [1] (tText S a0) ∧ (if mtTx T a0 = 0 then sS T 0 0 else sS T 0 (mtTx T a0)).1 0 = mtTx T a0 ∧ ((tText S a0) = 0 → mTxt T a0 = (rAt (S.1 17) a0)) ∧ Rel (k + 1) (if (tText S a0) = 0 then S else S) (if mtTx T a0 = 0 then sS T 0 0 else sS T 0 (mtTx T a0))
def opK_word (Rel : Nat → sC → sM → Prop) : Prop := ∀ (k : Nat) (S : sC) (T : sM) (a0 : Int32), k < 512 → Rel k S T → (IM T) ∧ mtWd T a0 = cd [1] (tWord S a0) ∧ (if mtWd T a0 = 0 then sS T 0 0 else sS T 0 (mtWd T a0)).1 0 = mtWd T a0 ∧ ((tWord S a0) = 0 → nI 1000 * T.2 2 (tn a0) + T.2 1 (tn a0) = (1000 * rAt (S.1 5) a0 + rAt (S.1 3) a0)) ∧ Rel (k + 1) (if (tWord S a0) = 0 then S else S) (if mtWd T a0 = 0 then sS T 0 0 else sS T 0 (mtWd T a0))
def opK_placeOf (Rel : Nat → sC → sM → Prop) : Prop := ∀ (k : Nat) (S : sC) (T : sM) (a0 : Int32), k < 512 → Rel k S T → (IM T) ∧ mtWd T a0 = cd [1] (tWord S a0) ∧ (if mtWd T a0 = 0 then sS T 0 0 else sS T 0 (mtWd T a0)).1 0 = mtWd T a0 ∧ ((tWord S a0) = 0 → (if T.2 5 (tn a0) = 0 then -1 else nI (mCnt T (mPos T (nI (tn a0)) - 1))) = (rIdx (S.1 17) a0)) ∧ Rel (k + 1) (if (tWord S a0) = 0 then S else S) (if mtWd T a0 = 0 then sS T 0 0 else sS T 0 (mtWd T a0))
def opK_share (Rel : Nat → sC → sM → Prop) : Prop := ∀ (k : Nat) (S : sC) (T : sM) (a0 : Int32), k < 512 → Rel k S T → (IM T) ∧ mtW a0 = cd [1] (tIx a0 6) ∧ (if mtW a0 = 0 then sS T 0 0 else sS T 0 (mtW a0)).1 0 = mtW a0 ∧ ((tIx a0 6) = 0 → nI (mShr T a0 (T.1 1)) = (nI (cntBy S a0))) ∧ Rel (k + 1) (if (tIx a0 6) = 0 then S else S) (if mtW a0 = 0 then sS T 0 0 else sS T 0 (mtW a0))
def opK_shareAnew (Rel : Nat → sC → sM → Prop) : Prop := ∀ (k : Nat) (S : sC) (T : sM) (a0 : Int32), k < 512 → Rel k S T → (IM T) ∧ mtW a0 = cd [1] (tIx a0 6) ∧ (if mtW a0 = 0 then sS T 0 0 else sS T 0 (mtW a0)).1 0 = mtW a0 ∧ ((tIx a0 6) = 0 → nI (mShr T a0 (T.1 1)) = (anewBy S a0)) ∧ Rel (k + 1) (if (tIx a0 6) = 0 then S else S) (if mtW a0 = 0 then sS T 0 0 else sS T 0 (mtW a0))
def opK_setRate (Rel : Nat → sC → sM → Prop) : Prop := ∀ (k : Nat) (S : sC) (T : sM) (a0 a1 : Int32), k < 512 → Rel k S T → (True) ∧ mtRt a0 a1 = cd [1, 2] (tRate a0 a1) ∧ (if mtRt a0 a1 = 0 then sA (sS T 0 0) 13 (upd (T.2 13) (tn a0) a1) else sS T 0 (mtRt a0 a1)).1 0 = mtRt a0 a1 ∧ ((tRate a0 a1) = 0 → T.2 13 (tn a0) = (rAt (S.1 74) a0)) ∧ Rel (k + 1) (if (tRate a0 a1) = 0 then (sSet S 74 (rSet (S.1 74) a0 a1)) else S) (if mtRt a0 a1 = 0 then sA (sS T 0 0) 13 (upd (T.2 13) (tn a0) a1) else sS T 0 (mtRt a0 a1))
def opK_order (Rel : Nat → sC → sM → Prop) : Prop := ∀ (k : Nat) (S : sC) (T : sM) (a0 a1 a2 : Int32), k < 512 → Rel k S T → (IM T) ∧ mtOrd T a0 a1 a2 = cd [1, 2, 3] (tOrder S a0 a1 a2) ∧ (if mtOrd T a0 a1 a2 = 0 then msOrd T (tn a0) (tn a1) (tn a2) else sS T 0 (mtOrd T a0 a1 a2)).1 0 = mtOrd T a0 a1 a2 ∧ ((tOrder S a0 a1 a2) = 0 → nI (T.1 17) = (rOrder S a0 a1 a2)) ∧ Rel (k + 1) (if (tOrder S a0 a1 a2) = 0 then (sOrder S a0 a1 a2) else S) (if mtOrd T a0 a1 a2 = 0 then msOrd T (tn a0) (tn a1) (tn a2) else sS T 0 (mtOrd T a0 a1 a2))
def opK_finish (Rel : Nat → sC → sM → Prop) : Prop := ∀ (k : Nat) (S : sC) (T : sM) (a0 a1 : Int32), k < 512 → Rel k S T → (IM T) ∧ mtFin T a0 a1 = cd [1, 2, 3] (tFinish S a0 a1) ∧ (if mtFin T a0 a1 = 0 then msFin T (tn a0) a1 else sS T 0 (mtFin T a0 a1)).1 0 = mtFin T a0 a1 ∧ ((tFinish S a0 a1) = 0 → T.2 14 (tn (T.2 15 (tn a0))) + T.2 18 (tn a0) = (rAt ((rvDone S a0 a1).1 76) (rAt (S.1 62) a0))) ∧ Rel (k + 1) (if (tFinish S a0 a1) = 0 then (rvDone S a0 a1) else S) (if mtFin T a0 a1 = 0 then msFin T (tn a0) a1 else sS T 0 (mtFin T a0 a1))
def opK_cancel (Rel : Nat → sC → sM → Prop) : Prop := ∀ (k : Nat) (S : sC) (T : sM) (a0 : Int32), k < 512 → Rel k S T → (IM T) ∧ mtCan T a0 = cd [1, 3] (tCancel S a0) ∧ (if mtCan T a0 = 0 then msCan T (tn a0) else sS T 0 (mtCan T a0)).1 0 = mtCan T a0 ∧ ((tCancel S a0) = 0 → T.2 17 (tn a0) = (nI (unfreeze (sSet S 68 (rSet (S.1 68) a0 2)) a0).1)) ∧ Rel (k + 1) (if (tCancel S a0) = 0 then ((unfreeze (sSet S 68 (rSet (S.1 68) a0 2)) a0).2) else S) (if mtCan T a0 = 0 then msCan T (tn a0) else sS T 0 (mtCan T a0))
def opK_stateOf (Rel : Nat → sC → sM → Prop) : Prop := ∀ (k : Nat) (S : sC) (T : sM) (a0 : Int32), k < 512 → Rel k S T → (IM T) ∧ mtRv T a0 = cd [1] (tIx a0 (nI (S.1 62).length)) ∧ (if mtRv T a0 = 0 then sS T 0 0 else sS T 0 (mtRv T a0)).1 0 = mtRv T a0 ∧ ((tIx a0 (nI (S.1 62).length)) = 0 → T.2 16 (tn a0) = (rAt (S.1 68) a0)) ∧ Rel (k + 1) (if (tIx a0 (nI (S.1 62).length)) = 0 then S else S) (if mtRv T a0 = 0 then sS T 0 0 else sS T 0 (mtRv T a0))
def opK_frozenBy (Rel : Nat → sC → sM → Prop) : Prop := ∀ (k : Nat) (S : sC) (T : sM) (a0 : Int32), k < 512 → Rel k S T → (IM T) ∧ mtWd T a0 = cd [1] (tWord S a0) ∧ (if mtWd T a0 = 0 then sS T 0 0 else sS T 0 (mtWd T a0)).1 0 = mtWd T a0 ∧ ((tWord S a0) = 0 → T.2 6 (tn a0) = (rAt (S.1 11) a0)) ∧ Rel (k + 1) (if (tWord S a0) = 0 then S else S) (if mtWd T a0 = 0 then sS T 0 0 else sS T 0 (mtWd T a0))
def opK_earned (Rel : Nat → sC → sM → Prop) : Prop := ∀ (k : Nat) (S : sC) (T : sM) (a0 : Int32), k < 512 → Rel k S T → (IM T) ∧ mtRw a0 = cd [1] (tIx a0 4) ∧ (if mtRw a0 = 0 then sS T 0 0 else sS T 0 (mtRw a0)).1 0 = mtRw a0 ∧ ((tIx a0 4) = 0 → T.2 14 (tn a0) = (rAt (S.1 76) a0)) ∧ Rel (k + 1) (if (tIx a0 4) = 0 then S else S) (if mtRw a0 = 0 then sS T 0 0 else sS T 0 (mtRw a0))
def opK_addIssue (Rel : Nat → sC → sM → Prop) : Prop := ∀ (k : Nat) (S : sC) (T : sM) (a0 a1 : Int32), k < 512 → Rel k S T → (IM T) ∧ mtIss T a0 a1 = cd [2, 3] (tIssue S a0 a1) ∧ (if mtIss T a0 a1 = 0 then msIss T a0 a1 else sS T 0 (mtIss T a0 a1)).1 0 = mtIss T a0 a1 ∧ ((tIssue S a0 a1) = 0 → nI (T.1 25) = (nI ((isAdd S a0 a1).1 79).length - 1)) ∧ Rel (k + 1) (if (tIssue S a0 a1) = 0 then (isAdd S a0 a1) else S) (if mtIss T a0 a1 = 0 then msIss T a0 a1 else sS T 0 (mtIss T a0 a1))
def opK_waiting (Rel : Nat → sC → sM → Prop) : Prop := ∀ (k : Nat) (S : sC) (T : sM) (a0 : Int32), k < 512 → Rel k S T → (IM T) ∧ mtPo a0 = cd [2] (tB2 (!decide (a0 < 0))) ∧ (if mtPo a0 = 0 then sS T 0 0 else sS T 0 (mtPo a0)).1 0 = mtPo a0 ∧ ((tB2 (!decide (a0 < 0))) = 0 → mWt T a0 = (rAt (S.1 72) a0)) ∧ Rel (k + 1) (if (tB2 (!decide (a0 < 0))) = 0 then S else S) (if mtPo a0 = 0 then sS T 0 0 else sS T 0 (mtPo a0))
def opK_pass (Rel : Nat → sC → sM → Prop) : Prop := ∀ (k : Nat) (S : sC) (T : sM) (a0 : Int32), k < 512 → Rel k S T → (IM T) ∧ mtPs T a0 = cd [2, 3] (tPass S a0) ∧ (if mtPs T a0 = 0 then (mPas T (tn a0)).1 else sS T 0 (mtPs T a0)).1 0 = mtPs T a0 ∧ ((tPass S a0) = 0 → (mPas T (tn a0)).2 = ((paD S a0).1)) ∧ Rel (k + 1) (if (tPass S a0) = 0 then ((paD S a0).2) else S) (if mtPs T a0 = 0 then (mPas T (tn a0)).1 else sS T 0 (mtPs T a0))
def opK_printed (Rel : Nat → sC → sM → Prop) : Prop := ∀ (k : Nat) (S : sC) (T : sM) (a0 : Int32), k < 512 → Rel k S T → (IM T) ∧ mtPd T a0 = cd [1] (tIx a0 (nI (S.1 79).length)) ∧ (if mtPd T a0 = 0 then sS T 0 0 else sS T 0 (mtPd T a0)).1 0 = mtPd T a0 ∧ ((tIx a0 (nI (S.1 79).length)) = 0 → T.2 23 (tn a0) = (rAt (S.1 83) a0)) ∧ Rel (k + 1) (if (tIx a0 (nI (S.1 79).length)) = 0 then S else S) (if mtPd T a0 = 0 then sS T 0 0 else sS T 0 (mtPd T a0))
def opK_royalties (Rel : Nat → sC → sM → Prop) : Prop := ∀ (k : Nat) (S : sC) (T : sM) (a0 : Int32), k < 512 → Rel k S T → (True) ∧ mtW a0 = cd [1] (tIx a0 6) ∧ (if mtW a0 = 0 then sS T 0 0 else sS T 0 (mtW a0)).1 0 = mtW a0 ∧ ((tIx a0 6) = 0 → T.2 12 (tn a0) = (rAt (S.1 59) a0)) ∧ Rel (k + 1) (if (tIx a0 6) = 0 then S else S) (if mtW a0 = 0 then sS T 0 0 else sS T 0 (mtW a0))
def opK_comment (Rel : Nat → sC → sM → Prop) : Prop := ∀ (k : Nat) (S : sC) (T : sM) (a0 a1 : Int32), k < 512 → Rel k S T → (IM T) ∧ mtCom T a0 a1 = cd [1, 2, 3] (tComment S a0 a1) ∧ (if mtCom T a0 a1 = 0 then msCom T a0 a1 else sS T 0 (mtCom T a0 a1)).1 0 = mtCom T a0 a1 ∧ ((tComment S a0 a1) = 0 → nI (T.1 30) = (nI ((sComment S a0 a1).1 86).length - 1)) ∧ Rel (k + 1) (if (tComment S a0 a1) = 0 then (sComment S a0 a1) else S) (if mtCom T a0 a1 = 0 then msCom T a0 a1 else sS T 0 (mtCom T a0 a1))
def opK_span (Rel : Nat → sC → sM → Prop) : Prop := ∀ (k : Nat) (S : sC) (T : sM) (a0 : Int32), k < 512 → Rel k S T → (IM T) ∧ mtSpn T a0 = cd [1] (tIx a0 (nI (S.1 86).length)) ∧ (if mtSpn T a0 = 0 then sS T 0 0 else sS T 0 (mtSpn T a0)).1 0 = mtSpn T a0 ∧ ((tIx a0 (nI (S.1 86).length)) = 0 → mSpn T (tn a0) = (rSpan S a0)) ∧ Rel (k + 1) (if (tIx a0 (nI (S.1 86).length)) = 0 then S else S) (if mtSpn T a0 = 0 then sS T 0 0 else sS T 0 (mtSpn T a0))
def opK_keep (Rel : Nat → sC → sM → Prop) : Prop := ∀ (k : Nat) (S : sC) (T : sM), k < 512 → Rel k S T → (IM T) ∧ mtKp T = cd [3] (tKeep S) ∧ (if mtKp T = 0 then msKp T else sS T 0 (mtKp T)).1 0 = mtKp T ∧ ((tKeep S) = 0 → nI (T.1 33) = S.2.1) ∧ Rel (k + 1) (if (tKeep S) = 0 then (sKeep S) else S) (if mtKp T = 0 then msKp T else sS T 0 (mtKp T))
def opK_compare (Rel : Nat → sC → sM → Prop) : Prop := ∀ (k : Nat) (S : sC) (T : sM) (a0 a1 : Int32), k < 512 → Rel k S T → (IM T) ∧ mtCmp T a0 a1 = cd [1] (tCompare S a0 a1) ∧ (if mtCmp T a0 a1 = 0 then sS T 0 0 else sS T 0 (mtCmp T a0 a1)).1 0 = mtCmp T a0 a1 ∧ ((tCompare S a0 a1) = 0 → nI (1000 * mOnl T (tn a1) (tn a0) 300 + mOnl T (tn a0) (tn a1) 300) = (1000 * nI (keptOnly S a1 a0) + nI (keptOnly S a0 a1))) ∧ Rel (k + 1) (if (tCompare S a0 a1) = 0 then S else S) (if mtCmp T a0 a1 = 0 then sS T 0 0 else sS T 0 (mtCmp T a0 a1))
def opK_length (Rel : Nat → sC → sM → Prop) : Prop := ∀ (k : Nat) (S : sC) (T : sM), k < 512 → Rel k S T → IM T ∧ nI (mCnt T (T.1 8)) = nI (S.1 17).length ∧ Rel (k + 1) S (sS T 0 0)
def opK_today (Rel : Nat → sC → sM → Prop) : Prop := ∀ (k : Nat) (S : sC) (T : sM), k < 512 → Rel k S T → nI (T.1 29) = S.2.2 ∧ Rel (k + 1) S (sS T 0 0)
def opK_none (Rel : Nat → sC → sM → Prop) : Prop := ∀ (k : Nat) (S : sC) (T : sM), k < 512 → Rel k S T → Rel (k + 1) S T
def RelOK (Rel : Nat → sC → sM → Prop) : Prop := opK_none Rel ∧ opK_type Rel ∧ opK_delete Rel ∧ opK_merge Rel ∧ opK_copy Rel ∧ opK_copyAt Rel ∧ opK_changes Rel ∧ opK_length Rel ∧ opK_wordAt Rel ∧ opK_word Rel ∧ opK_placeOf Rel ∧ opK_share Rel ∧ opK_shareAnew Rel ∧ opK_setRate Rel ∧ opK_order Rel ∧ opK_finish Rel ∧ opK_cancel Rel ∧ opK_stateOf Rel ∧ opK_frozenBy Rel ∧ opK_earned Rel ∧ opK_addIssue Rel ∧ opK_waiting Rel ∧ opK_pass Rel ∧ opK_today Rel ∧ opK_printed Rel ∧ opK_royalties Rel ∧ opK_comment Rel ∧ opK_span Rel ∧ opK_keep Rel ∧ opK_compare Rel
