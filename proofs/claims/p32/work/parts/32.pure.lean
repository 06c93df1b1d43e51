/-! the pure rows of the reference's picture, of the relation (whole's parts 22..33) -/
theorem txF_lt {S : sM} : ∀ fu k lf, ¬ txF S fu k lf = -1 → k + lf < S.1 8 := by
  intro fu
  induction fu with
  | zero => intro k lf h; exact absurd rfl h
  | succ fu ih =>
    intro k lf
    rw [txF_s]
    split
    · rename_i h1
      split
      · intro h; have := ih (k + 1) lf h; omega
      · split
        · rename_i h2; intro _; omega
        · intro h; have := ih (k + 1) (lf - 1) h; omega
    · intro h; exact absurd rfl h
theorem mTxt_lt {S : sM} {x : Int32} (h : ¬ mTxt S x = -1) : x = nI (tn x) ∧ tn x < S.1 8 := by
  rw [mTxt] at h
  by_cases h1 : x < 0
  · rw [if_pos h1] at h; exact absurd rfl h
  · rw [if_neg h1] at h
    have h2 := txF_lt _ _ _ h
    obtain ⟨n, hn, rfl⟩ := nI_of h1
    rw [tn_n hn] at h2 ⊢
    exact ⟨rfl, by omega⟩
def mtTx (S : sM) (x : Int32) : Nat := if mTxt S x = -1 then 1 else 0
def mtWd (S : sM) (n : Int32) : Nat := if inB n 0 (nI (S.1 1) - 1) = true then 0 else 1
def mtRv (S : sM) (n : Int32) : Nat := if inB n 0 (nI (S.1 17) - 1) = true then 0 else 1
def mtRw (r : Int32) : Nat := if inB r 0 3 = true then 0 else 1
def mtRt (r v : Int32) : Nat := if inB r 0 3 = true then (if inB v 0 100 = true then 0 else 2) else 1
def mFr (S : sM) (a : Nat) : Nat → Bool
  | 0 => true
  | n + 1 => mFr S a n && decide (S.2 6 (tn (mTxt S (nI (a + n)))) = -1)
def mtOrd (S : sM) (r a b : Int32) : Nat := if inB r 0 3 = true ∧ ¬ mTxt S a = -1 ∧ ¬ mTxt S b = -1 then (if tn b < tn a then 2 else if 30 ≤ S.1 17 then 3 else if mFr S (tn a) (tn b + 1 - tn a) = true then 0 else 3) else 1
def mFz (S : sM) (a : Nat) : Nat → Nat → Int32
  | 0 => S.2 6
  | n + 1 => upd (mFz S a n) (tn (mTxt S (nI (a + n)))) (nI (S.1 17))
def msOrd (S : sM) (r a b : Nat) : sM := sS (sA (sA (sA (sA (sA (sS S 0 0) 6 (mFz S a (b + 1 - a))) 15 (upd (S.2 15) (S.1 17) (nI r))) 16 (upd (S.2 16) (S.1 17) (nI 0))) 17 (upd (S.2 17) (S.1 17) (nI (b - a + 1)))) 18 (upd (S.2 18) (S.1 17) (nI (b - a + 1) * S.2 13 r))) 17 (S.1 17 + 1)
def mtFin (S : sM) (r u : Int32) : Nat := if inB r 0 (nI (S.1 17) - 1) = true then (if inB u 0 9 = true then (if S.2 16 (tn r) = 0 then 0 else 3) else 2) else 1
def msFin (S : sM) (r : Nat) (u : Int32) : sM := sA (sS (sA (sA (sA (sS S 0 0) 16 (upd (S.2 16) r (nI 1))) 19 (upd (S.2 19) r u)) 20 (upd (S.2 20) r (nI (S.1 24)))) 24 (S.1 24 + 1)) 14 (upd (S.2 14) (tn (S.2 15 r)) (S.2 14 (tn (S.2 15 r)) + S.2 18 r))
def mtCan (S : sM) (r : Int32) : Nat := if inB r 0 (nI (S.1 17) - 1) = true then (if S.2 16 (tn r) = 0 then 0 else 2) else 1
def msCan (S : sM) (r : Nat) : sM := mThaw (sA (sS S 0 0) 16 (upd (S.2 16) r (nI 2))) (nI r)
def mTk (S : sM) (d : Int32) : Nat → Bool
  | 0 => false
  | k + 1 => mTk S d k || decide (S.2 21 k = d)
def mtIss (S : sM) (d z : Int32) : Nat := if inB d (nI (S.1 29 + 1)) 1000 = true ∧ inB z 1 200 = true then (if S.1 25 = 12 ∨ mTk S d (S.1 25) = true then 2 else 0) else 1
def msIss (S : sM) (d z : Int32) : sM := sS (sA (sA (sA (sS S 0 0) 21 (upd (S.2 21) (S.1 25) d)) 22 (upd (S.2 22) (S.1 25) z)) 23 (upd (S.2 23) (S.1 25) (-1))) 25 (S.1 25 + 1)
def mRoy (S : sM) (r : Int32) : Nat → Nat → Int32
  | 0 => S.2 12
  | k + 1 => upd (mRoy S r k) (tn (S.2 2 k)) (mRoy S r k (tn (S.2 2 k)) + if S.2 6 k = r then nI 5 else nI 0)
def mPrN (T : sM) (i r : Nat) : sM := mThaw (sA (sA (sA T 23 (upd (T.2 23) i (T.2 23 i + T.2 17 r))) 16 (upd (T.2 16) r (nI 3))) 12 (mRoy T (nI r) (T.1 1))) (nI r)
def mPrF (i : Nat) : Nat → sM → sM
  | 0, T => T
  | fu + 1, T => if mWt T 0 = -1 then T else if T.2 23 i + T.2 17 (tn (mWt T 0)) ≤ T.2 22 i then mPrF i fu (mPrN T i (tn (mWt T 0))) else T
def mPr (S : sM) (i : Nat) : sM := mPrF i 31 (sA S 23 (upd (S.2 23) i (nI 0)))
theorem mPrF_fr (i : Nat) : ∀ fu T, (mPrF i fu T).1 = T.1 ∧ ∀ j, j ≠ 23 → j ≠ 16 → j ≠ 12 → j ≠ 6 → (mPrF i fu T).2 j = T.2 j := by
  intro fu
  induction fu with
  | zero => intro T; exact ⟨rfl, fun _ _ _ _ _ => rfl⟩
  | succ fu ih =>
    intro T
    rw [mPrF]
    split
    · exact ⟨rfl, fun _ _ _ _ _ => rfl⟩
    · split
      · obtain ⟨h1, h2⟩ := ih (mPrN T i (tn (mWt T 0)))
        refine ⟨h1, fun j a b c d => (h2 j a b c d).trans ?_⟩
        simp [mPrN, mThaw, sA, a, b, c, d]
      · exact ⟨rfl, fun _ _ _ _ _ => rfl⟩
theorem mPr_fr (S : sM) (i : Nat) : (mPr S i).1 = S.1 ∧ ∀ j, j ≠ 23 → j ≠ 16 → j ≠ 12 → j ≠ 6 → (mPr S i).2 j = S.2 j := by
  obtain ⟨h1, h2⟩ := mPrF_fr i 31 (sA S 23 (upd (S.2 23) i (nI 0)))
  refine ⟨h1, fun j a b c d => (h2 j a b c d).trans ?_⟩
  simp [sA, a]
def mtPo (x : Int32) : Nat := if x < 0 then 1 else 0
def mtPs (S : sM) (d : Int32) : Nat := if inB d 1 100 = true then (if S.1 29 + tn d ≤ 1000 then 0 else 2) else 1
def mIs (T : sM) (sm : Int32) : Nat → sM × Int32
  | 0 => (T, sm)
  | n + 1 => if (mIs T sm n).1.2 21 n = nI ((mIs T sm n).1.1 29) then (mPr (mIs T sm n).1 n, (mIs T sm n).2 + (mPr (mIs T sm n).1 n).2 23 n) else mIs T sm n
def mPas (S : sM) : Nat → sM × Int32
  | 0 => (sS S 0 0, nI 0)
  | k + 1 => mIs (sS (mPas S k).1 29 ((mPas S k).1.1 29 + 1)) (mPas S k).2 ((mPas S k).1.1 25)
def mtPd (S : sM) (i : Int32) : Nat := if inB i 0 (nI (S.1 25) - nI 1) = true then 0 else 1
def mtCom (S : sM) (a b : Int32) : Nat := if ¬ mTxt S a = -1 ∧ ¬ mTxt S b = -1 then (if a ≤ b then (if S.1 30 = 40 then 3 else 0) else 2) else 1
def msCom (S : sM) (a b : Int32) : sM := sS (sA (sA (sS S 0 0) 24 (upd (S.2 24) (S.1 30) (mTxt S a))) 25 (upd (S.2 25) (S.1 30) (mTxt S b))) 30 (S.1 30 + 1)
def mtSpn (S : sM) (c : Int32) : Nat := if inB c 0 (nI (S.1 30) - nI 1) = true then 0 else 1
def mSpM (S : sM) (c : Nat) : Int32 := nI (mCnt S (mPos S (S.2 25 c))) - nI (mCnt S (mPos S (S.2 24 c) - 1))
def mSpn (S : sM) (c : Nat) : Int32 := if mSpM S c = 0 then -1 else nI (1000 * mCnt S (mPos S (S.2 24 c) - 1)) + mSpM S c
def mtKp (S : sM) : Nat := if S.1 33 = 20 then 1 else 0
def mKpF (S : sM) : Nat → Nat → Int32
  | 0 => S.2 26
  | k + 1 => upd (mKpF S k) (300 * S.1 33 + k) (vp_nar .boolean (S.2 5 k))
def msKp (S : sM) : sM := sS (sA (sS S 0 0) 26 (mKpF S 300)) 33 (S.1 33 + 1)
def mtCmp (S : sM) (a b : Int32) : Nat := if inB a 0 (nI (S.1 33) - nI 1) = true ∧ inB b 0 (nI (S.1 33) - nI 1) = true then 0 else 1
def mOnl (S : sM) (a b : Nat) : Nat → Nat
  | 0 => 0
  | k + 1 => mOnl S a b k + if ¬ S.2 26 (300 * a + k) = 0 ∧ S.2 26 (300 * b + k) = 0 then 1 else 0
theorem inB_1 {v : Int32} (h : inB v 1 100 = true) : v = nI (tn v) ∧ tn v ≤ 100 := by
  obtain ⟨h1, h2⟩ := inB_t h
  exact inB_n (b := 100) (by decide) (by rw [inB, decide_eq_true (Int32.le_trans (by decide) h1), decide_eq_true (show v ≤ nI 100 from h2)]; rfl)
/-- the number that the law's call answers -/
def cd (L : List Nat) (t : Nat) : Nat := if t = 0 then 0 else L.idxOf t + 1
def opK_type (Rel : Nat → sC → sM → Prop) : Prop := ∀ (k : Nat) (S : sC) (T : sM) (a0 a1 a2 : Int32), k < 512 → Rel k S T → (IM T) ∧ mtType T a0 a1 a2 = cd [1, 2, 3] (tType S a0 a1 a2) ∧ (if mtType T a0 a1 a2 = 0 then msType T (tn a0) (tn a1) a2 else sS T 0 (mtType T a0 a1 a2)).1 0 = mtType T a0 a1 a2 ∧ ((tType S a0 a1 a2) = 0 → nI (T.1 1) = (rType S a0 a1 a2)) ∧ Rel (k + 1) (if (tType S a0 a1 a2) = 0 then (sType S a0 a1 a2) else S) (if mtType T a0 a1 a2 = 0 then msType T (tn a0) (tn a1) a2 else sS T 0 (mtType T a0 a1 a2))
def opK_delete (Rel : Nat → sC → sM → Prop) : Prop := ∀ (k : Nat) (S : sC) (T : sM) (a0 a1 : Int32), k < 512 → Rel k S T → (IM T) ∧ mtCp T a0 a1 = cd [1] (tCopyAt S a0 a1) ∧ (if mtCp T a0 a1 = 0 then msDel T (tn a0) (tn a1) else sS T 0 1).1 0 = mtCp T a0 a1 ∧ ((tCopyAt S a0 a1) = 0 → T.2 9 (300 * tn a0 + tn a1) = (rAt (S.1 (pW a0 + 1)) a1)) ∧ Rel (k + 1) (if (tCopyAt S a0 a1) = 0 then (wTake S (pW a0) a1) else S) (if mtCp T a0 a1 = 0 then msDel T (tn a0) (tn a1) else sS T 0 1)
def opK_merge (Rel : Nat → sC → sM → Prop) : Prop := ∀ (k : Nat) (S : sC) (T : sM) (a0 : Int32), k < 512 → Rel k S T → (IM T ∧ (inB a0 0 5 = true → mOk T (tn a0))) ∧ mtW a0 = cd [1] (tIx a0 6) ∧ (if mtW a0 = 0 then msMrg T (tn a0) else sS T 0 (mtW a0)).1 0 = mtW a0 ∧ ((tIx a0 6) = 0 → nI (mMrg T (tn a0) (tn (T.2 10 (tn a0)))).2 = (nI (mrg S (pW a0)).1)) ∧ Rel (k + 1) (if (tIx a0 6) = 0 then (sMerge S a0) else S) (if mtW a0 = 0 then msMrg T (tn a0) else sS T 0 (mtW a0))
def opK_copy (Rel : Nat → sC → sM → Prop) : Prop := ∀ (k : Nat) (S : sC) (T : sM) (a0 : Int32), k < 512 → Rel k S T → (True) ∧ mtW a0 = cd [1] (tIx a0 6) ∧ (if mtW a0 = 0 then sS T 0 0 else sS T 0 (mtW a0)).1 0 = mtW a0 ∧ ((tIx a0 6) = 0 → T.2 8 (tn a0) = (nI (S.1 (pW a0 + 1)).length)) ∧ Rel (k + 1) (if (tIx a0 6) = 0 then S else S) (if mtW a0 = 0 then sS T 0 0 else sS T 0 (mtW a0))
def opK_copyAt (Rel : Nat → sC → sM → Prop) : Prop := ∀ (k : Nat) (S : sC) (T : sM) (a0 a1 : Int32), k < 512 → Rel k S T → (IM T) ∧ mtCp T a0 a1 = cd [1] (tCopyAt S a0 a1) ∧ (if mtCp T a0 a1 = 0 then sS T 0 0 else sS T 0 1).1 0 = mtCp T a0 a1 ∧ ((tCopyAt S a0 a1) = 0 → T.2 9 (300 * tn a0 + tn a1) = (rAt (S.1 (pW a0 + 1)) a1)) ∧ Rel (k + 1) (if (tCopyAt S a0 a1) = 0 then S else S) (if mtCp T a0 a1 = 0 then sS T 0 0 else sS T 0 1)
def opK_changes (Rel : Nat → sC → sM → Prop) : Prop := ∀ (k : Nat) (S : sC) (T : sM) (a0 : Int32), k < 512 → Rel k S T → (True) ∧ mtW a0 = cd [1] (tIx a0 6) ∧ (if mtW a0 = 0 then sS T 0 0 else sS T 0 (mtW a0)).1 0 = mtW a0 ∧ ((tIx a0 6) = 0 → T.2 10 (tn a0) = (nI (S.1 (pW a0 + 4)).length)) ∧ Rel (k + 1) (if (tIx a0 6) = 0 then S else S) (if mtW a0 = 0 then sS T 0 0 else sS T 0 (mtW a0))
def opK_wordAt (Rel : Nat → sC → sM → Prop) : Prop := ∀ (k : Nat) (S : sC) (T : sM) (a0 : Int32), k < 512 → Rel k S T → (IM T) ∧ mtTx T a0 = cd [1] (tText S a0) ∧ (if mtTx T a0 = 0 then sS T 0 0 else sS T 0 (mtTx T a0)).1 0 = mtTx T a0 ∧ ((tText S a0) = 0 → mTxt T a0 = (rAt (S.1 17) a0)) ∧ Rel (k + 1) (if (tText S a0) = 0 then S else S) (if mtTx T a0 = 0 then sS T 0 0 else sS T 0 (mtTx T a0))
def opK_word (Rel : Nat → sC → sM → Prop) : Prop := ∀ (k : Nat) (S : sC) (T : sM) (a0 : Int32), k < 512 → Rel k S T → (IM T) ∧ mtWd T a0 = cd [1] (tWord S a0) ∧ (if mtWd T a0 = 0 then sS T 0 0 else sS T 0 (mtWd T a0)).1 0 = mtWd T a0 ∧ ((tWord S a0) = 0 → nI 1000 * T.2 2 (tn a0) + T.2 1 (tn a0) = (1000 * rAt (S.1 5) a0 + rAt (S.1 3) a0)) ∧ Rel (k + 1) (if (tWord S a0) = 0 then S else S) (if mtWd T a0 = 0 then sS T 0 0 else sS T 0 (mtWd T a0))
def opK_placeOf (Rel : Nat → sC → sM → Prop) : Prop := ∀ (k : Nat) (S : sC) (T : sM) (a0 : Int32), k < 512 → Rel k S T → (IM T) ∧ mtWd T a0 = cd [1] (tWord S a0) ∧ (if mtWd T a0 = 0 then sS T 0 0 else sS T 0 (mtWd T a0)).1 0 = mtWd T a0 ∧ ((tWord S a0) = 0 → (if T.2 5 (tn a0) = 0 then -1 else nI (mCnt T (mPos T (nI (tn a0)) - 1))) = (rIdx (S.1 17) a0)) ∧ Rel (k + 1) (if (tWord S a0) = 0 then S else S) (if mtWd T a0 = 0 then sS T 0 0 else sS T 0 (mtWd T a0))
def opK_share (Rel : Nat → sC → sM → Prop) : Prop := ∀ (k : Nat) (S : sC) (T : sM) (a0 : Int32), k < 512 → Rel k S T → (IM T) ∧ mtW a0 = cd [1] (tIx a0 6) ∧ (if mtW a0 = 0 then sS T 0 0 else sS T 0 (mtW a0)).1 0 = mtW a0 ∧ ((tIx a0 6) = 0 → nI (mShr T a0 (T.1 1)) = (nI (cntBy S a0))) ∧ Rel (k + 1) (if (tIx a0 6) = 0 then S else S) (if mtW a0 = 0 then sS T 0 0 else sS T 0 (mtW a0))
def opK_shareAnew (Rel : Nat → sC → sM → Prop) : Prop := ∀ (k : Nat) (S : sC) (T : sM) (a0 : Int32), k < 512 → Rel k S T → (IM T) ∧ mtW a0 = cd [1] (tIx a0 6) ∧ (if mtW a0 = 0 then sS T 0 0 else sS T 0 (mtW a0)).1 0 = mtW a0 ∧ ((tIx a0 6) = 0 → nI (mShr T a0 (T.1 1)) = (anewBy S a0)) ∧ Rel (k + 1) (if (tIx a0 6) = 0 then S else S) (if mtW a0 = 0 then sS T 0 0 else sS T 0 (mtW a0))
def opK_setRate (Rel : Nat → sC → sM → Prop) : Prop := ∀ (k : Nat) (S : sC) (T : sM) (a0 a1 : Int32), k < 512 → Rel k S T → (True) ∧ mtRt a0 a1 = cd [1, 2] (tRate a0 a1) ∧ (if mtRt a0 a1 = 0 then sA (sS T 0 0) 13 (upd (T.2 13) (tn a0) a1) else sS T 0 (mtRt a0 a1)).1 0 = mtRt a0 a1 ∧ ((tRate a0 a1) = 0 → T.2 13 (tn a0) = (rAt (S.1 74) a0)) ∧ Rel (k + 1) (if (tRate a0 a1) = 0 then (sSet S 74 (rSet (S.1 74) a0 a1)) else S) (if mtRt a0 a1 = 0 then sA (sS T 0 0) 13 (upd (T.2 13) (tn a0) a1) else sS T 0 (mtRt a0 a1))
def opK_order (Rel : Nat → sC → sM → Prop) : Prop := ∀ (k : Nat) (S : sC) (T : sM) (a0 a1 a2 : Int32), k < 512 → Rel k S T → (IM T) ∧ mtOrd T a0 a1 a2 = cd [1, 2, 3] (tOrder S a0 a1 a2) ∧ (if mtOrd T a0 a1 a2 = 0 then msOrd T (tn a0) (tn a1) (tn a2) else sS T 0 (mtOrd T a0 a1 a2)).1 0 = mtOrd T a0 a1 a2 ∧ ((tOrder S a0 a1 a2) = 0 → nI (T.1 17) = (rOrder S a0 a1 a2)) ∧ Rel (k + 1) (if (tOrder S a0 a1 a2) = 0 then (sOrder S a0 a1 a2) else S) (if mtOrd T a0 a1 a2 = 0 then msOrd T (tn a0) (tn a1) (tn a2) else sS T 0 (mtOrd T a0 a1 a2))
def opK_finish (Rel : Nat → sC → sM → Prop) : Prop := ∀ (k : Nat) (S : sC) (T : sM) (a0 a1 : Int32), k < 512 → Rel k S T → (IM T) ∧ mtFin T a0 a1 = cd [1, 2, 3] (tFinish S a0 a1) ∧ (if mtFin T a0 a1 = 0 then msFin T (tn a0) a1 else sS T 0 (mtFin T a0 a1)).1 0 = mtFin T a0 a1 ∧ ((tFinish S a0 a1) = 0 → T.2 14 (tn (T.2 15 (tn a0))) + T.2 18 (tn a0) = (rAt ((rvDone S a0 a1).1 76) (rAt (S.1 62) a0))) ∧ Rel (k + 1) (if (tFinish S a0 a1) = 0 then (rvDone S a0 a1) else S) (if mtFin T a0 a1 = 0 then msFin T (tn a0) a1 else sS T 0 (mtFin T a0 a1))
def opK_cancel (Rel : Nat → sC → sM → Prop) : Prop := ∀ (k : Nat) (S : sC) (T : sM) (a0 : Int32), k < 512 → Rel k S T → (IM T) ∧ mtCan T a0 = cd [1, 3] (tCancel S a0) ∧ (if mtCan T a0 = 0 then msCan T (tn a0) else sS T 0 (mtCan T a0)).1 0 = mtCan T a0 ∧ ((tCancel S a0) = 0 → T.2 17 (tn a0) = (nI (unfreeze (sSet S 68 (rSet (S.1 68) a0 2)) a0).1)) ∧ Rel (k + 1) (if (tCancel S a0) = 0 then ((unfreeze (sSet S 68 (rSet (S.1 68) a0 2)) a0).2) else S) (if mtCan T a0 = 0 then msCan T (tn a0) else sS T 0 (mtCan T a0))
def opK_stateOf (Rel : Nat → sC → sM → Prop) : Prop := ∀ (k : Nat) (S : sC) (T : sM) (a0 : Int32), k < 512 → Rel k S T → (IM T) ∧ mtRv T a0 = cd [1] (tIx a0 (nI (S.1 62).length)) ∧ (if mtRv T a0 = 0 then sS T 0 0 else sS T 0 (mtRv T a0)).1 0 = mtRv T a0 ∧ ((tIx a0 (nI (S.1 62).length)) = 0 → T.2 16 (tn a0) = (rAt (S.1 68) a0)) ∧ Rel (k + 1) (if (tIx a0 (nI (S.1 62).length)) = 0 then S else S) (if mtRv T a0 = 0 then sS T 0 0 else sS T 0 (mtRv T a0))
def opK_frozenBy (Rel : Nat → sC → sM → Prop) : Prop := ∀ (k : Nat) (S : sC) (T : sM) (a0 : Int32), k < 512 → Rel k S T → (IM T) ∧ mtWd T a0 = cd [1] (tWord S a0) ∧ (if mtWd T a0 = 0 then sS T 0 0 else sS T 0 (mtWd T a0)).1 0 = mtWd T a0 ∧ ((tWord S a0) = 0 → T.2 6 (tn a0) = (rAt (S.1 11) a0)) ∧ Rel (k + 1) (if (tWord S a0) = 0 then S else S) (if mtWd T a0 = 0 then sS T 0 0 else sS T 0 (mtWd T a0))
def opK_earned (Rel : Nat → sC → sM → Prop) : Prop := ∀ (k : Nat) (S : sC) (T : sM) (a0 : Int32), k < 512 → Rel k S T → (IM T) ∧ mtRw a0 = cd [1] (tIx a0 4) ∧ (if mtRw a0 = 0 then sS T 0 0 else sS T 0 (mtRw a0)).1 0 = mtRw a0 ∧ ((tIx a0 4) = 0 → T.2 14 (tn a0) = (rAt (S.1 76) a0)) ∧ Rel (k + 1) (if (tIx a0 4) = 0 then S else S) (if mtRw a0 = 0 then sS T 0 0 else sS T 0 (mtRw a0))
def opK_addIssue (Rel : Nat → sC → sM → Prop) : Prop := ∀ (k : Nat) (S : sC) (T : sM) (a0 a1 : Int32), k < 512 → Rel k S T → (IM T) ∧ mtIss T a0 a1 = cd [2, 3] (tIssue S a0 a1) ∧ (if mtIss T a0 a1 = 0 then msIss T a0 a1 else sS T 0 (mtIss T a0 a1)).1 0 = mtIss T a0 a1 ∧ ((tIssue S a0 a1) = 0 → nI (T.1 25) = (nI ((isAdd S a0 a1).1 79).length - 1)) ∧ Rel (k + 1) (if (tIssue S a0 a1) = 0 then (isAdd S a0 a1) else S) (if mtIss T a0 a1 = 0 then msIss T a0 a1 else sS T 0 (mtIss T a0 a1))
def opK_waiting (Rel : Nat → sC → sM → Prop) : Prop := ∀ (k : Nat) (S : sC) (T : sM) (a0 : Int32), k < 512 → Rel k S T → (IM T) ∧ mtPo a0 = cd [2] (tB2 (!decide (a0 < 0))) ∧ (if mtPo a0 = 0 then sS T 0 0 else sS T 0 (mtPo a0)).1 0 = mtPo a0 ∧ ((tB2 (!decide (a0 < 0))) = 0 → mWt T a0 = (rAt (S.1 72) a0)) ∧ Rel (k + 1) (if (tB2 (!decide (a0 < 0))) = 0 then S else S) (if mtPo a0 = 0 then sS T 0 0 else sS T 0 (mtPo a0))
def opK_pass (Rel : Nat → sC → sM → Prop) : Prop := ∀ (k : Nat) (S : sC) (T : sM) (a0 : Int32), k < 512 → Rel k S T → (IM T) ∧ mtPs T a0 = cd [2, 3] (tPass S a0) ∧ (if mtPs T a0 = 0 then (mPas T (tn a0)).1 else sS T 0 (mtPs T a0)).1 0 = mtPs T a0 ∧ ((tPass S a0) = 0 → (mPas T (tn a0)).2 = ((paD S a0).1)) ∧ Rel (k + 1) (if (tPass S a0) = 0 then ((paD S a0).2) else S) (if mtPs T a0 = 0 then (mPas T (tn a0)).1 else sS T 0 (mtPs T a0))
def opK_printed (Rel : Nat → sC → sM → Prop) : Prop := ∀ (k : Nat) (S : sC) (T : sM) (a0 : Int32), k < 512 → Rel k S T → (IM T) ∧ mtPd T a0 = cd [1] (tIx a0 (nI (S.1 79).length)) ∧ (if mtPd T a0 = 0 then sS T 0 0 else sS T 0 (mtPd T a0)).1 0 = mtPd T a0 ∧ ((tIx a0 (nI (S.1 79).length)) = 0 → T.2 23 (tn a0) = (rAt (S.1 83) a0)) ∧ Rel (k + 1) (if (tIx a0 (nI (S.1 79).length)) = 0 then S else S) (if mtPd T a0 = 0 then sS T 0 0 else sS T 0 (mtPd T a0))
def opK_royalties (Rel : Nat → sC → sM → Prop) : Prop := ∀ (k : Nat) (S : sC) (T : sM) (a0 : Int32), k < 512 → Rel k S T → (True) ∧ mtW a0 = cd [1] (tIx a0 6) ∧ (if mtW a0 = 0 then sS T 0 0 else sS T 0 (mtW a0)).1 0 = mtW a0 ∧ ((tIx a0 6) = 0 → T.2 12 (tn a0) = (rAt (S.1 59) a0)) ∧ Rel (k + 1) (if (tIx a0 6) = 0 then S else S) (if mtW a0 = 0 then sS T 0 0 else sS T 0 (mtW a0))
def opK_comment (Rel : Nat → sC → sM → Prop) : Prop := ∀ (k : Nat) (S : sC) (T : sM) (a0 a1 : Int32), k < 512 → Rel k S T → (IM T) ∧ mtCom T a0 a1 = cd [1, 2, 3] (tComment S a0 a1) ∧ (if mtCom T a0 a1 = 0 then msCom T a0 a1 else sS T 0 (mtCom T a0 a1)).1 0 = mtCom T a0 a1 ∧ ((tComment S a0 a1) = 0 → nI (T.1 30) = (nI ((sComment S a0 a1).1 86).length - 1)) ∧ Rel (k + 1) (if (tComment S a0 a1) = 0 then (sComment S a0 a1) else S) (if mtCom T a0 a1 = 0 then msCom T a0 a1 else sS T 0 (mtCom T a0 a1))
def opK_span (Rel : Nat → sC → sM → Prop) : Prop := ∀ (k : Nat) (S : sC) (T : sM) (a0 : Int32), k < 512 → Rel k S T → (IM T) ∧ mtSpn T a0 = cd [1] (tIx a0 (nI (S.1 86).length)) ∧ (if mtSpn T a0 = 0 then sS T 0 0 else sS T 0 (mtSpn T a0)).1 0 = mtSpn T a0 ∧ ((tIx a0 (nI (S.1 86).length)) = 0 → mSpn T (tn a0) = (rSpan S a0)) ∧ Rel (k + 1) (if (tIx a0 (nI (S.1 86).length)) = 0 then S else S) (if mtSpn T a0 = 0 then sS T 0 0 else sS T 0 (mtSpn T a0))
def opK_keep (Rel : Nat → sC → sM → Prop) : Prop := ∀ (k : Nat) (S : sC) (T : sM), k < 512 → Rel k S T → (IM T) ∧ mtKp T = cd [3] (tKeep S) ∧ (if mtKp T = 0 then msKp T else sS T 0 (mtKp T)).1 0 = mtKp T ∧ ((tKeep S) = 0 → nI (T.1 33) = S.2.1) ∧ Rel (k + 1) (if (tKeep S) = 0 then (sKeep S) else S) (if mtKp T = 0 then msKp T else sS T 0 (mtKp T))
def opK_compare (Rel : Nat → sC → sM → Prop) : Prop := ∀ (k : Nat) (S : sC) (T : sM) (a0 a1 : Int32), k < 512 → Rel k S T → (IM T) ∧ mtCmp T a0 a1 = cd [1] (tCompare S a0 a1) ∧ (if mtCmp T a0 a1 = 0 then sS T 0 0 else sS T 0 (mtCmp T a0 a1)).1 0 = mtCmp T a0 a1 ∧ ((tCompare S a0 a1) = 0 → nI (1000 * mOnl T (tn a1) (tn a0) 300 + mOnl T (tn a0) (tn a1) 300) = (1000 * nI (keptOnly S a1 a0) + nI (keptOnly S a0 a1))) ∧ Rel (k + 1) (if (tCompare S a0 a1) = 0 then S else S) (if mtCmp T a0 a1 = 0 then sS T 0 0 else sS T 0 (mtCmp T a0 a1))
def opK_length (Rel : Nat → sC → sM → Prop) : Prop := ∀ (k : Nat) (S : sC) (T : sM), k < 512 → Rel k S T → IM T ∧ nI (mCnt T (T.1 8)) = nI (S.1 17).length ∧ Rel (k + 1) S (sS T 0 0)
def opK_today (Rel : Nat → sC → sM → Prop) : Prop := ∀ (k : Nat) (S : sC) (T : sM), k < 512 → Rel k S T → nI (T.1 29) = S.2.2 ∧ Rel (k + 1) S (sS T 0 0)
def opK_none (Rel : Nat → sC → sM → Prop) : Prop := ∀ (k : Nat) (S : sC) (T : sM), k < 512 → Rel k S T → Rel (k + 1) S T
def RelOK (Rel : Nat → sC → sM → Prop) : Prop := opK_none Rel ∧ opK_type Rel ∧ opK_delete Rel ∧ opK_merge Rel ∧ opK_copy Rel ∧ opK_copyAt Rel ∧ opK_changes Rel ∧ opK_length Rel ∧ opK_wordAt Rel ∧ opK_word Rel ∧ opK_placeOf Rel ∧ opK_share Rel ∧ opK_shareAnew Rel ∧ opK_setRate Rel ∧ opK_order Rel ∧ opK_finish Rel ∧ opK_cancel Rel ∧ opK_stateOf Rel ∧ opK_frozenBy Rel ∧ opK_earned Rel ∧ opK_addIssue Rel ∧ opK_waiting Rel ∧ opK_pass Rel ∧ opK_today Rel ∧ opK_printed Rel ∧ opK_royalties Rel ∧ opK_comment Rel ∧ opK_span Rel ∧ opK_keep Rel ∧ opK_compare Rel

