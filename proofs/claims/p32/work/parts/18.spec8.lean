/-! what the calls of the face throw (0: nothing, 1 2 3: exN), answer and leave behind -/
def tor : Nat → Nat → Nat
  | 0, b => b
  | a + 1, _ => a + 1
theorem tor_0 (b : Nat) : tor 0 b = b := rfl
theorem tor_3 (b : Nat) : tor 3 b = 3 := rfl
theorem tor_2 (b : Nat) : tor 2 b = 2 := rfl
theorem tor_ne {a : Nat} (b : Nat) (h : a ≠ 0) : tor a b = a := by cases a with
  | zero => exact absurd rfl h
  | succ a => rfl
def tIx (i n : Int32) : Nat := if i < 0 ∨ n ≤ i then 1 else 0
def tArg (b : Int32) : Nat := if b = 0 then 2 else 0
def tSt (b : Int32) : Nat := if b = 0 then 3 else 0
def tRg (v a b : Int32) : Nat := if v < a ∨ b < v then 2 else 0
def tB2 (b : Bool) : Nat := if b then 0 else 2
def tB3 (b : Bool) : Nat := if b then 0 else 3
theorem tIx_0 {i n : Int32} (h : tIx i n = 0) : ¬ i < 0 ∧ ¬ n ≤ i := by
  unfold tIx at h
  split at h
  · cases h
  · rename_i h1; exact ⟨fun h2 => h1 (Or.inl h2), fun h2 => h1 (Or.inr h2)⟩
theorem tRg_0 {v a b : Int32} (h : tRg v a b = 0) : ¬ v < a ∧ ¬ b < v := by
  unfold tRg at h
  split at h
  · cases h
  · rename_i h1; exact ⟨fun h2 => h1 (Or.inl h2), fun h2 => h1 (Or.inr h2)⟩
theorem tIx_n {i : Int32} {n : Nat} (hn : n < 2 ^ 31) (h : tIx i (nI n) = 0) : i.toNatClampNeg < n ∧ i = nI i.toNatClampNeg := by
  obtain ⟨h1, h2⟩ := tIx_0 h
  obtain ⟨k, hk, rfl⟩ := nI_of h1
  rw [nI_leI hn hk] at h2
  rw [nI_clamp hk]
  exact ⟨by omega, rfl⟩
theorem kdWi {i : Int32} (h : tIx i 6 = 0) : kd (23 + 6 * i.toNatClampNeg) = 7 := kdW _ (tIx_n (n := 6) (by omega) h).1
def tWord (S : sC) (n : Int32) : Nat := tIx n (nI (S.1 3).length)
def tText (S : sC) (n : Int32) : Nat := tIx n (nI (S.1 17).length)
def tSpan (S : sC) (a b : Int32) : Nat := tor (tText S a) (tor (tText S b) (tB2 (!decide (b < a))))
/-- where writer w's cells begin -/
def pW (w : Int32) : Nat := 23 + 6 * w.toNatClampNeg
def tType (S : sC) (w p x : Int32) : Nat := tor (tIx w 6) (tor (tIx p (nI (S.1 (pW w + 1)).length + 1)) (tor (tRg x 0 999) (tB3 (!decide ((300 : Int32) ≤ nI (S.1 3).length)))))
def sType0 (S : sC) (w p x : Int32) : sC := wAdd S w x (rAt (S.1 (pW w + 1)) (p - 1))
def rType (S : sC) (w p x : Int32) : Int32 := nI ((sType0 S w p x).1 3).length - 1
def wPut (S : sC) (j : Nat) (i n : Int32) : sC := sSet (sSet S (j + 1) (rIns (S.1 (j + 1)) (cap (j + 1)) i n)) (j + 4) (rAdd (S.1 (j + 4)) (cap (j + 4)) n)
def sType (S : sC) (w p x : Int32) : sC := wPut (sType0 S w p x) (pW w) p (rType S w p x)
def tCopyAt (S : sC) (w p : Int32) : Nat := tor (tIx w 6) (tIx p (nI (S.1 (pW w + 1)).length))
def wTake (S : sC) (j : Nat) (i : Int32) : sC := sSet (sSet S (j + 1) (rRem (S.1 (j + 1)) i)) (j + 4) (rAdd (S.1 (j + 4)) (cap (j + 4)) (300 + rAt (S.1 (j + 1)) i))
def sMerge (S : sC) (w : Int32) : sC := mrgEnd (mrg S (pW w)).2 (pW w)
def tRate (r v : Int32) : Nat := tor (tIx r 4) (tRg v 0 100)
def tOrder (S : sC) (r a b : Int32) : Nat := tor (tIx r 4) (tor (tSpan S a b) (tor (tB3 (!hasFrz S a.toNatClampNeg b)) (tB3 (!decide ((30 : Int32) ≤ nI (S.1 62).length)))))
def rOrder (S : sC) (r a b : Int32) : Int32 := nI ((rvAdd S r (b - a + 1)).1 62).length - 1
def sOrder (S : sC) (r a b : Int32) : sC := frz (rvAdd S r (b - a + 1)) a.toNatClampNeg b (rOrder S r a b)
def tFinish (S : sC) (r u : Int32) : Nat := tor (tIx r (nI (S.1 62).length)) (tor (tRg u 0 9) (tB3 (decide (rAt (S.1 68) r = 0))))
def tCancel (S : sC) (r : Int32) : Nat := tor (tIx r (nI (S.1 62).length)) (tB3 (decide (rAt (S.1 68) r = 0)))
def tIssue (S : sC) (d z : Int32) : Nat := tor (tRg d (S.2.2 + 1) 1000) (tor (tRg z 1 200) (tor (tB3 (!decide ((12 : Int32) ≤ nI (S.1 79).length))) (tB3 (decide (rIdx (S.1 79) d = -1)))))
def tPass (S : sC) (d : Int32) : Nat := tor (tRg d 1 100) (tB3 (!decide ((1000 : Int32) < S.2.2 + d)))
def prF (r : Int32) : Nat → Nat → sC → sC
  | 0, _, S => S
  | fu + 1, n, S => if n < (S.1 3).length then (if rAt (S.1 11) (nI n) = r then prF r fu (n + 1) (sSet S 59 (rSet (S.1 59) (rAt (S.1 5) (nI n)) (rAt (S.1 59) (rAt (S.1 5) (nI n)) + 5))) else prF r fu (n + 1) S) else S
def prR (S : sC) (r : Int32) : Nat × sC := unfreeze (prF r ((S.1 3).length + 1) 0 (rvPrint S)) r
def piF : Nat → Int32 → Int32 → sC → Int32 × sC
  | 0, _, sm, S => (sm, S)
  | fu + 1, lf, sm, S => if rAt (S.1 72) 0 = -1 then (sm, S) else if lf < rAt (S.1 64) (rAt (S.1 72) 0) then (sm, S) else piF fu (lf - rAt (S.1 64) (rAt (S.1 72) 0)) (sm + nI (prR S (rAt (S.1 72) 0)).1) (prR S (rAt (S.1 72) 0)).2
def prI (S : sC) (i : Int32) : Int32 × sC := piF 30 (rAt (S.1 81) i) 0 S
def sPrI (S : sC) (i : Int32) : sC := sSet (prI S i).2 83 (rSet ((prI S i).2.1 83) i (prI S i).1)
def sDay (S : sC) (d : Int32) : sC := (S.1, S.2.1, d)
def sVer (S : sC) (v : Int32) : sC := (S.1, v, S.2.2)
def paF : Nat → Int32 → sC → Int32 × sC
  | 0, sm, S => (sm, S)
  | fu + 1, sm, S => if rIdx (S.1 79) (S.2.2 + 1) = -1 then paF fu sm (sDay S (S.2.2 + 1)) else paF fu (sm + (prI (sDay S (S.2.2 + 1)) (rIdx (S.1 79) (S.2.2 + 1))).1) (sPrI (sDay S (S.2.2 + 1)) (rIdx (S.1 79) (S.2.2 + 1)))
def paD (S : sC) (d : Int32) : Int32 × sC := paF d.toNatClampNeg 0 S
def tComment (S : sC) (a b : Int32) : Nat := tor (tSpan S a b) (tB3 (!decide ((40 : Int32) ≤ nI (S.1 86).length)))
def sComment (S : sC) (a b : Int32) : sC := cmAdd S (rAt (S.1 17) a) (rAt (S.1 17) b)
def rSpan (S : sC) (c : Int32) : Int32 := if firstB S (rAt (S.1 86) c) (rAt (S.1 88) c) = -1 then -1 else 1000 * rIdx (S.1 17) (firstB S (rAt (S.1 86) c) (rAt (S.1 88) c)) + nI (countB S (rAt (S.1 86) c) (rAt (S.1 88) c))
def tKeep (S : sC) : Nat := tB3 (!decide ((20 : Int32) ≤ S.2.1))
def tCompare (S : sC) (a b : Int32) : Nat := tor (tIx a S.2.1) (tIx b S.2.1)
theorem oc_day {cI cW : ClassId} {ad : Nat → Nat} {S : sC} {f : Nat → va_E} (h : PC cI cW ad S f) (v d : Int32) : PC cI cW ad (S.1, v, d) (ud f 0 (.inr (8, [.ref (ad 1), .ref (ad 2), .ref (ad 22), .ref (ad 59), .ref (ad 61), .ref (ad 78), .ref (ad 85), .int v, .int d]))) := by
  obtain ⟨hw, GG, rfl⟩ := h
  refine ⟨hw, GG, funext fun k => ?_⟩
  by_cases e : k = 0
  · subst e; rw [ud_eq]; rfl
  · rw [ud_ne e]
    by_cases h8 : kd k = 8
    · have : ∀ k, k < 90 → kd k = 8 → k = 0 := by decide +kernel
      exact absurd (this k (kl8 h8) h8) e
    · simp only [fC, h8, if_false]
theorem tSpan_0 {S : sC} {a b : Int32} (h : tSpan S a b = 0) : tText S a = 0 ∧ tText S b = 0 ∧ ¬ b < a := by
  unfold tSpan at h
  by_cases h1 : tText S a = 0
  · rw [h1, tor_0] at h
    by_cases h2 : tText S b = 0
    · rw [h2, tor_0] at h
      refine ⟨h1, h2, fun h3 => ?_⟩
      rw [decide_eq_true h3] at h
      cases h
    · rw [tor_ne _ h2] at h; exact absurd h h2
  · rw [tor_ne _ h1] at h; exact absurd h h1
def sKeep (S : sC) : sC := sVer (keepIn S S.2.1) ((keepIn S S.2.1).2.1 + 1)
