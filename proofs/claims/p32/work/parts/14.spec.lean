/-! what the class's methods do, as functions of its state (the loops with their fuel) -/
def cTyped (x : List Int32) (i : Int32) : Bool := decide (rAt x i < 300)
def cNum (x : List Int32) (i : Int32) : Int32 := if rAt x i < 300 then rAt x i else rAt x i - 300
def wThere (S : sC) (n : Int32) : Bool := decide (rAt (S.1 9) n = 1)
def wCame (S : sC) (n : Int32) : Bool := decide (rAt (S.1 9) n = 1) || decide (rAt (S.1 9) n = 2)
def wFroz (S : sC) (n : Int32) : Bool := !decide (rAt (S.1 11) n = -1)
def wKept (S : sC) (n v : Int32) : Bool := !decide (rAt (S.1 13) n &&& (1 : Int32) <<< (v &&& 31) = 0)
def wAdd (S : sC) (w sg a : Int32) : sC := sSet (sSet (sSet (sSet (sSet (sSet S 3 (rAdd (S.1 3) (cap 3) sg)) 5 (rAdd (S.1 5) (cap 5) w)) 7 (rAdd (S.1 7) (cap 7) a)) 9 (rAdd (S.1 9) (cap 9) 0)) 11 (rAdd (S.1 11) (cap 11) (-1))) 13 (rAdd (S.1 13) (cap 13) 0)
def unfF (r : Int32) : Nat → Nat → Nat → sC → Nat × sC
  | 0, _, k, S => (k, S)
  | fu + 1, n, k, S => if n < (S.1 3).length then (if rAt (S.1 11) (nI n) = r then unfF r fu (n + 1) (k + 1) (sSet S 11 (rSet (S.1 11) (nI n) (-1))) else unfF r fu (n + 1) k S) else (k, S)
def unfreeze (S : sC) (r : Int32) : Nat × sC := unfF r ((S.1 3).length + 1) 0 0 S
def keepF (v : Int32) : Nat → Nat → sC → sC
  | 0, _, S => S
  | fu + 1, n, S => if n < (S.1 3).length then (if wThere S (nI n) then keepF v fu (n + 1) (sSet S 13 (rSet (S.1 13) (nI n) (rAt (S.1 13) (nI n) ||| (1 : Int32) <<< (v &&& 31)))) else keepF v fu (n + 1) S) else S
def keepIn (S : sC) (v : Int32) : sC := keepF v ((S.1 3).length + 1) 0 S
def onlyF (S : sC) (v u : Int32) : Nat → Nat → Nat → Nat
  | 0, _, k => k
  | fu + 1, n, k => if n < (S.1 3).length then (if wKept S (nI n) v && !wKept S (nI n) u then onlyF S v u fu (n + 1) (k + 1) else onlyF S v u fu (n + 1) k) else k
def keptOnly (S : sC) (v u : Int32) : Nat := onlyF S v u ((S.1 3).length + 1) 0 0
def plqF (S : sC) (u : Int32) : Nat → Nat → Nat
  | 0, n => n
  | fu + 1, n => if n < (S.1 72).length then (if rAt (S.1 70) (rAt (S.1 72) (nI n)) < u then n else plqF S u fu (n + 1)) else n
def plq (S : sC) (u : Int32) : Nat := plqF S u ((S.1 72).length + 1) 0
def rvAdd (S : sC) (w z : Int32) : sC := sSet (sSet (sSet (sSet (sSet S 62 (rAdd (S.1 62) (cap 62) w)) 64 (rAdd (S.1 64) (cap 64) z)) 66 (rAdd (S.1 66) (cap 66) (z * rAt (S.1 74) w))) 68 (rAdd (S.1 68) (cap 68) 0)) 70 (rAdd (S.1 70) (cap 70) (-1))
def rvDone0 (S : sC) (r u : Int32) : sC := sSet (sSet S 68 (rSet (S.1 68) r 1)) 70 (rSet (S.1 70) r u)
def rvDone (S : sC) (r u : Int32) : sC := sSet (sSet (rvDone0 S r u) 72 (rIns (S.1 72) (cap 72) (nI (plq (rvDone0 S r u) u)) r)) 76 (rSet (S.1 76) (rAt (S.1 62) r) (rAt (S.1 76) (rAt (S.1 62) r) + rAt (S.1 66) r))
def rvPrint (S : sC) : sC := sSet (sSet S 72 (rRem (S.1 72) 0)) 68 (rSet (S.1 68) (rAt (S.1 72) 0) 3)
def isAdd (S : sC) (d z : Int32) : sC := sSet (sSet (sSet S 79 (rAdd (S.1 79) (cap 79) d)) 81 (rAdd (S.1 81) (cap 81) z)) 83 (rAdd (S.1 83) (cap 83) (-1))
def cmAdd (S : sC) (a b : Int32) : sC := sSet (sSet S 86 (rAdd (S.1 86) (cap 86) a)) 88 (rAdd (S.1 88) (cap 88) b)
def ancF (S : sC) : Nat → Int32 → Int32
  | 0, a => a
  | fu + 1, a => if a = -1 then a else if wCame S a then a else ancF S fu (rAt (S.1 7) a)
def anc (S : sC) (n : Int32) : Int32 := ancF S 300 (rAt (S.1 7) n)
def aheadF (S : sC) : Nat → Nat
  | 0 => 0
  | k + 1 => if wThere S (rAt (S.1 15) (nI k)) then k + 1 else aheadF S k
def behF (S : sC) : Nat → Nat → Nat
  | 0, n => n
  | fu + 1, n => if n < (S.1 15).length then (if wThere S (rAt (S.1 15) (nI n)) then n else behF S fu (n + 1)) else n
def parts (S : sC) (n : Nat) : Bool :=
  !decide (rAt (S.1 11) (rAt (S.1 15) (nI (aheadF S n) - 1)) = -1) && decide (rAt (S.1 11) (rAt (S.1 15) (nI (aheadF S n) - 1)) = rAt (S.1 11) (rAt (S.1 15) (nI (behF S ((S.1 15).length + 1) n))))
/-- 1 more than where v is first, 0 if it isn't there -/
def rp (x : List Int32) (v : Int32) : Nat := (rIdx x v + 1).toNatClampNeg
def pIdx (x : List Int32) (a : Int32) : Nat := if a = -1 then 0 else rp x a
def putInS (S : sC) (n : Int32) : sC := sSet (sSet (sSet S 15 (rIns (S.1 15) (cap 15) (nI (pIdx (S.1 15) (anc S n))) n)) 9 (rSet (S.1 9) n 1)) 20 (rAdd (S.1 20) (cap 20) n)
def putIn (S : sC) (n : Int32) : Bool × sC := if parts S (pIdx (S.1 15) (anc S n)) then (false, S) else (true, putInS S n)
def takeOutS (S : sC) (n : Int32) : sC := sSet (sSet S 9 (rSet (S.1 9) n 2)) 20 (rAdd (S.1 20) (cap 20) (300 + n))
def takeOut (S : sC) (n : Int32) : Bool × sC := if wThere S n then (if wFroz S n then (false, S) else (true, takeOutS S n)) else (true, S)
def renF (S : sC) : Nat → Nat → List Int32 → List Int32
  | 0, _, x => x
  | fu + 1, n, x => if n < (S.1 15).length then (if wThere S (rAt (S.1 15) (nI n)) then renF S fu (n + 1) (rAdd x (cap 17) (rAt (S.1 15) (nI n))) else renF S fu (n + 1) x) else x
def renew (S : sC) : sC := sSet S 17 (renF S ((S.1 15).length + 1) 0 [])
def cntF (S : sC) (w : Int32) : Nat → Nat → Nat → Nat
  | 0, _, k => k
  | fu + 1, n, k => if n < (S.1 17).length then (if rAt (S.1 5) (rAt (S.1 17) (nI n)) = w then cntF S w fu (n + 1) (k + 1) else cntF S w fu (n + 1) k) else k
def cntBy (S : sC) (w : Int32) : Nat := cntF S w ((S.1 17).length + 1) 0 0
def anewF (S : sC) (w : Int32) : Nat → Nat → Int32 → Int32
  | 0, _, k => k
  | fu + 1, n, k => if n < (S.1 20).length then (if rAt (S.1 5) (cNum (S.1 20) (nI n)) = w then anewF S w fu (n + 1) (if cTyped (S.1 20) (nI n) then k + 1 else k + (-1)) else anewF S w fu (n + 1) k) else k
def anewBy (S : sC) (w : Int32) : Int32 := anewF S w ((S.1 20).length + 1) 0 0
def hasFF (S : sC) (b : Int32) : Nat → Nat → Bool
  | 0, _ => false
  | fu + 1, n => if ¬ b < nI n ∧ n < (S.1 17).length then (if wFroz S (rAt (S.1 17) (nI n)) then true else hasFF S b fu (n + 1)) else false
def hasFrz (S : sC) (a : Nat) (b : Int32) : Bool := hasFF S b ((S.1 17).length + 1) a
def frzF (b r : Int32) : Nat → Nat → sC → sC
  | 0, _, S => S
  | fu + 1, n, S => if ¬ b < nI n ∧ n < (S.1 17).length then frzF b r fu (n + 1) (sSet S 11 (rSet (S.1 11) (rAt (S.1 17) (nI n)) r)) else S
def frz (S : sC) (a : Nat) (b r : Int32) : sC := frzF b r ((S.1 17).length + 1) a S
def fbF (S : sC) (b : Nat) : Nat → Nat → Int32
  | 0, _ => -1
  | fu + 1, n => if b < n then -1 else if wThere S (rAt (S.1 15) (nI n - 1)) then rAt (S.1 15) (nI n - 1) else fbF S b fu (n + 1)
def firstB (S : sC) (a b : Int32) : Int32 := fbF S (rp (S.1 15) b) (rp (S.1 15) b + 1) (rp (S.1 15) a)
def cbF (S : sC) (b : Nat) : Nat → Nat → Nat → Nat
  | 0, _, k => k
  | fu + 1, n, k => if b < n then k else if wThere S (rAt (S.1 15) (nI n - 1)) then cbF S b fu (n + 1) (k + 1) else cbF S b fu (n + 1) k
def countB (S : sC) (a b : Int32) : Nat := cbF S (rp (S.1 15) b) (rp (S.1 15) b + 1) (rp (S.1 15) a) 0
/-- the changes whose row is the one at c, done in the draft -/
def mrgF (c : Nat) : Nat → Nat → Nat → sC → Nat × sC
  | 0, _, k, S => (k, S)
  | fu + 1, n, k, S => if n < (S.1 c).length then
      (if cTyped (S.1 c) (nI n) then mrgF c fu (n + 1) (if (putIn S (cNum (S.1 c) (nI n))).1 then k else k + 1) (putIn S (cNum (S.1 c) (nI n))).2
       else mrgF c fu (n + 1) (if (takeOut S (cNum (S.1 c) (nI n))).1 then k else k + 1) (takeOut S (cNum (S.1 c) (nI n))).2) else (k, S)
def mrg (S : sC) (j : Nat) : Nat × sC := mrgF (j + 4) ((S.1 (j + 4)).length + 1) 0 0 S
def mrgEnd (S : sC) (j : Nat) : sC := sSet (renew (sSet S (j + 4) [])) (j + 1) ((renew (sSet S (j + 4) [])).1 17)
theorem rIdxF_form (x : List Int32) (v : Int32) : ∀ fu n, rIdxF x v fu n = -1 ∨ ∃ k, k < x.length ∧ rIdxF x v fu n = nI k := by
  intro fu
  induction fu with
  | zero => intro n; exact Or.inl rfl
  | succ fu ih =>
    intro n
    rw [rIdxF]
    by_cases h : n < x.length
    · rw [if_pos h]
      by_cases h2 : x.getD n 0 = v
      · rw [if_pos h2]; exact Or.inr ⟨n, h, rfl⟩
      · rw [if_neg h2]; exact ih (n + 1)
    · rw [if_neg h]; exact Or.inl rfl
theorem rp_spec {x : List Int32} (v : Int32) (h : x.length < 2 ^ 30) : rIdx x v = nI (rp x v) - 1 ∧ rp x v ≤ x.length := by
  rcases rIdxF_form x v (x.length + 1) 0 with h1 | ⟨k, h1, h2⟩
  · have : rp x v = 0 := by rw [rp, rIdx, h1]; rfl
    rw [this]
    exact ⟨h1, Nat.zero_le _⟩
  · have e : rp x v = k + 1 := by rw [rp, rIdx, h2, nI_1, nI_clamp (by omega)]
    rw [e]
    exact ⟨by rw [rIdx, h2, nI_pred], by omega⟩
theorem rp_1 {x : List Int32} (v : Int32) (h : x.length < 2 ^ 30) : rIdx x v + 1 = nI (rp x v) := by
  rw [(rp_spec v h).1]; simp
theorem pIdx_le {x : List Int32} (v : Int32) (h : x.length < 2 ^ 30) : pIdx x v ≤ x.length := by
  rw [pIdx]
  by_cases h1 : v = -1
  · rw [if_pos h1]; exact Nat.zero_le _
  · rw [if_neg h1]; exact (rp_spec v h).2
theorem nI_m1_lt {a b : Nat} (ha : a < 2 ^ 30) (hb : b < 2 ^ 30) : nI a - 1 < nI b - 1 ↔ a < b := by
  have e : ∀ n : Nat, n < 2 ^ 30 → (nI n - 1).toInt = (n : Int) - 1 := fun n hn => by
    have := pk_sub_toInt (a := n) (b := 1) hn (by omega)
    exact this
  rw [Int32.lt_iff_toInt_lt, e a ha, e b hb]
  omega
theorem nI_m1_0 {n : Nat} (h : ¬ nI n - 1 < 0) : ∃ k, n = k + 1 := by
  cases n with
  | zero => exact absurd (by decide) h
  | succ k => exact ⟨k, rfl⟩
theorem nI_m1_s {n : Nat} (hn : n < 2 ^ 30) (h : nI n - 1 < 0) : n = 0 := by
  cases n with
  | zero => rfl
  | succ k => rw [nI_pred] at h; exact absurd h (nI_pos (by omega))
theorem nI_dec (n : Nat) : nI n + Int32.ofInt (-1) = nI n - 1 := by
  rw [show Int32.ofInt (-1) = -1 from by decide]
  exact (Int32.sub_eq_add_neg _ _).symm
theorem nI_m1_i (n : Nat) : nI n - 1 + Int32.ofInt 1 = nI (n + 1) - 1 := by
  rw [nI_pred, show Int32.ofInt 1 = 1 from by decide]
  exact Int32.sub_add_cancel _ _
theorem kd7ge : ∀ j, j < 90 → kd j = 7 → 23 ≤ j := by decide +kernel
theorem putIn_o {S : sC} {n : Int32} {c : Nat} (h : 21 ≤ c) : (putIn S n).2.1 c = S.1 c := by
  unfold putIn
  split
  · rfl
  · show (putInS S n).1 c = S.1 c
    rw [putInS, sSet_o (by omega), sSet_o (by omega), sSet_o (by omega)]
theorem takeOut_o {S : sC} {n : Int32} {c : Nat} (h : 21 ≤ c) : (takeOut S n).2.1 c = S.1 c := by
  unfold takeOut
  split
  · split
    · rfl
    · show (takeOutS S n).1 c = S.1 c
      rw [takeOutS, sSet_o (by omega), sSet_o (by omega)]
  · rfl
