/-! the relation between the class's state and the reference's -/
def stT (T : sM) (n : Nat) : Int32 := if T.2 5 n = 1 then 1 else if T.2 4 n = 1 then 2 else 0
def isT (T : sM) (x : Int32) : Bool := !decide (T.2 5 (tn x) = 0)
def txT (T : sM) : List Int32 := (tab (T.1 8) (T.2 7)).filter (isT T)
def bits (g : Nat → Int32) (n : Nat) : Nat → Int32
  | 0 => 0
  | v + 1 => if g (300 * v + n) = 0 then bits g n v else bits g n v ||| (1 : Int32) <<< (nI v &&& 31)
def cIn (g4 : Nat → Int32) : Nat → Nat
  | 0 => 0
  | n + 1 => cIn g4 n + if g4 n = 1 then 1 else 0
def cDl (g4 g5 : Nat → Int32) : Nat → Nat
  | 0 => 0
  | n + 1 => cDl g4 g5 n + if g4 n = 1 ∧ g5 n = 0 then 1 else 0
def cFz (g : Nat → Int32) (r : Int32) : Nat → Nat
  | 0 => 0
  | n + 1 => cFz g r n + if g n = r then 1 else 0
/-- the words of the row that are there, of a writer -/
def rwB (g2 g5 g7 : Nat → Int32) (w : Int32) : Nat → Nat
  | 0 => 0
  | k + 1 => rwB g2 g5 g7 w k + if ¬ g5 (tn (g7 k)) = 0 ∧ g2 (tn (g7 k)) = w then 1 else 0
def shG (g2 g5 : Nat → Int32) (w : Int32) : Nat → Nat
  | 0 => 0
  | n + 1 => shG g2 g5 w n + if ¬ g5 n = 0 ∧ g2 n = w then 1 else 0
theorem mShr_G (T : sM) (w : Int32) : ∀ n, mShr T w n = shG (T.2 2) (T.2 5) w n := by
  intro n
  induction n with
  | zero => rfl
  | succ n ih =>
    rw [mShr, shG, ih]
    by_cases h5 : T.2 5 n = 0
    · rw [if_pos h5, if_neg (fun h => h.1 h5)]; rfl
    · rw [if_neg h5]
      by_cases h2 : T.2 2 n = w
      · rw [if_pos h2, if_pos ⟨h5, h2⟩]
      · rw [if_neg h2, if_neg (fun h => h2 h.2)]; rfl
/-- a code of a change, as the class has it -/
def cdT (c : Int32) : Int32 := if c ≤ 0 then nI 300 + (-c - nI 1) else c - nI 1
/-- a list of codes: typed less deleted, of a writer -/
def hsm (wr : Nat → Int32) (w : Int32) : List Int32 → Int32
  | [] => 0
  | c :: x => hsm wr w x + if c < 300 then (if wr (tn c) = w then 1 else 0) else (if wr (tn (c - 300)) = w then -1 else 0)
def J1 (T : sM) : Prop := (∀ n, T.2 5 n = 0 ∨ T.2 5 n = 1) ∧ (∀ n, T.2 4 n = 0 ∨ T.2 4 n = 1) ∧ (∀ n, T.2 5 n = 1 → T.2 4 n = 1) ∧ (∀ n, T.1 1 ≤ n → T.2 4 n = 0)
def J2 (T : sM) : Prop := (∀ i j, i < T.1 8 → j < T.1 8 → T.2 7 i = T.2 7 j → i = j) ∧ (∀ i, i < T.1 8 → T.2 4 (tn (T.2 7 i)) = 1) ∧ (∀ n, n < T.1 1 → T.2 4 n = 1 → ∃ i, i < T.1 8 ∧ T.2 7 i = nI n) ∧ T.1 8 = cIn (T.2 4) (T.1 1) ∧ ∀ w, rwB (T.2 2) (T.2 5) (T.2 7) w (T.1 8) = shG (T.2 2) (T.2 5) w (T.1 1)
def opnR (T : sM) (r : Nat) : Prop := T.2 16 r = 0 ∨ T.2 16 r = 1
def J3 (T : sM) : Prop := (∀ n, n < T.1 1 → T.2 6 n = -1 ∨ ∃ r, r < T.1 17 ∧ T.2 6 n = nI r ∧ opnR T r) ∧ (∀ r, r < T.1 17 → opnR T r → T.2 17 r = nI (cFz (T.2 6) (nI r) (T.1 1)))
def J4 (k : Nat) (T : sM) : Prop := T.1 24 ≤ k ∧ (∀ r, r < T.1 17 → T.2 16 r = 1 → ∃ f, f < T.1 24 ∧ T.2 20 r = nI f) ∧ ∀ r q, r < T.1 17 → q < T.1 17 → T.2 16 r = 1 → T.2 16 q = 1 → T.2 20 r = T.2 20 q → r = q
def J5 (T : sM) : Prop := (∀ i, i < T.1 25 → ∃ d, d ≤ 1000 ∧ T.2 21 i = nI d) ∧ (∀ i j, i < T.1 25 → j < T.1 25 → T.2 21 i = T.2 21 j → i = j) ∧ ∀ i, i < T.1 25 → ∃ z, z ≤ 200 ∧ T.2 22 i = nI z
def J6 (T : sM) : Prop := ∀ c, c < T.1 30 → ∃ p q, p ≤ q ∧ q < T.1 8 ∧ T.2 7 p = T.2 24 c ∧ T.2 7 q = T.2 25 c
def J7 (T : sM) : Prop := ∀ w, w < 6 → tn (T.2 8 w) ≤ T.1 1 ∧ ∀ i, i < tn (T.2 8 w) → ∃ n, n < T.1 1 ∧ T.2 9 (300 * w + i) = nI n
def J8 (k : Nat) (T : sM) : Prop := ∀ w, w < 6 → tn (T.2 10 w) ≤ k ∧ (∀ i, i < tn (T.2 10 w) → (∃ n, n < T.1 1 ∧ T.2 11 (700 * w + i) = nI (n + 1) ∧ T.2 4 n = 0 ∧ T.2 2 n = nI w) ∨ ∃ n, n < T.1 1 ∧ T.2 11 (700 * w + i) = -(nI n) - nI 1) ∧ ∀ i j, i < j → j < tn (T.2 10 w) → T.2 11 (700 * w + i) = T.2 11 (700 * w + j) → T.2 11 (700 * w + j) ≤ 0
def J9 (T : sM) : Prop := ∀ v, v < T.1 33 → ∀ n, n < 300 → T.1 1 ≤ n → T.2 26 (300 * v + n) = 0
def JM (k : Nat) (T : sM) : Prop := IM T ∧ J1 T ∧ J2 T ∧ J3 T ∧ J4 k T ∧ J5 T ∧ J6 T ∧ J7 T ∧ J8 k T ∧ J9 T
def RA1 (S : sC) (T : sM) : Prop := S.1 3 = tab (T.1 1) (T.2 1) ∧ S.1 5 = tab (T.1 1) (T.2 2) ∧ S.1 7 = tab (T.1 1) (T.2 3) ∧ S.1 9 = tab (T.1 1) (stT T) ∧ S.1 11 = tab (T.1 1) (T.2 6) ∧ S.1 13 = tab (T.1 1) (fun n => bits (T.2 26) n (T.1 33)) ∧ S.1 15 = tab (T.1 8) (T.2 7) ∧ S.1 17 = txT T
def RA2 (S : sC) (T : sM) : Prop := (S.1 20).length = cIn (T.2 4) (T.1 1) + cDl (T.2 4) (T.2 5) (T.1 1) ∧ (∀ c ∈ S.1 20, ∃ n, n < T.1 1 ∧ (c = nI n ∨ c = nI (300 + n))) ∧ ∀ w, hsm (T.2 2) w (S.1 20) = nI (shG (T.2 2) (T.2 5) w (T.1 1))
def RA3 (S : sC) (T : sM) : Prop := ∀ w, w < 6 → S.1 (24 + 6 * w) = tab (tn (T.2 8 w)) (fun i => T.2 9 (300 * w + i)) ∧ S.1 (27 + 6 * w) = tab (tn (T.2 10 w)) (fun i => cdT (T.2 11 (700 * w + i)))
def RA4 (S : sC) (T : sM) : Prop := S.1 59 = tab 6 (T.2 12) ∧ S.1 62 = tab (T.1 17) (T.2 15) ∧ S.1 64 = tab (T.1 17) (T.2 17) ∧ S.1 66 = tab (T.1 17) (T.2 18) ∧ S.1 68 = tab (T.1 17) (T.2 16) ∧ S.1 74 = tab 4 (T.2 13) ∧ S.1 76 = tab 4 (T.2 14)
def RA5 (S : sC) (T : sM) : Prop := (S.1 70).length = T.1 17 ∧ (∀ r, r < T.1 17 → T.2 16 r = 1 → (S.1 70).getD r 0 = T.2 19 r) ∧ (S.1 72).Nodup ∧ (∀ x, x ∈ S.1 72 ↔ ∃ r, r < T.1 17 ∧ x = nI r ∧ T.2 16 r = 1) ∧ (S.1 72).Pairwise (fun a b => ahdG (T.2 19) (T.2 20) (tn a) (tn b) = true)
def RA6 (S : sC) (T : sM) : Prop := S.1 79 = tab (T.1 25) (T.2 21) ∧ S.1 81 = tab (T.1 25) (T.2 22) ∧ S.1 83 = tab (T.1 25) (T.2 23) ∧ S.1 86 = tab (T.1 30) (T.2 24) ∧ S.1 88 = tab (T.1 30) (T.2 25) ∧ S.2.1 = nI (T.1 33) ∧ S.2.2 = nI (T.1 29)
def Rl (k : Nat) (S : sC) (T : sM) : Prop := JM k T ∧ RA1 S T ∧ RA2 S T ∧ RA3 S T ∧ RA4 S T ∧ RA5 S T ∧ RA6 S T
theorem J4.le {k m : Nat} {T : sM} (h : J4 k T) (hm : k ≤ m) : J4 m T := ⟨Nat.le_trans h.1 hm, h.2⟩
theorem J8.le {k m : Nat} {T : sM} (h : J8 k T) (hm : k ≤ m) : J8 m T := fun w hw => ⟨Nat.le_trans (h w hw).1 hm, (h w hw).2⟩
theorem JM.le {k m : Nat} {T : sM} (h : JM k T) (hm : k ≤ m) : JM m T := by
  obtain ⟨h0, h1, h2, h3, h4, h5, h6, h7, h8, h9⟩ := h
  exact ⟨h0, h1, h2, h3, h4.le hm, h5, h6, h7, h8.le hm, h9⟩
theorem Rl.le {k m : Nat} {S : sC} {T : sM} (h : Rl k S T) (hm : k ≤ m) : Rl m S T := ⟨h.1.le hm, h.2⟩
/-- the thrown number is no part of it -/
theorem Rl_0 {k : Nat} {S : sC} {T : sM} (h : Rl k S T) (v : Nat) : Rl (k + 1) S (sS T 0 v) := by
  have h1 := h.le (Nat.le_succ k)
  exact h1
