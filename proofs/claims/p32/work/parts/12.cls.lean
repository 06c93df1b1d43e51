/-! the class's state, read off its 90 cells; the cells lie in the order in which the constructor makes them: 0 DraftCommon, 1 Draft, 2 Words, 3 5 7 9 11 13 its rows (signs, authors, anchors, states, freezers, keepers), 15 the draft's row, 17 its text, 19 its history (codes 20), 22 the writers' array, 23 + 6 w Writer w (own 24 + 6 w, pending 26 + 6 w with codes 27 + 6 w), 59 royalties, 61 Reviews (reviewers 62, sizes 64, pays 66, states 68, urgencies 70, queue 72, rates 74, earnings 76), 78 Issues (days 79, rooms 81, sums 83), 85 Comments (firsts 86, lasts 88); a row's numbers lie right behind it -/
def kdL : List Nat := [8, 2, 6, 5, 100, 5, 100, 5, 100, 5, 100, 5, 100, 5, 100, 5, 100, 5, 100, 0, 5, 100, 101, 7, 5, 100, 0, 5, 100, 7, 5, 100, 0, 5, 100, 7, 5, 100, 0, 5, 100, 7, 5, 100, 0, 5, 100, 7, 5, 100, 0, 5, 100, 7, 5, 100, 0, 5, 100, 5, 100, 4, 5, 100, 5, 100, 5, 100, 5, 100, 5, 100, 5, 100, 5, 100, 5, 100, 3, 5, 100, 5, 100, 5, 100, 1, 5, 100, 5, 100]
def kd (j : Nat) : Nat := kdL.getD j 999
def capL : List Nat := [0, 0, 0, 300, 0, 300, 0, 300, 0, 300, 0, 300, 0, 300, 0, 300, 0, 300, 0, 0, 600, 0, 0, 0, 300, 0, 0, 600, 0, 0, 300, 0, 0, 600, 0, 0, 300, 0, 0, 600, 0, 0, 300, 0, 0, 600, 0, 0, 300, 0, 0, 600, 0, 0, 300, 0, 0, 600, 0, 6, 0, 0, 30, 0, 30, 0, 30, 0, 30, 0, 30, 0, 30, 0, 4, 0, 4, 0, 0, 12, 0, 12, 0, 12, 0, 0, 40, 0, 40, 0]
def cap (j : Nat) : Nat := capL.getD j 0
/-- rows by their places, versions, today -/
abbrev sC : Type := (Nat → List Int32) × Int32 × Int32
def sSet (S : sC) (j : Nat) (x : List Int32) : sC := (fun k => if k = j then x else S.1 k, S.2)
def arrOf (x : List Int32) (g : Nat → Int32) : Nat → Int32 := fun i => x.getD i (g i)
def fC (cI cW : ClassId) (ad : Nat → Nat) (GG : Nat → Nat → Int32) (S : sC) (j : Nat) : va_E :=
  if kd j = 5 then .inr (5, [.ref (ad (j + 1)), .int (nI (S.1 j).length)])
  else if kd j = 100 then .inl (cI, (cap (j - 1), .inl (arrOf (S.1 (j - 1)) (GG j))))
  else if kd j = 8 then .inr (8, [.ref (ad 1), .ref (ad 2), .ref (ad 22), .ref (ad 59), .ref (ad 61), .ref (ad 78), .ref (ad 85), .int S.2.1, .int S.2.2])
  else if kd j = 2 then .inr (2, [.ref (ad (j + 1)), .ref (ad (j + 14)), .ref (ad (j + 16)), .ref (ad (j + 18))])
  else if kd j = 6 then .inr (6, [.ref (ad (j + 1)), .ref (ad (j + 3)), .ref (ad (j + 5)), .ref (ad (j + 7)), .ref (ad (j + 9)), .ref (ad (j + 11))])
  else if kd j = 0 then .inr (0, [.ref (ad (j + 1))])
  else if kd j = 7 then .inr (7, [.ref (ad (j + 1)), .ref (ad (j + 3))])
  else if kd j = 4 then .inr (4, [.ref (ad (j + 1)), .ref (ad (j + 3)), .ref (ad (j + 5)), .ref (ad (j + 7)), .ref (ad (j + 9)), .ref (ad (j + 11)), .ref (ad (j + 13)), .ref (ad (j + 15))])
  else if kd j = 3 then .inr (3, [.ref (ad (j + 1)), .ref (ad (j + 3)), .ref (ad (j + 5))])
  else if kd j = 1 then .inr (1, [.ref (ad (j + 1)), .ref (ad (j + 3))])
  else .inl (cW, (6, .inr (.inr (.inr (.inr fun i => if i < 6 then some (ad (23 + 6 * i)) else none)))))
def wfC (S : sC) : Prop := ∀ j, kd j = 5 → (S.1 j).length ≤ cap j
def PC (cI cW : ClassId) (ad : Nat → Nat) (S : sC) (f : Nat → va_E) : Prop := wfC S ∧ ∃ GG, f = fC cI cW ad GG S
abbrev tyL (cI cW cZ cL : ClassId) : List (ClassId × FieldType) := [(cI, .int), (cW, .object RX7)]
theorem kd_lt {j : Nat} (h : kd j ≠ 999) : j < 90 := by
  by_cases h1 : j < 90
  · exact h1
  · exact absurd (by rw [kd, List.getD_eq_getElem?_getD, List.getElem?_eq_none (show kdL.length ≤ j from Nat.not_lt.mp h1)]; rfl) h
theorem kd5 : ∀ j, j < 90 → kd j = 5 → kd (j + 1) = 100 ∧ j + 1 < 90 := by decide +kernel
theorem kd0 : ∀ j, j < 90 → kd j = 0 → kd (j + 1) = 5 ∧ cap (j + 1) = 600 := by decide +kernel
theorem kd7 : ∀ j, j < 90 → kd j = 7 → kd (j + 1) = 5 ∧ cap (j + 1) = 300 ∧ kd (j + 3) = 0 ∧ kd (j + 4) = 5 := by decide +kernel
theorem kd2 : ∀ j, j < 90 → kd j = 2 → j = 1 := by decide +kernel
theorem kd6 : ∀ j, j < 90 → kd j = 6 → j = 2 := by decide +kernel
theorem kd4 : ∀ j, j < 90 → kd j = 4 → j = 61 := by decide +kernel
theorem kd3 : ∀ j, j < 90 → kd j = 3 → j = 78 := by decide +kernel
theorem kd1 : ∀ j, j < 90 → kd j = 1 → j = 85 := by decide +kernel
theorem kdW : ∀ w, w < 6 → kd (23 + 6 * w) = 7 := by decide +kernel
theorem cap_le : ∀ j, cap j ≤ 600 := fun j => by
  by_cases h : j < 90
  · exact (show ∀ j, j < 90 → cap j ≤ 600 by decide +kernel) j h
  · have : cap j = 0 := by rw [cap, List.getD_eq_getElem?_getD, List.getElem?_eq_none (show capL.length ≤ j from Nat.not_lt.mp h)]; rfl
    omega
section OC
variable {cI cW : ClassId} {ad : Nat → Nat} {S : sC} {j : Nat}
theorem oc8 (hk : kd j = 8) : ∀ f, PC cI cW ad S f → f j = .inr (8, [.ref (ad 1), .ref (ad 2), .ref (ad 22), .ref (ad 59), .ref (ad 61), .ref (ad 78), .ref (ad 85), .int S.2.1, .int S.2.2]) := by
  rintro f ⟨-, GG, rfl⟩
  simp [fC, hk]
theorem or8 (hk : kd j = 8) : ∀ f, PC cI cW ad S f → ∃ fs, f j = .inr (8, fs) := fun f h => ⟨_, oc8 hk f h⟩
theorem kl8 (hk : kd j = 8) : j < 90 := kd_lt (by rw [hk]; decide)
theorem oc2 (hk : kd j = 2) : ∀ f, PC cI cW ad S f → f j = .inr (2, [.ref (ad (j + 1)), .ref (ad (j + 14)), .ref (ad (j + 16)), .ref (ad (j + 18))]) := by
  rintro f ⟨-, GG, rfl⟩
  simp [fC, hk]
theorem or2 (hk : kd j = 2) : ∀ f, PC cI cW ad S f → ∃ fs, f j = .inr (2, fs) := fun f h => ⟨_, oc2 hk f h⟩
theorem kl2 (hk : kd j = 2) : j < 90 := kd_lt (by rw [hk]; decide)
theorem oc6 (hk : kd j = 6) : ∀ f, PC cI cW ad S f → f j = .inr (6, [.ref (ad (j + 1)), .ref (ad (j + 3)), .ref (ad (j + 5)), .ref (ad (j + 7)), .ref (ad (j + 9)), .ref (ad (j + 11))]) := by
  rintro f ⟨-, GG, rfl⟩
  simp [fC, hk]
theorem or6 (hk : kd j = 6) : ∀ f, PC cI cW ad S f → ∃ fs, f j = .inr (6, fs) := fun f h => ⟨_, oc6 hk f h⟩
theorem kl6 (hk : kd j = 6) : j < 90 := kd_lt (by rw [hk]; decide)
theorem oc0 (hk : kd j = 0) : ∀ f, PC cI cW ad S f → f j = .inr (0, [.ref (ad (j + 1))]) := by
  rintro f ⟨-, GG, rfl⟩
  simp [fC, hk]
theorem or0 (hk : kd j = 0) : ∀ f, PC cI cW ad S f → ∃ fs, f j = .inr (0, fs) := fun f h => ⟨_, oc0 hk f h⟩
theorem kl0 (hk : kd j = 0) : j < 90 := kd_lt (by rw [hk]; decide)
theorem oc7 (hk : kd j = 7) : ∀ f, PC cI cW ad S f → f j = .inr (7, [.ref (ad (j + 1)), .ref (ad (j + 3))]) := by
  rintro f ⟨-, GG, rfl⟩
  simp [fC, hk]
theorem or7 (hk : kd j = 7) : ∀ f, PC cI cW ad S f → ∃ fs, f j = .inr (7, fs) := fun f h => ⟨_, oc7 hk f h⟩
theorem kl7 (hk : kd j = 7) : j < 90 := kd_lt (by rw [hk]; decide)
theorem oc4 (hk : kd j = 4) : ∀ f, PC cI cW ad S f → f j = .inr (4, [.ref (ad (j + 1)), .ref (ad (j + 3)), .ref (ad (j + 5)), .ref (ad (j + 7)), .ref (ad (j + 9)), .ref (ad (j + 11)), .ref (ad (j + 13)), .ref (ad (j + 15))]) := by
  rintro f ⟨-, GG, rfl⟩
  simp [fC, hk]
theorem or4 (hk : kd j = 4) : ∀ f, PC cI cW ad S f → ∃ fs, f j = .inr (4, fs) := fun f h => ⟨_, oc4 hk f h⟩
theorem kl4 (hk : kd j = 4) : j < 90 := kd_lt (by rw [hk]; decide)
theorem oc3 (hk : kd j = 3) : ∀ f, PC cI cW ad S f → f j = .inr (3, [.ref (ad (j + 1)), .ref (ad (j + 3)), .ref (ad (j + 5))]) := by
  rintro f ⟨-, GG, rfl⟩
  simp [fC, hk]
theorem or3 (hk : kd j = 3) : ∀ f, PC cI cW ad S f → ∃ fs, f j = .inr (3, fs) := fun f h => ⟨_, oc3 hk f h⟩
theorem kl3 (hk : kd j = 3) : j < 90 := kd_lt (by rw [hk]; decide)
theorem oc1 (hk : kd j = 1) : ∀ f, PC cI cW ad S f → f j = .inr (1, [.ref (ad (j + 1)), .ref (ad (j + 3))]) := by
  rintro f ⟨-, GG, rfl⟩
  simp [fC, hk]
theorem or1 (hk : kd j = 1) : ∀ f, PC cI cW ad S f → ∃ fs, f j = .inr (1, fs) := fun f h => ⟨_, oc1 hk f h⟩
theorem kl1 (hk : kd j = 1) : j < 90 := kd_lt (by rw [hk]; decide)
theorem oc5 (hk : kd j = 5) : ∀ f, PC cI cW ad S f → f j = .inr (5, [.ref (ad (j + 1)), .int (nI (S.1 j).length)]) := by
  rintro f ⟨-, GG, rfl⟩
  simp [fC, hk]
theorem or5 (hk : kd j = 5) : ∀ f, PC cI cW ad S f → ∃ fs, f j = .inr (5, fs) := fun f h => ⟨_, oc5 hk f h⟩
theorem kl5 (hk : kd j = 5) : j < 90 := kd_lt (by rw [hk]; decide)
theorem oc101 : ∀ f, PC cI cW ad S f → f 22 = .inl (cW, (6, .inr (.inr (.inr (.inr fun i => if i < 6 then some (ad (23 + 6 * i)) else none))))) := by
  rintro f ⟨-, GG, rfl⟩
  rfl
theorem oc_wf : ∀ f, PC cI cW ad S f → wfC S := fun f h => h.1
/-- a row and its numbers -/
theorem oc_row (hk : kd j = 5) : ∀ f, PC cI cW ad S f → ∃ g, f j = .inr (5, [.ref (ad (j + 1)), .int (nI (S.1 j).length)]) ∧ f (j + 1) = .inl (cI, (cap j, .inl g)) ∧ (∀ i, i < (S.1 j).length → g i = (S.1 j).getD i 0) ∧ (S.1 j).length ≤ cap j := by
  rintro f ⟨hw, GG, rfl⟩
  have h1 := kd5 j (kl5 hk) hk
  refine ⟨arrOf (S.1 j) (GG (j + 1)), by simp [fC, hk], by simp [fC, h1.1], fun i hi => ?_, hw j hk⟩
  simp [arrOf, hi]
/-- a row changed: what the heap's picture is then -/
theorem oc_upd (hk : kd j = 5) {f f' : Nat → va_E} (h : PC cI cW ad S f) {x : List Int32} {g : Nat → Int32} (hx : x.length ≤ cap j) (hg : ∀ i, i < x.length → g i = x.getD i 0) (h1 : f' j = .inr (5, [.ref (ad (j + 1)), .int (nI x.length)])) (h2 : f' (j + 1) = .inl (cI, (cap j, .inl g))) (h3 : ∀ k, k ≠ j → k ≠ j + 1 → f' k = f k) : PC cI cW ad (sSet S j x) f' := by
  obtain ⟨hw, GG, rfl⟩ := h
  have hj := kd5 j (kl5 hk) hk
  refine ⟨fun k hk' => ?_, fun k => if k = j + 1 then g else GG k, funext fun k => ?_⟩
  · by_cases e : k = j
    · subst e; simpa [sSet] using hx
    · simpa [sSet, e] using hw k hk'
  · by_cases e : k = j
    · subst e; rw [h1]; simp [fC, hk, sSet]
    · by_cases e2 : k = j + 1
      · subst e2
        rw [h2]
        simp only [fC, hj.1]
        have : arrOf x g = g := funext fun i => by
          by_cases hi : i < x.length
          · rw [arrOf, hg i hi]; simp [hi]
          · simp [arrOf, hi]
        simp [sSet, this]
      · rw [h3 k e e2]
        by_cases e3 : kd k = 100
        · have e4 : k - 1 ≠ j := by
            intro e5
            have : k ≠ 0 := by rintro rfl; simp [kd, kdL] at e3
            omega
          simp [fC, e3, sSet, e4, e2]
        · by_cases e4 : kd k = 5
          · simp [fC, e4, sSet, e]
          · simp only [fC, e3, e4, if_false, sSet]
end OC
/-! what the rows answer, as lists -/
def rHas (x : List Int32) (i : Int32) : Bool := decide (¬ i < 0) && decide (i.toNatClampNeg < x.length)
def rAt (x : List Int32) (i : Int32) : Int32 := if rHas x i then x.getD i.toNatClampNeg 0 else -1
def rSet (x : List Int32) (i v : Int32) : List Int32 := if rHas x i then x.set i.toNatClampNeg v else x
def rIns (x : List Int32) (c : Nat) (i v : Int32) : List Int32 := if ¬ i < 0 ∧ i.toNatClampNeg ≤ x.length ∧ x.length < c then x.take i.toNatClampNeg ++ v :: x.drop i.toNatClampNeg else x
def rAdd (x : List Int32) (c : Nat) (v : Int32) : List Int32 := if x.length < c then x ++ [v] else x
def rRem (x : List Int32) (i : Int32) : List Int32 := if rHas x i then x.eraseIdx i.toNatClampNeg else x
def rIdxF (x : List Int32) (v : Int32) : Nat → Nat → Int32
  | 0, _ => -1
  | n + 1, i => if i < x.length then (if x.getD i 0 = v then nI i else rIdxF x v n (i + 1)) else -1
def rIdx (x : List Int32) (v : Int32) : Int32 := rIdxF x v (x.length + 1) 0
def bI (b : Bool) : Int32 := if b then 1 else 0
theorem bI_0 {b : Bool} : bI b = 0 ↔ b = false := by cases b <;> simp [bI]
theorem bI_n {b : Bool} : narrow .boolean (.int (bI b)) = .int (bI b) := by cases b <;> rfl
theorem nI_cl {n : Nat} (h : n < 2 ^ 31) : (nI n).toNatClampNeg = n := nI_clamp h
theorem i_nonneg {i : Int32} (h : ¬ i < 0) : ∃ n : Nat, n < 2 ^ 31 ∧ i = nI n := nI_of h
theorem rHas_n {x : List Int32} {n : Nat} (h : n < 2 ^ 31) : rHas x (nI n) = decide (n < x.length) := by
  simp [rHas, nI_pos h, nI_clamp h]
theorem bI_1 {b : Bool} (h : ¬ bI b = 0) : b = true := by cases b <;> simp_all [bI]
theorem rHas_t {x : List Int32} {i : Int32} (h : rHas x i = true) : ¬ i < 0 ∧ i.toNatClampNeg < x.length := by
  unfold rHas at h
  rw [Bool.and_eq_true] at h
  exact ⟨of_decide_eq_true h.1, of_decide_eq_true h.2⟩
theorem ud_eq {f : Nat → va_E} {j : Nat} {e : va_E} : ud f j e j = e := by simp [ud]
theorem ud_ne {f : Nat → va_E} {i j : Nat} {e : va_E} (h : i ≠ j) : ud f j e i = f i := by simp [ud, h]
theorem sSet_self {S : sC} {j : Nat} : sSet S j (S.1 j) = S := by
  obtain ⟨a, b⟩ := S
  simp only [sSet]
  congr 1
  funext k
  by_cases h : k = j <;> simp [h]
theorem sSet_twice {S : sC} {j : Nat} {x y : List Int32} : sSet (sSet S j x) j y = sSet S j y := by
  simp only [sSet]
  congr 1
  funext k
  by_cases h : k = j <;> simp [h]
theorem sSet_1 {S : sC} {j : Nat} {x : List Int32} : (sSet S j x).1 j = x := by simp [sSet]
theorem sSet_o {S : sC} {j k : Nat} {x : List Int32} (h : k ≠ j) : (sSet S j x).1 k = S.1 k := by simp [sSet, h]
theorem rIns_add {x : List Int32} {c : Nat} {v : Int32} (h : x.length < 2 ^ 31) : rIns x c (nI x.length) v = rAdd x c v := by
  simp [rIns, rAdd, nI_pos h, nI_clamp h]
theorem rAt_n {x : List Int32} {n : Nat} (h : n < 2 ^ 31) : rAt x (nI n) = x.getD n (-1) := by
  by_cases h1 : n < x.length
  · simp [rAt, rHas_n h, h1, nI_clamp h]
  · simp [rAt, rHas_n h, h1]
theorem rAt_lt {x : List Int32} {n : Nat} (hn : n < 2 ^ 31) (h : n < x.length) : rAt x (nI n) = x.getD n 0 := by
  simp [rAt, rHas_n hn, h, nI_clamp hn]
theorem ins_getD {x : List Int32} {n : Nat} (v : Int32) (hn : n ≤ x.length) (k : Nat) : (x.take n ++ v :: x.drop n).getD k 0 = if k < n then x.getD k 0 else if k = n then v else x.getD (k - 1) 0 := by
  simp only [List.getD_eq_getElem?_getD, List.getElem?_append, List.length_take, Nat.min_eq_left hn, List.getElem?_take, List.getElem?_cons, List.getElem?_drop]
  by_cases h1 : k < n
  · simp [h1]
  · by_cases h2 : k = n
    · simp [h2]
    · have h3 : ¬ k - n = 0 := by omega
      have h4 : n + (k - n - 1) = k - 1 := by omega
      simp [h1, h2, h3, h4]
theorem vp_in_has {x : List Int32} {i : Int32} {c : Nat} (h : rHas x i = true) (hc : x.length ≤ c) : vp_in i c := by
  obtain ⟨h1, h2⟩ := rHas_t h
  rintro (h3 | h3)
  · exact h1 h3
  · omega
