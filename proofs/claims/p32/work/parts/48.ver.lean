/-! the relation kept: versions -/
theorem or_and (x y w : Int32) : (x ||| y) &&& w = (x &&& w) ||| (y &&& w) := by
  rw [← Int32.toBitVec_inj]
  show (x.toBitVec ||| y.toBitVec) &&& w.toBitVec = (x.toBitVec &&& w.toBitVec) ||| (y.toBitVec &&& w.toBitVec)
  apply BitVec.eq_of_getLsbD_eq
  intro i hi
  simp [Bool.and_or_distrib_right]
theorem or_z (x y : Int32) : x ||| y = 0 ↔ x = 0 ∧ y = 0 := by
  rw [← Int32.toBitVec_inj, ← Int32.toBitVec_inj, ← Int32.toBitVec_inj]
  show x.toBitVec ||| y.toBitVec = 0#32 ↔ x.toBitVec = 0#32 ∧ y.toBitVec = 0#32
  exact BitVec.or_eq_zero_iff
theorem bt_z : ∀ u, u < 20 → ∀ v, v < 20 → ((1 : Int32) <<< (nI v &&& 31) &&& (1 : Int32) <<< (nI u &&& 31) = 0 ↔ v ≠ u) := by decide +kernel
theorem bits_t (g : Nat → Int32) (n u : Nat) (hu : u < 20) : ∀ V, V ≤ 20 → (bits g n V &&& (1 : Int32) <<< (nI u &&& 31) = 0 ↔ ¬ (u < V ∧ ¬ g (300 * u + n) = 0)) := by
  intro V
  induction V with
  | zero =>
    intro _
    constructor
    · intro _ h; omega
    · intro _; show (0 : Int32) &&& _ = 0; rw [← Int32.toBitVec_inj]; show 0#32 &&& _ = 0#32; simp
  | succ V ih =>
    intro hV
    have h1 := ih (by omega)
    rw [bits]
    by_cases h : g (300 * V + n) = 0
    · rw [if_pos h, h1]
      constructor
      · rintro h2 ⟨h3, h4⟩
        by_cases e : u = V
        · subst e; exact h4 h
        · exact h2 ⟨by omega, h4⟩
      · rintro h2 ⟨h3, h4⟩; exact h2 ⟨by omega, h4⟩
    · rw [if_neg h, or_and, or_z, h1, bt_z u hu V (by omega)]
      constructor
      · rintro ⟨h2, h3⟩ ⟨h4, h5⟩
        exact h2 ⟨by omega, h5⟩
      · intro h2
        refine ⟨fun h3 => h2 ⟨by omega, h3.2⟩, fun e => ?_⟩
        subst e
        exact h2 ⟨by omega, h⟩
theorem wKept_n {k : Nat} {S : sC} {T : sM} (h : Rl k S T) {n u : Nat} (hn : n < T.1 1) (hu : u < T.1 33) : wKept S (nI n) (nI u) = !decide (T.2 26 (300 * u + n) = 0) := by
  have hW := h.1.1.1
  have hK := h.1.1.2.2.2.2.2.1
  have h1 := bits_t (T.2 26) n u (by omega) (T.1 33) hK
  rw [wKept, h.2.1.2.2.2.2.2.1, rAt_tab _ (by omega) hn]
  by_cases h2 : T.2 26 (300 * u + n) = 0
  · rw [decide_eq_true h2, decide_eq_true (h1.mpr fun h3 => h3.2 h2)]
  · rw [decide_eq_false h2, decide_eq_false (fun h3 => h1.mp h3 ⟨hu, h2⟩)]
theorem onlyF_m {k0 : Nat} {S : sC} {T : sM} (h : Rl k0 S T) {a b : Nat} (ha : a < T.1 33) (hb : b < T.1 33) : ∀ fu n k, T.1 1 < n + fu → n ≤ T.1 1 → onlyF S (nI a) (nI b) fu n k + mOnl T a b n = k + mOnl T a b (T.1 1) := by
  have h3 : (S.1 3).length = T.1 1 := by rw [h.2.1.1, tab_len]
  intro fu
  induction fu with
  | zero => intro n k h1 h2; omega
  | succ fu ih =>
    intro n k h1 h2
    rw [onlyF, h3]
    by_cases hn : n < T.1 1
    · rw [if_pos hn, wKept_n h hn ha, wKept_n h hn hb]
      have e : mOnl T a b (n + 1) = mOnl T a b n + if ¬ T.2 26 (300 * a + n) = 0 ∧ T.2 26 (300 * b + n) = 0 then 1 else 0 := rfl
      by_cases c1 : T.2 26 (300 * a + n) = 0
      · rw [if_neg (fun hh => hh.1 c1)] at e
        rw [decide_eq_true c1]
        have := ih (n + 1) k (by omega) (by omega)
        show (if (false && _) = true then _ else _) + _ = _
        rw [Bool.false_and, if_neg Bool.false_ne_true]
        omega
      · by_cases c2 : T.2 26 (300 * b + n) = 0
        · rw [if_pos ⟨c1, c2⟩] at e
          rw [decide_eq_false c1, decide_eq_true c2]
          have := ih (n + 1) (k + 1) (by omega) (by omega)
          show (if (true && true) = true then _ else _) + _ = _
          rw [Bool.and_self, if_pos rfl]
          omega
        · rw [if_neg (fun hh => c2 hh.2)] at e
          rw [decide_eq_false c1, decide_eq_false c2]
          have := ih (n + 1) k (by omega) (by omega)
          show (if (true && false) = true then _ else _) + _ = _
          rw [Bool.and_false, if_neg Bool.false_ne_true]
          omega
    · rw [if_neg hn]
      obtain rfl : n = T.1 1 := by omega
      rfl
theorem mOnl_W {k0 : Nat} {T : sM} (h : JM k0 T) {a b : Nat} (ha : a < T.1 33) : ∀ n, T.1 1 ≤ n → n ≤ 300 → mOnl T a b n = mOnl T a b (T.1 1) := by
  intro n
  induction n with
  | zero => intro h1 _; have : T.1 1 = 0 := by omega
            rw [this]
  | succ n ih =>
    intro h1 h2
    by_cases e : T.1 1 = n + 1
    · rw [e]
    · rw [mOnl, if_neg, Nat.add_zero]
      · exact ih (by omega) (by omega)
      · intro hh
        exact hh.1 (h.2.2.2.2.2.2.2.2.2 a ha n (by omega) (by omega))
theorem keptOnly_m {k0 : Nat} {S : sC} {T : sM} (h : Rl k0 S T) {a b : Nat} (ha : a < T.1 33) (hb : b < T.1 33) : keptOnly S (nI a) (nI b) = mOnl T a b 300 := by
  have h3 : (S.1 3).length = T.1 1 := by rw [h.2.1.1, tab_len]
  have h1 := onlyF_m h ha hb ((S.1 3).length + 1) 0 0 (by omega) (Nat.zero_le _)
  rw [keptOnly, mOnl_W h.1 ha 300 h.1.1.1 (Nat.le_refl _)]
  have e : mOnl T a b 0 = 0 := rfl
  omega
theorem opK_compare_ok : opK_compare Rl := fun k S T a b _ h => by
  have hI := h.1.1
  have hK := hI.2.2.2.2.2.1
  have a6 := h.2.2.2.2.2.2
  have e0 : ∀ x, tIx x S.2.1 = if inB x 0 (nI (T.1 33) - 1) = true then 0 else 1 := fun x => by rw [a6.2.2.2.2.2.1, ix_in (by omega)]
  have e : mtCmp T a b = cd [1] (tCompare S a b) := by
    rw [tCompare, e0, e0, mtCmp, show nI (T.1 33) - nI 1 = nI (T.1 33) - 1 from rfl]
    by_cases h1 : inB a 0 (nI (T.1 33) - 1) = true
    · rw [if_pos h1, tor_0, cd1]
      by_cases h2 : inB b 0 (nI (T.1 33) - 1) = true
      · rw [if_pos h2, if_pos ⟨h1, h2⟩]
      · rw [if_neg h2, if_neg (fun hh => h2 hh.2)]
    · rw [if_neg h1, if_neg (fun hh => h1 hh.1)]; rfl
  refine ⟨hI, opq h e fun h0 => ?_⟩
  rw [tCompare, e0, e0] at h0
  obtain ⟨c1, c2⟩ := tor_0' h0
  split at c1
  · rename_i h1
    split at c2
    · rename_i h2
      obtain ⟨ea, la⟩ := ix_n (by omega) h1
      obtain ⟨eb, lb⟩ := ix_n (by omega) h2
      rw [show keptOnly S b a = mOnl T (tn b) (tn a) 300 by rw [← keptOnly_m h lb la, ← ea, ← eb], show keptOnly S a b = mOnl T (tn a) (tn b) 300 by rw [← keptOnly_m h la lb, ← ea, ← eb], show (1000 : Int32) = nI 1000 from rfl, pk_mul, nI_add]
    · cases c2
  · cases c1
