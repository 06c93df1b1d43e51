/-! the relation kept: order -/
theorem mFr_iff (T : sM) (a : Nat) : ∀ m, mFr T a m = true ↔ ∀ i, i < m → T.2 6 (tn (mTxt T (nI (a + i)))) = -1 := by
  intro m
  induction m with
  | zero => exact ⟨fun _ i hi => absurd hi (Nat.not_lt_zero i), fun _ => rfl⟩
  | succ m ih =>
    rw [mFr, Bool.and_eq_true, ih, decide_eq_true_eq]
    constructor
    · rintro ⟨h1, h2⟩ i hi
      by_cases e : i = m
      · subst e; exact h2
      · exact h1 i (by omega)
    · intro h1
      exact ⟨fun i hi => h1 i (by omega), h1 m (by omega)⟩
theorem tx_n {k : Nat} {T : sM} (h : JM k T) {n : Nat} (hn : n < (txT T).length) : ∃ m, m < T.1 1 ∧ rAt (txT T) (nI n) = nI m ∧ mTxt T (nI n) = nI m := by
  obtain ⟨m, h1, h2, -⟩ := tx_in h hn
  exact ⟨m, h1, h2, by rw [mTxt_rAt]; exact h2⟩
theorem tx_le {k : Nat} {T : sM} (h : JM k T) : (txT T).length ≤ 300 := by
  have h1 := txT_len T
  have h2 := mCnt_le T (T.1 8)
  have h3 := h.1.2.1
  omega
theorem tx_inj {k : Nat} {T : sM} (h : JM k T) {i j : Nat} (hi : i < (txT T).length) (hj : j < (txT T).length) (e : mTxt T (nI i) = mTxt T (nI j)) : i = j := by
  have hL := tx_le h
  have hW := h.1.1
  obtain ⟨m, h1, -, h2⟩ := tx_n h hi
  have n1 : ¬ mTxt T (nI i) = -1 := by rw [h2]; exact nI_m1ne (by omega)
  have n2 : ¬ mTxt T (nI j) = -1 := by rw [← e]; exact n1
  obtain ⟨p, hp, ep, np, -⟩ := mTxt_pos n1
  obtain ⟨q, hq, eq, nq, -⟩ := mTxt_pos n2
  have hpq : p = q := h.2.2.1.1 p q hp hq (by rw [ep, eq, e])
  rw [hpq, nq, tn_n (by omega), tn_n (by omega)] at np
  exact np.symm
theorem hasFF_iff {k : Nat} {S : sC} {T : sM} (h : Rl k S T) {B : Nat} (hB : B < (txT T).length) : ∀ fu n, B + 1 ≤ n + fu → (hasFF S (nI B) fu n = true ↔ ∃ i, n ≤ i ∧ i ≤ B ∧ ¬ T.2 6 (tn (mTxt T (nI i))) = -1) := by
  have hL := tx_le h.1
  have hW := h.1.1.1
  have h17 := h.2.1.2.2.2.2.2.2.2
  intro fu
  induction fu with
  | zero =>
    intro n h1
    constructor
    · intro h2; cases h2
    · rintro ⟨i, h2, h3, -⟩; omega
  | succ fu ih =>
    intro n h1
    rw [hasFF, h17]
    by_cases hn : n ≤ B
    · obtain ⟨m, m1, m2, m3⟩ := tx_n h.1 (show n < (txT T).length by omega)
      have hf : wFroz S (nI m) = !decide (T.2 6 m = -1) := by rw [wFroz, h.2.1.2.2.2.2.1, rAt_tab _ (by omega) m1]
      rw [if_pos ⟨fun h2 => by have := (nI_ltI (by omega) (by omega)).mp h2; omega, by omega⟩, m2, hf]
      by_cases hz : T.2 6 m = -1
      · rw [decide_eq_true hz, Bool.not_true, if_neg Bool.false_ne_true, ih (n + 1) (by omega)]
        constructor
        · rintro ⟨i, h2, h3, h4⟩; exact ⟨i, by omega, h3, h4⟩
        · rintro ⟨i, h2, h3, h4⟩
          refine ⟨i, ?_, h3, h4⟩
          by_cases e : i = n
          · subst e; rw [m3, tn_n (by omega)] at h4; exact absurd hz h4
          · omega
      · rw [decide_eq_false hz, Bool.not_false, if_pos rfl]
        exact ⟨fun _ => ⟨n, Nat.le_refl n, hn, by rw [m3, tn_n (by omega)]; exact hz⟩, fun _ => rfl⟩
    · rw [if_neg (fun h2 => h2.1 ((nI_ltI (by omega) (by omega)).mpr (by omega)))]
      constructor
      · intro h2; cases h2
      · rintro ⟨i, h2, h3, -⟩; omega
theorem od_cd {k : Nat} {S : sC} {T : sM} (h : Rl k S T) (r a b : Int32) : mtOrd T r a b = cd [1, 2, 3] (tOrder S r a b) := by
  have hI := h.1.1
  have hV := hI.2.2.1
  have a4 := h.2.2.2.2.1
  have hL8 := hI.2.1
  have hL := tx_le h.1
  have h17 := h.2.1.2.2.2.2.2.2.2
  have hlen : (S.1 62).length = T.1 17 := by rw [a4.2.1, tab_len]
  have e2 : ((30 : Int32) ≤ nI (S.1 62).length) ↔ 30 ≤ T.1 17 := by
    rw [hlen, show (30 : Int32) = nI 30 from rfl, nI_leI (by decide) (by omega)]
  have ta : tText S a = if mTxt T a = -1 then 1 else 0 := by rw [tText, h17, tx_cd h.1]
  have tb : tText S b = if mTxt T b = -1 then 1 else 0 := by rw [tText, h17, tx_cd h.1]
  rw [tOrder, ixR, tSpan, ta, tb, mtOrd]
  by_cases h1 : inB r 0 3 = true
  · rw [if_pos h1, tor_0]
    by_cases h2 : mTxt T a = -1
    · rw [if_pos h2, if_neg (fun hh => hh.2.1 h2)]; rfl
    · rw [if_neg h2, tor_0]
      by_cases h3 : mTxt T b = -1
      · rw [if_pos h3, if_neg (fun hh => hh.2.2 h3)]; rfl
      · rw [if_neg h3, tor_0, if_pos ⟨h1, h2, h3⟩]
        obtain ⟨ea, la⟩ := mTxt_lt h2
        obtain ⟨eb, lb⟩ := mTxt_lt h3
        have l1 := txT_len T
        have hab : b < a ↔ tn b < tn a := by
          conv => lhs; rw [ea, eb]
          exact nI_ltI (by omega) (by omega)
        by_cases h4 : tn b < tn a
        · rw [if_pos h4, decide_eq_true (hab.mpr h4)]; rfl
        · rw [if_neg h4, decide_eq_false (fun hh => h4 (hab.mp hh))]
          show _ = cd [1, 2, 3] (tor (tB3 (!hasFrz S (tn a) b)) (tB3 (!decide ((30 : Int32) ≤ nI (S.1 62).length))))
          have hx : tIx b (nI (txT T).length) = 0 := by rw [tx_cd h.1, if_neg h3]
          have hBl : tn b < (txT T).length := (tIx_n (by omega) hx).1
          have hf : hasFrz S (tn a) b = !mFr T (tn a) (tn b + 1 - tn a) := by
            have h5 := hasFF_iff h hBl ((txT T).length + 1) (tn a) (by omega)
            rw [← eb] at h5
            have h6 : hasFrz S (tn a) b = hasFF S b ((txT T).length + 1) (tn a) := by rw [hasFrz, h17]
            have h7 := mFr_iff T (tn a) (tn b + 1 - tn a)
            rw [h6]
            by_cases h8 : mFr T (tn a) (tn b + 1 - tn a) = true
            · rw [h8]
              refine Bool.eq_false_iff.mpr fun h9 => ?_
              obtain ⟨i, i1, i2, i3⟩ := h5.mp h9
              have := h7.mp h8 (i - tn a) (by omega)
              rw [show tn a + (i - tn a) = i by omega] at this
              exact i3 this
            · rw [Bool.eq_false_iff.mpr h8]
              refine h5.mpr ?_
              refine Classical.byContradiction fun h9 => h8 (h7.mpr fun i hi => ?_)
              exact Classical.byContradiction fun h10 => h9 ⟨tn a + i, by omega, by omega, h10⟩
          rw [hf, Bool.not_not]
          by_cases h8 : mFr T (tn a) (tn b + 1 - tn a) = true
          · rw [h8, if_pos rfl]
            by_cases h9 : 30 ≤ T.1 17
            · rw [if_pos h9, decide_eq_true (e2.mpr h9)]; rfl
            · rw [if_neg h9, decide_eq_false (fun hh => h9 (e2.mp hh))]; rfl
          · rw [Bool.eq_false_iff.mpr h8, if_neg Bool.false_ne_true, ite_self]; rfl
  · rw [if_neg h1, if_neg (fun hh => h1 hh.1)]; rfl
theorem od_0 {k : Nat} {S : sC} {T : sM} (h : Rl k S T) {r a b : Int32} (h0 : mtOrd T r a b = 0) : r = nI (tn r) ∧ tn r < 4 ∧ a = nI (tn a) ∧ b = nI (tn b) ∧ tn a ≤ tn b ∧ tn b < (txT T).length ∧ T.1 17 < 30 ∧ mFr T (tn a) (tn b + 1 - tn a) = true := by
  have hL := tx_le h.1
  rw [mtOrd] at h0
  split at h0
  · rename_i h1
    split at h0
    · cases h0
    · rename_i h2
      split at h0
      · cases h0
      · rename_i h3
        split at h0
        · rename_i h4
          obtain ⟨a1, a2⟩ := inB_n (b := 3) (by decide) h1.1
          obtain ⟨ea, la⟩ := mTxt_lt h1.2.1
          obtain ⟨eb, lb⟩ := mTxt_lt h1.2.2
          have hx : tIx b (nI (txT T).length) = 0 := by rw [tx_cd h.1, if_neg h1.2.2]
          exact ⟨a1, by omega, ea, eb, by omega, (tIx_n (by omega) hx).1, by omega, h4⟩
        · cases h0
  · cases h0
theorem cFz_upd {g : Nat → Int32} {x : Nat} {v q : Int32} (hg : g x = -1) (hq : q ≠ -1) : ∀ n, cFz (upd g x v) q n = cFz g q n + if x < n ∧ v = q then 1 else 0 := by
  intro n
  induction n with
  | zero => rw [if_neg (fun hh => Nat.not_lt_zero _ hh.1)]; rfl
  | succ n ih =>
    rw [cFz, cFz, ih]
    by_cases e : n = x
    · subst e
      rw [upd_at, if_neg (fun hh => Nat.lt_irrefl _ hh.1), hg, if_neg (Ne.symm hq)]
      by_cases e2 : v = q
      · rw [if_pos e2, if_pos ⟨Nat.lt_succ_self _, e2⟩]
      · rw [if_neg e2, if_neg (fun hh => e2 hh.2)]
    · rw [upd_o e]
      generalize (if g n = q then 1 else 0) = zz
      by_cases e2 : x < n ∧ v = q
      · rw [if_pos e2, if_pos (show x < n + 1 ∧ v = q from ⟨by omega, e2.2⟩)]; omega
      · rw [if_neg e2, if_neg (show ¬ (x < n + 1 ∧ v = q) from fun hh => e2 ⟨by omega, hh.2⟩)]; omega
theorem mFz_o {T : sM} {a x : Nat} : ∀ m, (∀ i, i < m → tn (mTxt T (nI (a + i))) ≠ x) → mFz T a m x = T.2 6 x := by
  intro m
  induction m with
  | zero => intro _; rfl
  | succ m ih =>
    intro h
    rw [mFz, upd_o (Ne.symm (h m (by omega)))]
    exact ih fun i hi => h i (by omega)
theorem mFz_in {T : sM} {a : Nat} (x : Nat) : ∀ m, mFz T a m x = T.2 6 x ∨ mFz T a m x = nI (T.1 17) := by
  intro m
  induction m with
  | zero => exact Or.inl rfl
  | succ m ih =>
    rw [mFz]
    by_cases e : x = tn (mTxt T (nI (a + m)))
    · subst e; rw [upd_at]; exact Or.inr rfl
    · rw [upd_o e]; exact ih
theorem mFz_cnt {k : Nat} {T : sM} (h : JM k T) {a : Nat} {q : Int32} (hq : q ≠ -1) : ∀ m, a + m ≤ (txT T).length → (∀ i, i < m → T.2 6 (tn (mTxt T (nI (a + i)))) = -1) → cFz (mFz T a m) q (T.1 1) = cFz (T.2 6) q (T.1 1) + if nI (T.1 17) = q then m else 0 := by
  have hW := h.1.1
  intro m
  induction m with
  | zero => intro _ _; rw [ite_self]; rfl
  | succ m ih =>
    intro hm hz
    obtain ⟨y, y1, -, y2⟩ := tx_n h (show a + m < (txT T).length by omega)
    have e : tn (mTxt T (nI (a + m))) = y := by rw [y2, tn_n (by omega)]
    have hg : mFz T a m y = -1 := by
      rw [mFz_o m fun i hi h2 => ?_]
      · rw [← e]; exact hz m (by omega)
      · obtain ⟨z, z1, -, z2⟩ := tx_n h (show a + i < (txT T).length by omega)
        rw [z2, tn_n (by omega)] at h2
        have := tx_inj h (show a + i < (txT T).length by omega) (show a + m < (txT T).length by omega) (by rw [z2, y2, h2])
        omega
    rw [mFz, e, cFz_upd hg hq, ih (by omega) (fun i hi => hz i (by omega))]
    by_cases e2 : nI (T.1 17) = q
    · rw [if_pos e2, if_pos e2, if_pos ⟨y1, e2⟩]; omega
    · rw [if_neg e2, if_neg e2, if_neg (fun hh => e2 hh.2)]
theorem frzF_t {k : Nat} {T : sM} (h : JM k T) {A B : Nat} {b : Int32} (hb : b = nI B) (hB : B < (txT T).length) : ∀ fu n (S : sC), S.1 17 = txT T → A ≤ n → n ≤ B + 1 → B + 1 ≤ n + fu → S.1 11 = tab (T.1 1) (mFz T A (n - A)) → frzF b (nI (T.1 17)) fu n S = sSet S 11 (tab (T.1 1) (mFz T A (B + 1 - A))) := by
  subst hb
  have hW := h.1.1
  have hL := tx_le h
  intro fu
  induction fu with
  | zero =>
    intro n S h17 h1 h2 h3 h11
    obtain rfl : n = B + 1 := by omega
    rw [← h11, sSet_self]; rfl
  | succ fu ih =>
    intro n S h17 h1 h2 h3 h11
    rw [frzF, h17]
    by_cases hn : n ≤ B
    · obtain ⟨m, m1, m2, m3⟩ := tx_n h (show n < (txT T).length by omega)
      have e : mFz T A (n + 1 - A) = upd (mFz T A (n - A)) m (nI (T.1 17)) := by
        rw [show n + 1 - A = (n - A) + 1 by omega, mFz, show A + (n - A) = n by omega, m3, tn_n (by omega)]
      rw [if_pos ⟨fun h4 => by have := (nI_ltI (by omega) (by omega)).mp h4; omega, by omega⟩, m2, h11, rSet_tab _ _ (by omega) m1, ← e]
      rw [ih (n + 1) (sSet S 11 (tab (T.1 1) (mFz T A (n + 1 - A)))) h17 (by omega) (by omega) (by omega) sSet_1, sSet_twice]
    · obtain rfl : n = B + 1 := by omega
      rw [if_neg (fun h4 => h4.1 ((nI_ltI (by omega) (by omega)).mpr (by omega))), ← h11, sSet_self]
theorem capR : cap 62 = 30 ∧ cap 64 = 30 ∧ cap 66 = 30 ∧ cap 68 = 30 ∧ cap 70 = 30 := by decide +kernel
theorem opK_order_ok : opK_order Rl := fun k S T r a b hk h => by
  have hI := h.1.1
  have e := od_cd h r a b
  by_cases h0 : mtOrd T r a b = 0
  · have h0c : tOrder S r a b = 0 := by
      rw [h0] at e
      by_cases h9 : tOrder S r a b = 0
      · exact h9
      · rw [cd, if_neg h9] at e; omega
    rw [if_pos h0, if_pos h0c]
    obtain ⟨hr, hrl, ha, hb, hab, hBl, hV, hfr⟩ := od_0 h h0
    have hJ := h.1
    have hL := tx_le hJ
    obtain ⟨⟨i0, j1, j2, j3, j4, j5, j6, j7, j8, j9⟩, r1, r2, r3, r4, r5, r6⟩ := h.le (Nat.le_succ k)
    have hW := i0.1
    obtain ⟨c62, c64, c66, c68, c70⟩ := capR
    have hz : b - a + 1 = nI (tn b - tn a + 1) := by
      conv => lhs; rw [ha, hb]
      rw [pk_sub hab, show (1 : Int32) = nI 1 from rfl, nI_add]
    have hfr2 := (mFr_iff T _ _).mp hfr
    have e74 : rAt (S.1 74) r = T.2 13 (tn r) := by
      rw [r4.2.2.2.2.2.1]
      conv => lhs; rw [hr]
      exact rAt_tab _ (by decide) hrl
    have f70 : rAdd (S.1 70) (cap 70) (-1) = tab (T.1 17 + 1) (upd (fun i => (S.1 70).getD i 0) (T.1 17) (-1)) := by
      conv => lhs; arg 1; rw [tab_ext (x := S.1 70) (g := fun i => (S.1 70).getD i 0) r5.1 (fun _ _ => rfl)]
      exact rAdd_tab _ _ (by omega)
    have fA : rvAdd S r (b - a + 1) = sSet (sSet (sSet (sSet (sSet S 62 (tab (T.1 17 + 1) (upd (T.2 15) (T.1 17) (nI (tn r))))) 64 (tab (T.1 17 + 1) (upd (T.2 17) (T.1 17) (nI (tn b - tn a + 1))))) 66 (tab (T.1 17 + 1) (upd (T.2 18) (T.1 17) (nI (tn b - tn a + 1) * T.2 13 (tn r))))) 68 (tab (T.1 17 + 1) (upd (T.2 16) (T.1 17) (nI 0)))) 70 (tab (T.1 17 + 1) (upd (fun i => (S.1 70).getD i 0) (T.1 17) (-1))) := by
      rw [rvAdd, hz, e74, f70, r4.2.1, r4.2.2.1, r4.2.2.2.1, r4.2.2.2.2.1, rAdd_tab _ _ (by omega), rAdd_tab _ _ (by omega), rAdd_tab _ _ (by omega), rAdd_tab _ _ (by omega), ← hr]
      rfl
    have fr : rOrder S r a b = nI (T.1 17) := by
      rw [rOrder, fA, sSet_o (by decide), sSet_o (by decide), sSet_o (by decide), sSet_o (by decide), sSet_1, tab_len, nI_pred]
    have fS : sOrder S r a b = sSet (sSet (sSet (sSet (sSet (sSet S 62 (tab (T.1 17 + 1) (upd (T.2 15) (T.1 17) (nI (tn r))))) 64 (tab (T.1 17 + 1) (upd (T.2 17) (T.1 17) (nI (tn b - tn a + 1))))) 66 (tab (T.1 17 + 1) (upd (T.2 18) (T.1 17) (nI (tn b - tn a + 1) * T.2 13 (tn r))))) 68 (tab (T.1 17 + 1) (upd (T.2 16) (T.1 17) (nI 0)))) 70 (tab (T.1 17 + 1) (upd (fun i => (S.1 70).getD i 0) (T.1 17) (-1)))) 11 (tab (T.1 1) (mFz T (tn a) (tn b + 1 - tn a))) := by
      rw [sOrder, fr, frz, fA]
      refine frzF_t hJ hb hBl _ _ _ r1.2.2.2.2.2.2.2 (Nat.le_refl _) ?_ ?_ ?_
      · show tn a ≤ tn b + 1; omega
      · show tn b + 1 ≤ tn a + ((S.1 17).length + 1)
        rw [r1.2.2.2.2.2.2.2]; omega
      · show S.1 11 = tab (T.1 1) (mFz T (tn a) (tn a - tn a))
        rw [Nat.sub_self]; exact r1.2.2.2.2.1
    have hold : ∀ q, q < T.1 17 → ∀ (g : Nat → Int32) (v : Int32), upd g (T.1 17) v q = g q := fun q hq g v => upd_o (by omega)
    have nv : nI (T.1 17) ≠ -1 := nI_m1ne (by omega)
    have z0 : cFz (T.2 6) (nI (T.1 17)) (T.1 1) = 0 := by
      have : ∀ n, n ≤ T.1 1 → cFz (T.2 6) (nI (T.1 17)) n = 0 := by
        intro n
        induction n with
        | zero => intro _; rfl
        | succ n ih =>
          intro hn
          rw [cFz, ih (by omega), if_neg]
          intro h9
          rcases j3.1 n (by omega) with h1 | ⟨q, h1, h2, -⟩
          · rw [h1] at h9; exact nv h9.symm
          · rw [h2] at h9
            have := (nI_eq (by omega) (by omega)).mp h9
            omega
      exact this _ (Nat.le_refl _)
    have hfz : ∀ i, i < tn b + 1 - tn a → T.2 6 (tn (mTxt T (nI (tn a + i)))) = -1 := hfr2
    have j3' : J3 (msOrd T (tn r) (tn a) (tn b)) := by
      refine ⟨fun n hn2 => ?_, fun q hq ho => ?_⟩
      · show mFz T (tn a) (tn b + 1 - tn a) n = -1 ∨ ∃ q, q < T.1 17 + 1 ∧ mFz T (tn a) (tn b + 1 - tn a) n = nI q ∧ (upd (T.2 16) (T.1 17) (nI 0) q = 0 ∨ upd (T.2 16) (T.1 17) (nI 0) q = 1)
        rcases mFz_in (T := T) (a := tn a) n (tn b + 1 - tn a) with h1 | h1
        · rw [h1]
          rcases j3.1 n hn2 with h2 | ⟨q, h2, h3, h4⟩
          · exact Or.inl h2
          · exact Or.inr ⟨q, by omega, h3, by rw [hold q h2]; exact h4⟩
        · rw [h1]
          exact Or.inr ⟨T.1 17, Nat.lt_succ_self _, rfl, Or.inl (upd_at _ _ _)⟩
      · have hq' : q < T.1 17 + 1 := hq
        have ho' : upd (T.2 16) (T.1 17) (nI 0) q = 0 ∨ upd (T.2 16) (T.1 17) (nI 0) q = 1 := ho
        show upd (T.2 17) (T.1 17) (nI (tn b - tn a + 1)) q = nI (cFz (mFz T (tn a) (tn b + 1 - tn a)) (nI q) (T.1 1))
        rw [mFz_cnt hJ (nI_m1ne (by omega)) _ (by omega) hfz]
        by_cases h9 : q = T.1 17
        · subst h9
          rw [upd_at, if_pos rfl, z0, Nat.zero_add, show tn b + 1 - tn a = tn b - tn a + 1 by omega]
        · rw [hold q (by omega), if_neg (fun h10 => h9 ((nI_eq (by omega) (by omega)).mp h10).symm), Nat.add_zero]
          rw [hold q (by omega)] at ho'
          exact j3.2 q (by omega) ho'
    have st : ∀ q, upd (T.2 16) (T.1 17) (nI 0) q = 1 → q ≠ T.1 17 ∧ T.2 16 q = 1 := fun q hq => by
      by_cases h9 : q = T.1 17
      · subst h9; rw [upd_at] at hq; exact absurd hq (by decide)
      · rw [upd_o h9] at hq; exact ⟨h9, hq⟩
    have j4' : J4 (k + 1) (msOrd T (tn r) (tn a) (tn b)) := by
      refine ⟨j4.1, fun q hq h9 => ?_, fun q1 q2 g1 g2 g3 g4 g5 => ?_⟩
      · have hq' : q < T.1 17 + 1 := hq
        obtain ⟨h1, h2⟩ := st q h9
        exact j4.2.1 q (by omega) h2
      · have g1' : q1 < T.1 17 + 1 := g1
        have g2' : q2 < T.1 17 + 1 := g2
        obtain ⟨h1, h2⟩ := st q1 g3
        obtain ⟨h3, h4⟩ := st q2 g4
        exact j4.2.2 q1 q2 (by omega) (by omega) h2 h4 g5
    have i15 : ∀ q, q < T.1 17 + 1 → upd (T.2 15) (T.1 17) (nI (tn r)) q = nI (tn (upd (T.2 15) (T.1 17) (nI (tn r)) q)) ∧ tn (upd (T.2 15) (T.1 17) (nI (tn r)) q) < 4 := fun q hq => by
      by_cases h9 : q = T.1 17
      · subst h9; rw [upd_at, tn_n (by omega)]; exact ⟨rfl, hrl⟩
      · rw [upd_o h9]; exact i0.2.2.2.2.2.2.2.2.2.2.2.2 q (by omega)
    rw [fS, fr]
    refine ⟨hI, e, h0.symm ▸ rfl, fun _ => rfl, ⟨⟨i0.1, i0.2.1, (show T.1 17 + 1 ≤ 30 by omega), i0.2.2.2.1, i0.2.2.2.2.1, i0.2.2.2.2.2.1, i0.2.2.2.2.2.2.1, i0.2.2.2.2.2.2.2.1, i0.2.2.2.2.2.2.2.2.1, i0.2.2.2.2.2.2.2.2.2.1, i0.2.2.2.2.2.2.2.2.2.2.1, i0.2.2.2.2.2.2.2.2.2.2.2.1, i15⟩, j1, j2, j3', j4', j5, j6, j7, j8, j9⟩, ⟨r1.1, r1.2.1, r1.2.2.1, r1.2.2.2.1, rfl, r1.2.2.2.2.2⟩, r2, RA3_set (by decide) (RA3_set (by decide) (RA3_set (by decide) (RA3_set (by decide) (RA3_set (by decide) (RA3_set (by decide) r3))))), ⟨r4.1, rfl, rfl, rfl, rfl, r4.2.2.2.2.2.1, r4.2.2.2.2.2.2⟩, ⟨tab_len _ _, fun q hq h9 => ?_, r5.2.2.1, fun x => ?_, r5.2.2.2.2⟩, r6⟩
    · have hq' : q < T.1 17 + 1 := hq
      obtain ⟨h1, h2⟩ := st q h9
      show (tab (T.1 17 + 1) (upd (fun i => (S.1 70).getD i 0) (T.1 17) (-1))).getD q 0 = T.2 19 q
      rw [tab_get, if_pos hq', upd_o h1]
      exact r5.2.1 q (by omega) h2
    · refine (r5.2.2.2.1 x).trans ⟨?_, ?_⟩
      · rintro ⟨q, h9, h10, h11⟩
        exact ⟨q, Nat.lt_succ_of_lt h9, h10, by rw [show (msOrd T (tn r) (tn a) (tn b)).2 16 q = upd (T.2 16) (T.1 17) (nI 0) q from rfl, hold q h9]; exact h11⟩
      · rintro ⟨q, h9, h10, h11⟩
        have hq' : q < T.1 17 + 1 := h9
        obtain ⟨h1, h2⟩ := st q h11
        exact ⟨q, by omega, h10, h2⟩
  · have h0c : ¬ tOrder S r a b = 0 := fun h9 => h0 (by rw [e, h9]; rfl)
    rw [if_neg h0, if_neg h0c]
    exact ⟨hI, e, rfl, fun h9 => absurd h9 h0c, Rl_0 h _⟩
