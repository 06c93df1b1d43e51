/-! the relation kept: finish -/
theorem fi_cd {k : Nat} {S : sC} {T : sM} (h : Rl k S T) (r u : Int32) : mtFin T r u = cd [1, 2, 3] (tFinish S r u) := by
  have hI := h.1.1
  have hV := hI.2.2.1
  have a4 := h.2.2.2.2.1
  rw [tFinish, a4.2.1, tab_len, ix_in (by omega), rg_in, mtFin]
  by_cases h1 : inB r 0 (nI (T.1 17) - 1) = true
  · obtain ⟨hn, hl⟩ := ix_n (by omega) h1
    rw [if_pos h1, if_pos h1, tor_0]
    by_cases h2 : inB u 0 9 = true
    · have e9 : rAt (S.1 68) r = T.2 16 (tn r) := by
        rw [a4.2.2.2.2.1]
        conv => lhs; rw [hn]
        exact rAt_tab _ (by omega) hl
      rw [if_pos h2, if_pos h2, tor_0, e9]
      by_cases h3 : T.2 16 (tn r) = 0
      · rw [if_pos h3, decide_eq_true h3]; rfl
      · rw [if_neg h3, decide_eq_false h3]; rfl
    · rw [if_neg h2, if_neg h2]; rfl
  · rw [if_neg h1, if_neg h1]; rfl
theorem fi_0 {k : Nat} {S : sC} {T : sM} (h : Rl k S T) {r u : Int32} (h0 : mtFin T r u = 0) : r = nI (tn r) ∧ tn r < T.1 17 ∧ T.2 16 (tn r) = 0 := by
  have hV := h.1.1.2.2.1
  rw [mtFin] at h0
  split at h0
  · rename_i h1
    obtain ⟨hn, hl⟩ := ix_n (by omega) h1
    split at h0
    · split at h0
      · rename_i h3; exact ⟨hn, hl, h3⟩
      · cases h0
    · cases h0
  · cases h0
theorem plq_spec (S : sC) (u : Int32) : ∀ fu n, (S.1 72).length < n + fu → n ≤ (S.1 72).length → n ≤ plqF S u fu n ∧ plqF S u fu n ≤ (S.1 72).length ∧ (∀ i, n ≤ i → i < plqF S u fu n → ¬ rAt (S.1 70) (rAt (S.1 72) (nI i)) < u) ∧ (plqF S u fu n < (S.1 72).length → rAt (S.1 70) (rAt (S.1 72) (nI (plqF S u fu n))) < u) := by
  intro fu
  induction fu with
  | zero => intro n h1 h2; omega
  | succ fu ih =>
    intro n h1 h2
    rw [plqF]
    by_cases hn : n < (S.1 72).length
    · rw [if_pos hn]
      by_cases hu : rAt (S.1 70) (rAt (S.1 72) (nI n)) < u
      · rw [if_pos hu]
        exact ⟨Nat.le_refl n, h2, fun i h3 h4 => by omega, fun _ => hu⟩
      · rw [if_neg hu]
        obtain ⟨a1, a2, a3, a4⟩ := ih (n + 1) (by omega) (by omega)
        refine ⟨by omega, a2, fun i h3 h4 => ?_, a4⟩
        by_cases e : i = n
        · subst e; exact hu
        · exact a3 i (by omega) h4
    · rw [if_neg hn]
      exact ⟨Nat.le_refl n, h2, fun i h3 h4 => by omega, fun h3 => absurd h3 hn⟩
theorem ins_sorted {ug fa ug2 fa2 : Nat → Int32} {q : List Int32} {x u : Int32} {p : Nat} (hs : q.Pairwise (fun a b => ahdG ug fa (tn a) (tn b) = true)) (hne : ∀ y, y ∈ q → tn y ≠ tn x) (hug : ∀ n, n ≠ tn x → ug2 n = ug n) (hfa : ∀ n, n ≠ tn x → fa2 n = fa n) (hu : ug2 (tn x) = u) (hf : ∀ y, y ∈ q → fa (tn y) < fa2 (tn x)) (h1 : ∀ i (hi : i < q.length), i < p → ¬ ug (tn q[i]) < u) (h2 : ∀ hp : p < q.length, ug (tn q[p]) < u) : (q.take p ++ x :: q.drop p).Pairwise (fun a b => ahdG ug2 fa2 (tn a) (tn b) = true) := by
  have ag : ∀ a b, a ∈ q → b ∈ q → ahdG ug2 fa2 (tn a) (tn b) = ahdG ug fa (tn a) (tn b) := fun a b ha hb => by
    rw [ahdG, ahdG, hug _ (hne a ha), hug _ (hne b hb), hfa _ (hne a ha), hfa _ (hne b hb)]
  have hs2 : q.Pairwise (fun a b => ahdG ug2 fa2 (tn a) (tn b) = true) := List.Pairwise.imp_of_mem (fun {a b} ha hb hh => (ag a b ha hb).trans hh) hs
  have hs3 := hs2
  rw [← List.take_append_drop p q, List.pairwise_append] at hs3
  rw [List.pairwise_append, List.pairwise_cons]
  have hx : ∀ y, y ∈ q.drop p → ug (tn y) < u := fun y hy => by
    obtain ⟨j, hj, e⟩ := List.mem_drop_iff_getElem.mp hy
    have hp : p < q.length := by omega
    have h3 := h2 hp
    by_cases e0 : j = 0
    · subst e0; rw [← e]; exact h3
    · have h4 := List.pairwise_iff_getElem.mp hs p (p + j) hp (by omega) (by omega)
      rw [e, ahdG] at h4
      by_cases e1 : ug (tn q[p]) = ug (tn y)
      · rw [← e1]; exact h3
      · rw [if_neg e1] at h4
        exact Int32.lt_trans (of_decide_eq_true h4) h3
  refine ⟨hs3.1, ⟨fun y hy => ?_, hs3.2.1⟩, fun a ha b hb => ?_⟩
  · have h5 := hx y hy
    rw [ahdG, hu, hug _ (hne y (List.mem_of_mem_drop hy)), if_neg (fun e => Int32.lt_irrefl (e ▸ h5)), decide_eq_true h5]
  · rcases List.mem_cons.mp hb with rfl | hb
    · obtain ⟨j, hj, e⟩ := List.mem_take_iff_getElem.mp ha
      have haq := List.mem_of_mem_take ha
      have h6 := h1 j (by omega) (by omega)
      rw [e] at h6
      rw [ahdG, hu, hug _ (hne a haq)]
      by_cases e1 : ug (tn a) = u
      · rw [if_pos e1, hfa _ (hne a haq), decide_eq_true (hf a haq)]
      · rw [if_neg e1, decide_eq_true_eq]
        rcases Int32.lt_or_eq_of_le (Int32.not_lt.mp h6) with h7 | h7
        · exact h7
        · exact absurd h7.symm e1
    · exact hs3.2.2 a ha b hb
theorem dnL_le (sts : Nat → Int32) : ∀ V, (dnL sts V).length ≤ V := by
  intro V
  induction V with
  | zero => exact Nat.le_refl 0
  | succ V ih =>
    rw [dnL_s, List.length_append]
    split
    · show _ + 1 ≤ _; omega
    · show _ + 0 ≤ _; omega
theorem dnL_lt {sts : Nat → Int32} {r : Nat} (hr : ¬ sts r = nI 1) : ∀ V, r < V → (dnL sts V).length < V := by
  intro V
  induction V with
  | zero => intro h; omega
  | succ V ih =>
    intro h
    rw [dnL_s, List.length_append]
    by_cases e : r = V
    · subst e
      rw [if_neg hr]
      have := dnL_le sts r
      show _ + 0 < _; omega
    · have := ih (by omega)
      split
      · show _ + 1 < _; omega
      · show _ + 0 < _; omega
theorem opK_finish_ok : opK_finish Rl := fun k S T r u hk h => by
  have hI := h.1.1
  have e := fi_cd h r u
  by_cases h0 : mtFin T r u = 0
  · have h0c : tFinish S r u = 0 := by
      rw [h0] at e
      by_cases h9 : tFinish S r u = 0
      · exact h9
      · rw [cd, if_neg h9] at e; omega
    rw [if_pos h0, if_pos h0c]
    obtain ⟨hn, hl, hs⟩ := fi_0 h h0
    have h24 := h.1.2.2.2.2.1.1
    obtain ⟨⟨i0, j1, j2, j3, j4, j5, j6, j7, j8, j9⟩, r1, r2, r3, r4, r5, r6⟩ := h.le (Nat.le_succ k)
    have hV := i0.2.2.1
    have h15 := i0.2.2.2.2.2.2.2.2.2.2.2.2 _ hl
    have s1 : ¬ T.2 16 (tn r) = nI 1 := by rw [hs]; decide
    have e62 : rAt (S.1 62) r = T.2 15 (tn r) := by
      rw [r4.2.1]
      conv => lhs; rw [hn]
      exact rAt_tab _ (by omega) hl
    have e66 : rAt (S.1 66) r = T.2 18 (tn r) := by
      rw [r4.2.2.2.1]
      conv => lhs; rw [hn]
      exact rAt_tab _ (by omega) hl
    have e76 : rAt (S.1 76) (T.2 15 (tn r)) = T.2 14 (tn (T.2 15 (tn r))) := by
      rw [r4.2.2.2.2.2.2]
      conv => lhs; rw [h15.1]
      exact rAt_tab _ (by decide) h15.2
    have f68 : rSet (S.1 68) r 1 = tab (T.1 17) (upd (T.2 16) (tn r) (nI 1)) := by
      rw [r4.2.2.2.2.1]
      conv => lhs; rw [hn]
      exact rSet_tab _ _ (by omega) hl
    have f76 : rSet (S.1 76) (T.2 15 (tn r)) (T.2 14 (tn (T.2 15 (tn r))) + T.2 18 (tn r)) = tab 4 (upd (T.2 14) (tn (T.2 15 (tn r))) (T.2 14 (tn (T.2 15 (tn r))) + T.2 18 (tn r))) := by
      rw [r4.2.2.2.2.2.2]
      conv => lhs; arg 2; rw [h15.1]
      exact rSet_tab _ _ (by decide) h15.2
    have f70 : rSet (S.1 70) r u = tab (T.1 17) (upd (fun i => (S.1 70).getD i 0) (tn r) u) := by
      conv => lhs; arg 1; rw [tab_ext (x := S.1 70) (g := fun i => (S.1 70).getD i 0) r5.1 (fun _ _ => rfl)]
      conv => lhs; rw [hn]
      exact rSet_tab _ _ (by omega) hl
    have hql : (S.1 72).length < 30 := by
      rw [(q_perm r5 hV).length_eq]
      have := dnL_lt (sts := T.2 16) s1 _ hl
      omega
    -- the state ahead of the insertion
    have hS0 : rvDone0 S r u = sSet (sSet S 68 (tab (T.1 17) (upd (T.2 16) (tn r) (nI 1)))) 70 (tab (T.1 17) (upd (fun i => (S.1 70).getD i 0) (tn r) u)) := by rw [rvDone0, f68, f70]
    have h72 : (rvDone0 S r u).1 72 = S.1 72 := by rw [hS0]; rfl
    have h70 : (rvDone0 S r u).1 70 = tab (T.1 17) (upd (fun i => (S.1 70).getD i 0) (tn r) u) := by rw [hS0]; rfl
    have hel : ∀ y, y ∈ S.1 72 → y = nI (tn y) ∧ tn y < T.1 17 ∧ T.2 16 (tn y) = 1 ∧ tn y ≠ tn r := fun y hy => by
      obtain ⟨q, h1, h2, h3⟩ := (r5.2.2.2.1 y).mp hy
      have h4 : tn y = q := by rw [h2, tn_n (by omega)]
      rw [h4]
      exact ⟨h2, h1, h3, fun h5 => by rw [h5, hs] at h3; exact absurd h3 (by decide)⟩
    have h70a : ∀ y, y ∈ S.1 72 → rAt ((rvDone0 S r u).1 70) y = T.2 19 (tn y) := fun y hy => by
      obtain ⟨a1, a2, a3, a4⟩ := hel y hy
      rw [h70]
      conv => lhs; rw [a1]
      rw [rAt_tab _ (by omega) a2, upd_o a4]
      exact r5.2.1 _ a2 a3
    have hat : ∀ i (hi : i < (S.1 72).length), rAt (S.1 72) (nI i) = (S.1 72)[i] := fun i hi => by
      rw [rAt_lt (by omega) hi]; simp [List.getD, hi]
    obtain ⟨P, hP⟩ : ∃ P, P = plq (rvDone0 S r u) u := ⟨_, rfl⟩
    obtain ⟨-, p2, p3, p4⟩ := plq_spec (rvDone0 S r u) u (((rvDone0 S r u).1 72).length + 1) 0 (by omega) (Nat.zero_le _)
    have hpq : plqF (rvDone0 S r u) u (((rvDone0 S r u).1 72).length + 1) 0 = P := hP.symm
    rw [hpq, h72] at p2 p3 p4
    have f72 : rIns (S.1 72) (cap 72) (nI P) r = (S.1 72).take P ++ r :: (S.1 72).drop P := by
      rw [rIns, nI_clamp (by omega), if_pos ⟨nI_pos (by omega), p2, hql⟩]
    have fS : rvDone S r u = sSet (sSet (sSet (sSet S 68 (tab (T.1 17) (upd (T.2 16) (tn r) (nI 1)))) 70 (tab (T.1 17) (upd (fun i => (S.1 70).getD i 0) (tn r) u))) 72 ((S.1 72).take P ++ r :: (S.1 72).drop P)) 76 (tab 4 (upd (T.2 14) (tn (T.2 15 (tn r))) (T.2 14 (tn (T.2 15 (tn r))) + T.2 18 (tn r)))) := by
      rw [rvDone, ← hP, f72, e62, e66, e76, f76, hS0]
    have hq : ((S.1 72).take P ++ r :: (S.1 72).drop P).Perm (r :: S.1 72) := by
      have h1 : ((S.1 72).take P ++ r :: (S.1 72).drop P).Perm (r :: ((S.1 72).take P ++ (S.1 72).drop P)) := List.perm_middle
      rw [List.take_append_drop] at h1
      exact h1
    have st : ∀ q, upd (T.2 16) (tn r) (nI 1) q = 1 → q = tn r ∨ (q ≠ tn r ∧ T.2 16 q = 1) := fun q hq => by
      by_cases h9 : q = tn r
      · exact Or.inl h9
      · rw [upd_o h9] at hq; exact Or.inr ⟨h9, hq⟩
    have op : ∀ q, (upd (T.2 16) (tn r) (nI 1) q = 0 ∨ upd (T.2 16) (tn r) (nI 1) q = 1) ↔ opnR T q := fun q => by
      by_cases h9 : q = tn r
      · subst h9; rw [upd_at]; exact ⟨fun _ => Or.inl hs, fun _ => Or.inr rfl⟩
      · rw [upd_o h9]; exact Iff.rfl
    have j3' : J3 (msFin T (tn r) u) := by
      refine ⟨fun n hn2 => ?_, fun q hq ho => j3.2 q hq ((op q).mp ho)⟩
      rcases j3.1 n hn2 with h1 | ⟨q, h1, h2, h3⟩
      · exact Or.inl h1
      · exact Or.inr ⟨q, h1, h2, (op q).mpr h3⟩
    have j4' : J4 (k + 1) (msFin T (tn r) u) := by
      refine ⟨Nat.succ_le_succ h24, fun q hq h1 => ?_, fun q1 q2 g1 g2 g3 g4 g5 => ?_⟩
      · show ∃ f, f < T.1 24 + 1 ∧ upd (T.2 20) (tn r) (nI (T.1 24)) q = nI f
        rcases st q h1 with rfl | ⟨h2, h3⟩
        · rw [upd_at]; exact ⟨_, Nat.lt_succ_self _, rfl⟩
        · rw [upd_o h2]
          obtain ⟨f, h4, h5⟩ := j4.2.1 q hq h3
          exact ⟨f, by omega, h5⟩
      · have g5' : upd (T.2 20) (tn r) (nI (T.1 24)) q1 = upd (T.2 20) (tn r) (nI (T.1 24)) q2 := g5
        have g1' : q1 < T.1 17 := g1
        have g2' : q2 < T.1 17 := g2
        rcases st q1 g3 with a1 | ⟨a1, a2⟩
        · rcases st q2 g4 with b1 | ⟨b1, b2⟩
          · rw [a1, b1]
          · rw [a1, upd_at, upd_o b1] at g5'
            obtain ⟨f, h4, h5⟩ := j4.2.1 q2 g2' b2
            rw [h5] at g5'
            have := (nI_eq (by omega) (by omega)).mp g5'
            omega
        · rcases st q2 g4 with b1 | ⟨b1, b2⟩
          · rw [b1, upd_at, upd_o a1] at g5'
            obtain ⟨f, h4, h5⟩ := j4.2.1 q1 g1' a2
            rw [h5] at g5'
            have := (nI_eq (by omega) (by omega)).mp g5'
            omega
          · rw [upd_o a1, upd_o b1] at g5'
            exact j4.2.2 q1 q2 g1' g2' a2 b2 g5'
    have r5' : RA5 (sSet (sSet (sSet (sSet S 68 (tab (T.1 17) (upd (T.2 16) (tn r) (nI 1)))) 70 (tab (T.1 17) (upd (fun i => (S.1 70).getD i 0) (tn r) u))) 72 ((S.1 72).take P ++ r :: (S.1 72).drop P)) 76 (tab 4 (upd (T.2 14) (tn (T.2 15 (tn r))) (T.2 14 (tn (T.2 15 (tn r))) + T.2 18 (tn r))))) (msFin T (tn r) u) := by
      refine ⟨?_, fun q hq h1 => ?_, ?_, fun x => ?_, ?_⟩
      · show (tab (T.1 17) _).length = T.1 17
        exact tab_len _ _
      · have hq' : q < T.1 17 := hq
        show (tab (T.1 17) (upd (fun i => (S.1 70).getD i 0) (tn r) u)).getD q 0 = upd (T.2 19) (tn r) u q
        rw [tab_get, if_pos hq']
        rcases st q h1 with h2 | ⟨h2, h3⟩
        · rw [h2, upd_at, upd_at]
        · rw [upd_o h2, upd_o h2]; exact r5.2.1 q hq' h3
      · show ((S.1 72).take P ++ r :: (S.1 72).drop P).Nodup
        rw [hq.nodup_iff, List.nodup_cons]
        exact ⟨fun hm => (hel r hm).2.2.2 rfl, r5.2.2.1⟩
      · show x ∈ (S.1 72).take P ++ r :: (S.1 72).drop P ↔ ∃ q, q < T.1 17 ∧ x = nI q ∧ upd (T.2 16) (tn r) (nI 1) q = 1
        rw [hq.mem_iff, List.mem_cons, r5.2.2.2.1 x]
        constructor
        · rintro (h1 | ⟨q, h1, h2, h3⟩)
          · exact ⟨tn r, hl, by rw [h1]; exact hn, upd_at _ _ _⟩
          · refine ⟨q, h1, h2, ?_⟩
            rw [upd_o (fun h9 => by rw [h9, hs] at h3; exact absurd h3 (by decide))]; exact h3
        · rintro ⟨q, h1, h2, h3⟩
          rcases st q h3 with h4 | ⟨h4, h5⟩
          · exact Or.inl (by rw [h2, h4]; exact hn.symm)
          · exact Or.inr ⟨q, h1, h2, h5⟩
      · show ((S.1 72).take P ++ r :: (S.1 72).drop P).Pairwise (fun a b => ahdG (upd (T.2 19) (tn r) u) (upd (T.2 20) (tn r) (nI (T.1 24))) (tn a) (tn b) = true)
        refine ins_sorted (u := u) r5.2.2.2.2 (fun y hy => (hel y hy).2.2.2) (fun n hn2 => upd_o hn2) (fun n hn2 => upd_o hn2) (upd_at _ _ _) (fun y hy => ?_) (fun i hi hp => ?_) (fun hp => ?_)
        · obtain ⟨a1, a2, a3, a4⟩ := hel y hy
          obtain ⟨f, h4, h5⟩ := j4.2.1 _ a2 a3
          rw [upd_at, h5]
          exact (nI_ltI (by omega) (by omega)).mpr h4
        · have h1 := p3 i (Nat.zero_le _) hp
          rw [hat i hi, h70a _ (List.getElem_mem hi)] at h1
          exact h1
        · have h1 := p4 hp
          rw [hat P hp, h70a _ (List.getElem_mem hp)] at h1
          exact h1
    rw [fS, e62]
    refine ⟨hI, e, h0.symm ▸ rfl, fun _ => ?_, ⟨i0, j1, j2, j3', j4', j5, j6, j7, j8, j9⟩, r1, r2, RA3_set (by decide) (RA3_set (by decide) (RA3_set (by decide) (RA3_set (by decide) r3))), ⟨r4.1, r4.2.1, r4.2.2.1, r4.2.2.2.1, rfl, r4.2.2.2.2.2.1, rfl⟩, r5', r6⟩
    rw [sSet_1]
    conv => rhs; arg 2; rw [h15.1]
    rw [rAt_tab _ (by decide) h15.2, upd_at]
  · have h0c : ¬ tFinish S r u = 0 := fun h9 => h0 (by rw [e, h9]; rfl)
    rw [if_neg h0, if_neg h0c]
    exact ⟨hI, e, rfl, fun h9 => absurd h9 h0c, Rl_0 h _⟩
