theorem vk_of {own tx : String} {k : Nat} {A : Array Value} {U : State} (h1 : (Cond.stringRef own k tx).before A U = true) (h2 : (Cond.exactly (.string own k) "java/lang/String").before A U = true) : ∃ a, vk_R own k tx a U := by
  obtain ⟨a, _, _, _, h3, -⟩ := Cond.exactly_spec h2
  exact ⟨a, vk_R.of h1 h3⟩
theorem arr_of {t : FieldType} {A : Array Value} {s : State} (ht : ∀ c, s.vm.findClass ("[" ++ t.toString) = some c → va_RA s c t) (h : (Cond.arrayClass t).before A s = true) : ∃ c, ArrOfT s c t ∧ va_RA s c t := by
  obtain ⟨c, k, comp, h1, h2, h3⟩ := Cond.arrayClass_spec h
  exact ⟨c, fun n z => ⟨fun k h => (by cases h), k, h2, comp, h3⟩, ht c h1⟩
theorem arr_ofO {C : String} {A : Array Value} {s : State} (h : (Cond.arrayOver (.object C)).before A s = true) : ∃ c, ArrOfT s c (.object C) ∧ va_RA s c (.object C) := by
  obtain ⟨comp, c, k, h1, h2, h3, h4, h5⟩ := Cond.arrayOver_spec h
  exact ⟨c, fun n z => ⟨fun k h => (by cases h), k, h3, comp, h4⟩, k, comp, h3, h4, h1, h5⟩
theorem law_facts {p : Program} {s : State} {m : MethodId} {c : Code} (l : Launch) (hflags : l.flags = flags0) {b L : Nat} {xs : Nat → Int32} (hL : L ≤ 260) (hx : p.tables.exec = Jvm.exec) (hb : c.code = code) (hml : c.maxLocals = 6) (hown : s.vm.findClass "DraftCommonLaw" = some m.cls) (hts : ∀ w ∈ lw_tbl, w.before #[Value.ref b] s = true) (hX : va_X b L xs s s.heap) (hbl : b < s.heap.size) (hgv : (Jvm.Cond.and given_1 narrow_1).before #[Value.ref b] s = true) : ∃ (D : va_G) (cI cW cZ cL : ClassId), LX l s m c p b L s.heap.size xs D cI cW cZ cL ∧ xC s := by
  have hW : ∀ w ∈ wsL_law, w.before #[Value.ref b] s = true := fun w h => hts w (wsL_law_in w h)
  have hq := flat_of_before _ hgv
  obtain ⟨c0, iS0, hKn0⟩ := u_known (C := RX0) (T := TX0) (N := 1) (n := 1) hts inX0 (hW (.instantiable RX0 1) (List.mem_of_getElem? (i := 47) rfl))
  obtain ⟨c1, iS1, hKn1⟩ := u_known (C := RX1) (T := TX1) (N := 2) (n := 2) hts inX1 (hW (.instantiable RX1 2) (List.mem_of_getElem? (i := 29) rfl))
  obtain ⟨c2, iS2, hKn2⟩ := u_known (C := RX2) (T := TX2) (N := 4) (n := 4) hts inX2 (hW (.instantiable RX2 4) (List.mem_of_getElem? (i := 11) rfl))
  obtain ⟨c3, iS3, hKn3⟩ := u_known (C := RX3) (T := TX3) (N := 3) (n := 3) hts inX3 (hW (.instantiable RX3 3) (List.mem_of_getElem? (i := 25) rfl))
  obtain ⟨c4, iS4, hKn4⟩ := u_known (C := RX4) (T := TX4) (N := 8) (n := 8) hts inX4 (hW (.instantiable RX4 8) (List.mem_of_getElem? (i := 21) rfl))
  obtain ⟨c5, iS5, hKn5⟩ := u_known (C := RX5) (T := TX5) (N := 2) (n := 2) hts inX5 (hW (.instantiable RX5 2) (List.mem_of_getElem? (i := 42) rfl))
  obtain ⟨c6, iS6, hKn6⟩ := u_known (C := RX6) (T := TX6) (N := 6) (n := 6) hts inX6 (hW (.instantiable RX6 6) (List.mem_of_getElem? (i := 38) rfl))
  obtain ⟨c7, iS7, hKn7⟩ := u_known (C := RX7) (T := TX7) (N := 2) (n := 2) hts inX7 (hW (.instantiable RX7 2) (List.mem_of_getElem? (i := 17) rfl))
  obtain ⟨c8, iS8, hKn8⟩ := u_known (C := RX8) (T := TX8) (N := 9) (n := 9) hts inX8 (hW (.instantiable RX8 9) (List.mem_of_getElem? (i := 1) rfl))
  obtain ⟨dC, dI, hKc⟩ : ∃ (dC : Nat → ClassId) (dI : Nat → Nat → Nat), ∀ (k : Nat) (q : vw_C), vwCl[k]? = some q → u_Kn s q.1 q.2.1 q.2.2 (dC k) (dI k) := by
    refine ⟨fun k => if k = 0 then c0 else if k = 1 then c1 else if k = 2 then c2 else if k = 3 then c3 else if k = 4 then c4 else if k = 5 then c5 else if k = 6 then c6 else if k = 7 then c7 else c8, fun k => if k = 0 then iS0 else if k = 1 then iS1 else if k = 2 then iS2 else if k = 3 then iS3 else if k = 4 then iS4 else if k = 5 then iS5 else if k = 6 then iS6 else if k = 7 then iS7 else iS8, ?_⟩
    intro k q hq
    match k, hq with
    | 0, hq => cases hq; exact hKn0
    | 1, hq => cases hq; exact hKn1
    | 2, hq => cases hq; exact hKn2
    | 3, hq => cases hq; exact hKn3
    | 4, hq => cases hq; exact hKn4
    | 5, hq => cases hq; exact hKn5
    | 6, hq => cases hq; exact hKn6
    | 7, hq => cases hq; exact hKn7
    | 8, hq => cases hq; exact hKn8
    | k + 9, hq => simp [vwCl] at hq
  obtain ⟨cI, hI1, hI2⟩ := arr_of (t := .int) (fun _ h => h) (hW (.arrayClass .int) (List.mem_of_getElem? (i := 64) rfl))
  have hAO : (Cond.arrayOver (.object RX7)).before #[Value.ref b] s = true := hts _ (by decide +kernel)
  obtain ⟨cW, hW1, hW2⟩ := arr_ofO hAO
  have hAX : ∀ a : Nat, a < s.heap.size → ¬ AZ s.heap.size a := fun a ha h => by have h2 : s.heap.size ≤ a := h; omega
  refine ⟨(dC, dI), cI, cW, cI, cI, ⟨⟨hx, hb, hml, hown, hW⟩, ⟨hKc, fun k q hk => ?_⟩, rfl, ?_, ?_, hX, hbl, ?_, hL⟩, va_AO.of hAO, ?_⟩
  · match k, hk with
    | 0, hk => cases hk; exact ⟨hI1, hI2⟩
    | 1, hk => cases hk; exact ⟨hW1, hW2⟩
    | k + 2, hk => simp [tyL] at hk
  · have hc : ∀ k, (Cond.castable (exN k) (exN k)).before #[Value.ref b] s = true := fun k => by
      unfold exN
      split
      · exact hts _ (by decide +kernel)
      · split
        · exact hts _ (by decide +kernel)
        · exact hts _ (by decide +kernel)
    refine ⟨vk_of (tx := "there is no such writer") (hts _ (by decide +kernel)) (hq _ (by decide +kernel)), vk_of (tx := "there is nothing of this number or at this place") (hts _ (by decide +kernel)) (hq _ (by decide +kernel)), vk_of (tx := "an argument is out of its range") (hts _ (by decide +kernel)) (hq _ (by decide +kernel)), vk_of (tx := "the state does not allow this call") (hts _ (by decide +kernel)) (hq _ (by decide +kernel)), fun k => va_Nw.of rfl (hc k), fun C => ?_, vx_Zqof (hts _ (by decide +kernel)) (hts _ (by decide +kernel)) (hq _ (by decide +kernel)) hAX, vx_Zqof (hts _ (by decide +kernel)) (hts _ (by decide +kernel)) (hq _ (by decide +kernel)) hAX⟩
    by_cases h1 : C = "java/lang/RuntimeException"
    · subst h1; exact Or.inl (va_Nw.of rfl (hts _ (by decide +kernel)))
    · by_cases h2 : C = "java/lang/Exception"
      · subst h2; exact Or.inl (va_Nw.of rfl (hts _ (by decide +kernel)))
      · by_cases h3 : C = "java/lang/Throwable"
        · subst h3; exact Or.inl (va_Nw.of rfl (hts _ (by decide +kernel)))
        · exact Or.inr (by simp [exDs, h1, h2, h3])
  · exact ⟨va_Nc.of (hq _ (by decide +kernel)), va_Nc.of (hq _ (by decide +kernel)), va_Nc.of (hq _ (by decide +kernel)), va_Nc.of (hq _ (by decide +kernel)), va_Nc.of (hq _ (by decide +kernel)), va_Nc.of (hq _ (by decide +kernel))⟩
  · rw [Launch.stackTraces, hflags]; decide +kernel
  · intro q hq2
    refine va_Nw.of rfl (A := #[Value.ref b]) ?_
    exact hts _ ((show ∀ q ∈ nestL, Cond.methodLinkNest q.1 q.2.1 q.2.2 "DraftCommon" ∈ lw_tbl by decide +kernel) q hq2)
