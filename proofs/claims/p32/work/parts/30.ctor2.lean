/-! constructors: filled rows -/
def rowF (cI : ClassId) (ad : Nat → Nat) (F : Nat → va_E) (j cp : Nat) (g : Nat → Int32) (i : Nat) : Nat → va_E := ud (ud F j (.inr (5, [.ref (ad (j + 1)), .int (nI i)]))) (j + 1) (.inl (cI, (cp, .inl g)))
section RF
variable {cI : ClassId} {ad : Nat → Nat} {F G : Nat → va_E} {j cp N : Nat} {g : Nat → Int32} {i : Nat} {f X : Nat → va_E} {e e2 : va_E}
theorem rowF_o : rowF cI ad F j cp g i j = .inr (5, [.ref (ad (j + 1)), .int (nI i)]) := by rw [rowF, ud_ne (by omega), ud_eq]
theorem rowF_a : rowF cI ad F j cp g i (j + 1) = .inl (cI, (cp, .inl g)) := by rw [rowF, ud_eq]
theorem rowF_n {k : Nat} (h : k ≠ j) (h2 : k ≠ j + 1) : rowF cI ad F j cp g i k = F k := by rw [rowF, ud_ne h2, ud_ne h]
theorem agr_ud {c : Nat} (h : agr N (ud X c e) f) : agr N (ud X c e2) (ud f c e2) := fun k hk => by
  by_cases e1 : k = c
  · subst e1; rw [ud_eq, ud_eq]
  · rw [ud_ne e1, ud_ne e1, h k hk, ud_ne e1]
theorem rowF_g (g2 : Nat → Int32) (h : agr N (rowF cI ad F j cp g i) f) : agr N (rowF cI ad F j cp g2 i) (ud f (j + 1) (.inl (cI, (cp, .inl g2)))) := agr_ud h
theorem rowF_i (i2 : Nat) (h : agr N (rowF cI ad F j cp g i) f) : agr N (rowF cI ad F j cp g i2) (ud f j (.inr (5, [.ref (ad (j + 1)), .int (nI i2)]))) := fun k hk => by
  by_cases e1 : k = j
  · subst e1; rw [ud_eq, rowF_o]
  · rw [ud_ne e1, h k hk]
    by_cases e3 : k = j + 1
    · subst e3; rw [rowF_a, rowF_a]
    · rw [rowF_n e1 e3, rowF_n e1 e3]
theorem agr_manyX {n n' : Nat} (hX : ∀ i, n ≤ i → X i = G i) (h : agr n' (mix (ud X n e) n G) f) : agr n' X f := fun k hk => by
  rw [h k hk, mix]
  by_cases e1 : k < n
  · rw [if_pos e1, ud_ne (by omega)]
  · rw [if_neg e1, hX k (by omega)]
theorem agr_putA {n c : Nat} {o o2 : va_E} (hc : c ≠ j) (h : agr n (ud (opn F j o G) c e) f) : agr n (ud (opn F j o2 G) c e) (ud f j o2) := fun k hk => by
  by_cases e1 : k = j
  · subst e1; rw [ud_eq, ud_ne (Ne.symm hc), opn_at]
  · rw [ud_ne e1, h k hk]
    by_cases e3 : k = c
    · subst e3; rw [ud_eq, ud_eq]
    · rw [ud_ne e3, ud_ne e3, opn, opn, if_neg e1, if_neg e1]
theorem agr_drop {n c : Nat} {o : va_E} (hc : j < c) (hG : G c = e) (h : agr n (ud (opn F j o G) c e) f) : agr n (opn F j o G) f := fun k hk => by
  rw [h k hk]
  by_cases e3 : k = c
  · subst e3; rw [ud_eq, opn_up hc, hG]
  · rw [ud_ne e3]
theorem cpy_0 (g : Nat → Int32) (a b : Nat) : va_cpy g g a b 0 = g := funext fun k => by rw [va_cpy, if_neg (by omega)]
theorem rep_up (k : Nat) (v : Int32) : upd (arrOf (List.replicate k v) fun _ => 0) k v = arrOf (List.replicate (k + 1) v) fun _ => 0 := funext fun i => by
  unfold upd arrOf
  simp only [List.getD, List.getElem?_replicate]
  by_cases e : i = k
  · subst e; simp
  · rw [if_neg e]
    by_cases e2 : i < k
    · rw [if_pos e2, if_pos (by omega)]
    · rw [if_neg e2, if_neg (by omega)]
theorem mix_rowF {n : Nat} (h : agr n (mix (ud F j e) j (rowF cI ad F j cp g i)) f) : agr n (rowF cI ad F j cp g i) f := fun k hk => by
  rw [h k hk, mix]
  by_cases e : k < j
  · rw [if_pos e, ud_ne (by omega), rowF_n (by omega) (by omega)]
  · rw [if_neg e]
theorem rowF_end (h0 : G j = .inr (5, [.ref (ad (j + 1)), .int (nI i)])) (h1 : G (j + 1) = .inl (cI, (cp, .inl g))) (h : agr (j + 2) (rowF cI ad F j cp g i) f) : agr (j + 2) (mix F j G) f := fun k hk => by
  rw [h k hk, mix]
  by_cases e : k < j
  · rw [if_pos e, rowF_n (by omega) (by omega)]
  · rw [if_neg e]
    by_cases e2 : k = j
    · rw [e2, rowF_o, h0]
    · rw [show k = j + 1 by omega, rowF_a, h1]
end RF
set_option maxRecDepth 100000 in
set_option maxHeartbeats 4000000 in
theorem c5_insertF (l : Launch) {D : va_G} {cI cW cZ cL : ClassId} {ad : Nat → Nat} {N : Nat} (hJ : injA ad N) (j : Nat) (hj : j + 1 < N) (F : Nat → va_E) (cp i : Nat) (hcp : cp ≤ 600) (hi : i < cp) (g : Nat → Int32) (v : Int32) : kMv l yX5_insert wsX5_insert ({ frames := 1, cells := 0, slots := 0, locals := 40 }) D vwCl (tyL cI cW cZ cL) ad N [.ref (ad j), .int (nI i), .int v] (agr N (rowF cI ad F j cp g i)) (agr N (rowF cI ad F j cp (upd g i v) (i + 1))) := by
  refine vv_enter (cc := cX5_insert) (maxL := 3) (ret := none) (own := RX5) (lv := [(0, .ref (ad j)), (1, .int (nI i)), (2, .int v)]) (by decide +kernel) rfl rfl hJ (Nat.le_of_ble_eq_true rfl) rfl ?_
  intro p e s m args below meth c hC hK hW hr hlk
  refine vv_iload_n hC 1 dX5_insert_0 rfl rfl (q := 1) rfl ?_
  refine vv_ifN_lt hC (tgt := 24) (by omega) dX5_insert_1 (by decide) (q := 4) rfl ?_
  refine vv_iload_n hC 1 dX5_insert_4 rfl rfl (q := 5) rfl ?_
  refine vv_aload_n hC 0 dX5_insert_5 rfl rfl (q := 6) rfl ?_
  refine vv_get hC hK (K := RX5) (T := TX5) (N := 2) (ci := 5) inwX5_insert_X5 j (by omega) (fun f h => (h j (by omega)).trans rowF_o) rfl 1 (by decide) (List.mem_of_getElem? (i := 1) rfl) rfl (v := .int (nI i)) rfl dX5_insert_6 (q := 9) rfl ?_
  refine vv_icmpN_gt hC (tgt := 24) (by omega) (by omega) dX5_insert_9 (by decide) (q := 12) rfl (fun h9 => ?_) (fun h9 => ?_)
  · skip
    exact absurd h9 (by omega)
  · skip
    refine vv_aload_n hC 0 dX5_insert_12 rfl rfl (q := 13) rfl ?_
    refine vv_get hC hK (K := RX5) (T := TX5) (N := 2) (ci := 5) inwX5_insert_X5 j (by omega) (fun f h => (h j (by omega)).trans rowF_o) rfl 1 (by decide) (List.mem_of_getElem? (i := 1) rfl) rfl (v := .int (nI i)) rfl dX5_insert_13 (q := 16) rfl ?_
    refine vv_aload_n hC 0 dX5_insert_16 rfl rfl (q := 17) rfl ?_
    refine vv_get hC hK (K := RX5) (T := TX5) (N := 2) (ci := 5) inwX5_insert_X5 j (by omega) (fun f h => (h j (by omega)).trans rowF_o) rfl 0 (by decide) (List.mem_of_getElem? (i := 2) rfl) rfl (v := .ref (ad (j + 1))) rfl dX5_insert_17 (q := 20) rfl ?_
    refine vv_alen hC hK (j + 1) (by omega) 0 (x := (cp, .inl fun _ => 0)) (fun f h => ⟨_, (h (j + 1) (by omega)).trans rowF_a⟩) rfl (v := nI cp) rfl dX5_insert_20 (q := 21) rfl ?_
    refine vv_icmpN_lt hC (tgt := 25) (by omega) (by omega) dX5_insert_21 (by decide) (q := 24) rfl (fun h21 => ?_) (fun h21 => ?_)
    · skip
      refine vv_aload_n hC 0 dX5_insert_25 rfl rfl (q := 26) rfl ?_
      refine vv_get hC hK (K := RX5) (T := TX5) (N := 2) (ci := 5) inwX5_insert_X5 j (by omega) (fun f h => (h j (by omega)).trans rowF_o) rfl 0 (by decide) (List.mem_of_getElem? (i := 2) rfl) rfl (v := .ref (ad (j + 1))) rfl dX5_insert_26 (q := 29) rfl ?_
      refine vv_iload_n hC 1 dX5_insert_29 rfl rfl (q := 30) rfl ?_
      refine vv_aload_n hC 0 dX5_insert_30 rfl rfl (q := 31) rfl ?_
      refine vv_get hC hK (K := RX5) (T := TX5) (N := 2) (ci := 5) inwX5_insert_X5 j (by omega) (fun f h => (h j (by omega)).trans rowF_o) rfl 0 (by decide) (List.mem_of_getElem? (i := 2) rfl) rfl (v := .ref (ad (j + 1))) rfl dX5_insert_31 (q := 34) rfl ?_
      refine vv_iload_n hC 1 dX5_insert_34 rfl rfl (q := 35) rfl ?_
      refine vv_iconst hC (v := nI 1) dX5_insert_35 rfl (q := 36) rfl ?_
      refine vv_iaddN hC dX5_insert_36 (q := 37) rfl ?_
      refine vv_aload_n hC 0 dX5_insert_37 rfl rfl (q := 38) rfl ?_
      refine vv_get hC hK (K := RX5) (T := TX5) (N := 2) (ci := 5) inwX5_insert_X5 j (by omega) (fun f h => (h j (by omega)).trans rowF_o) rfl 1 (by decide) (List.mem_of_getElem? (i := 1) rfl) rfl (v := .int (nI i)) rfl dX5_insert_38 (q := 41) rfl ?_
      refine vv_iload_n hC 1 dX5_insert_41 rfl rfl (q := 42) rfl ?_
      refine vv_isubN hC (Nat.le_refl i) dX5_insert_42 (q := 43) rfl ?_
      refine vv_copyi hC hK hW (P1 := agr N (rowF cI ad F j cp g i)) (j + 1) (by omega) 0 (fun f h => (h (j + 1) (by omega)).trans rowF_a) rfl (nI_pos (by omega)) (nI_pos (by omega)) (nI_pos (by omega)) (by rw [nI_clamp (by omega), nI_clamp (by omega)]; omega) (by rw [nI_clamp (by omega), nI_clamp (by omega)]; omega) (List.mem_of_getElem? (i := 3) rfl) (List.mem_of_getElem? (i := 4) rfl) (List.mem_of_getElem? (i := 5) rfl) (List.mem_of_getElem? (i := 6) rfl) (Nat.le_of_ble_eq_true rfl) (Nat.le_of_ble_eq_true rfl) (fun f h => by rw [nI_clamp (n := i - i) (by omega), show i - i = 0 by omega, cpy_0]; exact rowF_g _ h) dX5_insert_43 (q := 46) rfl ?_
      refine vv_aload_n hC 0 dX5_insert_46 rfl rfl (q := 47) rfl ?_
      refine vv_get hC hK (K := RX5) (T := TX5) (N := 2) (ci := 5) inwX5_insert_X5 j (by omega) (fun f h => (h j (by omega)).trans rowF_o) rfl 0 (by decide) (List.mem_of_getElem? (i := 2) rfl) rfl (v := .ref (ad (j + 1))) rfl dX5_insert_47 (q := 50) rfl ?_
      refine vv_iload_n hC 1 dX5_insert_50 rfl rfl (q := 51) rfl ?_
      refine vv_iload_n hC 2 dX5_insert_51 rfl rfl (q := 52) rfl ?_
      refine vv_iastN hC hK hW (P1 := agr N (rowF cI ad F j cp (upd g i v) i)) (j + 1) (by omega) 0 (fun f h => (h (j + 1) (by omega)).trans rowF_a) rfl (show i < cp from by omega) (by omega) (fun f h => rowF_g _ h) dX5_insert_52 (q := 53) rfl ?_
      refine vv_aload_n hC 0 dX5_insert_53 rfl rfl (q := 54) rfl ?_
      refine vv_dup hC dX5_insert_54 rfl (q := 55) rfl ?_
      refine vv_get hC hK (K := RX5) (T := TX5) (N := 2) (ci := 5) inwX5_insert_X5 j (by omega) (fun f h => (h j (by omega)).trans rowF_o) rfl 1 (by decide) (List.mem_of_getElem? (i := 1) rfl) rfl (v := .int (nI i)) rfl dX5_insert_55 (q := 58) rfl ?_
      refine vv_iconst hC (v := nI 1) dX5_insert_58 rfl (q := 59) rfl ?_
      refine vv_iaddN hC dX5_insert_59 (q := 60) rfl ?_
      refine vv_put hC hK hW (P1 := agr N (rowF cI ad F j cp (upd g i v) (i + 1))) (K := RX5) (T := TX5) (N := 2) (ci := 5) inwX5_insert_X5 tyX5 tyX5_ok nmX5 j (by omega) (fun f h => (h j (by omega)).trans rowF_o) rfl (ty := .int) 1 (by decide) (List.mem_of_getElem? (i := 1) rfl) rfl rfl (by decide +kernel) rfl rfl (Nat.le_of_ble_eq_true rfl) (fun f h => rowF_i _ h) dX5_insert_60 (q := 63) rfl ?_
      exact vv_vret hC hK hr hlk (fun f h => h) dX5_insert_63
    · skip
      exact absurd hi h21
set_option maxRecDepth 100000 in
set_option maxHeartbeats 4000000 in
theorem c5_addF (l : Launch) {D : va_G} {cI cW cZ cL : ClassId} {ad : Nat → Nat} {N : Nat} (hJ : injA ad N) (j : Nat) (hj : j + 1 < N) (F : Nat → va_E) (cp i : Nat) (hcp : cp ≤ 600) (hi : i < cp) (g : Nat → Int32) (v : Int32) : kMv l yX5_add wsX5_add ({ frames := 2, cells := 0, slots := 0, locals := 62 }) D vwCl (tyL cI cW cZ cL) ad N [.ref (ad j), .int v] (agr N (rowF cI ad F j cp g i)) (agr N (rowF cI ad F j cp (upd g i v) (i + 1))) := by
  refine vv_enter (cc := cX5_add) (maxL := 2) (ret := none) (own := RX5) (lv := [(0, .ref (ad j)), (1, .int v)]) (by decide +kernel) rfl rfl hJ (Nat.le_of_ble_eq_true rfl) rfl ?_
  intro p e s m args below meth c hC hK hW hr hlk
  refine vv_aload_n hC 0 dX5_add_0 rfl rfl (q := 1) rfl ?_
  refine vv_aload_n hC 0 dX5_add_1 rfl rfl (q := 2) rfl ?_
  refine vv_get hC hK (K := RX5) (T := TX5) (N := 2) (ci := 5) inwX5_add_X5 j (by omega) (fun f h => (h j (by omega)).trans rowF_o) rfl 1 (by decide) (List.mem_of_getElem? (i := 1) rfl) rfl (v := .int (nI i)) rfl dX5_add_2 (q := 5) rfl ?_
  refine vv_iload_n hC 1 dX5_add_5 rfl rfl (q := 6) rfl ?_
  refine vv_callv hC hK (fun _ h => h) (As := [.int (nI i), .int v]) j (by omega) (fun f h => ⟨_, (h j (by omega)).trans rowF_o⟩) rfl (c5_insertF l hJ j hj F cp i hcp hi g v) (cwV 2 hC.2.2.2.2 gX5_add_X5_insert rfl rfl rfl hdX5_insert ⟨Nat.le_of_ble_eq_true rfl, Nat.le_of_ble_eq_true rfl⟩) rfl rfl (Nat.le_of_ble_eq_true rfl) ⟨Nat.le_of_ble_eq_true rfl, Nat.le_of_ble_eq_true rfl⟩ dX5_add_6 (q := 9) rfl ?_
  exact vv_vret hC hK hr hlk (fun f h => h) dX5_add_9
theorem inwX5_filled_X5 : ∀ w ∈ wsX50, w ∈ wsX5_filled := fun _ h => List.mem_cons_of_mem _ (List.mem_append_right _ h)
theorem hsX5_filled : yX5_filled.cls ≠ "java/lang/invoke/MethodHandle" ∧ yX5_filled.cls ≠ "java/lang/invoke/VarHandle" ∧ (parseMethodDescriptor yX5_filled.desc).map (fun d => d.parameters.length) = some 2 := by decide +kernel
set_option maxRecDepth 100000 in
set_option maxHeartbeats 4000000 in
theorem c5_filled (l : Launch) {D : va_G} {cI cW cZ cL : ClassId} {ad : Nat → Nat} {z : Nat} (hAd : ∀ i, ad i = z + i) (j : Nat) (hj1 : 1 ≤ j) (nn : Nat) (hnn : nn ≤ 600) (v : Int32) (F G : Nat → va_E) (hG0 : G j = .inr (5, [.ref (ad (j + 1)), .int (nI nn)])) (hG1 : G (j + 1) = .inl (cI, (nn, .inl (arrOf (List.replicate nn v) fun _ => 0)))) : kCr l yX5_filled wsX5_filled ({ frames := 3, cells := 2, slots := 2 + nn, locals := 83 }) D vwCl (tyL cI cW cZ cL) ad z j (j + 2) [.int (nI nn), .int v] (agr j F) (ad j) (agr (j + 2) (mix F j G)) 2 (2 + nn) := by
  refine vv_enterC (cc := cX5_filled) (maxL := 4) (ret := (some (.object "DraftCommon$Row"))) (own := RX5) (lv := [(0, .int (nI nn)), (1, .int v)]) (by decide +kernel) rfl rfl hAd (Nat.le_of_ble_eq_true rfl) rfl ?_
  intro p e s m args below meth c hC hK hz hAO hnm hr hlk
  refine vv_newC hC hK hAd hz (n := j) (by omega) (Or.inl hj1) (K := RX5) (T := TX5) (N := 2) (ci := 5) inwX5_filled_X5 tyX5 tyX5_ok (List.mem_of_getElem? (i := 1) rfl) (List.mem_of_getElem? (i := 2) rfl) (List.mem_of_getElem? (i := 3) rfl) rfl (fs := [.null, .int 0]) (fun j hj => match j, hj with | 0, _ => rfl | 1, _ => rfl | j + 2, h => absurd h (by omega)) (Nat.le_of_ble_eq_true rfl) (by show 0 + 2 ≤ 2 + nn; omega) (P1 := agr (j + 1) (ud F j (.inr (5, [.null, .int 0])))) (fun f h => agr_new _ h) dX5_filled_0 (q := 3) rfl ?_
  refine vv_dup hC dX5_filled_3 rfl (q := 4) rfl ?_
  refine vv_iload_n hC 0 dX5_filled_4 rfl rfl (q := 5) rfl ?_
  refine vv_callC hC hK hAd hz (n := j + 1) (by omega) (by omega) (n2 := j + 2) hAO (a := ad j) (As := [.int (nI nn)]) (c5_init l hAd j nn hnn _ (rowF cI ad F j nn (fun _ => 0) 0) ud_eq rowF_o rowF_a) (cwI 1 hC.2.2.2.2 gX5_filled_X5_init rfl rfl rfl (hC.2.2.2.2 _ (List.mem_of_getElem? (i := 3) rfl)) (hC.2.2.2.2 _ (List.mem_of_getElem? (i := 4) rfl)) (hC.2.2.2.2 _ (List.mem_of_getElem? (i := 5) rfl)) rfl hdX5_init ⟨Nat.le_of_ble_eq_true rfl, Nat.le_of_ble_eq_true rfl⟩) rfl rfl (Nat.le_of_ble_eq_true rfl) ⟨Nat.le_of_ble_eq_true rfl, by show 0 + 2 + (2 - 2 + nn) ≤ 2 + nn; omega⟩ dX5_filled_5 (q := 8) rfl ?_
  refine vv_wq (P1 := agr (j + 2) (rowF cI ad F j nn (arrOf (List.replicate 0 v) fun _ => 0) 0)) (fun f h => mix_rowF h) ?_
  refine vv_widen (k := 2) (n := 2 + nn) (by omega) (by omega) ?_
  refine vv_astore_n hC (i := 2) (lv' := [(2, .ref (ad j)), (0, .int (nI nn)), (1, .int v)]) dX5_filled_8 rfl (by decide) rfl (q := 9) rfl ?_
  refine vv_iconst hC (v := nI 0) dX5_filled_9 rfl (q := 10) rfl ?_
  refine vv_istore_n hC (i := 3) (lv' := [(3, .int (nI 0)), (2, .ref (ad j)), (0, .int (nI nn)), (1, .int v)]) dX5_filled_10 rfl (by decide) rfl (q := 11) rfl ?_
  have loop11 : ∀ (fu : Nat) (i : Nat), nn < i + fu → i ≤ nn → vv p l e (headSpec wsX5_filled ({ frames := 3, cells := 2, slots := 2 + nn, locals := 83 })).room s m args below meth c 4 (AZ z) s.heap 2 (2 + nn) (MQ below (va_Qr (fun (_ : Unit) => True) (fun _ a' U => a' = ad j ∧ U.heap.size = z + (j + 2) ∧ ws0 D vwCl (tyL cI cW cZ cL) ad (j + 2) (agr (j + 2) (mix F j G)) U) (AZ z)) args s 2 (2 + nn) (AZ z)) (wq D vwCl ad (j + 2) (agr (j + 2) (rowF cI ad F j nn (arrOf (List.replicate i v) fun _ => 0) i))) 11 [(0, .int (nI nn)), (1, .int v), (2, .ref (ad j)), (3, .int (nI i))] [] := by
    intro fu
    induction fu with
    | zero =>
      intro i hfu hk
      exact absurd hfu (by omega)
    | succ fu ih =>
      intro i hfu hk
      refine vv_iload_n hC 3 dX5_filled_11 rfl rfl (q := 12) rfl ?_
      refine vv_iload_n hC 0 dX5_filled_12 rfl rfl (q := 13) rfl ?_
      refine vv_icmpN_ge hC (tgt := 27) (by omega) (by omega) dX5_filled_13 (by decide) (q := 16) rfl (fun h13 => ?_) (fun h13 => ?_)
      · skip
        refine vv_aload_n hC 2 dX5_filled_27 rfl rfl (q := 28) rfl ?_
        obtain rfl : i = nn := by omega
        exact vv_aretC hC hK hAd hz (k := j) (mc := 2) (n := j + 2) (by omega) (by omega) hr hlk rfl (fun f h => rowF_end hG0 hG1 h) dX5_filled_28
      · skip
        refine vv_aload_n hC 2 dX5_filled_16 rfl rfl (q := 17) rfl ?_
        refine vv_iload_n hC 1 dX5_filled_17 rfl rfl (q := 18) rfl ?_
        refine vv_callv hC hK (fun q h => by obtain ⟨i, hi, rfl⟩ := h; rw [hAd]; exact Nat.le_add_right z i) (As := [.int v]) j (by omega) (fun f h => ⟨_, (h j (by omega)).trans rowF_o⟩) rfl (c5_addF l (inj_az hAd _) j (by omega) F nn i hnn (by omega) (arrOf (List.replicate i v) fun _ => 0) v) (cwV 1 hC.2.2.2.2 gX5_filled_X5_add rfl rfl rfl hdX5_add ⟨Nat.le_of_ble_eq_true rfl, Nat.le_of_ble_eq_true rfl⟩) rfl rfl (Nat.le_of_ble_eq_true rfl) ⟨Nat.le_of_ble_eq_true rfl, by show 2 + nn + 0 ≤ 2 + nn; omega⟩ dX5_filled_18 (q := 21) rfl ?_
        refine vv_iinc hC (i := 3) (v := nI (i + 1)) (lv' := [(3, .int (nI (i + 1))), (0, .int (nI nn)), (1, .int v), (2, .ref (ad j))]) 3 dX5_filled_21 rfl (nI_1 i) (by decide) rfl (q := 24) rfl ?_
        refine vv_goto hC (tgt := 11) dX5_filled_24 (by decide) ?_
        refine vv_lv [1, 2, 3, 0] (lv' := [(0, .int (nI nn)), (1, .int v), (2, .ref (ad j)), (3, .int (nI (i + 1)))]) rfl ?_
        refine vv_wq (P1 := agr (j + 2) (rowF cI ad F j nn (arrOf (List.replicate (i + 1) v) fun _ => 0) (i + 1))) (fun f h => by rw [← rep_up]; exact h) ?_
        exact ih (i + 1) (by omega) (by omega)
  refine vv_lv [2, 3, 1, 0] (lv' := [(0, .int (nI nn)), (1, .int v), (2, .ref (ad j)), (3, .int (nI 0))]) rfl ?_
  exact loop11 (nn + 1) 0 (by omega) (Nat.zero_le _)
theorem inwX4_init_X5 : ∀ w ∈ wsX50, w ∈ wsX4_init := fun _ h => List.mem_cons_of_mem _ (List.mem_append_left _ (List.mem_append_right _ h))
theorem inwX4_init_X4 : ∀ w ∈ wsX40, w ∈ wsX4_init := fun _ h => List.mem_cons_of_mem _ (List.mem_append_right _ h)
theorem hdX4_init : yX4_init.cls ≠ "java/lang/invoke/MethodHandle" ∧ yX4_init.cls ≠ "java/lang/invoke/VarHandle" ∧ (parseMethodDescriptor yX4_init.desc).map (fun d => d.parameters.length) = some 0 := by decide +kernel
set_option maxRecDepth 100000 in
set_option maxHeartbeats 4000000 in
theorem c4_init (l : Launch) {D : va_G} {cI cW cZ cL : ClassId} {ad : Nat → Nat} {z : Nat} (hAd : ∀ i, ad i = z + i) (j : Nat)  (F G : Nat → va_E) (hF : F j = .inr (4, [.null, .null, .null, .null, .null, .null, .null, .null])) (hG0 : G j = .inr (4, [.ref (ad (j + 1)), .ref (ad (j + 3)), .ref (ad (j + 5)), .ref (ad (j + 7)), .ref (ad (j + 9)), .ref (ad (j + 11)), .ref (ad (j + 13)), .ref (ad (j + 15))])) (hG1 : G (j + 1) = .inr (5, [.ref (ad ((j + 1) + 1)), .int (nI 0)])) (hG2 : G (j + 2) = .inl (cI, (30, .inl fun _ => 0))) (hG3 : G (j + 3) = .inr (5, [.ref (ad ((j + 3) + 1)), .int (nI 0)])) (hG4 : G (j + 4) = .inl (cI, (30, .inl fun _ => 0))) (hG5 : G (j + 5) = .inr (5, [.ref (ad ((j + 5) + 1)), .int (nI 0)])) (hG6 : G (j + 6) = .inl (cI, (30, .inl fun _ => 0))) (hG7 : G (j + 7) = .inr (5, [.ref (ad ((j + 7) + 1)), .int (nI 0)])) (hG8 : G (j + 8) = .inl (cI, (30, .inl fun _ => 0))) (hG9 : G (j + 9) = .inr (5, [.ref (ad ((j + 9) + 1)), .int (nI 0)])) (hG10 : G (j + 10) = .inl (cI, (30, .inl fun _ => 0))) (hG11 : G (j + 11) = .inr (5, [.ref (ad ((j + 11) + 1)), .int (nI 0)])) (hG12 : G (j + 12) = .inl (cI, (30, .inl fun _ => 0))) (hG13 : G (j + 13) = .inr (5, [.ref (ad ((j + 13) + 1)), .int (nI 4)])) (hG14 : G (j + 14) = .inl (cI, (4, .inl (arrOf (List.replicate 4 (nI 1)) fun _ => 0)))) (hG15 : G (j + 15) = .inr (5, [.ref (ad ((j + 15) + 1)), .int (nI 4)])) (hG16 : G (j + 16) = .inl (cI, (4, .inl (arrOf (List.replicate 4 (nI 0)) fun _ => 0)))) : kC l yX4_init wsX4_init ({ frames := 4, cells := 16, slots := 204, locals := 106 }) D vwCl (tyL cI cW cZ cL) ad z (j + 1) (j + 17) [.ref (ad j)] (agr (j + 1) F) (agr (j + 17) (mix F j G)) 16 (204) := by
  refine vv_enterC (cc := cX4_init) (maxL := 1) (ret := none) (own := RX4) (lv := [(0, .ref (ad j))]) (by decide +kernel) rfl rfl hAd (Nat.le_of_ble_eq_true rfl) rfl ?_
  intro p e s m args below meth c hC hK hz hAO hnm hr hlk
  refine vv_wq (P1 := agr (j + 1) (opn F j (.inr (4, [.null, .null, .null, .null, .null, .null, .null, .null])) G)) (fun f h => agr_start hF h) ?_
  refine vv_aload_n hC 0 dX4_init_0 rfl rfl (q := 1) rfl ?_
  refine vv_objinit hC (List.mem_of_getElem? (i := 1) rfl) (List.mem_of_getElem? (i := 2) rfl) (List.mem_of_getElem? (i := 3) rfl) (Nat.le_of_ble_eq_true rfl) (Nat.le_of_ble_eq_true rfl) dX4_init_1 (q := 4) rfl ?_
  refine vv_aload_n hC 0 dX4_init_4 rfl rfl (q := 5) rfl ?_
  refine vv_newC hC hK hAd hz (n := (j + 1)) (by omega) (by omega) (K := RX5) (T := TX5) (N := 2) (ci := 5) inwX4_init_X5 tyX5 tyX5_ok (List.mem_of_getElem? (i := 4) rfl) (List.mem_of_getElem? (i := 5) rfl) (List.mem_of_getElem? (i := 6) rfl) rfl (fs := [.null, .int 0]) (fun j hj => match j, hj with | 0, _ => rfl | 1, _ => rfl | j + 2, h => absurd h (by omega)) (Nat.le_of_ble_eq_true rfl) (Nat.le_of_ble_eq_true rfl) (P1 := agr (j + 2) (ud (opn F j (.inr (4, [.null, .null, .null, .null, .null, .null, .null, .null])) G) (j + 1) (.inr (5, [.null, .int 0])))) (fun f h => agr_new _ h) dX4_init_5 (q := 8) rfl ?_
  refine vv_dup hC dX4_init_8 rfl (q := 9) rfl ?_
  refine vv_bipush hC (v := nI 30) dX4_init_9 rfl (q := 11) rfl ?_
  refine vv_callC hC hK hAd hz (n := (j + 2)) (by omega) (by omega) (n2 := (j + 3)) hAO (a := ad (j + 1)) (As := [.int (nI 30)]) (c5_init l hAd (j + 1) 30 (by decide) _ G ud_eq hG1 hG2) (cwI 1 hC.2.2.2.2 gX4_init_X5_init rfl rfl rfl (hC.2.2.2.2 _ (List.mem_of_getElem? (i := 6) rfl)) (hC.2.2.2.2 _ (List.mem_of_getElem? (i := 15) rfl)) (hC.2.2.2.2 _ (List.mem_of_getElem? (i := 16) rfl)) rfl hdX5_init ⟨Nat.le_of_ble_eq_true rfl, Nat.le_of_ble_eq_true rfl⟩) rfl rfl (Nat.le_of_ble_eq_true rfl) ⟨Nat.le_of_ble_eq_true rfl, Nat.le_of_ble_eq_true rfl⟩ dX4_init_11 (q := 14) rfl ?_
  refine vv_wq (P1 := agr (j + 3) (opn F j (.inr (4, [.null, .null, .null, .null, .null, .null, .null, .null])) G)) (fun f h => agr_many (by omega) h) ?_
  refine vv_putF hC hK (NN := (j + 3)) (wd_az hAd _) (P1 := agr (j + 3) (opn F j (.inr (4, [.ref (ad (j + 1)), .null, .null, .null, .null, .null, .null, .null])) G)) (K := RX4) (T := TX4) (N := 8) (ci := 4) inwX4_init_X4 tyX4 tyX4_ok nmX4 j (by omega) (fs := [.null, .null, .null, .null, .null, .null, .null, .null]) (fun f h => agr_at (by omega) opn_at h) rfl (ty := .object "DraftCommon$Row") 0 (by decide) (List.mem_of_getElem? (i := 7) rfl) rfl rfl hnm rfl (by decide +kernel) rfl rfl (Nat.le_of_ble_eq_true rfl) (fun f h => agr_put (by omega) h) dX4_init_14 (q := 17) rfl ?_
  refine vv_aload_n hC 0 dX4_init_17 rfl rfl (q := 18) rfl ?_
  refine vv_newC hC hK hAd hz (n := (j + 3)) (by omega) (by omega) (K := RX5) (T := TX5) (N := 2) (ci := 5) inwX4_init_X5 tyX5 tyX5_ok (List.mem_of_getElem? (i := 4) rfl) (List.mem_of_getElem? (i := 5) rfl) (List.mem_of_getElem? (i := 6) rfl) rfl (fs := [.null, .int 0]) (fun j hj => match j, hj with | 0, _ => rfl | 1, _ => rfl | j + 2, h => absurd h (by omega)) (Nat.le_of_ble_eq_true rfl) (Nat.le_of_ble_eq_true rfl) (P1 := agr (j + 4) (ud (opn F j (.inr (4, [.ref (ad (j + 1)), .null, .null, .null, .null, .null, .null, .null])) G) (j + 3) (.inr (5, [.null, .int 0])))) (fun f h => agr_new _ h) dX4_init_18 (q := 21) rfl ?_
  refine vv_dup hC dX4_init_21 rfl (q := 22) rfl ?_
  refine vv_bipush hC (v := nI 30) dX4_init_22 rfl (q := 24) rfl ?_
  refine vv_callC hC hK hAd hz (n := (j + 4)) (by omega) (by omega) (n2 := (j + 5)) hAO (a := ad (j + 3)) (As := [.int (nI 30)]) (c5_init l hAd (j + 3) 30 (by decide) _ G ud_eq hG3 hG4) (cwI 1 hC.2.2.2.2 gX4_init_X5_init rfl rfl rfl (hC.2.2.2.2 _ (List.mem_of_getElem? (i := 6) rfl)) (hC.2.2.2.2 _ (List.mem_of_getElem? (i := 15) rfl)) (hC.2.2.2.2 _ (List.mem_of_getElem? (i := 16) rfl)) rfl hdX5_init ⟨Nat.le_of_ble_eq_true rfl, Nat.le_of_ble_eq_true rfl⟩) rfl rfl (Nat.le_of_ble_eq_true rfl) ⟨Nat.le_of_ble_eq_true rfl, Nat.le_of_ble_eq_true rfl⟩ dX4_init_24 (q := 27) rfl ?_
  refine vv_wq (P1 := agr (j + 5) (opn F j (.inr (4, [.ref (ad (j + 1)), .null, .null, .null, .null, .null, .null, .null])) G)) (fun f h => agr_many (by omega) h) ?_
  refine vv_putF hC hK (NN := (j + 5)) (wd_az hAd _) (P1 := agr (j + 5) (opn F j (.inr (4, [.ref (ad (j + 1)), .ref (ad (j + 3)), .null, .null, .null, .null, .null, .null])) G)) (K := RX4) (T := TX4) (N := 8) (ci := 4) inwX4_init_X4 tyX4 tyX4_ok nmX4 j (by omega) (fs := [.ref (ad (j + 1)), .null, .null, .null, .null, .null, .null, .null]) (fun f h => agr_at (by omega) opn_at h) rfl (ty := .object "DraftCommon$Row") 1 (by decide) (List.mem_of_getElem? (i := 8) rfl) rfl rfl hnm rfl (by decide +kernel) rfl rfl (Nat.le_of_ble_eq_true rfl) (fun f h => agr_put (by omega) h) dX4_init_27 (q := 30) rfl ?_
  refine vv_aload_n hC 0 dX4_init_30 rfl rfl (q := 31) rfl ?_
  refine vv_newC hC hK hAd hz (n := (j + 5)) (by omega) (by omega) (K := RX5) (T := TX5) (N := 2) (ci := 5) inwX4_init_X5 tyX5 tyX5_ok (List.mem_of_getElem? (i := 4) rfl) (List.mem_of_getElem? (i := 5) rfl) (List.mem_of_getElem? (i := 6) rfl) rfl (fs := [.null, .int 0]) (fun j hj => match j, hj with | 0, _ => rfl | 1, _ => rfl | j + 2, h => absurd h (by omega)) (Nat.le_of_ble_eq_true rfl) (Nat.le_of_ble_eq_true rfl) (P1 := agr (j + 6) (ud (opn F j (.inr (4, [.ref (ad (j + 1)), .ref (ad (j + 3)), .null, .null, .null, .null, .null, .null])) G) (j + 5) (.inr (5, [.null, .int 0])))) (fun f h => agr_new _ h) dX4_init_31 (q := 34) rfl ?_
  refine vv_dup hC dX4_init_34 rfl (q := 35) rfl ?_
  refine vv_bipush hC (v := nI 30) dX4_init_35 rfl (q := 37) rfl ?_
  refine vv_callC hC hK hAd hz (n := (j + 6)) (by omega) (by omega) (n2 := (j + 7)) hAO (a := ad (j + 5)) (As := [.int (nI 30)]) (c5_init l hAd (j + 5) 30 (by decide) _ G ud_eq hG5 hG6) (cwI 1 hC.2.2.2.2 gX4_init_X5_init rfl rfl rfl (hC.2.2.2.2 _ (List.mem_of_getElem? (i := 6) rfl)) (hC.2.2.2.2 _ (List.mem_of_getElem? (i := 15) rfl)) (hC.2.2.2.2 _ (List.mem_of_getElem? (i := 16) rfl)) rfl hdX5_init ⟨Nat.le_of_ble_eq_true rfl, Nat.le_of_ble_eq_true rfl⟩) rfl rfl (Nat.le_of_ble_eq_true rfl) ⟨Nat.le_of_ble_eq_true rfl, Nat.le_of_ble_eq_true rfl⟩ dX4_init_37 (q := 40) rfl ?_
  refine vv_wq (P1 := agr (j + 7) (opn F j (.inr (4, [.ref (ad (j + 1)), .ref (ad (j + 3)), .null, .null, .null, .null, .null, .null])) G)) (fun f h => agr_many (by omega) h) ?_
  refine vv_putF hC hK (NN := (j + 7)) (wd_az hAd _) (P1 := agr (j + 7) (opn F j (.inr (4, [.ref (ad (j + 1)), .ref (ad (j + 3)), .ref (ad (j + 5)), .null, .null, .null, .null, .null])) G)) (K := RX4) (T := TX4) (N := 8) (ci := 4) inwX4_init_X4 tyX4 tyX4_ok nmX4 j (by omega) (fs := [.ref (ad (j + 1)), .ref (ad (j + 3)), .null, .null, .null, .null, .null, .null]) (fun f h => agr_at (by omega) opn_at h) rfl (ty := .object "DraftCommon$Row") 2 (by decide) (List.mem_of_getElem? (i := 9) rfl) rfl rfl hnm rfl (by decide +kernel) rfl rfl (Nat.le_of_ble_eq_true rfl) (fun f h => agr_put (by omega) h) dX4_init_40 (q := 43) rfl ?_
  refine vv_aload_n hC 0 dX4_init_43 rfl rfl (q := 44) rfl ?_
  refine vv_newC hC hK hAd hz (n := (j + 7)) (by omega) (by omega) (K := RX5) (T := TX5) (N := 2) (ci := 5) inwX4_init_X5 tyX5 tyX5_ok (List.mem_of_getElem? (i := 4) rfl) (List.mem_of_getElem? (i := 5) rfl) (List.mem_of_getElem? (i := 6) rfl) rfl (fs := [.null, .int 0]) (fun j hj => match j, hj with | 0, _ => rfl | 1, _ => rfl | j + 2, h => absurd h (by omega)) (Nat.le_of_ble_eq_true rfl) (Nat.le_of_ble_eq_true rfl) (P1 := agr (j + 8) (ud (opn F j (.inr (4, [.ref (ad (j + 1)), .ref (ad (j + 3)), .ref (ad (j + 5)), .null, .null, .null, .null, .null])) G) (j + 7) (.inr (5, [.null, .int 0])))) (fun f h => agr_new _ h) dX4_init_44 (q := 47) rfl ?_
  refine vv_dup hC dX4_init_47 rfl (q := 48) rfl ?_
  refine vv_bipush hC (v := nI 30) dX4_init_48 rfl (q := 50) rfl ?_
  refine vv_callC hC hK hAd hz (n := (j + 8)) (by omega) (by omega) (n2 := (j + 9)) hAO (a := ad (j + 7)) (As := [.int (nI 30)]) (c5_init l hAd (j + 7) 30 (by decide) _ G ud_eq hG7 hG8) (cwI 1 hC.2.2.2.2 gX4_init_X5_init rfl rfl rfl (hC.2.2.2.2 _ (List.mem_of_getElem? (i := 6) rfl)) (hC.2.2.2.2 _ (List.mem_of_getElem? (i := 15) rfl)) (hC.2.2.2.2 _ (List.mem_of_getElem? (i := 16) rfl)) rfl hdX5_init ⟨Nat.le_of_ble_eq_true rfl, Nat.le_of_ble_eq_true rfl⟩) rfl rfl (Nat.le_of_ble_eq_true rfl) ⟨Nat.le_of_ble_eq_true rfl, Nat.le_of_ble_eq_true rfl⟩ dX4_init_50 (q := 53) rfl ?_
  refine vv_wq (P1 := agr (j + 9) (opn F j (.inr (4, [.ref (ad (j + 1)), .ref (ad (j + 3)), .ref (ad (j + 5)), .null, .null, .null, .null, .null])) G)) (fun f h => agr_many (by omega) h) ?_
  refine vv_putF hC hK (NN := (j + 9)) (wd_az hAd _) (P1 := agr (j + 9) (opn F j (.inr (4, [.ref (ad (j + 1)), .ref (ad (j + 3)), .ref (ad (j + 5)), .ref (ad (j + 7)), .null, .null, .null, .null])) G)) (K := RX4) (T := TX4) (N := 8) (ci := 4) inwX4_init_X4 tyX4 tyX4_ok nmX4 j (by omega) (fs := [.ref (ad (j + 1)), .ref (ad (j + 3)), .ref (ad (j + 5)), .null, .null, .null, .null, .null]) (fun f h => agr_at (by omega) opn_at h) rfl (ty := .object "DraftCommon$Row") 3 (by decide) (List.mem_of_getElem? (i := 10) rfl) rfl rfl hnm rfl (by decide +kernel) rfl rfl (Nat.le_of_ble_eq_true rfl) (fun f h => agr_put (by omega) h) dX4_init_53 (q := 56) rfl ?_
  refine vv_aload_n hC 0 dX4_init_56 rfl rfl (q := 57) rfl ?_
  refine vv_newC hC hK hAd hz (n := (j + 9)) (by omega) (by omega) (K := RX5) (T := TX5) (N := 2) (ci := 5) inwX4_init_X5 tyX5 tyX5_ok (List.mem_of_getElem? (i := 4) rfl) (List.mem_of_getElem? (i := 5) rfl) (List.mem_of_getElem? (i := 6) rfl) rfl (fs := [.null, .int 0]) (fun j hj => match j, hj with | 0, _ => rfl | 1, _ => rfl | j + 2, h => absurd h (by omega)) (Nat.le_of_ble_eq_true rfl) (Nat.le_of_ble_eq_true rfl) (P1 := agr (j + 10) (ud (opn F j (.inr (4, [.ref (ad (j + 1)), .ref (ad (j + 3)), .ref (ad (j + 5)), .ref (ad (j + 7)), .null, .null, .null, .null])) G) (j + 9) (.inr (5, [.null, .int 0])))) (fun f h => agr_new _ h) dX4_init_57 (q := 60) rfl ?_
  refine vv_dup hC dX4_init_60 rfl (q := 61) rfl ?_
  refine vv_bipush hC (v := nI 30) dX4_init_61 rfl (q := 63) rfl ?_
  refine vv_callC hC hK hAd hz (n := (j + 10)) (by omega) (by omega) (n2 := (j + 11)) hAO (a := ad (j + 9)) (As := [.int (nI 30)]) (c5_init l hAd (j + 9) 30 (by decide) _ G ud_eq hG9 hG10) (cwI 1 hC.2.2.2.2 gX4_init_X5_init rfl rfl rfl (hC.2.2.2.2 _ (List.mem_of_getElem? (i := 6) rfl)) (hC.2.2.2.2 _ (List.mem_of_getElem? (i := 15) rfl)) (hC.2.2.2.2 _ (List.mem_of_getElem? (i := 16) rfl)) rfl hdX5_init ⟨Nat.le_of_ble_eq_true rfl, Nat.le_of_ble_eq_true rfl⟩) rfl rfl (Nat.le_of_ble_eq_true rfl) ⟨Nat.le_of_ble_eq_true rfl, Nat.le_of_ble_eq_true rfl⟩ dX4_init_63 (q := 66) rfl ?_
  refine vv_wq (P1 := agr (j + 11) (opn F j (.inr (4, [.ref (ad (j + 1)), .ref (ad (j + 3)), .ref (ad (j + 5)), .ref (ad (j + 7)), .null, .null, .null, .null])) G)) (fun f h => agr_many (by omega) h) ?_
  refine vv_putF hC hK (NN := (j + 11)) (wd_az hAd _) (P1 := agr (j + 11) (opn F j (.inr (4, [.ref (ad (j + 1)), .ref (ad (j + 3)), .ref (ad (j + 5)), .ref (ad (j + 7)), .ref (ad (j + 9)), .null, .null, .null])) G)) (K := RX4) (T := TX4) (N := 8) (ci := 4) inwX4_init_X4 tyX4 tyX4_ok nmX4 j (by omega) (fs := [.ref (ad (j + 1)), .ref (ad (j + 3)), .ref (ad (j + 5)), .ref (ad (j + 7)), .null, .null, .null, .null]) (fun f h => agr_at (by omega) opn_at h) rfl (ty := .object "DraftCommon$Row") 4 (by decide) (List.mem_of_getElem? (i := 11) rfl) rfl rfl hnm rfl (by decide +kernel) rfl rfl (Nat.le_of_ble_eq_true rfl) (fun f h => agr_put (by omega) h) dX4_init_66 (q := 69) rfl ?_
  refine vv_aload_n hC 0 dX4_init_69 rfl rfl (q := 70) rfl ?_
  refine vv_newC hC hK hAd hz (n := (j + 11)) (by omega) (by omega) (K := RX5) (T := TX5) (N := 2) (ci := 5) inwX4_init_X5 tyX5 tyX5_ok (List.mem_of_getElem? (i := 4) rfl) (List.mem_of_getElem? (i := 5) rfl) (List.mem_of_getElem? (i := 6) rfl) rfl (fs := [.null, .int 0]) (fun j hj => match j, hj with | 0, _ => rfl | 1, _ => rfl | j + 2, h => absurd h (by omega)) (Nat.le_of_ble_eq_true rfl) (Nat.le_of_ble_eq_true rfl) (P1 := agr (j + 12) (ud (opn F j (.inr (4, [.ref (ad (j + 1)), .ref (ad (j + 3)), .ref (ad (j + 5)), .ref (ad (j + 7)), .ref (ad (j + 9)), .null, .null, .null])) G) (j + 11) (.inr (5, [.null, .int 0])))) (fun f h => agr_new _ h) dX4_init_70 (q := 73) rfl ?_
  refine vv_dup hC dX4_init_73 rfl (q := 74) rfl ?_
  refine vv_bipush hC (v := nI 30) dX4_init_74 rfl (q := 76) rfl ?_
  refine vv_callC hC hK hAd hz (n := (j + 12)) (by omega) (by omega) (n2 := (j + 13)) hAO (a := ad (j + 11)) (As := [.int (nI 30)]) (c5_init l hAd (j + 11) 30 (by decide) _ G ud_eq hG11 hG12) (cwI 1 hC.2.2.2.2 gX4_init_X5_init rfl rfl rfl (hC.2.2.2.2 _ (List.mem_of_getElem? (i := 6) rfl)) (hC.2.2.2.2 _ (List.mem_of_getElem? (i := 15) rfl)) (hC.2.2.2.2 _ (List.mem_of_getElem? (i := 16) rfl)) rfl hdX5_init ⟨Nat.le_of_ble_eq_true rfl, Nat.le_of_ble_eq_true rfl⟩) rfl rfl (Nat.le_of_ble_eq_true rfl) ⟨Nat.le_of_ble_eq_true rfl, Nat.le_of_ble_eq_true rfl⟩ dX4_init_76 (q := 79) rfl ?_
  refine vv_wq (P1 := agr (j + 13) (opn F j (.inr (4, [.ref (ad (j + 1)), .ref (ad (j + 3)), .ref (ad (j + 5)), .ref (ad (j + 7)), .ref (ad (j + 9)), .null, .null, .null])) G)) (fun f h => agr_many (by omega) h) ?_
  refine vv_putF hC hK (NN := (j + 13)) (wd_az hAd _) (P1 := agr (j + 13) (opn F j (.inr (4, [.ref (ad (j + 1)), .ref (ad (j + 3)), .ref (ad (j + 5)), .ref (ad (j + 7)), .ref (ad (j + 9)), .ref (ad (j + 11)), .null, .null])) G)) (K := RX4) (T := TX4) (N := 8) (ci := 4) inwX4_init_X4 tyX4 tyX4_ok nmX4 j (by omega) (fs := [.ref (ad (j + 1)), .ref (ad (j + 3)), .ref (ad (j + 5)), .ref (ad (j + 7)), .ref (ad (j + 9)), .null, .null, .null]) (fun f h => agr_at (by omega) opn_at h) rfl (ty := .object "DraftCommon$Row") 5 (by decide) (List.mem_of_getElem? (i := 12) rfl) rfl rfl hnm rfl (by decide +kernel) rfl rfl (Nat.le_of_ble_eq_true rfl) (fun f h => agr_put (by omega) h) dX4_init_79 (q := 82) rfl ?_
  refine vv_aload_n hC 0 dX4_init_82 rfl rfl (q := 83) rfl ?_
  refine vv_iconst hC (v := nI 4) dX4_init_83 rfl (q := 84) rfl ?_
  refine vv_iconst hC (v := nI 1) dX4_init_84 rfl (q := 85) rfl ?_
  refine vv_callCr hC hK hAd hz (n := (j + 13)) (by omega) (by omega) (n2 := (j + 15)) hAO (a := ad (j + 13)) (As := [.int (nI 4), .int (nI 1)]) (c5_filled l hAd (j + 13) (by omega) 4 (by decide) (nI 1) _ G hG13 hG14) (va_cwS 2 hC.2.2.2.2 gX4_init_X5_filled rfl rfl rfl hsX5_filled ⟨Nat.le_of_ble_eq_true rfl, Nat.le_of_ble_eq_true rfl⟩) rfl rfl (Nat.le_of_ble_eq_true rfl) ⟨Nat.le_of_ble_eq_true rfl, Nat.le_of_ble_eq_true rfl⟩ dX4_init_85 (q := 88) rfl ?_
  refine vv_wq (P1 := agr (j + 15) (opn F j (.inr (4, [.ref (ad (j + 1)), .ref (ad (j + 3)), .ref (ad (j + 5)), .ref (ad (j + 7)), .ref (ad (j + 9)), .ref (ad (j + 11)), .null, .null])) G)) (fun f h => agr_stat (by omega) h) ?_
  refine vv_putF hC hK (NN := (j + 15)) (wd_az hAd _) (P1 := agr (j + 15) (opn F j (.inr (4, [.ref (ad (j + 1)), .ref (ad (j + 3)), .ref (ad (j + 5)), .ref (ad (j + 7)), .ref (ad (j + 9)), .ref (ad (j + 11)), .ref (ad (j + 13)), .null])) G)) (K := RX4) (T := TX4) (N := 8) (ci := 4) inwX4_init_X4 tyX4 tyX4_ok nmX4 j (by omega) (fs := [.ref (ad (j + 1)), .ref (ad (j + 3)), .ref (ad (j + 5)), .ref (ad (j + 7)), .ref (ad (j + 9)), .ref (ad (j + 11)), .null, .null]) (fun f h => agr_at (by omega) opn_at h) rfl (ty := .object "DraftCommon$Row") 6 (by decide) (List.mem_of_getElem? (i := 13) rfl) rfl rfl hnm rfl (by decide +kernel) rfl rfl (Nat.le_of_ble_eq_true rfl) (fun f h => agr_put (by omega) h) dX4_init_88 (q := 91) rfl ?_
  refine vv_aload_n hC 0 dX4_init_91 rfl rfl (q := 92) rfl ?_
  refine vv_iconst hC (v := nI 4) dX4_init_92 rfl (q := 93) rfl ?_
  refine vv_iconst hC (v := nI 0) dX4_init_93 rfl (q := 94) rfl ?_
  refine vv_callCr hC hK hAd hz (n := (j + 15)) (by omega) (by omega) (n2 := (j + 17)) hAO (a := ad (j + 15)) (As := [.int (nI 4), .int (nI 0)]) (c5_filled l hAd (j + 15) (by omega) 4 (by decide) (nI 0) _ G hG15 hG16) (va_cwS 2 hC.2.2.2.2 gX4_init_X5_filled rfl rfl rfl hsX5_filled ⟨Nat.le_of_ble_eq_true rfl, Nat.le_of_ble_eq_true rfl⟩) rfl rfl (Nat.le_of_ble_eq_true rfl) ⟨Nat.le_of_ble_eq_true rfl, Nat.le_of_ble_eq_true rfl⟩ dX4_init_94 (q := 97) rfl ?_
  refine vv_wq (P1 := agr (j + 17) (opn F j (.inr (4, [.ref (ad (j + 1)), .ref (ad (j + 3)), .ref (ad (j + 5)), .ref (ad (j + 7)), .ref (ad (j + 9)), .ref (ad (j + 11)), .ref (ad (j + 13)), .null])) G)) (fun f h => agr_stat (by omega) h) ?_
  refine vv_putF hC hK (NN := (j + 17)) (wd_az hAd _) (P1 := agr (j + 17) (opn F j (.inr (4, [.ref (ad (j + 1)), .ref (ad (j + 3)), .ref (ad (j + 5)), .ref (ad (j + 7)), .ref (ad (j + 9)), .ref (ad (j + 11)), .ref (ad (j + 13)), .ref (ad (j + 15))])) G)) (K := RX4) (T := TX4) (N := 8) (ci := 4) inwX4_init_X4 tyX4 tyX4_ok nmX4 j (by omega) (fs := [.ref (ad (j + 1)), .ref (ad (j + 3)), .ref (ad (j + 5)), .ref (ad (j + 7)), .ref (ad (j + 9)), .ref (ad (j + 11)), .ref (ad (j + 13)), .null]) (fun f h => agr_at (by omega) opn_at h) rfl (ty := .object "DraftCommon$Row") 7 (by decide) (List.mem_of_getElem? (i := 14) rfl) rfl rfl hnm rfl (by decide +kernel) rfl rfl (Nat.le_of_ble_eq_true rfl) (fun f h => agr_put (by omega) h) dX4_init_97 (q := 100) rfl ?_
  exact vv_vretC hC hK hAd hz (k := (j + 1)) (mc := 16) (n := (j + 17)) (by omega) (by omega) hr hlk (fun f h => agr_end hG0 h) dX4_init_100
theorem c2_wordsC (l : Launch) {D : va_G} {cI cW cZ cL : ClassId} {ad : Nat → Nat} {z n : Nat} (hAd : ∀ i, ad i = z + i) {P : (Nat → va_E) → Prop} {x y w : Value} (h1 : ∀ f, P f → f 1 = .inr (2, [.ref (ad 2), x, y, w])) (hn : 1 < n) : kMr l yX2_words wsX2_words ({ frames := 0, cells := 0, slots := 0, locals := 0 }) D vwCl (tyL cI cW cZ cL) ad n [.ref (ad 1)] P (ad 2) P := by
  refine vv_enter (cc := cX2_words) (maxL := 1) (ret := (some (.object "DraftCommon$Words"))) (own := RX2) (lv := [(0, .ref (ad 1))]) (by decide +kernel) rfl rfl (inj_az hAd n) (Nat.le_of_ble_eq_true rfl) rfl ?_
  intro p e s m args below meth c hC hK hW hr hlk
  refine vv_aload_n hC 0 dX2_words_0 rfl rfl (q := 1) rfl ?_
  refine vv_get hC hK (K := RX2) (T := TX2) (N := 4) (ci := 2) inwX2_words_X2 1 hn (fs := [.ref (ad 2), x, y, w]) h1 rfl 0 (by decide) (List.mem_of_getElem? (i := 1) rfl) rfl (v := .ref (ad 2)) rfl dX2_words_1 (q := 4) rfl ?_
  exact vv_aret hC hK hr hlk rfl (fun f h => h) dX2_words_4
def S00 : sC := (fun j => if j = 59 then List.replicate 6 (nI 0) else if j = 74 then List.replicate 4 (nI 1) else if j = 76 then List.replicate 4 (nI 0) else [], nI 0, nI 0)
def G0 (cI cW : ClassId) (ad : Nat → Nat) : Nat → va_E := fC cI cW ad (fun _ _ => 0) S00
def gW (ad : Nat → Nat) (w : Nat) : Nat → Option Nat := fun i => if i < w then some (ad (23 + 6 * i)) else none
theorem gW_up {ad : Nat → Nat} (w : Nat) : va_up (gW ad w) w (some (ad (23 + 6 * w))) = gW ad (w + 1) := funext fun i => by
  unfold va_up gW
  by_cases e : i = w
  · subst e; rw [if_pos rfl, if_pos (by omega)]
  · rw [if_neg e]
    by_cases e2 : i < w
    · rw [if_pos e2, if_pos (by omega)]
    · rw [if_neg e2, if_neg (by omega)]
theorem G0_22 {cI cW : ClassId} {ad : Nat → Nat} : G0 cI cW ad 22 = .inl (cW, (6, .inr (.inr (.inr (.inr (gW ad 6)))))) := rfl
theorem inwX8_init_X2 : ∀ w ∈ wsX20, w ∈ wsX8_init := fun _ h => List.mem_cons_of_mem _ (List.mem_append_left _ (List.mem_append_left _ (List.mem_append_left _ (List.mem_append_left _ (List.mem_append_left _ (List.mem_append_left _ (List.mem_append_left _ (List.mem_append_left _ (List.mem_append_right _ h)))))))))
theorem inwX8_init_X8 : ∀ w ∈ wsX80, w ∈ wsX8_init := fun _ h => List.mem_cons_of_mem _ (List.mem_append_left _ (List.mem_append_left _ (List.mem_append_left _ (List.mem_append_left _ (List.mem_append_left _ (List.mem_append_left _ (List.mem_append_left _ (List.mem_append_right _ h))))))))
theorem inwX8_init_X7 : ∀ w ∈ wsX70, w ∈ wsX8_init := fun _ h => List.mem_cons_of_mem _ (List.mem_append_left _ (List.mem_append_left _ (List.mem_append_left _ (List.mem_append_left _ (List.mem_append_left _ (List.mem_append_left _ (List.mem_append_right _ h)))))))
theorem inwX8_init_X4 : ∀ w ∈ wsX40, w ∈ wsX8_init := fun _ h => List.mem_cons_of_mem _ (List.mem_append_left _ (List.mem_append_left _ (List.mem_append_left _ (List.mem_append_left _ (List.mem_append_left _ (List.mem_append_right _ h))))))
theorem inwX8_init_X3 : ∀ w ∈ wsX30, w ∈ wsX8_init := fun _ h => List.mem_cons_of_mem _ (List.mem_append_left _ (List.mem_append_left _ (List.mem_append_left _ (List.mem_append_left _ (List.mem_append_right _ h)))))
theorem inwX8_init_X1 : ∀ w ∈ wsX10, w ∈ wsX8_init := fun _ h => List.mem_cons_of_mem _ (List.mem_append_left _ (List.mem_append_left _ (List.mem_append_left _ (List.mem_append_right _ h))))
theorem inwX8_init_X6 : ∀ w ∈ wsX60, w ∈ wsX8_init := fun _ h => List.mem_cons_of_mem _ (List.mem_append_left _ (List.mem_append_left _ (List.mem_append_right _ h)))
theorem inwX8_init_X5 : ∀ w ∈ wsX50, w ∈ wsX8_init := fun _ h => List.mem_cons_of_mem _ (List.mem_append_left _ (List.mem_append_right _ h))
theorem inwX8_init_X0 : ∀ w ∈ wsX00, w ∈ wsX8_init := fun _ h => List.mem_cons_of_mem _ (List.mem_append_right _ h)
theorem hdX8_init : yX8_init.cls ≠ "java/lang/invoke/MethodHandle" ∧ yX8_init.cls ≠ "java/lang/invoke/VarHandle" ∧ (parseMethodDescriptor yX8_init.desc).map (fun d => d.parameters.length) = some 0 := by decide +kernel
set_option maxRecDepth 100000 in
set_option maxHeartbeats 8000000 in
theorem c8_init (l : Launch) {D : va_G} {cI cW cZ cL : ClassId} {ad : Nat → Nat} {z : Nat} (hAd : ∀ i, ad i = z + i) (F G : Nat → va_E) (hG : G = G0 cI cW ad) (hF : F 0 = .inr (8, [.null, .null, .null, .null, .null, .null, .null, .int 0, .int 0])) : kC l yX8_init wsX8_init ({ frames := 5, cells := 89, slots := 8828, locals := 126 }) D vwCl (tyL cI cW cZ cL) ad z 1 90 [.ref (ad 0)] (agr 1 F) (agr 90 (mix F 0 (G0 cI cW ad))) 89 8828 := by
  subst hG
  refine vv_enterC (cc := cX8_init) (maxL := 2) (ret := none) (own := RX8) (lv := [(0, .ref (ad 0))]) (by decide +kernel) rfl rfl hAd (Nat.le_of_ble_eq_true rfl) rfl ?_
  intro p e s m args below meth c hC hK hz hAO hnm hr hlk
  refine vv_wq (P1 := agr 1 (opn F 0 (.inr (8, [.null, .null, .null, .null, .null, .null, .null, .int 0, .int 0])) (G0 cI cW ad))) (fun f h => agr_start hF h) ?_
  refine vv_aload_n hC 0 dX8_init_0 rfl rfl (q := 1) rfl ?_
  refine vv_objinit hC (List.mem_of_getElem? (i := 1) rfl) (List.mem_of_getElem? (i := 2) rfl) (List.mem_of_getElem? (i := 3) rfl) (Nat.le_of_ble_eq_true rfl) (Nat.le_of_ble_eq_true rfl) dX8_init_1 (q := 4) rfl ?_
  refine vv_aload_n hC 0 dX8_init_4 rfl rfl (q := 5) rfl ?_
  refine vv_newC hC hK hAd hz (n := 1) (by omega) (by omega) (K := RX2) (T := TX2) (N := 4) (ci := 2) inwX8_init_X2 tyX2 tyX2_ok (List.mem_of_getElem? (i := 4) rfl) (List.mem_of_getElem? (i := 5) rfl) (List.mem_of_getElem? (i := 6) rfl) rfl (fs := [.null, .null, .null, .null]) (fun j hj => match j, hj with | 0, _ => rfl | 1, _ => rfl | 2, _ => rfl | 3, _ => rfl | j + 4, h => absurd h (by omega)) (Nat.le_of_ble_eq_true rfl) (Nat.le_of_ble_eq_true rfl) (P1 := agr 2 (ud (opn F 0 (.inr (8, [.null, .null, .null, .null, .null, .null, .null, .int 0, .int 0])) (G0 cI cW ad)) 1 (.inr (2, [.null, .null, .null, .null])))) (fun f h => agr_new _ h) dX8_init_5 (q := 8) rfl ?_
  refine vv_dup hC dX8_init_8 rfl (q := 9) rfl ?_
  refine vv_callN hC hK hAd hz (n := 2) (by omega) (by omega) (n2 := 22) hAO (a := ad 1) (As := []) (c2_init l hAd 1 _ (G0 cI cW ad) ud_eq rfl rfl rfl rfl rfl rfl rfl rfl rfl rfl rfl rfl rfl rfl rfl rfl rfl rfl rfl rfl rfl) ⟨va_cnB (host := "DraftCommon") 0 hC.2.2.2.2 gX8_init_X2_init_n9 rfl rfl rfl (hAO.2 _ (List.mem_of_getElem? (i := 3) rfl)) (hC.2.2.2.2 _ (List.mem_of_getElem? (i := 6) rfl)) hdX2_init ⟨Nat.le_of_ble_eq_true rfl, Nat.le_of_ble_eq_true rfl⟩, rfl, (hC.2.2.2.2 _ (List.mem_of_getElem? (i := 28) rfl))⟩ rfl rfl (Nat.le_of_ble_eq_true rfl) ⟨Nat.le_of_ble_eq_true rfl, Nat.le_of_ble_eq_true rfl⟩ dX8_init_9 (q := 12) rfl ?_
  refine vv_wq (P1 := agr 22 (opn F 0 (.inr (8, [.null, .null, .null, .null, .null, .null, .null, .int 0, .int 0])) (G0 cI cW ad))) (fun f h => agr_many (by omega) h) ?_
  refine vv_putF hC hK (NN := 22) (wd_az hAd _) (P1 := agr 22 (opn F 0 (.inr (8, [.ref (ad 1), .null, .null, .null, .null, .null, .null, .int 0, .int 0])) (G0 cI cW ad))) (K := RX8) (T := TX8) (N := 9) (ci := 8) inwX8_init_X8 tyX8 tyX8_ok nmX8 0 (by omega) (fs := [.null, .null, .null, .null, .null, .null, .null, .int 0, .int 0]) (fun f h => agr_at (by omega) opn_at h) rfl (ty := .object "DraftCommon$Draft") 0 (by decide) (List.mem_of_getElem? (i := 7) rfl) rfl rfl hnm rfl (by decide +kernel) rfl rfl (Nat.le_of_ble_eq_true rfl) (fun f h => agr_put (by omega) h) dX8_init_12 (q := 15) rfl ?_
  refine vv_aload_n hC 0 dX8_init_15 rfl rfl (q := 16) rfl ?_
  refine vv_aload_n hC 0 dX8_init_16 rfl rfl (q := 17) rfl ?_
  refine vv_get hC hK (K := RX8) (T := TX8) (N := 9) (ci := 8) inwX8_init_X8 0 (by omega) (fs := [.ref (ad 1), .null, .null, .null, .null, .null, .null, .int 0, .int 0]) (fun f h => agr_at (by omega) opn_at h) rfl 0 (by decide) (List.mem_of_getElem? (i := 7) rfl) rfl (v := .ref (ad 1)) rfl dX8_init_17 (q := 20) rfl ?_
  refine vv_callr hC hK (fun q h => by obtain ⟨i, hi, rfl⟩ := h; rw [hAd]; exact Nat.le_add_right z i) (As := []) 1 (by omega) (fun f h => ⟨_, (agr_at (by omega) (opn_up (by omega)) h).trans rfl⟩) rfl (c2_wordsC l hAd (P := agr 22 (opn F 0 (.inr (8, [.ref (ad 1), .null, .null, .null, .null, .null, .null, .int 0, .int 0])) (G0 cI cW ad))) (fun f h => (agr_at (by omega) (opn_up (by omega)) h).trans rfl) (by omega)) (cwV 0 hC.2.2.2.2 gX8_init_X2_words rfl rfl rfl hdX2_words ⟨Nat.le_of_ble_eq_true rfl, Nat.le_of_ble_eq_true rfl⟩) rfl rfl (Nat.le_of_ble_eq_true rfl) ⟨Nat.le_of_ble_eq_true rfl, Nat.le_of_ble_eq_true rfl⟩ dX8_init_20 (q := 23) rfl ?_
  refine vv_putF hC hK (NN := 22) (wd_az hAd _) (P1 := agr 22 (opn F 0 (.inr (8, [.ref (ad 1), .ref (ad 2), .null, .null, .null, .null, .null, .int 0, .int 0])) (G0 cI cW ad))) (K := RX8) (T := TX8) (N := 9) (ci := 8) inwX8_init_X8 tyX8 tyX8_ok nmX8 0 (by omega) (fs := [.ref (ad 1), .null, .null, .null, .null, .null, .null, .int 0, .int 0]) (fun f h => agr_at (by omega) opn_at h) rfl (ty := .object "DraftCommon$Words") 1 (by decide) (List.mem_of_getElem? (i := 8) rfl) rfl rfl hnm rfl (by decide +kernel) rfl rfl (Nat.le_of_ble_eq_true rfl) (fun f h => agr_put (by omega) h) dX8_init_23 (q := 26) rfl ?_
  refine vv_aload_n hC 0 dX8_init_26 rfl rfl (q := 27) rfl ?_
  refine vv_bipush hC (v := nI 6) dX8_init_27 rfl (q := 29) rfl ?_
  refine vv_newqC hC hK hAd hz (n := 22) (by omega) (by omega) (List.mem_of_getElem? (i := 9) rfl) hAO.1 1 rfl (nn := nI 6) (N' := 6) (nI_pos (by decide)) (nI_clamp (by decide)) (Nat.le_of_ble_eq_true rfl) (Nat.le_of_ble_eq_true rfl) (Nat.le_of_ble_eq_true rfl) (P1 := agr 23 (ud (opn F 0 (.inr (8, [.ref (ad 1), .ref (ad 2), .null, .null, .null, .null, .null, .int 0, .int 0])) (G0 cI cW ad)) 22 (.inl (cW, (6, .inr (.inr (.inr (.inr (gW ad 0))))))))) (fun f h => agr_new _ h) dX8_init_29 (q := 32) rfl ?_
  refine vv_putF hC hK (wd_az hAd _) (P1 := agr 23 (ud (opn F 0 (.inr (8, [.ref (ad 1), .ref (ad 2), .ref (ad 22), .null, .null, .null, .null, .int 0, .int 0])) (G0 cI cW ad)) 22 (.inl (cW, (6, .inr (.inr (.inr (.inr (gW ad 0))))))))) (K := RX8) (T := TX8) (N := 9) (ci := 8) inwX8_init_X8 tyX8 tyX8_ok nmX8 0 (by omega) (fs := [.ref (ad 1), .ref (ad 2), .null, .null, .null, .null, .null, .int 0, .int 0]) (fun f h => ((h 0 (by omega)).trans (ud_ne (by omega))).trans opn_at) rfl (ty := .array (.object "DraftCommon$Writer")) 2 (by decide) (List.mem_of_getElem? (i := 10) rfl) rfl rfl hnm rfl (by decide +kernel) rfl rfl (Nat.le_of_ble_eq_true rfl) (fun f h => agr_putA (by omega) h) dX8_init_32 (q := 35) rfl ?_
  refine vv_iconst hC (v := nI 0) dX8_init_35 rfl (q := 36) rfl ?_
  refine vv_istore_n hC (i := 1) (lv' := [(1, .int (nI 0)), (0, .ref (ad 0))]) dX8_init_36 rfl (by decide) rfl (q := 37) rfl ?_
  refine vv_iload_n hC 0 dX8_init_37 rfl rfl (q := 38) rfl ?_
  refine vv_aload_n hC 1 dX8_init_38 rfl rfl (q := 39) rfl ?_
  refine vv_get hC hK (K := RX8) (T := TX8) (N := 9) (ci := 8) inwX8_init_X8 0 (by omega) (fs := [.ref (ad 1), .ref (ad 2), .ref (ad 22), .null, .null, .null, .null, .int 0, .int 0]) (fun f h => ((h 0 (by omega)).trans (ud_ne (by omega))).trans opn_at) rfl 2 (by decide) (List.mem_of_getElem? (i := 10) rfl) rfl (v := .ref (ad 22)) rfl dX8_init_39 (q := 42) rfl ?_
  refine vv_alen hC hK 22 (by omega) 1 (x := (6, .inl fun _ => 0)) (fun f h => ⟨_, (h 22 (by omega)).trans ud_eq⟩) rfl (v := nI 6) rfl dX8_init_42 (q := 43) rfl ?_
  refine vv_icmpN_ge hC (tgt := 65) (by decide) (by decide) dX8_init_43 (by decide) (q := 46) rfl (fun h => absurd h (by decide)) (fun _ => ?_)
  refine vv_aload_n hC 1 dX8_init_46 rfl rfl (q := 47) rfl ?_
  refine vv_get hC hK (K := RX8) (T := TX8) (N := 9) (ci := 8) inwX8_init_X8 0 (by omega) (fs := [.ref (ad 1), .ref (ad 2), .ref (ad 22), .null, .null, .null, .null, .int 0, .int 0]) (fun f h => ((h 0 (by omega)).trans (ud_ne (by omega))).trans opn_at) rfl 2 (by decide) (List.mem_of_getElem? (i := 10) rfl) rfl (v := .ref (ad 22)) rfl dX8_init_47 (q := 50) rfl ?_
  refine vv_iload_n hC 0 dX8_init_50 rfl rfl (q := 51) rfl ?_
  refine vv_newC hC hK hAd hz (n := 23) (by omega) (by omega) (K := RX7) (T := TX7) (N := 2) (ci := 7) inwX8_init_X7 tyX7 tyX7_ok (List.mem_of_getElem? (i := 9) rfl) (List.mem_of_getElem? (i := 11) rfl) (List.mem_of_getElem? (i := 12) rfl) rfl (fs := [.null, .null]) (fun j hj => match j, hj with | 0, _ => rfl | 1, _ => rfl | j + 2, h => absurd h (by omega)) (Nat.le_of_ble_eq_true rfl) (Nat.le_of_ble_eq_true rfl) (P1 := agr 24 (ud (ud (opn F 0 (.inr (8, [.ref (ad 1), .ref (ad 2), .ref (ad 22), .null, .null, .null, .null, .int 0, .int 0])) (G0 cI cW ad)) 22 (.inl (cW, (6, .inr (.inr (.inr (.inr (gW ad 0)))))))) 23 (.inr (7, [.null, .null])))) (fun f h => agr_new _ h) dX8_init_51 (q := 54) rfl ?_
  refine vv_dup hC dX8_init_54 rfl (q := 55) rfl ?_
  refine vv_callN hC hK hAd hz (n := 24) (by omega) (by omega) (n2 := 29) hAO (a := ad 23) (As := []) (c7_init l hAd 23 _ (G0 cI cW ad) ud_eq rfl rfl rfl rfl rfl rfl) ⟨va_cnB (host := "DraftCommon") 0 hC.2.2.2.2 gX8_init_X7_init_n29 rfl rfl rfl (hAO.2 _ (List.mem_of_getElem? (i := 4) rfl)) (hC.2.2.2.2 _ (List.mem_of_getElem? (i := 12) rfl)) hdX7_init ⟨Nat.le_of_ble_eq_true rfl, Nat.le_of_ble_eq_true rfl⟩, rfl, (hC.2.2.2.2 _ (List.mem_of_getElem? (i := 72) rfl))⟩ rfl rfl (Nat.le_of_ble_eq_true rfl) ⟨Nat.le_of_ble_eq_true rfl, Nat.le_of_ble_eq_true rfl⟩ dX8_init_55 (q := 58) rfl ?_
  refine vv_wq (P1 := agr 29 (ud (opn F 0 (.inr (8, [.ref (ad 1), .ref (ad 2), .ref (ad 22), .null, .null, .null, .null, .int 0, .int 0])) (G0 cI cW ad)) 22 (.inl (cW, (6, .inr (.inr (.inr (.inr (gW ad 0))))))))) (fun f h => agr_manyX (fun i hi => (ud_ne (by omega)).trans (opn_up (by omega))) h) ?_
  refine vv_aast hC hK (wd_az hAd _) 22 (by omega) 23 (by omega) 1 (fun f h => (h 22 (by omega)).trans ud_eq) rfl (fun f h => ⟨_, ((h 23 (by omega)).trans ((ud_ne (by omega)).trans (opn_up (by omega)))).trans rfl⟩) (r := (RX7, TX7, 2)) rfl (vp_in_nI (by decide) (by decide)) (P1 := agr 29 (ud (opn F 0 (.inr (8, [.ref (ad 1), .ref (ad 2), .ref (ad 22), .null, .null, .null, .null, .int 0, .int 0])) (G0 cI cW ad)) 22 (.inl (cW, (6, .inr (.inr (.inr (.inr (gW ad 1))))))))) (fun f h => by rw [nI_clamp (by decide)]; rw [← gW_up 0]; exact agr_ud h) dX8_init_58 (q := 59) rfl ?_
  refine vv_iinc hC (i := 1) (v := nI (0 + 1)) (lv' := [(1, .int (nI (0 + 1))), (0, .ref (ad 0))]) 0 dX8_init_59 rfl (nI_1 0) (by decide) rfl (q := 62) rfl ?_
  refine vv_goto hC (tgt := 37) dX8_init_62 (by decide) ?_
  refine vv_iload_n hC 0 dX8_init_37 rfl rfl (q := 38) rfl ?_
  refine vv_aload_n hC 1 dX8_init_38 rfl rfl (q := 39) rfl ?_
  refine vv_get hC hK (K := RX8) (T := TX8) (N := 9) (ci := 8) inwX8_init_X8 0 (by omega) (fs := [.ref (ad 1), .ref (ad 2), .ref (ad 22), .null, .null, .null, .null, .int 0, .int 0]) (fun f h => ((h 0 (by omega)).trans (ud_ne (by omega))).trans opn_at) rfl 2 (by decide) (List.mem_of_getElem? (i := 10) rfl) rfl (v := .ref (ad 22)) rfl dX8_init_39 (q := 42) rfl ?_
  refine vv_alen hC hK 22 (by omega) 1 (x := (6, .inl fun _ => 0)) (fun f h => ⟨_, (h 22 (by omega)).trans ud_eq⟩) rfl (v := nI 6) rfl dX8_init_42 (q := 43) rfl ?_
  refine vv_icmpN_ge hC (tgt := 65) (by decide) (by decide) dX8_init_43 (by decide) (q := 46) rfl (fun h => absurd h (by decide)) (fun _ => ?_)
  refine vv_aload_n hC 1 dX8_init_46 rfl rfl (q := 47) rfl ?_
  refine vv_get hC hK (K := RX8) (T := TX8) (N := 9) (ci := 8) inwX8_init_X8 0 (by omega) (fs := [.ref (ad 1), .ref (ad 2), .ref (ad 22), .null, .null, .null, .null, .int 0, .int 0]) (fun f h => ((h 0 (by omega)).trans (ud_ne (by omega))).trans opn_at) rfl 2 (by decide) (List.mem_of_getElem? (i := 10) rfl) rfl (v := .ref (ad 22)) rfl dX8_init_47 (q := 50) rfl ?_
  refine vv_iload_n hC 0 dX8_init_50 rfl rfl (q := 51) rfl ?_
  refine vv_newC hC hK hAd hz (n := 29) (by omega) (by omega) (K := RX7) (T := TX7) (N := 2) (ci := 7) inwX8_init_X7 tyX7 tyX7_ok (List.mem_of_getElem? (i := 9) rfl) (List.mem_of_getElem? (i := 11) rfl) (List.mem_of_getElem? (i := 12) rfl) rfl (fs := [.null, .null]) (fun j hj => match j, hj with | 0, _ => rfl | 1, _ => rfl | j + 2, h => absurd h (by omega)) (Nat.le_of_ble_eq_true rfl) (Nat.le_of_ble_eq_true rfl) (P1 := agr 30 (ud (ud (opn F 0 (.inr (8, [.ref (ad 1), .ref (ad 2), .ref (ad 22), .null, .null, .null, .null, .int 0, .int 0])) (G0 cI cW ad)) 22 (.inl (cW, (6, .inr (.inr (.inr (.inr (gW ad 1)))))))) 29 (.inr (7, [.null, .null])))) (fun f h => agr_new _ h) dX8_init_51 (q := 54) rfl ?_
  refine vv_dup hC dX8_init_54 rfl (q := 55) rfl ?_
  refine vv_callN hC hK hAd hz (n := 30) (by omega) (by omega) (n2 := 35) hAO (a := ad 29) (As := []) (c7_init l hAd 29 _ (G0 cI cW ad) ud_eq rfl rfl rfl rfl rfl rfl) ⟨va_cnB (host := "DraftCommon") 0 hC.2.2.2.2 gX8_init_X7_init_n29 rfl rfl rfl (hAO.2 _ (List.mem_of_getElem? (i := 4) rfl)) (hC.2.2.2.2 _ (List.mem_of_getElem? (i := 12) rfl)) hdX7_init ⟨Nat.le_of_ble_eq_true rfl, Nat.le_of_ble_eq_true rfl⟩, rfl, (hC.2.2.2.2 _ (List.mem_of_getElem? (i := 72) rfl))⟩ rfl rfl (Nat.le_of_ble_eq_true rfl) ⟨Nat.le_of_ble_eq_true rfl, Nat.le_of_ble_eq_true rfl⟩ dX8_init_55 (q := 58) rfl ?_
  refine vv_wq (P1 := agr 35 (ud (opn F 0 (.inr (8, [.ref (ad 1), .ref (ad 2), .ref (ad 22), .null, .null, .null, .null, .int 0, .int 0])) (G0 cI cW ad)) 22 (.inl (cW, (6, .inr (.inr (.inr (.inr (gW ad 1))))))))) (fun f h => agr_manyX (fun i hi => (ud_ne (by omega)).trans (opn_up (by omega))) h) ?_
  refine vv_aast hC hK (wd_az hAd _) 22 (by omega) 29 (by omega) 1 (fun f h => (h 22 (by omega)).trans ud_eq) rfl (fun f h => ⟨_, ((h 29 (by omega)).trans ((ud_ne (by omega)).trans (opn_up (by omega)))).trans rfl⟩) (r := (RX7, TX7, 2)) rfl (vp_in_nI (by decide) (by decide)) (P1 := agr 35 (ud (opn F 0 (.inr (8, [.ref (ad 1), .ref (ad 2), .ref (ad 22), .null, .null, .null, .null, .int 0, .int 0])) (G0 cI cW ad)) 22 (.inl (cW, (6, .inr (.inr (.inr (.inr (gW ad 2))))))))) (fun f h => by rw [nI_clamp (by decide)]; rw [← gW_up 1]; exact agr_ud h) dX8_init_58 (q := 59) rfl ?_
  refine vv_iinc hC (i := 1) (v := nI (0 + 1 + 1)) (lv' := [(1, .int (nI (0 + 1 + 1))), (0, .ref (ad 0))]) 0 dX8_init_59 rfl (nI_1 (0 + 1)) (by decide) rfl (q := 62) rfl ?_
  refine vv_goto hC (tgt := 37) dX8_init_62 (by decide) ?_
  refine vv_iload_n hC 0 dX8_init_37 rfl rfl (q := 38) rfl ?_
  refine vv_aload_n hC 1 dX8_init_38 rfl rfl (q := 39) rfl ?_
  refine vv_get hC hK (K := RX8) (T := TX8) (N := 9) (ci := 8) inwX8_init_X8 0 (by omega) (fs := [.ref (ad 1), .ref (ad 2), .ref (ad 22), .null, .null, .null, .null, .int 0, .int 0]) (fun f h => ((h 0 (by omega)).trans (ud_ne (by omega))).trans opn_at) rfl 2 (by decide) (List.mem_of_getElem? (i := 10) rfl) rfl (v := .ref (ad 22)) rfl dX8_init_39 (q := 42) rfl ?_
  refine vv_alen hC hK 22 (by omega) 1 (x := (6, .inl fun _ => 0)) (fun f h => ⟨_, (h 22 (by omega)).trans ud_eq⟩) rfl (v := nI 6) rfl dX8_init_42 (q := 43) rfl ?_
  refine vv_icmpN_ge hC (tgt := 65) (by decide) (by decide) dX8_init_43 (by decide) (q := 46) rfl (fun h => absurd h (by decide)) (fun _ => ?_)
  refine vv_aload_n hC 1 dX8_init_46 rfl rfl (q := 47) rfl ?_
  refine vv_get hC hK (K := RX8) (T := TX8) (N := 9) (ci := 8) inwX8_init_X8 0 (by omega) (fs := [.ref (ad 1), .ref (ad 2), .ref (ad 22), .null, .null, .null, .null, .int 0, .int 0]) (fun f h => ((h 0 (by omega)).trans (ud_ne (by omega))).trans opn_at) rfl 2 (by decide) (List.mem_of_getElem? (i := 10) rfl) rfl (v := .ref (ad 22)) rfl dX8_init_47 (q := 50) rfl ?_
  refine vv_iload_n hC 0 dX8_init_50 rfl rfl (q := 51) rfl ?_
  refine vv_newC hC hK hAd hz (n := 35) (by omega) (by omega) (K := RX7) (T := TX7) (N := 2) (ci := 7) inwX8_init_X7 tyX7 tyX7_ok (List.mem_of_getElem? (i := 9) rfl) (List.mem_of_getElem? (i := 11) rfl) (List.mem_of_getElem? (i := 12) rfl) rfl (fs := [.null, .null]) (fun j hj => match j, hj with | 0, _ => rfl | 1, _ => rfl | j + 2, h => absurd h (by omega)) (Nat.le_of_ble_eq_true rfl) (Nat.le_of_ble_eq_true rfl) (P1 := agr 36 (ud (ud (opn F 0 (.inr (8, [.ref (ad 1), .ref (ad 2), .ref (ad 22), .null, .null, .null, .null, .int 0, .int 0])) (G0 cI cW ad)) 22 (.inl (cW, (6, .inr (.inr (.inr (.inr (gW ad 2)))))))) 35 (.inr (7, [.null, .null])))) (fun f h => agr_new _ h) dX8_init_51 (q := 54) rfl ?_
  refine vv_dup hC dX8_init_54 rfl (q := 55) rfl ?_
  refine vv_callN hC hK hAd hz (n := 36) (by omega) (by omega) (n2 := 41) hAO (a := ad 35) (As := []) (c7_init l hAd 35 _ (G0 cI cW ad) ud_eq rfl rfl rfl rfl rfl rfl) ⟨va_cnB (host := "DraftCommon") 0 hC.2.2.2.2 gX8_init_X7_init_n29 rfl rfl rfl (hAO.2 _ (List.mem_of_getElem? (i := 4) rfl)) (hC.2.2.2.2 _ (List.mem_of_getElem? (i := 12) rfl)) hdX7_init ⟨Nat.le_of_ble_eq_true rfl, Nat.le_of_ble_eq_true rfl⟩, rfl, (hC.2.2.2.2 _ (List.mem_of_getElem? (i := 72) rfl))⟩ rfl rfl (Nat.le_of_ble_eq_true rfl) ⟨Nat.le_of_ble_eq_true rfl, Nat.le_of_ble_eq_true rfl⟩ dX8_init_55 (q := 58) rfl ?_
  refine vv_wq (P1 := agr 41 (ud (opn F 0 (.inr (8, [.ref (ad 1), .ref (ad 2), .ref (ad 22), .null, .null, .null, .null, .int 0, .int 0])) (G0 cI cW ad)) 22 (.inl (cW, (6, .inr (.inr (.inr (.inr (gW ad 2))))))))) (fun f h => agr_manyX (fun i hi => (ud_ne (by omega)).trans (opn_up (by omega))) h) ?_
  refine vv_aast hC hK (wd_az hAd _) 22 (by omega) 35 (by omega) 1 (fun f h => (h 22 (by omega)).trans ud_eq) rfl (fun f h => ⟨_, ((h 35 (by omega)).trans ((ud_ne (by omega)).trans (opn_up (by omega)))).trans rfl⟩) (r := (RX7, TX7, 2)) rfl (vp_in_nI (by decide) (by decide)) (P1 := agr 41 (ud (opn F 0 (.inr (8, [.ref (ad 1), .ref (ad 2), .ref (ad 22), .null, .null, .null, .null, .int 0, .int 0])) (G0 cI cW ad)) 22 (.inl (cW, (6, .inr (.inr (.inr (.inr (gW ad 3))))))))) (fun f h => by rw [nI_clamp (by decide)]; rw [← gW_up 2]; exact agr_ud h) dX8_init_58 (q := 59) rfl ?_
  refine vv_iinc hC (i := 1) (v := nI (0 + 1 + 1 + 1)) (lv' := [(1, .int (nI (0 + 1 + 1 + 1))), (0, .ref (ad 0))]) 0 dX8_init_59 rfl (nI_1 (0 + 1 + 1)) (by decide) rfl (q := 62) rfl ?_
  refine vv_goto hC (tgt := 37) dX8_init_62 (by decide) ?_
  refine vv_iload_n hC 0 dX8_init_37 rfl rfl (q := 38) rfl ?_
  refine vv_aload_n hC 1 dX8_init_38 rfl rfl (q := 39) rfl ?_
  refine vv_get hC hK (K := RX8) (T := TX8) (N := 9) (ci := 8) inwX8_init_X8 0 (by omega) (fs := [.ref (ad 1), .ref (ad 2), .ref (ad 22), .null, .null, .null, .null, .int 0, .int 0]) (fun f h => ((h 0 (by omega)).trans (ud_ne (by omega))).trans opn_at) rfl 2 (by decide) (List.mem_of_getElem? (i := 10) rfl) rfl (v := .ref (ad 22)) rfl dX8_init_39 (q := 42) rfl ?_
  refine vv_alen hC hK 22 (by omega) 1 (x := (6, .inl fun _ => 0)) (fun f h => ⟨_, (h 22 (by omega)).trans ud_eq⟩) rfl (v := nI 6) rfl dX8_init_42 (q := 43) rfl ?_
  refine vv_icmpN_ge hC (tgt := 65) (by decide) (by decide) dX8_init_43 (by decide) (q := 46) rfl (fun h => absurd h (by decide)) (fun _ => ?_)
  refine vv_aload_n hC 1 dX8_init_46 rfl rfl (q := 47) rfl ?_
  refine vv_get hC hK (K := RX8) (T := TX8) (N := 9) (ci := 8) inwX8_init_X8 0 (by omega) (fs := [.ref (ad 1), .ref (ad 2), .ref (ad 22), .null, .null, .null, .null, .int 0, .int 0]) (fun f h => ((h 0 (by omega)).trans (ud_ne (by omega))).trans opn_at) rfl 2 (by decide) (List.mem_of_getElem? (i := 10) rfl) rfl (v := .ref (ad 22)) rfl dX8_init_47 (q := 50) rfl ?_
  refine vv_iload_n hC 0 dX8_init_50 rfl rfl (q := 51) rfl ?_
  refine vv_newC hC hK hAd hz (n := 41) (by omega) (by omega) (K := RX7) (T := TX7) (N := 2) (ci := 7) inwX8_init_X7 tyX7 tyX7_ok (List.mem_of_getElem? (i := 9) rfl) (List.mem_of_getElem? (i := 11) rfl) (List.mem_of_getElem? (i := 12) rfl) rfl (fs := [.null, .null]) (fun j hj => match j, hj with | 0, _ => rfl | 1, _ => rfl | j + 2, h => absurd h (by omega)) (Nat.le_of_ble_eq_true rfl) (Nat.le_of_ble_eq_true rfl) (P1 := agr 42 (ud (ud (opn F 0 (.inr (8, [.ref (ad 1), .ref (ad 2), .ref (ad 22), .null, .null, .null, .null, .int 0, .int 0])) (G0 cI cW ad)) 22 (.inl (cW, (6, .inr (.inr (.inr (.inr (gW ad 3)))))))) 41 (.inr (7, [.null, .null])))) (fun f h => agr_new _ h) dX8_init_51 (q := 54) rfl ?_
  refine vv_dup hC dX8_init_54 rfl (q := 55) rfl ?_
  refine vv_callN hC hK hAd hz (n := 42) (by omega) (by omega) (n2 := 47) hAO (a := ad 41) (As := []) (c7_init l hAd 41 _ (G0 cI cW ad) ud_eq rfl rfl rfl rfl rfl rfl) ⟨va_cnB (host := "DraftCommon") 0 hC.2.2.2.2 gX8_init_X7_init_n29 rfl rfl rfl (hAO.2 _ (List.mem_of_getElem? (i := 4) rfl)) (hC.2.2.2.2 _ (List.mem_of_getElem? (i := 12) rfl)) hdX7_init ⟨Nat.le_of_ble_eq_true rfl, Nat.le_of_ble_eq_true rfl⟩, rfl, (hC.2.2.2.2 _ (List.mem_of_getElem? (i := 72) rfl))⟩ rfl rfl (Nat.le_of_ble_eq_true rfl) ⟨Nat.le_of_ble_eq_true rfl, Nat.le_of_ble_eq_true rfl⟩ dX8_init_55 (q := 58) rfl ?_
  refine vv_wq (P1 := agr 47 (ud (opn F 0 (.inr (8, [.ref (ad 1), .ref (ad 2), .ref (ad 22), .null, .null, .null, .null, .int 0, .int 0])) (G0 cI cW ad)) 22 (.inl (cW, (6, .inr (.inr (.inr (.inr (gW ad 3))))))))) (fun f h => agr_manyX (fun i hi => (ud_ne (by omega)).trans (opn_up (by omega))) h) ?_
  refine vv_aast hC hK (wd_az hAd _) 22 (by omega) 41 (by omega) 1 (fun f h => (h 22 (by omega)).trans ud_eq) rfl (fun f h => ⟨_, ((h 41 (by omega)).trans ((ud_ne (by omega)).trans (opn_up (by omega)))).trans rfl⟩) (r := (RX7, TX7, 2)) rfl (vp_in_nI (by decide) (by decide)) (P1 := agr 47 (ud (opn F 0 (.inr (8, [.ref (ad 1), .ref (ad 2), .ref (ad 22), .null, .null, .null, .null, .int 0, .int 0])) (G0 cI cW ad)) 22 (.inl (cW, (6, .inr (.inr (.inr (.inr (gW ad 4))))))))) (fun f h => by rw [nI_clamp (by decide)]; rw [← gW_up 3]; exact agr_ud h) dX8_init_58 (q := 59) rfl ?_
  refine vv_iinc hC (i := 1) (v := nI (0 + 1 + 1 + 1 + 1)) (lv' := [(1, .int (nI (0 + 1 + 1 + 1 + 1))), (0, .ref (ad 0))]) 0 dX8_init_59 rfl (nI_1 (0 + 1 + 1 + 1)) (by decide) rfl (q := 62) rfl ?_
  refine vv_goto hC (tgt := 37) dX8_init_62 (by decide) ?_
  refine vv_iload_n hC 0 dX8_init_37 rfl rfl (q := 38) rfl ?_
  refine vv_aload_n hC 1 dX8_init_38 rfl rfl (q := 39) rfl ?_
  refine vv_get hC hK (K := RX8) (T := TX8) (N := 9) (ci := 8) inwX8_init_X8 0 (by omega) (fs := [.ref (ad 1), .ref (ad 2), .ref (ad 22), .null, .null, .null, .null, .int 0, .int 0]) (fun f h => ((h 0 (by omega)).trans (ud_ne (by omega))).trans opn_at) rfl 2 (by decide) (List.mem_of_getElem? (i := 10) rfl) rfl (v := .ref (ad 22)) rfl dX8_init_39 (q := 42) rfl ?_
  refine vv_alen hC hK 22 (by omega) 1 (x := (6, .inl fun _ => 0)) (fun f h => ⟨_, (h 22 (by omega)).trans ud_eq⟩) rfl (v := nI 6) rfl dX8_init_42 (q := 43) rfl ?_
  refine vv_icmpN_ge hC (tgt := 65) (by decide) (by decide) dX8_init_43 (by decide) (q := 46) rfl (fun h => absurd h (by decide)) (fun _ => ?_)
  refine vv_aload_n hC 1 dX8_init_46 rfl rfl (q := 47) rfl ?_
  refine vv_get hC hK (K := RX8) (T := TX8) (N := 9) (ci := 8) inwX8_init_X8 0 (by omega) (fs := [.ref (ad 1), .ref (ad 2), .ref (ad 22), .null, .null, .null, .null, .int 0, .int 0]) (fun f h => ((h 0 (by omega)).trans (ud_ne (by omega))).trans opn_at) rfl 2 (by decide) (List.mem_of_getElem? (i := 10) rfl) rfl (v := .ref (ad 22)) rfl dX8_init_47 (q := 50) rfl ?_
  refine vv_iload_n hC 0 dX8_init_50 rfl rfl (q := 51) rfl ?_
  refine vv_newC hC hK hAd hz (n := 47) (by omega) (by omega) (K := RX7) (T := TX7) (N := 2) (ci := 7) inwX8_init_X7 tyX7 tyX7_ok (List.mem_of_getElem? (i := 9) rfl) (List.mem_of_getElem? (i := 11) rfl) (List.mem_of_getElem? (i := 12) rfl) rfl (fs := [.null, .null]) (fun j hj => match j, hj with | 0, _ => rfl | 1, _ => rfl | j + 2, h => absurd h (by omega)) (Nat.le_of_ble_eq_true rfl) (Nat.le_of_ble_eq_true rfl) (P1 := agr 48 (ud (ud (opn F 0 (.inr (8, [.ref (ad 1), .ref (ad 2), .ref (ad 22), .null, .null, .null, .null, .int 0, .int 0])) (G0 cI cW ad)) 22 (.inl (cW, (6, .inr (.inr (.inr (.inr (gW ad 4)))))))) 47 (.inr (7, [.null, .null])))) (fun f h => agr_new _ h) dX8_init_51 (q := 54) rfl ?_
  refine vv_dup hC dX8_init_54 rfl (q := 55) rfl ?_
  refine vv_callN hC hK hAd hz (n := 48) (by omega) (by omega) (n2 := 53) hAO (a := ad 47) (As := []) (c7_init l hAd 47 _ (G0 cI cW ad) ud_eq rfl rfl rfl rfl rfl rfl) ⟨va_cnB (host := "DraftCommon") 0 hC.2.2.2.2 gX8_init_X7_init_n29 rfl rfl rfl (hAO.2 _ (List.mem_of_getElem? (i := 4) rfl)) (hC.2.2.2.2 _ (List.mem_of_getElem? (i := 12) rfl)) hdX7_init ⟨Nat.le_of_ble_eq_true rfl, Nat.le_of_ble_eq_true rfl⟩, rfl, (hC.2.2.2.2 _ (List.mem_of_getElem? (i := 72) rfl))⟩ rfl rfl (Nat.le_of_ble_eq_true rfl) ⟨Nat.le_of_ble_eq_true rfl, Nat.le_of_ble_eq_true rfl⟩ dX8_init_55 (q := 58) rfl ?_
  refine vv_wq (P1 := agr 53 (ud (opn F 0 (.inr (8, [.ref (ad 1), .ref (ad 2), .ref (ad 22), .null, .null, .null, .null, .int 0, .int 0])) (G0 cI cW ad)) 22 (.inl (cW, (6, .inr (.inr (.inr (.inr (gW ad 4))))))))) (fun f h => agr_manyX (fun i hi => (ud_ne (by omega)).trans (opn_up (by omega))) h) ?_
  refine vv_aast hC hK (wd_az hAd _) 22 (by omega) 47 (by omega) 1 (fun f h => (h 22 (by omega)).trans ud_eq) rfl (fun f h => ⟨_, ((h 47 (by omega)).trans ((ud_ne (by omega)).trans (opn_up (by omega)))).trans rfl⟩) (r := (RX7, TX7, 2)) rfl (vp_in_nI (by decide) (by decide)) (P1 := agr 53 (ud (opn F 0 (.inr (8, [.ref (ad 1), .ref (ad 2), .ref (ad 22), .null, .null, .null, .null, .int 0, .int 0])) (G0 cI cW ad)) 22 (.inl (cW, (6, .inr (.inr (.inr (.inr (gW ad 5))))))))) (fun f h => by rw [nI_clamp (by decide)]; rw [← gW_up 4]; exact agr_ud h) dX8_init_58 (q := 59) rfl ?_
  refine vv_iinc hC (i := 1) (v := nI (0 + 1 + 1 + 1 + 1 + 1)) (lv' := [(1, .int (nI (0 + 1 + 1 + 1 + 1 + 1))), (0, .ref (ad 0))]) 0 dX8_init_59 rfl (nI_1 (0 + 1 + 1 + 1 + 1)) (by decide) rfl (q := 62) rfl ?_
  refine vv_goto hC (tgt := 37) dX8_init_62 (by decide) ?_
  refine vv_iload_n hC 0 dX8_init_37 rfl rfl (q := 38) rfl ?_
  refine vv_aload_n hC 1 dX8_init_38 rfl rfl (q := 39) rfl ?_
  refine vv_get hC hK (K := RX8) (T := TX8) (N := 9) (ci := 8) inwX8_init_X8 0 (by omega) (fs := [.ref (ad 1), .ref (ad 2), .ref (ad 22), .null, .null, .null, .null, .int 0, .int 0]) (fun f h => ((h 0 (by omega)).trans (ud_ne (by omega))).trans opn_at) rfl 2 (by decide) (List.mem_of_getElem? (i := 10) rfl) rfl (v := .ref (ad 22)) rfl dX8_init_39 (q := 42) rfl ?_
  refine vv_alen hC hK 22 (by omega) 1 (x := (6, .inl fun _ => 0)) (fun f h => ⟨_, (h 22 (by omega)).trans ud_eq⟩) rfl (v := nI 6) rfl dX8_init_42 (q := 43) rfl ?_
  refine vv_icmpN_ge hC (tgt := 65) (by decide) (by decide) dX8_init_43 (by decide) (q := 46) rfl (fun h => absurd h (by decide)) (fun _ => ?_)
  refine vv_aload_n hC 1 dX8_init_46 rfl rfl (q := 47) rfl ?_
  refine vv_get hC hK (K := RX8) (T := TX8) (N := 9) (ci := 8) inwX8_init_X8 0 (by omega) (fs := [.ref (ad 1), .ref (ad 2), .ref (ad 22), .null, .null, .null, .null, .int 0, .int 0]) (fun f h => ((h 0 (by omega)).trans (ud_ne (by omega))).trans opn_at) rfl 2 (by decide) (List.mem_of_getElem? (i := 10) rfl) rfl (v := .ref (ad 22)) rfl dX8_init_47 (q := 50) rfl ?_
  refine vv_iload_n hC 0 dX8_init_50 rfl rfl (q := 51) rfl ?_
  refine vv_newC hC hK hAd hz (n := 53) (by omega) (by omega) (K := RX7) (T := TX7) (N := 2) (ci := 7) inwX8_init_X7 tyX7 tyX7_ok (List.mem_of_getElem? (i := 9) rfl) (List.mem_of_getElem? (i := 11) rfl) (List.mem_of_getElem? (i := 12) rfl) rfl (fs := [.null, .null]) (fun j hj => match j, hj with | 0, _ => rfl | 1, _ => rfl | j + 2, h => absurd h (by omega)) (Nat.le_of_ble_eq_true rfl) (Nat.le_of_ble_eq_true rfl) (P1 := agr 54 (ud (ud (opn F 0 (.inr (8, [.ref (ad 1), .ref (ad 2), .ref (ad 22), .null, .null, .null, .null, .int 0, .int 0])) (G0 cI cW ad)) 22 (.inl (cW, (6, .inr (.inr (.inr (.inr (gW ad 5)))))))) 53 (.inr (7, [.null, .null])))) (fun f h => agr_new _ h) dX8_init_51 (q := 54) rfl ?_
  refine vv_dup hC dX8_init_54 rfl (q := 55) rfl ?_
  refine vv_callN hC hK hAd hz (n := 54) (by omega) (by omega) (n2 := 59) hAO (a := ad 53) (As := []) (c7_init l hAd 53 _ (G0 cI cW ad) ud_eq rfl rfl rfl rfl rfl rfl) ⟨va_cnB (host := "DraftCommon") 0 hC.2.2.2.2 gX8_init_X7_init_n29 rfl rfl rfl (hAO.2 _ (List.mem_of_getElem? (i := 4) rfl)) (hC.2.2.2.2 _ (List.mem_of_getElem? (i := 12) rfl)) hdX7_init ⟨Nat.le_of_ble_eq_true rfl, Nat.le_of_ble_eq_true rfl⟩, rfl, (hC.2.2.2.2 _ (List.mem_of_getElem? (i := 72) rfl))⟩ rfl rfl (Nat.le_of_ble_eq_true rfl) ⟨Nat.le_of_ble_eq_true rfl, Nat.le_of_ble_eq_true rfl⟩ dX8_init_55 (q := 58) rfl ?_
  refine vv_wq (P1 := agr 59 (ud (opn F 0 (.inr (8, [.ref (ad 1), .ref (ad 2), .ref (ad 22), .null, .null, .null, .null, .int 0, .int 0])) (G0 cI cW ad)) 22 (.inl (cW, (6, .inr (.inr (.inr (.inr (gW ad 5))))))))) (fun f h => agr_manyX (fun i hi => (ud_ne (by omega)).trans (opn_up (by omega))) h) ?_
  refine vv_aast hC hK (wd_az hAd _) 22 (by omega) 53 (by omega) 1 (fun f h => (h 22 (by omega)).trans ud_eq) rfl (fun f h => ⟨_, ((h 53 (by omega)).trans ((ud_ne (by omega)).trans (opn_up (by omega)))).trans rfl⟩) (r := (RX7, TX7, 2)) rfl (vp_in_nI (by decide) (by decide)) (P1 := agr 59 (ud (opn F 0 (.inr (8, [.ref (ad 1), .ref (ad 2), .ref (ad 22), .null, .null, .null, .null, .int 0, .int 0])) (G0 cI cW ad)) 22 (.inl (cW, (6, .inr (.inr (.inr (.inr (gW ad 6))))))))) (fun f h => by rw [nI_clamp (by decide)]; rw [← gW_up 5]; exact agr_ud h) dX8_init_58 (q := 59) rfl ?_
  refine vv_iinc hC (i := 1) (v := nI (0 + 1 + 1 + 1 + 1 + 1 + 1)) (lv' := [(1, .int (nI (0 + 1 + 1 + 1 + 1 + 1 + 1))), (0, .ref (ad 0))]) 0 dX8_init_59 rfl (nI_1 (0 + 1 + 1 + 1 + 1 + 1)) (by decide) rfl (q := 62) rfl ?_
  refine vv_goto hC (tgt := 37) dX8_init_62 (by decide) ?_
  refine vv_iload_n hC 0 dX8_init_37 rfl rfl (q := 38) rfl ?_
  refine vv_aload_n hC 1 dX8_init_38 rfl rfl (q := 39) rfl ?_
  refine vv_get hC hK (K := RX8) (T := TX8) (N := 9) (ci := 8) inwX8_init_X8 0 (by omega) (fs := [.ref (ad 1), .ref (ad 2), .ref (ad 22), .null, .null, .null, .null, .int 0, .int 0]) (fun f h => ((h 0 (by omega)).trans (ud_ne (by omega))).trans opn_at) rfl 2 (by decide) (List.mem_of_getElem? (i := 10) rfl) rfl (v := .ref (ad 22)) rfl dX8_init_39 (q := 42) rfl ?_
  refine vv_alen hC hK 22 (by omega) 1 (x := (6, .inl fun _ => 0)) (fun f h => ⟨_, (h 22 (by omega)).trans ud_eq⟩) rfl (v := nI 6) rfl dX8_init_42 (q := 43) rfl ?_
  refine vv_icmpN_ge hC (tgt := 65) (by decide) (by decide) dX8_init_43 (by decide) (q := 46) rfl (fun _ => ?_) (fun h => absurd (by decide) h)
  refine vv_wq (P1 := agr 59 (opn F 0 (.inr (8, [.ref (ad 1), .ref (ad 2), .ref (ad 22), .null, .null, .null, .null, .int 0, .int 0])) (G0 cI cW ad))) (fun f h => agr_drop (by omega) G0_22 h) ?_
  refine vv_aload_n hC 1 dX8_init_65 rfl rfl (q := 66) rfl ?_
  refine vv_bipush hC (v := nI 6) dX8_init_66 rfl (q := 68) rfl ?_
  refine vv_iconst hC (v := nI 0) dX8_init_68 rfl (q := 69) rfl ?_
  refine vv_callCr hC hK hAd hz (n := 59) (by omega) (by omega) (n2 := 61) hAO (a := ad 59) (As := [.int (nI 6), .int (nI 0)]) (c5_filled l hAd 59 (by omega) 6 (by decide) (nI 0) _ (G0 cI cW ad) rfl rfl) (va_cwS 2 hC.2.2.2.2 gX8_init_X5_filled rfl rfl rfl hsX5_filled ⟨Nat.le_of_ble_eq_true rfl, Nat.le_of_ble_eq_true rfl⟩) rfl rfl (Nat.le_of_ble_eq_true rfl) ⟨Nat.le_of_ble_eq_true rfl, Nat.le_of_ble_eq_true rfl⟩ dX8_init_69 (q := 72) rfl ?_
  refine vv_wq (P1 := agr 61 (opn F 0 (.inr (8, [.ref (ad 1), .ref (ad 2), .ref (ad 22), .null, .null, .null, .null, .int 0, .int 0])) (G0 cI cW ad))) (fun f h => agr_stat (by omega) h) ?_
  refine vv_putF hC hK (NN := 61) (wd_az hAd _) (P1 := agr 61 (opn F 0 (.inr (8, [.ref (ad 1), .ref (ad 2), .ref (ad 22), .ref (ad 59), .null, .null, .null, .int 0, .int 0])) (G0 cI cW ad))) (K := RX8) (T := TX8) (N := 9) (ci := 8) inwX8_init_X8 tyX8 tyX8_ok nmX8 0 (by omega) (fs := [.ref (ad 1), .ref (ad 2), .ref (ad 22), .null, .null, .null, .null, .int 0, .int 0]) (fun f h => agr_at (by omega) opn_at h) rfl (ty := .object "DraftCommon$Row") 3 (by decide) (List.mem_of_getElem? (i := 13) rfl) rfl rfl hnm rfl (by decide +kernel) rfl rfl (Nat.le_of_ble_eq_true rfl) (fun f h => agr_put (by omega) h) dX8_init_72 (q := 75) rfl ?_
  refine vv_aload_n hC 1 dX8_init_75 rfl rfl (q := 76) rfl ?_
  refine vv_newC hC hK hAd hz (n := 61) (by omega) (by omega) (K := RX4) (T := TX4) (N := 8) (ci := 4) inwX8_init_X4 tyX4 tyX4_ok (List.mem_of_getElem? (i := 14) rfl) (List.mem_of_getElem? (i := 15) rfl) (List.mem_of_getElem? (i := 16) rfl) rfl (fs := [.null, .null, .null, .null, .null, .null, .null, .null]) (fun j hj => match j, hj with | 0, _ => rfl | 1, _ => rfl | 2, _ => rfl | 3, _ => rfl | 4, _ => rfl | 5, _ => rfl | 6, _ => rfl | 7, _ => rfl | j + 8, h => absurd h (by omega)) (Nat.le_of_ble_eq_true rfl) (Nat.le_of_ble_eq_true rfl) (P1 := agr 62 (ud (opn F 0 (.inr (8, [.ref (ad 1), .ref (ad 2), .ref (ad 22), .ref (ad 59), .null, .null, .null, .int 0, .int 0])) (G0 cI cW ad)) 61 (.inr (4, [.null, .null, .null, .null, .null, .null, .null, .null])))) (fun f h => agr_new _ h) dX8_init_76 (q := 79) rfl ?_
  refine vv_dup hC dX8_init_79 rfl (q := 80) rfl ?_
  refine vv_callN hC hK hAd hz (n := 62) (by omega) (by omega) (n2 := 78) hAO (a := ad 61) (As := []) (c4_init l hAd 61 _ (G0 cI cW ad) ud_eq rfl rfl rfl rfl rfl rfl rfl rfl rfl rfl rfl rfl rfl rfl rfl rfl rfl) ⟨va_cnB (host := "DraftCommon") 0 hC.2.2.2.2 gX8_init_X4_init_n42 rfl rfl rfl (hAO.2 _ (List.mem_of_getElem? (i := 5) rfl)) (hC.2.2.2.2 _ (List.mem_of_getElem? (i := 16) rfl)) hdX4_init ⟨Nat.le_of_ble_eq_true rfl, Nat.le_of_ble_eq_true rfl⟩, rfl, (hC.2.2.2.2 _ (List.mem_of_getElem? (i := 97) rfl))⟩ rfl rfl (Nat.le_of_ble_eq_true rfl) ⟨Nat.le_of_ble_eq_true rfl, Nat.le_of_ble_eq_true rfl⟩ dX8_init_80 (q := 83) rfl ?_
  refine vv_wq (P1 := agr 78 (opn F 0 (.inr (8, [.ref (ad 1), .ref (ad 2), .ref (ad 22), .ref (ad 59), .null, .null, .null, .int 0, .int 0])) (G0 cI cW ad))) (fun f h => agr_many (by omega) h) ?_
  refine vv_putF hC hK (NN := 78) (wd_az hAd _) (P1 := agr 78 (opn F 0 (.inr (8, [.ref (ad 1), .ref (ad 2), .ref (ad 22), .ref (ad 59), .ref (ad 61), .null, .null, .int 0, .int 0])) (G0 cI cW ad))) (K := RX8) (T := TX8) (N := 9) (ci := 8) inwX8_init_X8 tyX8 tyX8_ok nmX8 0 (by omega) (fs := [.ref (ad 1), .ref (ad 2), .ref (ad 22), .ref (ad 59), .null, .null, .null, .int 0, .int 0]) (fun f h => agr_at (by omega) opn_at h) rfl (ty := .object "DraftCommon$Reviews") 4 (by decide) (List.mem_of_getElem? (i := 17) rfl) rfl rfl hnm rfl (by decide +kernel) rfl rfl (Nat.le_of_ble_eq_true rfl) (fun f h => agr_put (by omega) h) dX8_init_83 (q := 86) rfl ?_
  refine vv_aload_n hC 1 dX8_init_86 rfl rfl (q := 87) rfl ?_
  refine vv_newC hC hK hAd hz (n := 78) (by omega) (by omega) (K := RX3) (T := TX3) (N := 3) (ci := 3) inwX8_init_X3 tyX3 tyX3_ok (List.mem_of_getElem? (i := 18) rfl) (List.mem_of_getElem? (i := 19) rfl) (List.mem_of_getElem? (i := 20) rfl) rfl (fs := [.null, .null, .null]) (fun j hj => match j, hj with | 0, _ => rfl | 1, _ => rfl | 2, _ => rfl | j + 3, h => absurd h (by omega)) (Nat.le_of_ble_eq_true rfl) (Nat.le_of_ble_eq_true rfl) (P1 := agr 79 (ud (opn F 0 (.inr (8, [.ref (ad 1), .ref (ad 2), .ref (ad 22), .ref (ad 59), .ref (ad 61), .null, .null, .int 0, .int 0])) (G0 cI cW ad)) 78 (.inr (3, [.null, .null, .null])))) (fun f h => agr_new _ h) dX8_init_87 (q := 90) rfl ?_
  refine vv_dup hC dX8_init_90 rfl (q := 91) rfl ?_
  refine vv_callN hC hK hAd hz (n := 79) (by omega) (by omega) (n2 := 85) hAO (a := ad 78) (As := []) (c3_init l hAd 78 _ (G0 cI cW ad) ud_eq rfl rfl rfl rfl rfl rfl rfl) ⟨va_cnB (host := "DraftCommon") 0 hC.2.2.2.2 gX8_init_X3_init_n49 rfl rfl rfl (hAO.2 _ (List.mem_of_getElem? (i := 6) rfl)) (hC.2.2.2.2 _ (List.mem_of_getElem? (i := 20) rfl)) hdX3_init ⟨Nat.le_of_ble_eq_true rfl, Nat.le_of_ble_eq_true rfl⟩, rfl, (hC.2.2.2.2 _ (List.mem_of_getElem? (i := 111) rfl))⟩ rfl rfl (Nat.le_of_ble_eq_true rfl) ⟨Nat.le_of_ble_eq_true rfl, Nat.le_of_ble_eq_true rfl⟩ dX8_init_91 (q := 94) rfl ?_
  refine vv_wq (P1 := agr 85 (opn F 0 (.inr (8, [.ref (ad 1), .ref (ad 2), .ref (ad 22), .ref (ad 59), .ref (ad 61), .null, .null, .int 0, .int 0])) (G0 cI cW ad))) (fun f h => agr_many (by omega) h) ?_
  refine vv_putF hC hK (NN := 85) (wd_az hAd _) (P1 := agr 85 (opn F 0 (.inr (8, [.ref (ad 1), .ref (ad 2), .ref (ad 22), .ref (ad 59), .ref (ad 61), .ref (ad 78), .null, .int 0, .int 0])) (G0 cI cW ad))) (K := RX8) (T := TX8) (N := 9) (ci := 8) inwX8_init_X8 tyX8 tyX8_ok nmX8 0 (by omega) (fs := [.ref (ad 1), .ref (ad 2), .ref (ad 22), .ref (ad 59), .ref (ad 61), .null, .null, .int 0, .int 0]) (fun f h => agr_at (by omega) opn_at h) rfl (ty := .object "DraftCommon$Issues") 5 (by decide) (List.mem_of_getElem? (i := 21) rfl) rfl rfl hnm rfl (by decide +kernel) rfl rfl (Nat.le_of_ble_eq_true rfl) (fun f h => agr_put (by omega) h) dX8_init_94 (q := 97) rfl ?_
  refine vv_aload_n hC 1 dX8_init_97 rfl rfl (q := 98) rfl ?_
  refine vv_newC hC hK hAd hz (n := 85) (by omega) (by omega) (K := RX1) (T := TX1) (N := 2) (ci := 1) inwX8_init_X1 tyX1 tyX1_ok (List.mem_of_getElem? (i := 22) rfl) (List.mem_of_getElem? (i := 23) rfl) (List.mem_of_getElem? (i := 24) rfl) rfl (fs := [.null, .null]) (fun j hj => match j, hj with | 0, _ => rfl | 1, _ => rfl | j + 2, h => absurd h (by omega)) (Nat.le_of_ble_eq_true rfl) (Nat.le_of_ble_eq_true rfl) (P1 := agr 86 (ud (opn F 0 (.inr (8, [.ref (ad 1), .ref (ad 2), .ref (ad 22), .ref (ad 59), .ref (ad 61), .ref (ad 78), .null, .int 0, .int 0])) (G0 cI cW ad)) 85 (.inr (1, [.null, .null])))) (fun f h => agr_new _ h) dX8_init_98 (q := 101) rfl ?_
  refine vv_dup hC dX8_init_101 rfl (q := 102) rfl ?_
  refine vv_callN hC hK hAd hz (n := 86) (by omega) (by omega) (n2 := 90) hAO (a := ad 85) (As := []) (c1_init l hAd 85 _ (G0 cI cW ad) ud_eq rfl rfl rfl rfl rfl) ⟨va_cnB (host := "DraftCommon") 0 hC.2.2.2.2 gX8_init_X1_init_n56 rfl rfl rfl (hAO.2 _ (List.mem_of_getElem? (i := 7) rfl)) (hC.2.2.2.2 _ (List.mem_of_getElem? (i := 24) rfl)) hdX1_init ⟨Nat.le_of_ble_eq_true rfl, Nat.le_of_ble_eq_true rfl⟩, rfl, (hC.2.2.2.2 _ (List.mem_of_getElem? (i := 119) rfl))⟩ rfl rfl (Nat.le_of_ble_eq_true rfl) ⟨Nat.le_of_ble_eq_true rfl, Nat.le_of_ble_eq_true rfl⟩ dX8_init_102 (q := 105) rfl ?_
  refine vv_wq (P1 := agr 90 (opn F 0 (.inr (8, [.ref (ad 1), .ref (ad 2), .ref (ad 22), .ref (ad 59), .ref (ad 61), .ref (ad 78), .null, .int 0, .int 0])) (G0 cI cW ad))) (fun f h => agr_many (by omega) h) ?_
  refine vv_putF hC hK (NN := 90) (wd_az hAd _) (P1 := agr 90 (opn F 0 (.inr (8, [.ref (ad 1), .ref (ad 2), .ref (ad 22), .ref (ad 59), .ref (ad 61), .ref (ad 78), .ref (ad 85), .int 0, .int 0])) (G0 cI cW ad))) (K := RX8) (T := TX8) (N := 9) (ci := 8) inwX8_init_X8 tyX8 tyX8_ok nmX8 0 (by omega) (fs := [.ref (ad 1), .ref (ad 2), .ref (ad 22), .ref (ad 59), .ref (ad 61), .ref (ad 78), .null, .int 0, .int 0]) (fun f h => agr_at (by omega) opn_at h) rfl (ty := .object "DraftCommon$Comments") 6 (by decide) (List.mem_of_getElem? (i := 25) rfl) rfl rfl hnm rfl (by decide +kernel) rfl rfl (Nat.le_of_ble_eq_true rfl) (fun f h => agr_put (by omega) h) dX8_init_105 (q := 108) rfl ?_
  refine vv_aload_n hC 1 dX8_init_108 rfl rfl (q := 109) rfl ?_
  refine vv_iconst hC (v := nI 0) dX8_init_109 rfl (q := 110) rfl ?_
  refine vv_put hC hK (NN := 90) (wd_az hAd _) (P1 := agr 90 (opn F 0 (.inr (8, [.ref (ad 1), .ref (ad 2), .ref (ad 22), .ref (ad 59), .ref (ad 61), .ref (ad 78), .ref (ad 85), .int (nI 0), .int 0])) (G0 cI cW ad))) (K := RX8) (T := TX8) (N := 9) (ci := 8) inwX8_init_X8 tyX8 tyX8_ok nmX8 0 (by omega) (fs := [.ref (ad 1), .ref (ad 2), .ref (ad 22), .ref (ad 59), .ref (ad 61), .ref (ad 78), .ref (ad 85), .int 0, .int 0]) (fun f h => agr_at (by omega) opn_at h) rfl (ty := .int) 7 (by decide) (List.mem_of_getElem? (i := 26) rfl) rfl rfl (by decide +kernel) rfl rfl (Nat.le_of_ble_eq_true rfl) (fun f h => agr_put (by omega) h) dX8_init_110 (q := 113) rfl ?_
  refine vv_aload_n hC 1 dX8_init_113 rfl rfl (q := 114) rfl ?_
  refine vv_iconst hC (v := nI 0) dX8_init_114 rfl (q := 115) rfl ?_
  refine vv_put hC hK (NN := 90) (wd_az hAd _) (P1 := agr 90 (opn F 0 (.inr (8, [.ref (ad 1), .ref (ad 2), .ref (ad 22), .ref (ad 59), .ref (ad 61), .ref (ad 78), .ref (ad 85), .int (nI 0), .int (nI 0)])) (G0 cI cW ad))) (K := RX8) (T := TX8) (N := 9) (ci := 8) inwX8_init_X8 tyX8 tyX8_ok nmX8 0 (by omega) (fs := [.ref (ad 1), .ref (ad 2), .ref (ad 22), .ref (ad 59), .ref (ad 61), .ref (ad 78), .ref (ad 85), .int (nI 0), .int 0]) (fun f h => agr_at (by omega) opn_at h) rfl (ty := .int) 8 (by decide) (List.mem_of_getElem? (i := 27) rfl) rfl rfl (by decide +kernel) rfl rfl (Nat.le_of_ble_eq_true rfl) (fun f h => agr_put (by omega) h) dX8_init_115 (q := 118) rfl ?_
  exact vv_vretC hC hK hAd hz (k := 1) (mc := 89) (n := 90) (by omega) (by omega) hr hlk (fun f h => agr_end rfl h) dX8_init_118
