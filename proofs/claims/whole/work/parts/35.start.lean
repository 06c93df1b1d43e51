theorem and31 (a : Int32) : ∃ j, j < 32 ∧ a &&& 31 = nI j := by
  refine ⟨(a &&& 31).toBitVec.toNat, ?_, ?_⟩
  · have h : (a &&& 31).toBitVec = a.toBitVec &&& 31#32 := rfl
    rw [h, BitVec.toNat_and]
    exact Nat.lt_of_le_of_lt Nat.and_le_right (by decide)
  · rw [← Int32.toBitVec_inj]
    show (a &&& 31).toBitVec = BitVec.ofNat 32 _
    rw [BitVec.ofNat_toNat, BitVec.setWidth_eq]
theorem nI_m4 {L n : Nat} (hL : L < 2 ^ 30) (hn : n < 2 ^ 30) : nI L - nI 4 < nI n ↔ L < n + 4 := by
  by_cases h : 4 ≤ L
  · rw [pk_sub h, nI_ltI (by omega) (by omega)]
    omega
  · have h0 : nI L - nI 4 < 0 := by
      rcases (show L = 0 ∨ L = 1 ∨ L = 2 ∨ L = 3 by omega) with rfl | rfl | rfl | rfl <;> decide
    have h1 : ¬ nI n < 0 := nI_pos (by omega)
    constructor
    · intro _; omega
    · intro _; exact Int32.lt_of_lt_of_le h0 (Int32.not_lt.mp h1)
set_option maxRecDepth 100000 in
set_option maxHeartbeats 4000000 in
theorem law_loop {p : Program} {l : Launch} {e : Env} {s : State} {m : MethodId} {below : List Frame} {meth : Method} {c : Code} {b L z : Nat} {xs : Nat → Int32} {D : va_G} {cI cW cZ cL : ClassId} {Q : State → Prop} {Rel : Nat → sC → sM → Prop} (X : LX l s m c p b L z xs D cI cW cZ cL) (hex : ∀ (cells slots : Nat) (lv : List (Nat × Value)) (B : Heap → Prop), cells ≤ 601024 ∧ slots ≤ 7293034 → vv p l e room_1 s m #[Value.ref b] below meth c 7 (AZ z) s.heap cells slots Q B 1833 lv [.int 1]) (hop : RelOK Rel) : ∀ (fu k : Nat) (S : sC) (T : sM) (o : Int64), L < 4 * k + 4 * fu → k ≤ 512 → Rel k S T → vv p l e room_1 s m #[Value.ref b] below meth c 7 (AZ z) s.heap (118 + 6 * k) (23300 + 36 * k) Q (BL D cI cW cZ cL z S T o) 23 (lvL b z (4 * k)) [] := by
  obtain ⟨hC, hK, hz, hE, hN, hX, hbl, hlst, hL⟩ := id X
  obtain ⟨hnone, htype, hdelete, hmerge, hcopy, hcopyAt, hchanges, hlength, hwordAt, hword, hplaceOf, hshare, hshareAnew, hsetRate, horder, hfinish, hcancel, hstateOf, hfrozenBy, hearned, haddIssue, hwaiting, hpass, htoday, hprinted, hroyalties, hcomment, hspan, hkeep, hcompare⟩ := id hop
  intro fu
  have hexit : ∀ (k : Nat) (S : sC) (T : sM) (o : Int64), k ≤ 512 → vv p l e room_1 s m #[Value.ref b] below meth c 7 (AZ z) s.heap (118 + 6 * k) (23300 + 36 * k) Q (BL D cI cW cZ cL z S T o) 1832 (lvL b z (4 * k)) [] := by
    intro k S T o hk
    refine vv_iconst hC (v := 1) dL_law_1832 rfl (q := 1833) rfl ?_
    exact hex _ _ _ _ (by omega)
  induction fu with
  | zero =>
    intro k S T o hfu hk hR
    have hkL : L < 4 * k + 4 := by omega
    refine vv_iload hC 4 dL_law_23 rfl (q := 25) rfl ?_
    refine vv_aload_n hC 0 dL_law_25 rfl rfl (q := 26) rfl ?_
    refine vv_slen hC hX hbl X.nb dL_law_26 (q := 27) rfl ?_
    refine vv_iconst hC (v := nI 4) dL_law_27 rfl (q := 28) rfl ?_
    refine vv_isub hC dL_law_28 (q := 29) rfl ?_
    exact vv_icmp_gt hC (tgt := 1832) dL_law_29 (by decide) (q := 32) rfl (fun _ => hexit k S T o hk) (fun h => absurd ((nI_m4 (by omega) (by omega)).mpr (by omega)) h)
  | succ fu ih =>
    intro k S T o hfu hk hR
    refine vv_iload hC 4 dL_law_23 rfl (q := 25) rfl ?_
    refine vv_aload_n hC 0 dL_law_25 rfl rfl (q := 26) rfl ?_
    refine vv_slen hC hX hbl X.nb dL_law_26 (q := 27) rfl ?_
    refine vv_iconst hC (v := nI 4) dL_law_27 rfl (q := 28) rfl ?_
    refine vv_isub hC dL_law_28 (q := 29) rfl ?_
    refine vv_icmp_gt hC (tgt := 1832) dL_law_29 (by decide) (q := 32) rfl (fun _ => hexit k S T o hk) (fun h => ?_)
    have hkL : 4 * k + 4 ≤ L := by
      rw [nI_m4 (by omega) (by omega)] at h
      omega
    have hk2 : k < 512 := by omega
    have next : ∀ (S' : sC) (T' : sM) (o' : Int64), Rel (k + 1) S' T' → vv p l e room_1 s m #[Value.ref b] below meth c 7 (AZ z) s.heap (118 + 6 * (k + 1)) (23300 + 36 * (k + 1)) Q (BL D cI cW cZ cL z S' T' o') 1826 (lvL b z (4 * k)) [] := by
      intro S' T' o' hR'
      refine vv_iinc hC (i := 4) (v := nI (4 * (k + 1))) (lv' := [(4, .int (nI (4 * (k + 1)))), (0, .ref b), (1, .ref (adW z 0)), (2, .ref (adM z 0)), (3, .ref (adW z 90))]) 4 dL_law_1826 rfl (by rw [show Int32.ofInt 4 = nI 4 from rfl, nI_add]; rfl) (by decide) rfl (q := 1829) rfl ?_
      refine vv_goto hC (tgt := 23) dL_law_1829 (by decide) ?_
      exact vv_lv [1, 2, 3, 4, 0] rfl (ih (k + 1) S' T' o' (by omega) (by omega) hR')
    refine vv_aload_n hC 0 dL_law_32 rfl rfl (q := 33) rfl ?_
    refine vv_iload hC 4 dL_law_33 rfl (q := 35) rfl ?_
    refine vv_sld hC hX hbl X.nb (j := 4 * k) (by omega) (by omega) dL_law_35 (q := 36) rfl ?_
    refine vv_bipush hC (v := 31) dL_law_36 rfl (q := 38) rfl ?_
    refine vv_iand hC dL_law_38 (q := 39) rfl ?_
    have go : ∀ (tgt : Nat) (off : Int), ¬ (xs (4 * k) &&& 31).toInt < 0 → ¬ 28 < (xs (4 * k) &&& 31).toInt → (#[129, 209, 277, 333, 389, 457, 513, 526, 582, 638, 694, 750, 806, 874, 954, 1022, 1078, 1134, 1190, 1246, 1314, 1370, 1426, 1439, 1495, 1551, 1619, 1675, 1719] : Array Int)[((xs (4 * k) &&& 31).toInt - 0).toNat]? = some off → (39 : Int) + off = (tgt : Int) → vv p l e room_1 s m #[Value.ref b] below meth c 7 (AZ z) s.heap (118 + 6 * k) (23300 + 36 * k) Q (BL D cI cW cZ cL z S T o) tgt (lvL b z (4 * k)) [] → vv p l e room_1 s m #[Value.ref b] below meth c 7 (AZ z) s.heap (118 + 6 * k) (23300 + 36 * k) Q (BL D cI cW cZ cL z S T o) 39 (lvL b z (4 * k)) [.int (xs (4 * k) &&& 31)] := fun tgt off h1 h2 h3 h4 h5 => vv_tableIn hC dL_law_39 h1 h2 h3 h4 h5
    have gout : 28 < (xs (4 * k) &&& 31).toInt → vv p l e room_1 s m #[Value.ref b] below meth c 7 (AZ z) s.heap (118 + 6 * k) (23300 + 36 * k) Q (BL D cI cW cZ cL z S T o) 39 (lvL b z (4 * k)) [.int (xs (4 * k) &&& 31)] := fun h => vv_tableOut hC (tgt := 1826) dL_law_39 (Or.inr h) (by decide) (vv_widen (by omega) (by omega) (next S T o (hnone k S T hk2 hR)))
    obtain ⟨j, hj, he⟩ := and31 (xs (4 * k))
    match j, hj, he with
    | 0, hj, he => exact go 168 129 (by rw [he]; decide) (by rw [he]; decide) (by rw [he]; rfl) rfl (law_type X htype hk2 hkL hR next)
    | 1, hj, he => exact go 248 209 (by rw [he]; decide) (by rw [he]; decide) (by rw [he]; rfl) rfl (law_delete X hdelete hk2 hkL hR next)
    | 2, hj, he => exact go 316 277 (by rw [he]; decide) (by rw [he]; decide) (by rw [he]; rfl) rfl (law_merge X hmerge hk2 hkL hR next)
    | 3, hj, he => exact go 372 333 (by rw [he]; decide) (by rw [he]; decide) (by rw [he]; rfl) rfl (law_copy X hcopy hk2 hkL hR next)
    | 4, hj, he => exact go 428 389 (by rw [he]; decide) (by rw [he]; decide) (by rw [he]; rfl) rfl (law_copyAt X hcopyAt hk2 hkL hR next)
    | 5, hj, he => exact go 496 457 (by rw [he]; decide) (by rw [he]; decide) (by rw [he]; rfl) rfl (law_changes X hchanges hk2 hkL hR next)
    | 6, hj, he => exact go 552 513 (by rw [he]; decide) (by rw [he]; decide) (by rw [he]; rfl) rfl (law_length X hlength hk2 hkL hR next)
    | 7, hj, he => exact go 565 526 (by rw [he]; decide) (by rw [he]; decide) (by rw [he]; rfl) rfl (law_wordAt X hwordAt hk2 hkL hR next)
    | 8, hj, he => exact go 621 582 (by rw [he]; decide) (by rw [he]; decide) (by rw [he]; rfl) rfl (law_word X hword hk2 hkL hR next)
    | 9, hj, he => exact go 677 638 (by rw [he]; decide) (by rw [he]; decide) (by rw [he]; rfl) rfl (law_placeOf X hplaceOf hk2 hkL hR next)
    | 10, hj, he => exact go 733 694 (by rw [he]; decide) (by rw [he]; decide) (by rw [he]; rfl) rfl (law_share X hshare hk2 hkL hR next)
    | 11, hj, he => exact go 789 750 (by rw [he]; decide) (by rw [he]; decide) (by rw [he]; rfl) rfl (law_shareAnew X hshareAnew hk2 hkL hR next)
    | 12, hj, he => exact go 845 806 (by rw [he]; decide) (by rw [he]; decide) (by rw [he]; rfl) rfl (law_setRate X hsetRate hk2 hkL hR next)
    | 13, hj, he => exact go 913 874 (by rw [he]; decide) (by rw [he]; decide) (by rw [he]; rfl) rfl (law_order X horder hk2 hkL hR next)
    | 14, hj, he => exact go 993 954 (by rw [he]; decide) (by rw [he]; decide) (by rw [he]; rfl) rfl (law_finish X hfinish hk2 hkL hR next)
    | 15, hj, he => exact go 1061 1022 (by rw [he]; decide) (by rw [he]; decide) (by rw [he]; rfl) rfl (law_cancel X hcancel hk2 hkL hR next)
    | 16, hj, he => exact go 1117 1078 (by rw [he]; decide) (by rw [he]; decide) (by rw [he]; rfl) rfl (law_stateOf X hstateOf hk2 hkL hR next)
    | 17, hj, he => exact go 1173 1134 (by rw [he]; decide) (by rw [he]; decide) (by rw [he]; rfl) rfl (law_frozenBy X hfrozenBy hk2 hkL hR next)
    | 18, hj, he => exact go 1229 1190 (by rw [he]; decide) (by rw [he]; decide) (by rw [he]; rfl) rfl (law_earned X hearned hk2 hkL hR next)
    | 19, hj, he => exact go 1285 1246 (by rw [he]; decide) (by rw [he]; decide) (by rw [he]; rfl) rfl (law_addIssue X haddIssue hk2 hkL hR next)
    | 20, hj, he => exact go 1353 1314 (by rw [he]; decide) (by rw [he]; decide) (by rw [he]; rfl) rfl (law_waiting X hwaiting hk2 hkL hR next)
    | 21, hj, he => exact go 1409 1370 (by rw [he]; decide) (by rw [he]; decide) (by rw [he]; rfl) rfl (law_pass X hpass hk2 hkL hR next)
    | 22, hj, he => exact go 1465 1426 (by rw [he]; decide) (by rw [he]; decide) (by rw [he]; rfl) rfl (law_today X htoday hk2 hkL hR next)
    | 23, hj, he => exact go 1478 1439 (by rw [he]; decide) (by rw [he]; decide) (by rw [he]; rfl) rfl (law_printed X hprinted hk2 hkL hR next)
    | 24, hj, he => exact go 1534 1495 (by rw [he]; decide) (by rw [he]; decide) (by rw [he]; rfl) rfl (law_royalties X hroyalties hk2 hkL hR next)
    | 25, hj, he => exact go 1590 1551 (by rw [he]; decide) (by rw [he]; decide) (by rw [he]; rfl) rfl (law_comment X hcomment hk2 hkL hR next)
    | 26, hj, he => exact go 1658 1619 (by rw [he]; decide) (by rw [he]; decide) (by rw [he]; rfl) rfl (law_span X hspan hk2 hkL hR next)
    | 27, hj, he => exact go 1714 1675 (by rw [he]; decide) (by rw [he]; decide) (by rw [he]; rfl) rfl (law_keep X hkeep hk2 hkL hR next)
    | 28, hj, he => exact go 1758 1719 (by rw [he]; decide) (by rw [he]; decide) (by rw [he]; rfl) rfl (law_compare X hcompare hk2 hkL hR next)
    | 29, hj, he => exact gout (by rw [he]; decide)
    | 30, hj, he => exact gout (by rw [he]; decide)
    | 31, hj, he => exact gout (by rw [he]; decide)
    | j + 32, hj, he => omega
theorem fC_ad {cI cW : ClassId} {ad ad' : Nat → Nat} (h : ∀ i, i < 90 → ad i = ad' i) (GG : Nat → Nat → Int32) (S : sC) : ∀ j, j < 90 → fC cI cW ad GG S j = fC cI cW ad' GG S j := by
  intro j hj
  have a5 := (show ∀ j, j < 90 → kd j = 5 → j + 1 < 90 by decide +kernel) j hj
  have a2 := (show ∀ j, j < 90 → kd j = 2 → j + 18 < 90 by decide +kernel) j hj
  have a6 := (show ∀ j, j < 90 → kd j = 6 → j + 11 < 90 by decide +kernel) j hj
  have a0 := (show ∀ j, j < 90 → kd j = 0 → j + 1 < 90 by decide +kernel) j hj
  have a7 := (show ∀ j, j < 90 → kd j = 7 → j + 3 < 90 by decide +kernel) j hj
  have a4 := (show ∀ j, j < 90 → kd j = 4 → j + 15 < 90 by decide +kernel) j hj
  have a3 := (show ∀ j, j < 90 → kd j = 3 → j + 5 < 90 by decide +kernel) j hj
  have a1 := (show ∀ j, j < 90 → kd j = 1 → j + 3 < 90 by decide +kernel) j hj
  unfold fC
  by_cases e5 : kd j = 5
  · rw [if_pos e5, if_pos e5, h _ (a5 e5)]
  rw [if_neg e5, if_neg e5]
  by_cases e : kd j = 100
  · rw [if_pos e, if_pos e]
  rw [if_neg e, if_neg e]
  by_cases e : kd j = 8
  · rw [if_pos e, if_pos e, h 1 (by decide), h 2 (by decide), h 22 (by decide), h 59 (by decide), h 61 (by decide), h 78 (by decide), h 85 (by decide)]
  rw [if_neg e, if_neg e]
  by_cases e : kd j = 2
  · have := a2 e
    rw [if_pos e, if_pos e, h (j + 1) (by omega), h (j + 14) (by omega), h (j + 16) (by omega), h (j + 18) (by omega)]
  rw [if_neg e, if_neg e]
  by_cases e : kd j = 6
  · have := a6 e
    rw [if_pos e, if_pos e, h (j + 1) (by omega), h (j + 3) (by omega), h (j + 5) (by omega), h (j + 7) (by omega), h (j + 9) (by omega), h (j + 11) (by omega)]
  rw [if_neg e, if_neg e]
  by_cases e : kd j = 0
  · rw [if_pos e, if_pos e, h _ (a0 e)]
  rw [if_neg e, if_neg e]
  by_cases e : kd j = 7
  · have := a7 e
    rw [if_pos e, if_pos e, h (j + 1) (by omega), h (j + 3) (by omega)]
  rw [if_neg e, if_neg e]
  by_cases e : kd j = 4
  · have := a4 e
    rw [if_pos e, if_pos e, h (j + 1) (by omega), h (j + 3) (by omega), h (j + 5) (by omega), h (j + 7) (by omega), h (j + 9) (by omega), h (j + 11) (by omega), h (j + 13) (by omega), h (j + 15) (by omega)]
  rw [if_neg e, if_neg e]
  by_cases e : kd j = 3
  · have := a3 e
    rw [if_pos e, if_pos e, h (j + 1) (by omega), h (j + 3) (by omega), h (j + 5) (by omega)]
  rw [if_neg e, if_neg e]
  by_cases e : kd j = 1
  · have := a1 e
    rw [if_pos e, if_pos e, h (j + 1) (by omega), h (j + 3) (by omega)]
  rw [if_neg e, if_neg e]
  have hg : (fun i => if i < 6 then some (ad (23 + 6 * i)) else none) = (fun i => if i < 6 then some (ad' (23 + 6 * i)) else none) := funext fun i => by
    by_cases hi : i < 6
    · rw [if_pos hi, if_pos hi, h _ (by omega)]
    · rw [if_neg hi, if_neg hi]
  rw [hg]
theorem wfC_00 : wfC S00 := fun j hj => by
  have h1 := (show ∀ j, j < 90 → kd j = 5 → (S00.1 j).length ≤ cap j by decide +kernel) j (kl5 hj)
  exact h1 hj
section VLS
variable {p : Program} {l : Launch} {e : Env} {R : Room} {s : State} {m : MethodId} {args : Array Value} {below : List Frame} {meth : Method} {c : Code} {nL : Nat} {cells slots : Nat} {Q : State → Prop} {pc q : Nat} {lv : List (Nat × Value)} {st : List Value} {cc bytes : ByteArray} {Ts wsY : List Cond} {own : String} {D : va_G} {y : MethodName} {rm : Room} {index maxL mc ms z : Nat} {cI cW cZ cL : ClassId} {G : Nat → va_E} {e9 : va_E} {P2 : (Nat → va_E) → Prop}
theorem vv_law2 (C : CallFix p m c cc nL s args Ts own) (hK : va_K D vwCl (tyL cI cW cZ cL) s) (hz : s.heap.size = z) (hAO : xC s) (hM : kC l y wsY rm D vwCl (tyL cI cW cZ cL) (adM z) (z + 90) 1 27 [.ref (adM z 0)] (agr 1 (fun _ => e9)) P2 mc ms) (cw : CallB R s args own index y bytes maxL none wsY rm mc ms 0 ∧ y.name = "<init>" ∧ (Cond.instanceMethod y).before args s = true) (hcat : (st.map fun v => v.category).sum ≤ 8) (hc : cells = 91) (hroom : cells + mc ≤ R.cells ∧ slots + ms ≤ R.slots) (d : decode cc pc = .ok (.invokespecial index, 3)) (hq : pc + 3 = q) (kk : vv p l e R s m args below meth c nL (AZ z) s.heap (cells + mc) (slots + ms) Q (fun H => wq D vwCl (fun i => z + i) 90 (agr 90 G) H ∧ wq D vwCl (adM z) 27 P2 H) q lv st) : vv p l e R s m args below meth c nL (AZ z) s.heap cells slots Q (wq D vwCl (fun i => z + i) 91 (agr 91 (ud G 90 e9))) pc lv (.ref (adM z 0) :: st) := by
  subst hq
  refine vv_sz (k := 0) (fun i => rfl) (by rw [hz, Nat.add_zero]) (by omega) (Or.inl (by omega)) fun H locs ls hsz hl hB hS => ?_
  obtain ⟨f, hf, hP⟩ := hB
  have h90 : wq D vwCl (fun i => z + i) 90 (agr 90 G) H := ⟨f, fun i hi => by rw [hf i (by omega), ud_ne (by omega)], fun k q hk => by
    obtain ⟨h1, rfl⟩ := WL_lt hk
    exact hP k _ (WL_get (show k < 91 by omega))⟩
  have h1 : wq D vwCl (adM z) 1 (agr 1 (fun _ => e9)) H := ⟨fun _ => e9, fun _ _ => rfl, fun k q hk => by
    obtain ⟨h1, rfl⟩ := WL_lt hk
    obtain rfl : k = 0 := by omega
    have := hP 90 _ (WL_get (show 90 < 91 by omega))
    rw [hf 90 (by omega), ud_eq] at this
    exact this⟩
  exact va_callv (va_runI (As := []) C hM cw ⟨kC_blind, fun U hU hW => ⟨rfl, by rw [hU, hsz], hAO.moved hW, by rw [hU]; exact h1, va_K.moved hW.alike hK⟩⟩ rfl rfl hl.1 rfl (lv_room hcat) d hroom) hS (fun q _ h => by have h2 : z + 90 ≤ q := h; show z ≤ q; omega) (fun q h => by have h2 : z + 90 ≤ q := h; show z ≤ q; omega) (fun u t H1 locs1 ht hvm hp hb1 hz1 hk hS1 => by
    subst ht
    exact kk _ _ ls hl ⟨wq_kept h90 fun j hj => hk _ (by omega) (fun h => by have h2 : z + 90 ≤ z + j := h; omega), hb1.2.1⟩ hS1)
theorem law3_up {H H1 : Heap} (hB1 : wq D vwCl (fun i => z + i) 90 (agr 90 (G0 cI cW (fun i => z + i))) H) (hB2 : wq D vwCl (adM z) 27 (agr 27 (GM cI cZ (adM z))) H) (hsz : H.size = z + 117) (o1 : ∀ q, q < z + 117 → H1[q]? = H[q]?) (e1 : H1[z + 117]? = some (arrV cL 1 (fun _ => .long 0))) : BL D cI cW cZ cL z S00 S0M 0 H1 := by
  constructor
  · obtain ⟨f, hf, hP⟩ := hB1
    have hp : va_P D vwCl (WL (adW z) 90 (fC cI cW (adW z) (fun _ _ => 0) S00)) H1 := fun k q hk => by
      obtain ⟨h6, rfl⟩ := WL_lt hk
      have h7 := hP k _ (WL_get h6)
      have e2 : f k = fC cI cW (adW z) (fun _ _ => 0) S00 k := (hf k h6).trans (fC_ad (fun i hi => by rw [adW, if_pos hi]) _ _ k h6)
      rw [e2] at h7
      have h8 := h7.lt
      rw [show adW z k = z + k by rw [adW, if_pos h6]]
      exact h7.kept (o1 _ (by rw [← hsz]; exact h8))
    have h9 : va_at D vwCl (adW z 90, .inl (cL, (1, .inr (.inl fun _ => 0)))) H1 := by
      have ea : adW z 90 = z + 117 := by rw [adW, if_neg (by omega)]
      rw [ea]
      exact e1
    exact ⟨_, ⟨fC cI cW (adW z) (fun _ _ => 0) S00, fun _ => 0, ⟨wfC_00, fun _ _ => 0, rfl⟩, rfl, rfl⟩, wC_up hp h9⟩
  · obtain ⟨f, hf, hP⟩ := hB2
    refine ⟨fM cI cZ (adM z) S0M, rfl, fun k q hk => ?_⟩
    obtain ⟨h6, rfl⟩ := WL_lt hk
    have h7 := hP k _ (WL_get h6)
    rw [hf k h6] at h7
    exact h7.kept (o1 _ (by rw [← hsz]; exact h7.lt))
theorem vv_law3 (C : CallFix p m c cc nL s args Ts own) (hK : va_K D vwCl (tyL cI cW cZ cL) s) (hz : s.heap.size = z) (harr : Cond.arrayClass .long ∈ Ts) (hc : cells = 117) (hroom : cells + 1 ≤ R.cells ∧ slots + 1 ≤ R.slots) (d : decode cc pc = .ok (.newarray .long, 2)) (hq : pc + 2 = q) (kk : vv p l e R s m args below meth c nL (AZ z) s.heap (cells + 1) (slots + 1) Q (BL D cI cW cZ cL z S00 S0M 0) q lv (.ref (adW z 90) :: st)) : vv p l e R s m args below meth c nL (AZ z) s.heap cells slots Q (fun H => wq D vwCl (fun i => z + i) 90 (agr 90 (G0 cI cW (fun i => z + i))) H ∧ wq D vwCl (adM z) 27 (agr 27 (GM cI cZ (adM z))) H) pc lv (.int (nI 1) :: st) := by
  subst hq
  intro H locs ls hl hB hS T hT X
  have h2 := X.heapSize
  rw [hT] at h2
  have h3 : (z + 90) + 26 < H.size := wq_lt hB.2 (show 26 < 27 by omega)
  have hsz : H.size = z + 117 := by omega
  have ea : adW z 90 = z + 117 := by rw [adW, if_neg (by omega)]
  rw [ea] at kk
  have hcL : s.vm.findClass ("[" ++ FieldType.long.toString) = some cL := (hK.2 3 _ rfl).2
  have hw : W p l e R s m args below meth c H locs cells slots Q (F0 m pc ls (.int (nI 1) :: st)) := by
    refine va_newaK C.1 C.2.1 (atype := .long) (C.2.2.2.2 _ harr) rfl d rfl (nI_pos (by omega)) (nI_clamp (n := 1) (by omega)) (Nat.le_of_ble_eq_true rfl) hroom.1 hroom.2 hsz (fun H1 cA e1 z1 o1 hAr hNm => ?_)
    have hcA : cA = cL := Option.some.inj (hNm.symm.trans hcL)
    subst hcA
    exact kk H1 locs ls hl (law3_up hB.1 hB.2 hsz o1 e1) ⟨Nat.le_trans hS.1 (by omega), fun q h4 h5 => (o1 q (by have := hS.1; omega)).trans (hS.2.1 q h4 h5), hS.2.2⟩
  exact hw T hT X
end VLS
set_option maxRecDepth 100000 in
set_option maxHeartbeats 4000000 in
theorem law_begin {p : Program} {l : Launch} {e : Env} {s : State} {m : MethodId} {below : List Frame} {meth : Method} {c : Code} {b L z : Nat} {xs : Nat → Int32} {D : va_G} {cI cW cZ cL : ClassId} {Q : State → Prop} {Rel : Nat → sC → sM → Prop} (X : LX l s m c p b L z xs D cI cW cZ cL) (hAO : xC s) (hex : ∀ (cells slots : Nat) (lv : List (Nat × Value)) (B : Heap → Prop), cells ≤ 601024 ∧ slots ≤ 7293034 → vv p l e room_1 s m #[Value.ref b] below meth c 7 (AZ z) s.heap cells slots Q B 1833 lv [.int 1]) (hop : RelOK Rel) (h0 : Rel 0 S00 S0M) : vv p l e room_1 s m #[Value.ref b] below meth c 7 (AZ z) s.heap 0 0 Q (wq D vwCl (fun i => z + i) 0 (agr 0 (fun _ => .inr (8, [.null, .null, .null, .null, .null, .null, .null, .int 0, .int 0])))) 0 [(0, .ref b)] [] := by
  obtain ⟨hC, hK, hz, hE, hN, hX, hbl, hlst, hL⟩ := id X
  have hAd : ∀ i, (fun i => z + i) i = z + i := fun i => rfl
  have hz0 : s.heap.size = z + 0 := hz
  refine vv_newC hC hK hAd hz0 (n := 0) rfl (Or.inr rfl) (K := RX8) (T := TX8) (N := 9) (ci := 8) inlX8 tyX8 tyX8_ok (List.mem_of_getElem? (i := 0) rfl) (List.mem_of_getElem? (i := 1) rfl) (List.mem_of_getElem? (i := 2) rfl) rfl (fs := [.null, .null, .null, .null, .null, .null, .null, .int 0, .int 0]) (fun j hj => match j, hj with | 0, _ => rfl | 1, _ => rfl | 2, _ => rfl | 3, _ => rfl | 4, _ => rfl | 5, _ => rfl | 6, _ => rfl | 7, _ => rfl | 8, _ => rfl | j + 9, h => absurd h (by omega)) (Nat.le_of_ble_eq_true rfl) (Nat.le_of_ble_eq_true rfl) (P1 := agr 1 (ud (fun _ => .inr (8, [.null, .null, .null, .null, .null, .null, .null, .int 0, .int 0])) 0 (.inr (8, [.null, .null, .null, .null, .null, .null, .null, .int 0, .int 0])))) (fun f h => agr_new _ h) dL_law_0 (q := 3) rfl ?_
  refine vv_dup hC dL_law_3 rfl (q := 4) rfl ?_
  refine vv_callC hC hK hAd hz0 (n := 1) rfl (Or.inl (by decide)) (n2 := 90) hAO (a := z + 0) (As := []) (c8_init l hAd _ _ rfl ud_eq) (cwI 0 hC.2.2.2.2 gL_law_X8_init rfl rfl rfl (hC.2.2.2.2 _ (List.mem_of_getElem? (i := 2) rfl)) (hC.2.2.2.2 _ (List.mem_of_getElem? (i := 7) rfl)) (hC.2.2.2.2 _ (List.mem_of_getElem? (i := 8) rfl)) rfl hdX8_init ⟨Nat.le_of_ble_eq_true rfl, Nat.le_of_ble_eq_true rfl⟩) rfl rfl (Nat.le_of_ble_eq_true rfl) ⟨Nat.le_of_ble_eq_true rfl, Nat.le_of_ble_eq_true rfl⟩ dL_law_4 (q := 7) rfl ?_
  refine vv_wq (P1 := agr 90 (G0 cI cW (fun i => z + i))) (fun f h i hi => by rw [h i hi, mix, if_neg (Nat.not_lt_zero i)]) ?_
  refine vv_astore_n hC (i := 1) (lv' := [(1, .ref (z + 0)), (0, .ref b)]) dL_law_7 rfl (by decide) rfl (q := 8) rfl ?_
  refine vv_newC hC hK hAd hz0 (n := 90) rfl (Or.inl (by decide)) (K := RX9) (T := TX9) (N := 35) (ci := 9) inlX9 tyX9 tyX9_ok (List.mem_of_getElem? (i := 3) rfl) (List.mem_of_getElem? (i := 4) rfl) (List.mem_of_getElem? (i := 5) rfl) rfl (fs := [.int 0, .int 0, .null, .null, .null, .null, .null, .null, .int 0, .null, .null, .null, .null, .null, .null, .null, .null, .int 0, .null, .null, .null, .null, .null, .null, .int 0, .int 0, .null, .null, .null, .int 0, .int 0, .null, .null, .int 0, .null]) (fun j hj => match j, hj with | 0, _ => rfl | 1, _ => rfl | 2, _ => rfl | 3, _ => rfl | 4, _ => rfl | 5, _ => rfl | 6, _ => rfl | 7, _ => rfl | 8, _ => rfl | 9, _ => rfl | 10, _ => rfl | 11, _ => rfl | 12, _ => rfl | 13, _ => rfl | 14, _ => rfl | 15, _ => rfl | 16, _ => rfl | 17, _ => rfl | 18, _ => rfl | 19, _ => rfl | 20, _ => rfl | 21, _ => rfl | 22, _ => rfl | 23, _ => rfl | 24, _ => rfl | 25, _ => rfl | 26, _ => rfl | 27, _ => rfl | 28, _ => rfl | 29, _ => rfl | 30, _ => rfl | 31, _ => rfl | 32, _ => rfl | 33, _ => rfl | 34, _ => rfl | j + 35, h => absurd h (by omega)) (Nat.le_of_ble_eq_true rfl) (Nat.le_of_ble_eq_true rfl) (P1 := agr 91 (ud (G0 cI cW (fun i => z + i)) 90 (.inr (9, [.int 0, .int 0, .null, .null, .null, .null, .null, .null, .int 0, .null, .null, .null, .null, .null, .null, .null, .null, .int 0, .null, .null, .null, .null, .null, .null, .int 0, .int 0, .null, .null, .null, .int 0, .int 0, .null, .null, .int 0, .null])))) (fun f h => agr_new _ h) dL_law_8 (q := 11) rfl ?_
  refine vv_dup hC dL_law_11 rfl (q := 12) rfl ?_
  refine vv_law2 hC hK hz hAO (c9_init l (ad := adM z) (fun i => rfl) (fun _ => .inr (9, [.int 0, .int 0, .null, .null, .null, .null, .null, .null, .int 0, .null, .null, .null, .null, .null, .null, .null, .null, .int 0, .null, .null, .null, .null, .null, .null, .int 0, .int 0, .null, .null, .null, .int 0, .int 0, .null, .null, .int 0, .null])) rfl) (cwI 0 hC.2.2.2.2 gL_law_X9_init rfl rfl rfl (hC.2.2.2.2 _ (List.mem_of_getElem? (i := 5) rfl)) (hC.2.2.2.2 _ (List.mem_of_getElem? (i := 135) rfl)) (hC.2.2.2.2 _ (List.mem_of_getElem? (i := 136) rfl)) rfl hdX9_init ⟨Nat.le_of_ble_eq_true rfl, Nat.le_of_ble_eq_true rfl⟩) (Nat.le_of_ble_eq_true rfl) rfl ⟨Nat.le_of_ble_eq_true rfl, Nat.le_of_ble_eq_true rfl⟩ dL_law_12 (q := 15) rfl ?_
  refine vv_astore_n hC (i := 2) (lv' := [(2, .ref (adM z 0)), (1, .ref (z + 0)), (0, .ref b)]) dL_law_15 rfl (by decide) rfl (q := 16) rfl ?_
  refine vv_iconst hC (v := nI 1) dL_law_16 rfl (q := 17) rfl ?_
  refine vv_cons (B1 := fun H => wq D vwCl (fun i => z + i) 90 (agr 90 (G0 cI cW (fun i => z + i))) H ∧ wq D vwCl (adM z) 27 (agr 27 (GM cI cZ (adM z))) H) (fun H hB => ⟨hB.1, by obtain ⟨f, hf, hP⟩ := hB.2; exact ⟨f, fun i hi => by rw [hf i hi, mix, if_neg (Nat.not_lt_zero i)], hP⟩⟩) ?_
  refine vv_law3 hC hK hz (List.mem_of_getElem? (i := 6) rfl) rfl ⟨Nat.le_of_ble_eq_true rfl, Nat.le_of_ble_eq_true rfl⟩ dL_law_17 (q := 19) rfl ?_
  refine vv_astore_n hC (i := 3) (lv' := [(3, .ref (adW z 90)), (2, .ref (adM z 0)), (1, .ref (z + 0)), (0, .ref b)]) dL_law_19 rfl (by decide) rfl (q := 20) rfl ?_
  refine vv_iconst hC (v := nI 0) dL_law_20 rfl (q := 21) rfl ?_
  refine vv_istore hC (i := 4) (lv' := [(4, .int (nI 0)), (3, .ref (adW z 90)), (2, .ref (adM z 0)), (1, .ref (z + 0)), (0, .ref b)]) dL_law_21 (by decide) rfl (q := 23) rfl ?_
  refine vv_widen (k := 118 + 6 * 0) (n := 23300 + 36 * 0) (Nat.le_of_ble_eq_true rfl) (Nat.le_of_ble_eq_true rfl) ?_
  exact vv_lv [4, 3, 2, 1, 0] rfl (law_loop X hex hop 513 0 S00 S0M 0 (by omega) (by omega) h0)
