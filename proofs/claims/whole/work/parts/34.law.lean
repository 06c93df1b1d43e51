/-- what the law's walk rests on -/
def LX (l : Launch) (s : State) (m : MethodId) (c : Code) (p : Program) (b L z : Nat) (xs : Nat → Int32) (D : va_G) (cI cW cZ cL : ClassId) : Prop :=
  CallFix p m c cL_law 7 s #[Value.ref b] wsL_law RL ∧ va_K D vwCl (tyL cI cW cZ cL) s ∧ s.heap.size = z ∧ xE (AZ z) s ∧ xN s ∧ va_X b L xs s s.heap ∧ b < s.heap.size ∧ l.stackTraces = false ∧ L ≤ 2048
theorem LX.nb {l : Launch} {s : State} {m : MethodId} {c : Code} {p : Program} {b L z : Nat} {xs : Nat → Int32} {D : va_G} {cI cW cZ cL : ClassId} (h : LX l s m c p b L z xs D cI cW cZ cL) : ¬ AZ z b := by
  have h1 := h.2.2.1
  have h2 := h.2.2.2.2.2.2.1
  unfold AZ
  omega
theorem cd_0 {Ls : List Nat} {t : Nat} (hL : Ls.length ≤ 5) (h : nI (cd Ls t) = 0) : t = 0 := by
  unfold cd at h
  by_cases h0 : t = 0
  · exact h0
  · rw [if_neg h0] at h
    have h1 : Ls.idxOf t ≤ Ls.length := List.idxOf_le_length
    have h2 := (nI_eq (show Ls.idxOf t + 1 < 2 ^ 31 by omega) (show 0 < 2 ^ 31 by decide)).mp h
    omega
theorem law_h2 {Ls : List Nat} {thr THR : Nat} {R r : Int32} {o : Int64} (hL : Ls.length ≤ 5) (h2 : THR = cd Ls thr) (h4 : thr = 0 → R = r) (hh : nI (cd Ls thr) = 0) : (if thr = 0 then r.toInt64 else o) = (if THR = 0 then R else 0).toInt64 := by
  have h0 := cd_0 hL hh
  have h9 : cd Ls thr = 0 := by rw [cd, if_pos h0]
  rw [if_pos h0, if_pos (h2.trans h9), h4 h0]
abbrev lvL (b z i : Nat) : List (Nat × Value) := [(0, .ref b), (1, .ref (adW z 0)), (2, .ref (adM z 0)), (3, .ref (adW z 90)), (4, .int (nI i))]
theorem hdX9_thrownL : yX9_thrown.cls = RX9 ∧ yX9_thrown.cls ≠ "java/lang/invoke/MethodHandle" ∧ yX9_thrown.cls ≠ "java/lang/invoke/VarHandle" ∧ (parseMethodDescriptor yX9_thrown.desc).map (fun d => d.parameters.length) = some 0 := by decide +kernel
set_option maxRecDepth 100000 in
theorem law_tail {p : Program} {l : Launch} {e : Env} {s : State} {m : MethodId} {below : List Frame} {meth : Method} {c : Code} {b L z : Nat} {xs : Nat → Int32} {D : va_G} {cI cW cZ cL : ClassId} {Q : State → Prop} {cells slots : Nat} (X : LX l s m c p b L z xs D cI cW cZ cL) {pc i kk : Nat} {S2 : sC} {T2 : sM} {o2 : Int64} {R2 : Int32} {off : Int}
    (hc : cells ≤ 601024 ∧ slots ≤ 7293034) (h1 : T2.1 0 = kk) (h2 : nI kk = 0 → o2 = R2.toInt64)
    (d0 : decode cL_law pc = .ok (.aload_n 2, 1)) (d1 : decode cL_law (pc + 1) = .ok (.invokevirtual 110, 3)) (d2 : decode cL_law (pc + 4) = .ok (.iload 5, 2)) (d3 : decode cL_law (pc + 6) = .ok (.if_icmp .eq 5, 3)) (d4 : decode cL_law (pc + 11) = .ok (.iload 5, 2)) (d5 : decode cL_law (pc + 13) = .ok (.ifCond .ne 15, 3)) (d6 : decode cL_law (pc + 16) = .ok (.aload_n 3, 1)) (d7 : decode cL_law (pc + 17) = .ok (.iconst 0, 1)) (d8 : decode cL_law (pc + 18) = .ok (.laload, 1)) (d9 : decode cL_law (pc + 19) = .ok (.iload 6, 2)) (d10 : decode cL_law (pc + 21) = .ok (.i2l, 1)) (d11 : decode cL_law (pc + 22) = .ok (.lcmp, 1)) (d12 : decode cL_law (pc + 23) = .ok (.ifCond .eq 5, 3)) (d13 : decode cL_law (pc + 28) = .ok (.goto off, 3)) (ho : ((pc + 28 : Nat) : Int) + off = (1826 : Nat))
    (next : vv p l e room_1 s m #[Value.ref b] below meth c 7 (AZ z) s.heap cells slots Q (BL D cI cW cZ cL z S2 T2 o2) 1826 (lvL b z i) []) :
    vv p l e room_1 s m #[Value.ref b] below meth c 7 (AZ z) s.heap cells slots Q (BL D cI cW cZ cL z S2 T2 o2) pc ((6, .int R2) :: (5, .int (nI kk)) :: lvL b z i) [] := by
  obtain ⟨hC, hK, -⟩ := id X
  have hend : vv p l e room_1 s m #[Value.ref b] below meth c 7 (AZ z) s.heap cells slots Q (BL D cI cW cZ cL z S2 T2 o2) (pc + 28) ((6, .int R2) :: (5, .int (nI kk)) :: lvL b z i) [] := by
    refine vv_goto hC (tgt := 1826) d13 ho ?_
    exact vv_lv [2, 3, 4, 5, 6] rfl next
  refine vv_aload_n hC 4 d0 rfl rfl (q := pc + 1) rfl ?_
  refine vv_lawM hC hK (As := []) (c9_thrown l (adM_inj z) T2) (cwV 0 hC.2.2.2.2 gL_law_X9_thrown rfl rfl rfl hdX9_thrownL ⟨Nat.le_of_ble_eq_true rfl, Nat.le_of_ble_eq_true rfl⟩) rfl rfl (Nat.le_of_ble_eq_true rfl) hc d1 (q := pc + 4) rfl ?_
  refine vv_eqv (st' := [.int (nI kk)]) (by rw [h1]) ?_
  refine vv_iload hC 1 d2 rfl (q := pc + 6) rfl ?_
  refine vv_icmp_eq hC (tgt := pc + 11) d3 (by omega) (q := pc + 9) rfl (fun _ => ?_) (fun h => absurd rfl h)
  refine vv_iload hC 1 d4 rfl (q := pc + 13) rfl ?_
  refine vv_if_ne hC (tgt := pc + 28) d5 (by omega) (q := pc + 16) rfl (fun _ => hend) (fun h => ?_)
  refine vv_aload_n hC 5 d6 rfl rfl (q := pc + 17) rfl ?_
  refine vv_iconst hC (v := 0) d7 rfl (q := pc + 18) rfl ?_
  refine vv_lawL hC hK d8 (q := pc + 19) rfl ?_
  refine vv_iload hC 0 d9 rfl (q := pc + 21) rfl ?_
  refine vv_i2l hC d10 (q := pc + 22) rfl ?_
  refine vv_eqv (st' := [.long o2, .long o2]) (by rw [← h2 h]) ?_
  refine vv_lcmp hC d11 (q := pc + 23) rfl ?_
  exact vv_if_eq hC (tgt := pc + 28) d12 (by omega) (q := pc + 26) rfl (fun _ => hend) (fun h => absurd rfl h)
set_option maxRecDepth 100000 in
set_option maxHeartbeats 4000000 in
theorem law_type {p : Program} {l : Launch} {e : Env} {s : State} {m : MethodId} {below : List Frame} {meth : Method} {c : Code} {b L z : Nat} {xs : Nat → Int32} {D : va_G} {cI cW cZ cL : ClassId} {Q : State → Prop} {Rel : Nat → sC → sM → Prop} (X : LX l s m c p b L z xs D cI cW cZ cL) (hop : opK_type Rel) {k : Nat} (hk : k < 512) (hkL : 4 * k + 4 ≤ L) {S : sC} {T : sM} {o : Int64} (hR : Rel k S T) (next : ∀ (S' : sC) (T' : sM) (o' : Int64), Rel (k + 1) S' T' → vv p l e room_1 s m #[Value.ref b] below meth c 7 (AZ z) s.heap (118 + 6 * (k + 1)) (23300 + 36 * (k + 1)) Q (BL D cI cW cZ cL z S' T' o') 1826 (lvL b z (4 * k)) []) : vv p l e room_1 s m #[Value.ref b] below meth c 7 (AZ z) s.heap (118 + 6 * k) (23300 + 36 * k) Q (BL D cI cW cZ cL z S T o) 168 (lvL b z (4 * k)) [] := by
  obtain ⟨hC, hK, hz, hE, hN, hX, hbl, hlst, hL⟩ := id X
  obtain ⟨h1, h2, h3, h4, hR2⟩ := hop k S T (xs (4 * k + 1)) (xs (4 * k + 2)) (xs (4 * k + 3)) hk hR
  refine vv_aload_n hC 1 dL_law_168 rfl rfl (q := 169) rfl ?_
  refine vv_aload_n hC 0 dL_law_169 rfl rfl (q := 170) rfl ?_
  refine vv_iload hC 4 dL_law_170 rfl (q := 172) rfl ?_
  refine vv_iconst hC (v := nI 1) dL_law_172 rfl (q := 173) rfl ?_
  refine vv_iaddN hC dL_law_173 (q := 174) rfl ?_
  refine vv_sld hC hX hbl X.nb (j := 4 * k + 1) (by omega) (by omega) dL_law_174 (q := 175) rfl ?_
  refine vv_aload_n hC 0 dL_law_175 rfl rfl (q := 176) rfl ?_
  refine vv_iload hC 4 dL_law_176 rfl (q := 178) rfl ?_
  refine vv_iconst hC (v := nI 2) dL_law_178 rfl (q := 179) rfl ?_
  refine vv_iaddN hC dL_law_179 (q := 180) rfl ?_
  refine vv_sld hC hX hbl X.nb (j := 4 * k + 2) (by omega) (by omega) dL_law_180 (q := 181) rfl ?_
  refine vv_aload_n hC 0 dL_law_181 rfl rfl (q := 182) rfl ?_
  refine vv_iload hC 4 dL_law_182 rfl (q := 184) rfl ?_
  refine vv_iconst hC (v := nI 3) dL_law_184 rfl (q := 185) rfl ?_
  refine vv_iaddN hC dL_law_185 (q := 186) rfl ?_
  refine vv_sld hC hX hbl X.nb (j := 4 * k + 3) (by omega) (by omega) dL_law_186 (q := 187) rfl ?_
  refine vv_aload_n hC 3 dL_law_187 rfl rfl (q := 188) rfl ?_
  refine vv_lawW hC hK hz hE hN (As := [.int (xs (4 * k + 1)), .int (xs (4 * k + 2)), .int (xs (4 * k + 3)), .ref (adW z 90)]) (fun sz => cw_type l (adW_inj z) hlst (AZ z) sz S o (xs (4 * k + 1)) (xs (4 * k + 2)) (xs (4 * k + 3))) (vx_cwSW 5 hC.2.2.2.2 gL_law_L_type rfl rfl rfl hsL_type ⟨Nat.le_of_ble_eq_true rfl, Nat.le_of_ble_eq_true rfl⟩) rfl rfl (Nat.le_of_ble_eq_true rfl) (by show _ ≤ 601024 ∧ _ ≤ 7293034; omega) dL_law_188 (q := 191) rfl ?_
  refine vv_istore hC (i := 5) (lv' := (5, .int (nI (cd [1, 2, 3] (tType S (xs (4 * k + 1)) (xs (4 * k + 2)) (xs (4 * k + 3)))))) :: lvL b z (4 * k)) dL_law_191 (by decide) rfl (q := 193) rfl ?_
  refine vv_aload_n hC 3 dL_law_193 rfl rfl (q := 194) rfl ?_
  refine vv_aload_n hC 1 dL_law_194 rfl rfl (q := 195) rfl ?_
  refine vv_iload hC 5 dL_law_195 rfl (q := 197) rfl ?_
  refine vv_iconst hC (v := nI 1) dL_law_197 rfl (q := 198) rfl ?_
  refine vv_iaddN hC dL_law_198 (q := 199) rfl ?_
  refine vv_sld hC hX hbl X.nb (j := 4 * k + 1) (by omega) (by omega) dL_law_199 (q := 200) rfl ?_
  refine vv_aload_n hC 1 dL_law_200 rfl rfl (q := 201) rfl ?_
  refine vv_iload hC 5 dL_law_201 rfl (q := 203) rfl ?_
  refine vv_iconst hC (v := nI 2) dL_law_203 rfl (q := 204) rfl ?_
  refine vv_iaddN hC dL_law_204 (q := 205) rfl ?_
  refine vv_sld hC hX hbl X.nb (j := 4 * k + 2) (by omega) (by omega) dL_law_205 (q := 206) rfl ?_
  refine vv_aload_n hC 1 dL_law_206 rfl rfl (q := 207) rfl ?_
  refine vv_iload hC 5 dL_law_207 rfl (q := 209) rfl ?_
  refine vv_iconst hC (v := nI 3) dL_law_209 rfl (q := 210) rfl ?_
  refine vv_iaddN hC dL_law_210 (q := 211) rfl ?_
  refine vv_sld hC hX hbl X.nb (j := 4 * k + 3) (by omega) (by omega) dL_law_211 (q := 212) rfl ?_
  refine vv_lawM hC hK (As := [.int (xs (4 * k + 1)), .int (xs (4 * k + 2)), .int (xs (4 * k + 3))]) (c9_type l (adM_inj z) T (xs (4 * k + 1)) (xs (4 * k + 2)) (xs (4 * k + 3)) h1) (cwV 3 hC.2.2.2.2 gL_law_X9_type rfl rfl rfl hdX9_type ⟨Nat.le_of_ble_eq_true rfl, Nat.le_of_ble_eq_true rfl⟩) rfl rfl (Nat.le_of_ble_eq_true rfl) (by show _ ≤ 601024 ∧ _ ≤ 7293034; omega) dL_law_212 (q := 215) rfl ?_
  refine vv_istore hC (i := 6) (lv' := (6, .int (if mtType T (xs (4 * k + 1)) (xs (4 * k + 2)) (xs (4 * k + 3)) = 0 then nI (T.1 1) else 0)) :: (5, .int (nI (cd [1, 2, 3] (tType S (xs (4 * k + 1)) (xs (4 * k + 2)) (xs (4 * k + 3)))))) :: lvL b z (4 * k)) dL_law_215 (by decide) rfl (q := 217) rfl ?_
  exact law_tail X (by show _ ≤ 601024 ∧ _ ≤ 7293034; omega) (h3.trans h2) (law_h2 (by decide) h2 h4) dL_law_217 dL_law_218 dL_law_221 dL_law_223 dL_law_228 dL_law_230 dL_law_233 dL_law_234 dL_law_235 dL_law_236 dL_law_238 dL_law_239 dL_law_240 dL_law_245 (by decide) (vv_widen (by omega) (by omega) (next _ _ _ hR2))
set_option maxRecDepth 100000 in
set_option maxHeartbeats 4000000 in
theorem law_delete {p : Program} {l : Launch} {e : Env} {s : State} {m : MethodId} {below : List Frame} {meth : Method} {c : Code} {b L z : Nat} {xs : Nat → Int32} {D : va_G} {cI cW cZ cL : ClassId} {Q : State → Prop} {Rel : Nat → sC → sM → Prop} (X : LX l s m c p b L z xs D cI cW cZ cL) (hop : opK_delete Rel) {k : Nat} (hk : k < 512) (hkL : 4 * k + 4 ≤ L) {S : sC} {T : sM} {o : Int64} (hR : Rel k S T) (next : ∀ (S' : sC) (T' : sM) (o' : Int64), Rel (k + 1) S' T' → vv p l e room_1 s m #[Value.ref b] below meth c 7 (AZ z) s.heap (118 + 6 * (k + 1)) (23300 + 36 * (k + 1)) Q (BL D cI cW cZ cL z S' T' o') 1826 (lvL b z (4 * k)) []) : vv p l e room_1 s m #[Value.ref b] below meth c 7 (AZ z) s.heap (118 + 6 * k) (23300 + 36 * k) Q (BL D cI cW cZ cL z S T o) 248 (lvL b z (4 * k)) [] := by
  obtain ⟨hC, hK, hz, hE, hN, hX, hbl, hlst, hL⟩ := id X
  obtain ⟨h1, h2, h3, h4, hR2⟩ := hop k S T (xs (4 * k + 1)) (xs (4 * k + 2)) hk hR
  refine vv_aload_n hC 1 dL_law_248 rfl rfl (q := 249) rfl ?_
  refine vv_aload_n hC 0 dL_law_249 rfl rfl (q := 250) rfl ?_
  refine vv_iload hC 4 dL_law_250 rfl (q := 252) rfl ?_
  refine vv_iconst hC (v := nI 1) dL_law_252 rfl (q := 253) rfl ?_
  refine vv_iaddN hC dL_law_253 (q := 254) rfl ?_
  refine vv_sld hC hX hbl X.nb (j := 4 * k + 1) (by omega) (by omega) dL_law_254 (q := 255) rfl ?_
  refine vv_aload_n hC 0 dL_law_255 rfl rfl (q := 256) rfl ?_
  refine vv_iload hC 4 dL_law_256 rfl (q := 258) rfl ?_
  refine vv_iconst hC (v := nI 2) dL_law_258 rfl (q := 259) rfl ?_
  refine vv_iaddN hC dL_law_259 (q := 260) rfl ?_
  refine vv_sld hC hX hbl X.nb (j := 4 * k + 2) (by omega) (by omega) dL_law_260 (q := 261) rfl ?_
  refine vv_aload_n hC 3 dL_law_261 rfl rfl (q := 262) rfl ?_
  refine vv_lawW hC hK hz hE hN (As := [.int (xs (4 * k + 1)), .int (xs (4 * k + 2)), .ref (adW z 90)]) (fun sz => cw_delete l (adW_inj z) hlst (AZ z) sz S o (xs (4 * k + 1)) (xs (4 * k + 2))) (vx_cwSW 4 hC.2.2.2.2 gL_law_L_delete rfl rfl rfl hsL_delete ⟨Nat.le_of_ble_eq_true rfl, Nat.le_of_ble_eq_true rfl⟩) rfl rfl (Nat.le_of_ble_eq_true rfl) (by show _ ≤ 601024 ∧ _ ≤ 7293034; omega) dL_law_262 (q := 265) rfl ?_
  refine vv_istore hC (i := 5) (lv' := (5, .int (nI (cd [1] (tCopyAt S (xs (4 * k + 1)) (xs (4 * k + 2)))))) :: lvL b z (4 * k)) dL_law_265 (by decide) rfl (q := 267) rfl ?_
  refine vv_aload_n hC 3 dL_law_267 rfl rfl (q := 268) rfl ?_
  refine vv_aload_n hC 1 dL_law_268 rfl rfl (q := 269) rfl ?_
  refine vv_iload hC 5 dL_law_269 rfl (q := 271) rfl ?_
  refine vv_iconst hC (v := nI 1) dL_law_271 rfl (q := 272) rfl ?_
  refine vv_iaddN hC dL_law_272 (q := 273) rfl ?_
  refine vv_sld hC hX hbl X.nb (j := 4 * k + 1) (by omega) (by omega) dL_law_273 (q := 274) rfl ?_
  refine vv_aload_n hC 1 dL_law_274 rfl rfl (q := 275) rfl ?_
  refine vv_iload hC 5 dL_law_275 rfl (q := 277) rfl ?_
  refine vv_iconst hC (v := nI 2) dL_law_277 rfl (q := 278) rfl ?_
  refine vv_iaddN hC dL_law_278 (q := 279) rfl ?_
  refine vv_sld hC hX hbl X.nb (j := 4 * k + 2) (by omega) (by omega) dL_law_279 (q := 280) rfl ?_
  refine vv_lawM hC hK (As := [.int (xs (4 * k + 1)), .int (xs (4 * k + 2))]) (c9_delete l (adM_inj z) T (xs (4 * k + 1)) (xs (4 * k + 2)) h1) (cwV 2 hC.2.2.2.2 gL_law_X9_delete rfl rfl rfl hdX9_delete ⟨Nat.le_of_ble_eq_true rfl, Nat.le_of_ble_eq_true rfl⟩) rfl rfl (Nat.le_of_ble_eq_true rfl) (by show _ ≤ 601024 ∧ _ ≤ 7293034; omega) dL_law_280 (q := 283) rfl ?_
  refine vv_istore hC (i := 6) (lv' := (6, .int (if mtCp T (xs (4 * k + 1)) (xs (4 * k + 2)) = 0 then T.2 9 (300 * tn (xs (4 * k + 1)) + tn (xs (4 * k + 2))) else 0)) :: (5, .int (nI (cd [1] (tCopyAt S (xs (4 * k + 1)) (xs (4 * k + 2)))))) :: lvL b z (4 * k)) dL_law_283 (by decide) rfl (q := 285) rfl ?_
  exact law_tail X (by show _ ≤ 601024 ∧ _ ≤ 7293034; omega) (h3.trans h2) (law_h2 (by decide) h2 h4) dL_law_285 dL_law_286 dL_law_289 dL_law_291 dL_law_296 dL_law_298 dL_law_301 dL_law_302 dL_law_303 dL_law_304 dL_law_306 dL_law_307 dL_law_308 dL_law_313 (by decide) (vv_widen (by omega) (by omega) (next _ _ _ hR2))
set_option maxRecDepth 100000 in
set_option maxHeartbeats 4000000 in
theorem law_merge {p : Program} {l : Launch} {e : Env} {s : State} {m : MethodId} {below : List Frame} {meth : Method} {c : Code} {b L z : Nat} {xs : Nat → Int32} {D : va_G} {cI cW cZ cL : ClassId} {Q : State → Prop} {Rel : Nat → sC → sM → Prop} (X : LX l s m c p b L z xs D cI cW cZ cL) (hop : opK_merge Rel) {k : Nat} (hk : k < 512) (hkL : 4 * k + 4 ≤ L) {S : sC} {T : sM} {o : Int64} (hR : Rel k S T) (next : ∀ (S' : sC) (T' : sM) (o' : Int64), Rel (k + 1) S' T' → vv p l e room_1 s m #[Value.ref b] below meth c 7 (AZ z) s.heap (118 + 6 * (k + 1)) (23300 + 36 * (k + 1)) Q (BL D cI cW cZ cL z S' T' o') 1826 (lvL b z (4 * k)) []) : vv p l e room_1 s m #[Value.ref b] below meth c 7 (AZ z) s.heap (118 + 6 * k) (23300 + 36 * k) Q (BL D cI cW cZ cL z S T o) 316 (lvL b z (4 * k)) [] := by
  obtain ⟨hC, hK, hz, hE, hN, hX, hbl, hlst, hL⟩ := id X
  obtain ⟨h1, h2, h3, h4, hR2⟩ := hop k S T (xs (4 * k + 1)) hk hR
  refine vv_aload_n hC 1 dL_law_316 rfl rfl (q := 317) rfl ?_
  refine vv_aload_n hC 0 dL_law_317 rfl rfl (q := 318) rfl ?_
  refine vv_iload hC 4 dL_law_318 rfl (q := 320) rfl ?_
  refine vv_iconst hC (v := nI 1) dL_law_320 rfl (q := 321) rfl ?_
  refine vv_iaddN hC dL_law_321 (q := 322) rfl ?_
  refine vv_sld hC hX hbl X.nb (j := 4 * k + 1) (by omega) (by omega) dL_law_322 (q := 323) rfl ?_
  refine vv_aload_n hC 3 dL_law_323 rfl rfl (q := 324) rfl ?_
  refine vv_lawW hC hK hz hE hN (As := [.int (xs (4 * k + 1)), .ref (adW z 90)]) (fun sz => cw_merge l (adW_inj z) hlst (AZ z) sz S o (xs (4 * k + 1))) (vx_cwSW 3 hC.2.2.2.2 gL_law_L_merge rfl rfl rfl hsL_merge ⟨Nat.le_of_ble_eq_true rfl, Nat.le_of_ble_eq_true rfl⟩) rfl rfl (Nat.le_of_ble_eq_true rfl) (by show _ ≤ 601024 ∧ _ ≤ 7293034; omega) dL_law_324 (q := 327) rfl ?_
  refine vv_istore hC (i := 5) (lv' := (5, .int (nI (cd [1] (tIx (xs (4 * k + 1)) 6)))) :: lvL b z (4 * k)) dL_law_327 (by decide) rfl (q := 329) rfl ?_
  refine vv_aload_n hC 3 dL_law_329 rfl rfl (q := 330) rfl ?_
  refine vv_aload_n hC 1 dL_law_330 rfl rfl (q := 331) rfl ?_
  refine vv_iload hC 5 dL_law_331 rfl (q := 333) rfl ?_
  refine vv_iconst hC (v := nI 1) dL_law_333 rfl (q := 334) rfl ?_
  refine vv_iaddN hC dL_law_334 (q := 335) rfl ?_
  refine vv_sld hC hX hbl X.nb (j := 4 * k + 1) (by omega) (by omega) dL_law_335 (q := 336) rfl ?_
  refine vv_lawM hC hK (As := [.int (xs (4 * k + 1))]) (c9_merge l (adM_inj z) T (xs (4 * k + 1)) h1.1 h1.2) (cwV 1 hC.2.2.2.2 gL_law_X9_merge rfl rfl rfl hdX9_merge ⟨Nat.le_of_ble_eq_true rfl, Nat.le_of_ble_eq_true rfl⟩) rfl rfl (Nat.le_of_ble_eq_true rfl) (by show _ ≤ 601024 ∧ _ ≤ 7293034; omega) dL_law_336 (q := 339) rfl ?_
  refine vv_istore hC (i := 6) (lv' := (6, .int (if mtW (xs (4 * k + 1)) = 0 then nI (mMrg T (tn (xs (4 * k + 1))) (tn (T.2 10 (tn (xs (4 * k + 1)))))).2 else 0)) :: (5, .int (nI (cd [1] (tIx (xs (4 * k + 1)) 6)))) :: lvL b z (4 * k)) dL_law_339 (by decide) rfl (q := 341) rfl ?_
  exact law_tail X (by show _ ≤ 601024 ∧ _ ≤ 7293034; omega) (h3.trans h2) (law_h2 (by decide) h2 h4) dL_law_341 dL_law_342 dL_law_345 dL_law_347 dL_law_352 dL_law_354 dL_law_357 dL_law_358 dL_law_359 dL_law_360 dL_law_362 dL_law_363 dL_law_364 dL_law_369 (by decide) (vv_widen (by omega) (by omega) (next _ _ _ hR2))
set_option maxRecDepth 100000 in
set_option maxHeartbeats 4000000 in
theorem law_copy {p : Program} {l : Launch} {e : Env} {s : State} {m : MethodId} {below : List Frame} {meth : Method} {c : Code} {b L z : Nat} {xs : Nat → Int32} {D : va_G} {cI cW cZ cL : ClassId} {Q : State → Prop} {Rel : Nat → sC → sM → Prop} (X : LX l s m c p b L z xs D cI cW cZ cL) (hop : opK_copy Rel) {k : Nat} (hk : k < 512) (hkL : 4 * k + 4 ≤ L) {S : sC} {T : sM} {o : Int64} (hR : Rel k S T) (next : ∀ (S' : sC) (T' : sM) (o' : Int64), Rel (k + 1) S' T' → vv p l e room_1 s m #[Value.ref b] below meth c 7 (AZ z) s.heap (118 + 6 * (k + 1)) (23300 + 36 * (k + 1)) Q (BL D cI cW cZ cL z S' T' o') 1826 (lvL b z (4 * k)) []) : vv p l e room_1 s m #[Value.ref b] below meth c 7 (AZ z) s.heap (118 + 6 * k) (23300 + 36 * k) Q (BL D cI cW cZ cL z S T o) 372 (lvL b z (4 * k)) [] := by
  obtain ⟨hC, hK, hz, hE, hN, hX, hbl, hlst, hL⟩ := id X
  obtain ⟨h1, h2, h3, h4, hR2⟩ := hop k S T (xs (4 * k + 1)) hk hR
  refine vv_aload_n hC 1 dL_law_372 rfl rfl (q := 373) rfl ?_
  refine vv_aload_n hC 0 dL_law_373 rfl rfl (q := 374) rfl ?_
  refine vv_iload hC 4 dL_law_374 rfl (q := 376) rfl ?_
  refine vv_iconst hC (v := nI 1) dL_law_376 rfl (q := 377) rfl ?_
  refine vv_iaddN hC dL_law_377 (q := 378) rfl ?_
  refine vv_sld hC hX hbl X.nb (j := 4 * k + 1) (by omega) (by omega) dL_law_378 (q := 379) rfl ?_
  refine vv_aload_n hC 3 dL_law_379 rfl rfl (q := 380) rfl ?_
  refine vv_lawW hC hK hz hE hN (As := [.int (xs (4 * k + 1)), .ref (adW z 90)]) (fun sz => cw_copy l (adW_inj z) hlst (AZ z) sz S o (xs (4 * k + 1))) (vx_cwSW 3 hC.2.2.2.2 gL_law_L_copy rfl rfl rfl hsL_copy ⟨Nat.le_of_ble_eq_true rfl, Nat.le_of_ble_eq_true rfl⟩) rfl rfl (Nat.le_of_ble_eq_true rfl) (by show _ ≤ 601024 ∧ _ ≤ 7293034; omega) dL_law_380 (q := 383) rfl ?_
  refine vv_istore hC (i := 5) (lv' := (5, .int (nI (cd [1] (tIx (xs (4 * k + 1)) 6)))) :: lvL b z (4 * k)) dL_law_383 (by decide) rfl (q := 385) rfl ?_
  refine vv_aload_n hC 3 dL_law_385 rfl rfl (q := 386) rfl ?_
  refine vv_aload_n hC 1 dL_law_386 rfl rfl (q := 387) rfl ?_
  refine vv_iload hC 5 dL_law_387 rfl (q := 389) rfl ?_
  refine vv_iconst hC (v := nI 1) dL_law_389 rfl (q := 390) rfl ?_
  refine vv_iaddN hC dL_law_390 (q := 391) rfl ?_
  refine vv_sld hC hX hbl X.nb (j := 4 * k + 1) (by omega) (by omega) dL_law_391 (q := 392) rfl ?_
  refine vv_lawM hC hK (As := [.int (xs (4 * k + 1))]) (c9_copy l (adM_inj z) T (xs (4 * k + 1))) (cwV 1 hC.2.2.2.2 gL_law_X9_copy rfl rfl rfl hdX9_copy ⟨Nat.le_of_ble_eq_true rfl, Nat.le_of_ble_eq_true rfl⟩) rfl rfl (Nat.le_of_ble_eq_true rfl) (by show _ ≤ 601024 ∧ _ ≤ 7293034; omega) dL_law_392 (q := 395) rfl ?_
  refine vv_istore hC (i := 6) (lv' := (6, .int (if mtW (xs (4 * k + 1)) = 0 then T.2 8 (tn (xs (4 * k + 1))) else 0)) :: (5, .int (nI (cd [1] (tIx (xs (4 * k + 1)) 6)))) :: lvL b z (4 * k)) dL_law_395 (by decide) rfl (q := 397) rfl ?_
  exact law_tail X (by show _ ≤ 601024 ∧ _ ≤ 7293034; omega) (h3.trans h2) (law_h2 (by decide) h2 h4) dL_law_397 dL_law_398 dL_law_401 dL_law_403 dL_law_408 dL_law_410 dL_law_413 dL_law_414 dL_law_415 dL_law_416 dL_law_418 dL_law_419 dL_law_420 dL_law_425 (by decide) (vv_widen (by omega) (by omega) (next _ _ _ hR2))
set_option maxRecDepth 100000 in
set_option maxHeartbeats 4000000 in
theorem law_copyAt {p : Program} {l : Launch} {e : Env} {s : State} {m : MethodId} {below : List Frame} {meth : Method} {c : Code} {b L z : Nat} {xs : Nat → Int32} {D : va_G} {cI cW cZ cL : ClassId} {Q : State → Prop} {Rel : Nat → sC → sM → Prop} (X : LX l s m c p b L z xs D cI cW cZ cL) (hop : opK_copyAt Rel) {k : Nat} (hk : k < 512) (hkL : 4 * k + 4 ≤ L) {S : sC} {T : sM} {o : Int64} (hR : Rel k S T) (next : ∀ (S' : sC) (T' : sM) (o' : Int64), Rel (k + 1) S' T' → vv p l e room_1 s m #[Value.ref b] below meth c 7 (AZ z) s.heap (118 + 6 * (k + 1)) (23300 + 36 * (k + 1)) Q (BL D cI cW cZ cL z S' T' o') 1826 (lvL b z (4 * k)) []) : vv p l e room_1 s m #[Value.ref b] below meth c 7 (AZ z) s.heap (118 + 6 * k) (23300 + 36 * k) Q (BL D cI cW cZ cL z S T o) 428 (lvL b z (4 * k)) [] := by
  obtain ⟨hC, hK, hz, hE, hN, hX, hbl, hlst, hL⟩ := id X
  obtain ⟨h1, h2, h3, h4, hR2⟩ := hop k S T (xs (4 * k + 1)) (xs (4 * k + 2)) hk hR
  refine vv_aload_n hC 1 dL_law_428 rfl rfl (q := 429) rfl ?_
  refine vv_aload_n hC 0 dL_law_429 rfl rfl (q := 430) rfl ?_
  refine vv_iload hC 4 dL_law_430 rfl (q := 432) rfl ?_
  refine vv_iconst hC (v := nI 1) dL_law_432 rfl (q := 433) rfl ?_
  refine vv_iaddN hC dL_law_433 (q := 434) rfl ?_
  refine vv_sld hC hX hbl X.nb (j := 4 * k + 1) (by omega) (by omega) dL_law_434 (q := 435) rfl ?_
  refine vv_aload_n hC 0 dL_law_435 rfl rfl (q := 436) rfl ?_
  refine vv_iload hC 4 dL_law_436 rfl (q := 438) rfl ?_
  refine vv_iconst hC (v := nI 2) dL_law_438 rfl (q := 439) rfl ?_
  refine vv_iaddN hC dL_law_439 (q := 440) rfl ?_
  refine vv_sld hC hX hbl X.nb (j := 4 * k + 2) (by omega) (by omega) dL_law_440 (q := 441) rfl ?_
  refine vv_aload_n hC 3 dL_law_441 rfl rfl (q := 442) rfl ?_
  refine vv_lawW hC hK hz hE hN (As := [.int (xs (4 * k + 1)), .int (xs (4 * k + 2)), .ref (adW z 90)]) (fun sz => cw_copyAt l (adW_inj z) hlst (AZ z) sz S o (xs (4 * k + 1)) (xs (4 * k + 2))) (vx_cwSW 4 hC.2.2.2.2 gL_law_L_copyAt rfl rfl rfl hsL_copyAt ⟨Nat.le_of_ble_eq_true rfl, Nat.le_of_ble_eq_true rfl⟩) rfl rfl (Nat.le_of_ble_eq_true rfl) (by show _ ≤ 601024 ∧ _ ≤ 7293034; omega) dL_law_442 (q := 445) rfl ?_
  refine vv_istore hC (i := 5) (lv' := (5, .int (nI (cd [1] (tCopyAt S (xs (4 * k + 1)) (xs (4 * k + 2)))))) :: lvL b z (4 * k)) dL_law_445 (by decide) rfl (q := 447) rfl ?_
  refine vv_aload_n hC 3 dL_law_447 rfl rfl (q := 448) rfl ?_
  refine vv_aload_n hC 1 dL_law_448 rfl rfl (q := 449) rfl ?_
  refine vv_iload hC 5 dL_law_449 rfl (q := 451) rfl ?_
  refine vv_iconst hC (v := nI 1) dL_law_451 rfl (q := 452) rfl ?_
  refine vv_iaddN hC dL_law_452 (q := 453) rfl ?_
  refine vv_sld hC hX hbl X.nb (j := 4 * k + 1) (by omega) (by omega) dL_law_453 (q := 454) rfl ?_
  refine vv_aload_n hC 1 dL_law_454 rfl rfl (q := 455) rfl ?_
  refine vv_iload hC 5 dL_law_455 rfl (q := 457) rfl ?_
  refine vv_iconst hC (v := nI 2) dL_law_457 rfl (q := 458) rfl ?_
  refine vv_iaddN hC dL_law_458 (q := 459) rfl ?_
  refine vv_sld hC hX hbl X.nb (j := 4 * k + 2) (by omega) (by omega) dL_law_459 (q := 460) rfl ?_
  refine vv_lawM hC hK (As := [.int (xs (4 * k + 1)), .int (xs (4 * k + 2))]) (c9_copyAt l (adM_inj z) T (xs (4 * k + 1)) (xs (4 * k + 2)) h1) (cwV 2 hC.2.2.2.2 gL_law_X9_copyAt rfl rfl rfl hdX9_copyAt ⟨Nat.le_of_ble_eq_true rfl, Nat.le_of_ble_eq_true rfl⟩) rfl rfl (Nat.le_of_ble_eq_true rfl) (by show _ ≤ 601024 ∧ _ ≤ 7293034; omega) dL_law_460 (q := 463) rfl ?_
  refine vv_istore hC (i := 6) (lv' := (6, .int (if mtCp T (xs (4 * k + 1)) (xs (4 * k + 2)) = 0 then T.2 9 (300 * tn (xs (4 * k + 1)) + tn (xs (4 * k + 2))) else 0)) :: (5, .int (nI (cd [1] (tCopyAt S (xs (4 * k + 1)) (xs (4 * k + 2)))))) :: lvL b z (4 * k)) dL_law_463 (by decide) rfl (q := 465) rfl ?_
  exact law_tail X (by show _ ≤ 601024 ∧ _ ≤ 7293034; omega) (h3.trans h2) (law_h2 (by decide) h2 h4) dL_law_465 dL_law_466 dL_law_469 dL_law_471 dL_law_476 dL_law_478 dL_law_481 dL_law_482 dL_law_483 dL_law_484 dL_law_486 dL_law_487 dL_law_488 dL_law_493 (by decide) (vv_widen (by omega) (by omega) (next _ _ _ hR2))
set_option maxRecDepth 100000 in
set_option maxHeartbeats 4000000 in
theorem law_changes {p : Program} {l : Launch} {e : Env} {s : State} {m : MethodId} {below : List Frame} {meth : Method} {c : Code} {b L z : Nat} {xs : Nat → Int32} {D : va_G} {cI cW cZ cL : ClassId} {Q : State → Prop} {Rel : Nat → sC → sM → Prop} (X : LX l s m c p b L z xs D cI cW cZ cL) (hop : opK_changes Rel) {k : Nat} (hk : k < 512) (hkL : 4 * k + 4 ≤ L) {S : sC} {T : sM} {o : Int64} (hR : Rel k S T) (next : ∀ (S' : sC) (T' : sM) (o' : Int64), Rel (k + 1) S' T' → vv p l e room_1 s m #[Value.ref b] below meth c 7 (AZ z) s.heap (118 + 6 * (k + 1)) (23300 + 36 * (k + 1)) Q (BL D cI cW cZ cL z S' T' o') 1826 (lvL b z (4 * k)) []) : vv p l e room_1 s m #[Value.ref b] below meth c 7 (AZ z) s.heap (118 + 6 * k) (23300 + 36 * k) Q (BL D cI cW cZ cL z S T o) 496 (lvL b z (4 * k)) [] := by
  obtain ⟨hC, hK, hz, hE, hN, hX, hbl, hlst, hL⟩ := id X
  obtain ⟨h1, h2, h3, h4, hR2⟩ := hop k S T (xs (4 * k + 1)) hk hR
  refine vv_aload_n hC 1 dL_law_496 rfl rfl (q := 497) rfl ?_
  refine vv_aload_n hC 0 dL_law_497 rfl rfl (q := 498) rfl ?_
  refine vv_iload hC 4 dL_law_498 rfl (q := 500) rfl ?_
  refine vv_iconst hC (v := nI 1) dL_law_500 rfl (q := 501) rfl ?_
  refine vv_iaddN hC dL_law_501 (q := 502) rfl ?_
  refine vv_sld hC hX hbl X.nb (j := 4 * k + 1) (by omega) (by omega) dL_law_502 (q := 503) rfl ?_
  refine vv_aload_n hC 3 dL_law_503 rfl rfl (q := 504) rfl ?_
  refine vv_lawW hC hK hz hE hN (As := [.int (xs (4 * k + 1)), .ref (adW z 90)]) (fun sz => cw_changes l (adW_inj z) hlst (AZ z) sz S o (xs (4 * k + 1))) (vx_cwSW 3 hC.2.2.2.2 gL_law_L_changes rfl rfl rfl hsL_changes ⟨Nat.le_of_ble_eq_true rfl, Nat.le_of_ble_eq_true rfl⟩) rfl rfl (Nat.le_of_ble_eq_true rfl) (by show _ ≤ 601024 ∧ _ ≤ 7293034; omega) dL_law_504 (q := 507) rfl ?_
  refine vv_istore hC (i := 5) (lv' := (5, .int (nI (cd [1] (tIx (xs (4 * k + 1)) 6)))) :: lvL b z (4 * k)) dL_law_507 (by decide) rfl (q := 509) rfl ?_
  refine vv_aload_n hC 3 dL_law_509 rfl rfl (q := 510) rfl ?_
  refine vv_aload_n hC 1 dL_law_510 rfl rfl (q := 511) rfl ?_
  refine vv_iload hC 5 dL_law_511 rfl (q := 513) rfl ?_
  refine vv_iconst hC (v := nI 1) dL_law_513 rfl (q := 514) rfl ?_
  refine vv_iaddN hC dL_law_514 (q := 515) rfl ?_
  refine vv_sld hC hX hbl X.nb (j := 4 * k + 1) (by omega) (by omega) dL_law_515 (q := 516) rfl ?_
  refine vv_lawM hC hK (As := [.int (xs (4 * k + 1))]) (c9_changes l (adM_inj z) T (xs (4 * k + 1))) (cwV 1 hC.2.2.2.2 gL_law_X9_changes rfl rfl rfl hdX9_changes ⟨Nat.le_of_ble_eq_true rfl, Nat.le_of_ble_eq_true rfl⟩) rfl rfl (Nat.le_of_ble_eq_true rfl) (by show _ ≤ 601024 ∧ _ ≤ 7293034; omega) dL_law_516 (q := 519) rfl ?_
  refine vv_istore hC (i := 6) (lv' := (6, .int (if mtW (xs (4 * k + 1)) = 0 then T.2 10 (tn (xs (4 * k + 1))) else 0)) :: (5, .int (nI (cd [1] (tIx (xs (4 * k + 1)) 6)))) :: lvL b z (4 * k)) dL_law_519 (by decide) rfl (q := 521) rfl ?_
  exact law_tail X (by show _ ≤ 601024 ∧ _ ≤ 7293034; omega) (h3.trans h2) (law_h2 (by decide) h2 h4) dL_law_521 dL_law_522 dL_law_525 dL_law_527 dL_law_532 dL_law_534 dL_law_537 dL_law_538 dL_law_539 dL_law_540 dL_law_542 dL_law_543 dL_law_544 dL_law_549 (by decide) (vv_widen (by omega) (by omega) (next _ _ _ hR2))
set_option maxRecDepth 100000 in
set_option maxHeartbeats 4000000 in
theorem law_length {p : Program} {l : Launch} {e : Env} {s : State} {m : MethodId} {below : List Frame} {meth : Method} {c : Code} {b L z : Nat} {xs : Nat → Int32} {D : va_G} {cI cW cZ cL : ClassId} {Q : State → Prop} {Rel : Nat → sC → sM → Prop} (X : LX l s m c p b L z xs D cI cW cZ cL) (hop : opK_length Rel) {k : Nat} (hk : k < 512) (hkL : 4 * k + 4 ≤ L) {S : sC} {T : sM} {o : Int64} (hR : Rel k S T) (next : ∀ (S' : sC) (T' : sM) (o' : Int64), Rel (k + 1) S' T' → vv p l e room_1 s m #[Value.ref b] below meth c 7 (AZ z) s.heap (118 + 6 * (k + 1)) (23300 + 36 * (k + 1)) Q (BL D cI cW cZ cL z S' T' o') 1826 (lvL b z (4 * k)) []) : vv p l e room_1 s m #[Value.ref b] below meth c 7 (AZ z) s.heap (118 + 6 * k) (23300 + 36 * k) Q (BL D cI cW cZ cL z S T o) 552 (lvL b z (4 * k)) [] := by
  obtain ⟨hC, hK, hz, hE, hN, hX, hbl, hlst, hL⟩ := id X
  obtain ⟨h1, h2, hR2⟩ := hop k S T hk hR
  refine vv_aload_n hC 1 dL_law_552 rfl rfl (q := 553) rfl ?_
  refine vv_lawC hC hK (As := []) (c8_length l ((adW_inj z).le (by omega)) S) (cwV 0 hC.2.2.2.2 gL_law_X8_length rfl rfl rfl hdX8_length ⟨Nat.le_of_ble_eq_true rfl, Nat.le_of_ble_eq_true rfl⟩) rfl rfl (Nat.le_of_ble_eq_true rfl) (by show _ ≤ 601024 ∧ _ ≤ 7293034; omega) dL_law_553 (q := 556) rfl ?_
  refine vv_aload_n hC 2 dL_law_556 rfl rfl (q := 557) rfl ?_
  refine vv_lawM hC hK (As := []) (c9_length l (adM_inj z) T h1) (cwV 0 hC.2.2.2.2 gL_law_X9_length rfl rfl rfl hdX9_length ⟨Nat.le_of_ble_eq_true rfl, Nat.le_of_ble_eq_true rfl⟩) rfl rfl (Nat.le_of_ble_eq_true rfl) (by show _ ≤ 601024 ∧ _ ≤ 7293034; omega) dL_law_557 (q := 560) rfl ?_
  exact vv_icmp_eq hC (tgt := 1826) dL_law_560 (by decide) (q := 563) rfl (fun _ => vv_widen (by omega) (by omega) (next _ _ _ hR2)) (fun h => absurd h2.symm h)
set_option maxRecDepth 100000 in
set_option maxHeartbeats 4000000 in
theorem law_wordAt {p : Program} {l : Launch} {e : Env} {s : State} {m : MethodId} {below : List Frame} {meth : Method} {c : Code} {b L z : Nat} {xs : Nat → Int32} {D : va_G} {cI cW cZ cL : ClassId} {Q : State → Prop} {Rel : Nat → sC → sM → Prop} (X : LX l s m c p b L z xs D cI cW cZ cL) (hop : opK_wordAt Rel) {k : Nat} (hk : k < 512) (hkL : 4 * k + 4 ≤ L) {S : sC} {T : sM} {o : Int64} (hR : Rel k S T) (next : ∀ (S' : sC) (T' : sM) (o' : Int64), Rel (k + 1) S' T' → vv p l e room_1 s m #[Value.ref b] below meth c 7 (AZ z) s.heap (118 + 6 * (k + 1)) (23300 + 36 * (k + 1)) Q (BL D cI cW cZ cL z S' T' o') 1826 (lvL b z (4 * k)) []) : vv p l e room_1 s m #[Value.ref b] below meth c 7 (AZ z) s.heap (118 + 6 * k) (23300 + 36 * k) Q (BL D cI cW cZ cL z S T o) 565 (lvL b z (4 * k)) [] := by
  obtain ⟨hC, hK, hz, hE, hN, hX, hbl, hlst, hL⟩ := id X
  obtain ⟨h1, h2, h3, h4, hR2⟩ := hop k S T (xs (4 * k + 1)) hk hR
  refine vv_aload_n hC 1 dL_law_565 rfl rfl (q := 566) rfl ?_
  refine vv_aload_n hC 0 dL_law_566 rfl rfl (q := 567) rfl ?_
  refine vv_iload hC 4 dL_law_567 rfl (q := 569) rfl ?_
  refine vv_iconst hC (v := nI 1) dL_law_569 rfl (q := 570) rfl ?_
  refine vv_iaddN hC dL_law_570 (q := 571) rfl ?_
  refine vv_sld hC hX hbl X.nb (j := 4 * k + 1) (by omega) (by omega) dL_law_571 (q := 572) rfl ?_
  refine vv_aload_n hC 3 dL_law_572 rfl rfl (q := 573) rfl ?_
  refine vv_lawW hC hK hz hE hN (As := [.int (xs (4 * k + 1)), .ref (adW z 90)]) (fun sz => cw_wordAt l (adW_inj z) hlst (AZ z) sz S o (xs (4 * k + 1))) (vx_cwSW 3 hC.2.2.2.2 gL_law_L_wordAt rfl rfl rfl hsL_wordAt ⟨Nat.le_of_ble_eq_true rfl, Nat.le_of_ble_eq_true rfl⟩) rfl rfl (Nat.le_of_ble_eq_true rfl) (by show _ ≤ 601024 ∧ _ ≤ 7293034; omega) dL_law_573 (q := 576) rfl ?_
  refine vv_istore hC (i := 5) (lv' := (5, .int (nI (cd [1] (tText S (xs (4 * k + 1)))))) :: lvL b z (4 * k)) dL_law_576 (by decide) rfl (q := 578) rfl ?_
  refine vv_aload_n hC 3 dL_law_578 rfl rfl (q := 579) rfl ?_
  refine vv_aload_n hC 1 dL_law_579 rfl rfl (q := 580) rfl ?_
  refine vv_iload hC 5 dL_law_580 rfl (q := 582) rfl ?_
  refine vv_iconst hC (v := nI 1) dL_law_582 rfl (q := 583) rfl ?_
  refine vv_iaddN hC dL_law_583 (q := 584) rfl ?_
  refine vv_sld hC hX hbl X.nb (j := 4 * k + 1) (by omega) (by omega) dL_law_584 (q := 585) rfl ?_
  refine vv_lawM hC hK (As := [.int (xs (4 * k + 1))]) (c9_wordAt l (adM_inj z) T (xs (4 * k + 1)) h1) (cwV 1 hC.2.2.2.2 gL_law_X9_wordAt rfl rfl rfl hdX9_wordAt ⟨Nat.le_of_ble_eq_true rfl, Nat.le_of_ble_eq_true rfl⟩) rfl rfl (Nat.le_of_ble_eq_true rfl) (by show _ ≤ 601024 ∧ _ ≤ 7293034; omega) dL_law_585 (q := 588) rfl ?_
  refine vv_istore hC (i := 6) (lv' := (6, .int (if mtTx T (xs (4 * k + 1)) = 0 then mTxt T (xs (4 * k + 1)) else 0)) :: (5, .int (nI (cd [1] (tText S (xs (4 * k + 1)))))) :: lvL b z (4 * k)) dL_law_588 (by decide) rfl (q := 590) rfl ?_
  exact law_tail X (by show _ ≤ 601024 ∧ _ ≤ 7293034; omega) (h3.trans h2) (law_h2 (by decide) h2 h4) dL_law_590 dL_law_591 dL_law_594 dL_law_596 dL_law_601 dL_law_603 dL_law_606 dL_law_607 dL_law_608 dL_law_609 dL_law_611 dL_law_612 dL_law_613 dL_law_618 (by decide) (vv_widen (by omega) (by omega) (next _ _ _ hR2))
set_option maxRecDepth 100000 in
set_option maxHeartbeats 4000000 in
theorem law_word {p : Program} {l : Launch} {e : Env} {s : State} {m : MethodId} {below : List Frame} {meth : Method} {c : Code} {b L z : Nat} {xs : Nat → Int32} {D : va_G} {cI cW cZ cL : ClassId} {Q : State → Prop} {Rel : Nat → sC → sM → Prop} (X : LX l s m c p b L z xs D cI cW cZ cL) (hop : opK_word Rel) {k : Nat} (hk : k < 512) (hkL : 4 * k + 4 ≤ L) {S : sC} {T : sM} {o : Int64} (hR : Rel k S T) (next : ∀ (S' : sC) (T' : sM) (o' : Int64), Rel (k + 1) S' T' → vv p l e room_1 s m #[Value.ref b] below meth c 7 (AZ z) s.heap (118 + 6 * (k + 1)) (23300 + 36 * (k + 1)) Q (BL D cI cW cZ cL z S' T' o') 1826 (lvL b z (4 * k)) []) : vv p l e room_1 s m #[Value.ref b] below meth c 7 (AZ z) s.heap (118 + 6 * k) (23300 + 36 * k) Q (BL D cI cW cZ cL z S T o) 621 (lvL b z (4 * k)) [] := by
  obtain ⟨hC, hK, hz, hE, hN, hX, hbl, hlst, hL⟩ := id X
  obtain ⟨h1, h2, h3, h4, hR2⟩ := hop k S T (xs (4 * k + 1)) hk hR
  refine vv_aload_n hC 1 dL_law_621 rfl rfl (q := 622) rfl ?_
  refine vv_aload_n hC 0 dL_law_622 rfl rfl (q := 623) rfl ?_
  refine vv_iload hC 4 dL_law_623 rfl (q := 625) rfl ?_
  refine vv_iconst hC (v := nI 1) dL_law_625 rfl (q := 626) rfl ?_
  refine vv_iaddN hC dL_law_626 (q := 627) rfl ?_
  refine vv_sld hC hX hbl X.nb (j := 4 * k + 1) (by omega) (by omega) dL_law_627 (q := 628) rfl ?_
  refine vv_aload_n hC 3 dL_law_628 rfl rfl (q := 629) rfl ?_
  refine vv_lawW hC hK hz hE hN (As := [.int (xs (4 * k + 1)), .ref (adW z 90)]) (fun sz => cw_word l (adW_inj z) hlst (AZ z) sz S o (xs (4 * k + 1))) (vx_cwSW 3 hC.2.2.2.2 gL_law_L_word rfl rfl rfl hsL_word ⟨Nat.le_of_ble_eq_true rfl, Nat.le_of_ble_eq_true rfl⟩) rfl rfl (Nat.le_of_ble_eq_true rfl) (by show _ ≤ 601024 ∧ _ ≤ 7293034; omega) dL_law_629 (q := 632) rfl ?_
  refine vv_istore hC (i := 5) (lv' := (5, .int (nI (cd [1] (tWord S (xs (4 * k + 1)))))) :: lvL b z (4 * k)) dL_law_632 (by decide) rfl (q := 634) rfl ?_
  refine vv_aload_n hC 3 dL_law_634 rfl rfl (q := 635) rfl ?_
  refine vv_aload_n hC 1 dL_law_635 rfl rfl (q := 636) rfl ?_
  refine vv_iload hC 5 dL_law_636 rfl (q := 638) rfl ?_
  refine vv_iconst hC (v := nI 1) dL_law_638 rfl (q := 639) rfl ?_
  refine vv_iaddN hC dL_law_639 (q := 640) rfl ?_
  refine vv_sld hC hX hbl X.nb (j := 4 * k + 1) (by omega) (by omega) dL_law_640 (q := 641) rfl ?_
  refine vv_lawM hC hK (As := [.int (xs (4 * k + 1))]) (c9_word l (adM_inj z) T (xs (4 * k + 1)) h1) (cwV 1 hC.2.2.2.2 gL_law_X9_word rfl rfl rfl hdX9_word ⟨Nat.le_of_ble_eq_true rfl, Nat.le_of_ble_eq_true rfl⟩) rfl rfl (Nat.le_of_ble_eq_true rfl) (by show _ ≤ 601024 ∧ _ ≤ 7293034; omega) dL_law_641 (q := 644) rfl ?_
  refine vv_istore hC (i := 6) (lv' := (6, .int (if mtWd T (xs (4 * k + 1)) = 0 then nI 1000 * T.2 2 (tn (xs (4 * k + 1))) + T.2 1 (tn (xs (4 * k + 1))) else 0)) :: (5, .int (nI (cd [1] (tWord S (xs (4 * k + 1)))))) :: lvL b z (4 * k)) dL_law_644 (by decide) rfl (q := 646) rfl ?_
  exact law_tail X (by show _ ≤ 601024 ∧ _ ≤ 7293034; omega) (h3.trans h2) (law_h2 (by decide) h2 h4) dL_law_646 dL_law_647 dL_law_650 dL_law_652 dL_law_657 dL_law_659 dL_law_662 dL_law_663 dL_law_664 dL_law_665 dL_law_667 dL_law_668 dL_law_669 dL_law_674 (by decide) (vv_widen (by omega) (by omega) (next _ _ _ hR2))
set_option maxRecDepth 100000 in
set_option maxHeartbeats 4000000 in
theorem law_placeOf {p : Program} {l : Launch} {e : Env} {s : State} {m : MethodId} {below : List Frame} {meth : Method} {c : Code} {b L z : Nat} {xs : Nat → Int32} {D : va_G} {cI cW cZ cL : ClassId} {Q : State → Prop} {Rel : Nat → sC → sM → Prop} (X : LX l s m c p b L z xs D cI cW cZ cL) (hop : opK_placeOf Rel) {k : Nat} (hk : k < 512) (hkL : 4 * k + 4 ≤ L) {S : sC} {T : sM} {o : Int64} (hR : Rel k S T) (next : ∀ (S' : sC) (T' : sM) (o' : Int64), Rel (k + 1) S' T' → vv p l e room_1 s m #[Value.ref b] below meth c 7 (AZ z) s.heap (118 + 6 * (k + 1)) (23300 + 36 * (k + 1)) Q (BL D cI cW cZ cL z S' T' o') 1826 (lvL b z (4 * k)) []) : vv p l e room_1 s m #[Value.ref b] below meth c 7 (AZ z) s.heap (118 + 6 * k) (23300 + 36 * k) Q (BL D cI cW cZ cL z S T o) 677 (lvL b z (4 * k)) [] := by
  obtain ⟨hC, hK, hz, hE, hN, hX, hbl, hlst, hL⟩ := id X
  obtain ⟨h1, h2, h3, h4, hR2⟩ := hop k S T (xs (4 * k + 1)) hk hR
  refine vv_aload_n hC 1 dL_law_677 rfl rfl (q := 678) rfl ?_
  refine vv_aload_n hC 0 dL_law_678 rfl rfl (q := 679) rfl ?_
  refine vv_iload hC 4 dL_law_679 rfl (q := 681) rfl ?_
  refine vv_iconst hC (v := nI 1) dL_law_681 rfl (q := 682) rfl ?_
  refine vv_iaddN hC dL_law_682 (q := 683) rfl ?_
  refine vv_sld hC hX hbl X.nb (j := 4 * k + 1) (by omega) (by omega) dL_law_683 (q := 684) rfl ?_
  refine vv_aload_n hC 3 dL_law_684 rfl rfl (q := 685) rfl ?_
  refine vv_lawW hC hK hz hE hN (As := [.int (xs (4 * k + 1)), .ref (adW z 90)]) (fun sz => cw_placeOf l (adW_inj z) hlst (AZ z) sz S o (xs (4 * k + 1))) (vx_cwSW 3 hC.2.2.2.2 gL_law_L_placeOf rfl rfl rfl hsL_placeOf ⟨Nat.le_of_ble_eq_true rfl, Nat.le_of_ble_eq_true rfl⟩) rfl rfl (Nat.le_of_ble_eq_true rfl) (by show _ ≤ 601024 ∧ _ ≤ 7293034; omega) dL_law_685 (q := 688) rfl ?_
  refine vv_istore hC (i := 5) (lv' := (5, .int (nI (cd [1] (tWord S (xs (4 * k + 1)))))) :: lvL b z (4 * k)) dL_law_688 (by decide) rfl (q := 690) rfl ?_
  refine vv_aload_n hC 3 dL_law_690 rfl rfl (q := 691) rfl ?_
  refine vv_aload_n hC 1 dL_law_691 rfl rfl (q := 692) rfl ?_
  refine vv_iload hC 5 dL_law_692 rfl (q := 694) rfl ?_
  refine vv_iconst hC (v := nI 1) dL_law_694 rfl (q := 695) rfl ?_
  refine vv_iaddN hC dL_law_695 (q := 696) rfl ?_
  refine vv_sld hC hX hbl X.nb (j := 4 * k + 1) (by omega) (by omega) dL_law_696 (q := 697) rfl ?_
  refine vv_lawM hC hK (As := [.int (xs (4 * k + 1))]) (c9_placeOf l (adM_inj z) T (xs (4 * k + 1)) h1) (cwV 1 hC.2.2.2.2 gL_law_X9_placeOf rfl rfl rfl hdX9_placeOf ⟨Nat.le_of_ble_eq_true rfl, Nat.le_of_ble_eq_true rfl⟩) rfl rfl (Nat.le_of_ble_eq_true rfl) (by show _ ≤ 601024 ∧ _ ≤ 7293034; omega) dL_law_697 (q := 700) rfl ?_
  refine vv_istore hC (i := 6) (lv' := (6, .int (if mtWd T (xs (4 * k + 1)) = 0 then (if T.2 5 (tn (xs (4 * k + 1))) = 0 then -1 else nI (mCnt T (mPos T (nI (tn (xs (4 * k + 1)))) - 1))) else 0)) :: (5, .int (nI (cd [1] (tWord S (xs (4 * k + 1)))))) :: lvL b z (4 * k)) dL_law_700 (by decide) rfl (q := 702) rfl ?_
  exact law_tail X (by show _ ≤ 601024 ∧ _ ≤ 7293034; omega) (h3.trans h2) (law_h2 (by decide) h2 h4) dL_law_702 dL_law_703 dL_law_706 dL_law_708 dL_law_713 dL_law_715 dL_law_718 dL_law_719 dL_law_720 dL_law_721 dL_law_723 dL_law_724 dL_law_725 dL_law_730 (by decide) (vv_widen (by omega) (by omega) (next _ _ _ hR2))
set_option maxRecDepth 100000 in
set_option maxHeartbeats 4000000 in
theorem law_share {p : Program} {l : Launch} {e : Env} {s : State} {m : MethodId} {below : List Frame} {meth : Method} {c : Code} {b L z : Nat} {xs : Nat → Int32} {D : va_G} {cI cW cZ cL : ClassId} {Q : State → Prop} {Rel : Nat → sC → sM → Prop} (X : LX l s m c p b L z xs D cI cW cZ cL) (hop : opK_share Rel) {k : Nat} (hk : k < 512) (hkL : 4 * k + 4 ≤ L) {S : sC} {T : sM} {o : Int64} (hR : Rel k S T) (next : ∀ (S' : sC) (T' : sM) (o' : Int64), Rel (k + 1) S' T' → vv p l e room_1 s m #[Value.ref b] below meth c 7 (AZ z) s.heap (118 + 6 * (k + 1)) (23300 + 36 * (k + 1)) Q (BL D cI cW cZ cL z S' T' o') 1826 (lvL b z (4 * k)) []) : vv p l e room_1 s m #[Value.ref b] below meth c 7 (AZ z) s.heap (118 + 6 * k) (23300 + 36 * k) Q (BL D cI cW cZ cL z S T o) 733 (lvL b z (4 * k)) [] := by
  obtain ⟨hC, hK, hz, hE, hN, hX, hbl, hlst, hL⟩ := id X
  obtain ⟨h1, h2, h3, h4, hR2⟩ := hop k S T (xs (4 * k + 1)) hk hR
  refine vv_aload_n hC 1 dL_law_733 rfl rfl (q := 734) rfl ?_
  refine vv_aload_n hC 0 dL_law_734 rfl rfl (q := 735) rfl ?_
  refine vv_iload hC 4 dL_law_735 rfl (q := 737) rfl ?_
  refine vv_iconst hC (v := nI 1) dL_law_737 rfl (q := 738) rfl ?_
  refine vv_iaddN hC dL_law_738 (q := 739) rfl ?_
  refine vv_sld hC hX hbl X.nb (j := 4 * k + 1) (by omega) (by omega) dL_law_739 (q := 740) rfl ?_
  refine vv_aload_n hC 3 dL_law_740 rfl rfl (q := 741) rfl ?_
  refine vv_lawW hC hK hz hE hN (As := [.int (xs (4 * k + 1)), .ref (adW z 90)]) (fun sz => cw_share l (adW_inj z) hlst (AZ z) sz S o (xs (4 * k + 1))) (vx_cwSW 3 hC.2.2.2.2 gL_law_L_share rfl rfl rfl hsL_share ⟨Nat.le_of_ble_eq_true rfl, Nat.le_of_ble_eq_true rfl⟩) rfl rfl (Nat.le_of_ble_eq_true rfl) (by show _ ≤ 601024 ∧ _ ≤ 7293034; omega) dL_law_741 (q := 744) rfl ?_
  refine vv_istore hC (i := 5) (lv' := (5, .int (nI (cd [1] (tIx (xs (4 * k + 1)) 6)))) :: lvL b z (4 * k)) dL_law_744 (by decide) rfl (q := 746) rfl ?_
  refine vv_aload_n hC 3 dL_law_746 rfl rfl (q := 747) rfl ?_
  refine vv_aload_n hC 1 dL_law_747 rfl rfl (q := 748) rfl ?_
  refine vv_iload hC 5 dL_law_748 rfl (q := 750) rfl ?_
  refine vv_iconst hC (v := nI 1) dL_law_750 rfl (q := 751) rfl ?_
  refine vv_iaddN hC dL_law_751 (q := 752) rfl ?_
  refine vv_sld hC hX hbl X.nb (j := 4 * k + 1) (by omega) (by omega) dL_law_752 (q := 753) rfl ?_
  refine vv_lawM hC hK (As := [.int (xs (4 * k + 1))]) (c9_share l (adM_inj z) T (xs (4 * k + 1)) h1) (cwV 1 hC.2.2.2.2 gL_law_X9_share rfl rfl rfl hdX9_share ⟨Nat.le_of_ble_eq_true rfl, Nat.le_of_ble_eq_true rfl⟩) rfl rfl (Nat.le_of_ble_eq_true rfl) (by show _ ≤ 601024 ∧ _ ≤ 7293034; omega) dL_law_753 (q := 756) rfl ?_
  refine vv_istore hC (i := 6) (lv' := (6, .int (if mtW (xs (4 * k + 1)) = 0 then nI (mShr T (xs (4 * k + 1)) (T.1 1)) else 0)) :: (5, .int (nI (cd [1] (tIx (xs (4 * k + 1)) 6)))) :: lvL b z (4 * k)) dL_law_756 (by decide) rfl (q := 758) rfl ?_
  exact law_tail X (by show _ ≤ 601024 ∧ _ ≤ 7293034; omega) (h3.trans h2) (law_h2 (by decide) h2 h4) dL_law_758 dL_law_759 dL_law_762 dL_law_764 dL_law_769 dL_law_771 dL_law_774 dL_law_775 dL_law_776 dL_law_777 dL_law_779 dL_law_780 dL_law_781 dL_law_786 (by decide) (vv_widen (by omega) (by omega) (next _ _ _ hR2))
set_option maxRecDepth 100000 in
set_option maxHeartbeats 4000000 in
theorem law_shareAnew {p : Program} {l : Launch} {e : Env} {s : State} {m : MethodId} {below : List Frame} {meth : Method} {c : Code} {b L z : Nat} {xs : Nat → Int32} {D : va_G} {cI cW cZ cL : ClassId} {Q : State → Prop} {Rel : Nat → sC → sM → Prop} (X : LX l s m c p b L z xs D cI cW cZ cL) (hop : opK_shareAnew Rel) {k : Nat} (hk : k < 512) (hkL : 4 * k + 4 ≤ L) {S : sC} {T : sM} {o : Int64} (hR : Rel k S T) (next : ∀ (S' : sC) (T' : sM) (o' : Int64), Rel (k + 1) S' T' → vv p l e room_1 s m #[Value.ref b] below meth c 7 (AZ z) s.heap (118 + 6 * (k + 1)) (23300 + 36 * (k + 1)) Q (BL D cI cW cZ cL z S' T' o') 1826 (lvL b z (4 * k)) []) : vv p l e room_1 s m #[Value.ref b] below meth c 7 (AZ z) s.heap (118 + 6 * k) (23300 + 36 * k) Q (BL D cI cW cZ cL z S T o) 789 (lvL b z (4 * k)) [] := by
  obtain ⟨hC, hK, hz, hE, hN, hX, hbl, hlst, hL⟩ := id X
  obtain ⟨h1, h2, h3, h4, hR2⟩ := hop k S T (xs (4 * k + 1)) hk hR
  refine vv_aload_n hC 1 dL_law_789 rfl rfl (q := 790) rfl ?_
  refine vv_aload_n hC 0 dL_law_790 rfl rfl (q := 791) rfl ?_
  refine vv_iload hC 4 dL_law_791 rfl (q := 793) rfl ?_
  refine vv_iconst hC (v := nI 1) dL_law_793 rfl (q := 794) rfl ?_
  refine vv_iaddN hC dL_law_794 (q := 795) rfl ?_
  refine vv_sld hC hX hbl X.nb (j := 4 * k + 1) (by omega) (by omega) dL_law_795 (q := 796) rfl ?_
  refine vv_aload_n hC 3 dL_law_796 rfl rfl (q := 797) rfl ?_
  refine vv_lawW hC hK hz hE hN (As := [.int (xs (4 * k + 1)), .ref (adW z 90)]) (fun sz => cw_shareAnew l (adW_inj z) hlst (AZ z) sz S o (xs (4 * k + 1))) (vx_cwSW 3 hC.2.2.2.2 gL_law_L_shareAnew rfl rfl rfl hsL_shareAnew ⟨Nat.le_of_ble_eq_true rfl, Nat.le_of_ble_eq_true rfl⟩) rfl rfl (Nat.le_of_ble_eq_true rfl) (by show _ ≤ 601024 ∧ _ ≤ 7293034; omega) dL_law_797 (q := 800) rfl ?_
  refine vv_istore hC (i := 5) (lv' := (5, .int (nI (cd [1] (tIx (xs (4 * k + 1)) 6)))) :: lvL b z (4 * k)) dL_law_800 (by decide) rfl (q := 802) rfl ?_
  refine vv_aload_n hC 3 dL_law_802 rfl rfl (q := 803) rfl ?_
  refine vv_aload_n hC 1 dL_law_803 rfl rfl (q := 804) rfl ?_
  refine vv_iload hC 5 dL_law_804 rfl (q := 806) rfl ?_
  refine vv_iconst hC (v := nI 1) dL_law_806 rfl (q := 807) rfl ?_
  refine vv_iaddN hC dL_law_807 (q := 808) rfl ?_
  refine vv_sld hC hX hbl X.nb (j := 4 * k + 1) (by omega) (by omega) dL_law_808 (q := 809) rfl ?_
  refine vv_lawM hC hK (As := [.int (xs (4 * k + 1))]) (c9_shareAnew l (adM_inj z) T (xs (4 * k + 1)) h1) (cwV 1 hC.2.2.2.2 gL_law_X9_shareAnew rfl rfl rfl hdX9_shareAnew ⟨Nat.le_of_ble_eq_true rfl, Nat.le_of_ble_eq_true rfl⟩) rfl rfl (Nat.le_of_ble_eq_true rfl) (by show _ ≤ 601024 ∧ _ ≤ 7293034; omega) dL_law_809 (q := 812) rfl ?_
  refine vv_istore hC (i := 6) (lv' := (6, .int (if mtW (xs (4 * k + 1)) = 0 then nI (mShr T (xs (4 * k + 1)) (T.1 1)) else 0)) :: (5, .int (nI (cd [1] (tIx (xs (4 * k + 1)) 6)))) :: lvL b z (4 * k)) dL_law_812 (by decide) rfl (q := 814) rfl ?_
  exact law_tail X (by show _ ≤ 601024 ∧ _ ≤ 7293034; omega) (h3.trans h2) (law_h2 (by decide) h2 h4) dL_law_814 dL_law_815 dL_law_818 dL_law_820 dL_law_825 dL_law_827 dL_law_830 dL_law_831 dL_law_832 dL_law_833 dL_law_835 dL_law_836 dL_law_837 dL_law_842 (by decide) (vv_widen (by omega) (by omega) (next _ _ _ hR2))
set_option maxRecDepth 100000 in
set_option maxHeartbeats 4000000 in
theorem law_setRate {p : Program} {l : Launch} {e : Env} {s : State} {m : MethodId} {below : List Frame} {meth : Method} {c : Code} {b L z : Nat} {xs : Nat → Int32} {D : va_G} {cI cW cZ cL : ClassId} {Q : State → Prop} {Rel : Nat → sC → sM → Prop} (X : LX l s m c p b L z xs D cI cW cZ cL) (hop : opK_setRate Rel) {k : Nat} (hk : k < 512) (hkL : 4 * k + 4 ≤ L) {S : sC} {T : sM} {o : Int64} (hR : Rel k S T) (next : ∀ (S' : sC) (T' : sM) (o' : Int64), Rel (k + 1) S' T' → vv p l e room_1 s m #[Value.ref b] below meth c 7 (AZ z) s.heap (118 + 6 * (k + 1)) (23300 + 36 * (k + 1)) Q (BL D cI cW cZ cL z S' T' o') 1826 (lvL b z (4 * k)) []) : vv p l e room_1 s m #[Value.ref b] below meth c 7 (AZ z) s.heap (118 + 6 * k) (23300 + 36 * k) Q (BL D cI cW cZ cL z S T o) 845 (lvL b z (4 * k)) [] := by
  obtain ⟨hC, hK, hz, hE, hN, hX, hbl, hlst, hL⟩ := id X
  obtain ⟨h1, h2, h3, h4, hR2⟩ := hop k S T (xs (4 * k + 1)) (xs (4 * k + 2)) hk hR
  refine vv_aload_n hC 1 dL_law_845 rfl rfl (q := 846) rfl ?_
  refine vv_aload_n hC 0 dL_law_846 rfl rfl (q := 847) rfl ?_
  refine vv_iload hC 4 dL_law_847 rfl (q := 849) rfl ?_
  refine vv_iconst hC (v := nI 1) dL_law_849 rfl (q := 850) rfl ?_
  refine vv_iaddN hC dL_law_850 (q := 851) rfl ?_
  refine vv_sld hC hX hbl X.nb (j := 4 * k + 1) (by omega) (by omega) dL_law_851 (q := 852) rfl ?_
  refine vv_aload_n hC 0 dL_law_852 rfl rfl (q := 853) rfl ?_
  refine vv_iload hC 4 dL_law_853 rfl (q := 855) rfl ?_
  refine vv_iconst hC (v := nI 2) dL_law_855 rfl (q := 856) rfl ?_
  refine vv_iaddN hC dL_law_856 (q := 857) rfl ?_
  refine vv_sld hC hX hbl X.nb (j := 4 * k + 2) (by omega) (by omega) dL_law_857 (q := 858) rfl ?_
  refine vv_aload_n hC 3 dL_law_858 rfl rfl (q := 859) rfl ?_
  refine vv_lawW hC hK hz hE hN (As := [.int (xs (4 * k + 1)), .int (xs (4 * k + 2)), .ref (adW z 90)]) (fun sz => cw_setRate l (adW_inj z) hlst (AZ z) sz S o (xs (4 * k + 1)) (xs (4 * k + 2))) (vx_cwSW 4 hC.2.2.2.2 gL_law_L_setRate rfl rfl rfl hsL_setRate ⟨Nat.le_of_ble_eq_true rfl, Nat.le_of_ble_eq_true rfl⟩) rfl rfl (Nat.le_of_ble_eq_true rfl) (by show _ ≤ 601024 ∧ _ ≤ 7293034; omega) dL_law_859 (q := 862) rfl ?_
  refine vv_istore hC (i := 5) (lv' := (5, .int (nI (cd [1, 2] (tRate (xs (4 * k + 1)) (xs (4 * k + 2)))))) :: lvL b z (4 * k)) dL_law_862 (by decide) rfl (q := 864) rfl ?_
  refine vv_aload_n hC 3 dL_law_864 rfl rfl (q := 865) rfl ?_
  refine vv_aload_n hC 1 dL_law_865 rfl rfl (q := 866) rfl ?_
  refine vv_iload hC 5 dL_law_866 rfl (q := 868) rfl ?_
  refine vv_iconst hC (v := nI 1) dL_law_868 rfl (q := 869) rfl ?_
  refine vv_iaddN hC dL_law_869 (q := 870) rfl ?_
  refine vv_sld hC hX hbl X.nb (j := 4 * k + 1) (by omega) (by omega) dL_law_870 (q := 871) rfl ?_
  refine vv_aload_n hC 1 dL_law_871 rfl rfl (q := 872) rfl ?_
  refine vv_iload hC 5 dL_law_872 rfl (q := 874) rfl ?_
  refine vv_iconst hC (v := nI 2) dL_law_874 rfl (q := 875) rfl ?_
  refine vv_iaddN hC dL_law_875 (q := 876) rfl ?_
  refine vv_sld hC hX hbl X.nb (j := 4 * k + 2) (by omega) (by omega) dL_law_876 (q := 877) rfl ?_
  refine vv_lawM hC hK (As := [.int (xs (4 * k + 1)), .int (xs (4 * k + 2))]) (c9_setRate l (adM_inj z) T (xs (4 * k + 1)) (xs (4 * k + 2))) (cwV 2 hC.2.2.2.2 gL_law_X9_setRate rfl rfl rfl hdX9_setRate ⟨Nat.le_of_ble_eq_true rfl, Nat.le_of_ble_eq_true rfl⟩) rfl rfl (Nat.le_of_ble_eq_true rfl) (by show _ ≤ 601024 ∧ _ ≤ 7293034; omega) dL_law_877 (q := 880) rfl ?_
  refine vv_istore hC (i := 6) (lv' := (6, .int (if mtRt (xs (4 * k + 1)) (xs (4 * k + 2)) = 0 then T.2 13 (tn (xs (4 * k + 1))) else 0)) :: (5, .int (nI (cd [1, 2] (tRate (xs (4 * k + 1)) (xs (4 * k + 2)))))) :: lvL b z (4 * k)) dL_law_880 (by decide) rfl (q := 882) rfl ?_
  exact law_tail X (by show _ ≤ 601024 ∧ _ ≤ 7293034; omega) (h3.trans h2) (law_h2 (by decide) h2 h4) dL_law_882 dL_law_883 dL_law_886 dL_law_888 dL_law_893 dL_law_895 dL_law_898 dL_law_899 dL_law_900 dL_law_901 dL_law_903 dL_law_904 dL_law_905 dL_law_910 (by decide) (vv_widen (by omega) (by omega) (next _ _ _ hR2))
set_option maxRecDepth 100000 in
set_option maxHeartbeats 4000000 in
theorem law_order {p : Program} {l : Launch} {e : Env} {s : State} {m : MethodId} {below : List Frame} {meth : Method} {c : Code} {b L z : Nat} {xs : Nat → Int32} {D : va_G} {cI cW cZ cL : ClassId} {Q : State → Prop} {Rel : Nat → sC → sM → Prop} (X : LX l s m c p b L z xs D cI cW cZ cL) (hop : opK_order Rel) {k : Nat} (hk : k < 512) (hkL : 4 * k + 4 ≤ L) {S : sC} {T : sM} {o : Int64} (hR : Rel k S T) (next : ∀ (S' : sC) (T' : sM) (o' : Int64), Rel (k + 1) S' T' → vv p l e room_1 s m #[Value.ref b] below meth c 7 (AZ z) s.heap (118 + 6 * (k + 1)) (23300 + 36 * (k + 1)) Q (BL D cI cW cZ cL z S' T' o') 1826 (lvL b z (4 * k)) []) : vv p l e room_1 s m #[Value.ref b] below meth c 7 (AZ z) s.heap (118 + 6 * k) (23300 + 36 * k) Q (BL D cI cW cZ cL z S T o) 913 (lvL b z (4 * k)) [] := by
  obtain ⟨hC, hK, hz, hE, hN, hX, hbl, hlst, hL⟩ := id X
  obtain ⟨h1, h2, h3, h4, hR2⟩ := hop k S T (xs (4 * k + 1)) (xs (4 * k + 2)) (xs (4 * k + 3)) hk hR
  refine vv_aload_n hC 1 dL_law_913 rfl rfl (q := 914) rfl ?_
  refine vv_aload_n hC 0 dL_law_914 rfl rfl (q := 915) rfl ?_
  refine vv_iload hC 4 dL_law_915 rfl (q := 917) rfl ?_
  refine vv_iconst hC (v := nI 1) dL_law_917 rfl (q := 918) rfl ?_
  refine vv_iaddN hC dL_law_918 (q := 919) rfl ?_
  refine vv_sld hC hX hbl X.nb (j := 4 * k + 1) (by omega) (by omega) dL_law_919 (q := 920) rfl ?_
  refine vv_aload_n hC 0 dL_law_920 rfl rfl (q := 921) rfl ?_
  refine vv_iload hC 4 dL_law_921 rfl (q := 923) rfl ?_
  refine vv_iconst hC (v := nI 2) dL_law_923 rfl (q := 924) rfl ?_
  refine vv_iaddN hC dL_law_924 (q := 925) rfl ?_
  refine vv_sld hC hX hbl X.nb (j := 4 * k + 2) (by omega) (by omega) dL_law_925 (q := 926) rfl ?_
  refine vv_aload_n hC 0 dL_law_926 rfl rfl (q := 927) rfl ?_
  refine vv_iload hC 4 dL_law_927 rfl (q := 929) rfl ?_
  refine vv_iconst hC (v := nI 3) dL_law_929 rfl (q := 930) rfl ?_
  refine vv_iaddN hC dL_law_930 (q := 931) rfl ?_
  refine vv_sld hC hX hbl X.nb (j := 4 * k + 3) (by omega) (by omega) dL_law_931 (q := 932) rfl ?_
  refine vv_aload_n hC 3 dL_law_932 rfl rfl (q := 933) rfl ?_
  refine vv_lawW hC hK hz hE hN (As := [.int (xs (4 * k + 1)), .int (xs (4 * k + 2)), .int (xs (4 * k + 3)), .ref (adW z 90)]) (fun sz => cw_order l (adW_inj z) hlst (AZ z) sz S o (xs (4 * k + 1)) (xs (4 * k + 2)) (xs (4 * k + 3))) (vx_cwSW 5 hC.2.2.2.2 gL_law_L_order rfl rfl rfl hsL_order ⟨Nat.le_of_ble_eq_true rfl, Nat.le_of_ble_eq_true rfl⟩) rfl rfl (Nat.le_of_ble_eq_true rfl) (by show _ ≤ 601024 ∧ _ ≤ 7293034; omega) dL_law_933 (q := 936) rfl ?_
  refine vv_istore hC (i := 5) (lv' := (5, .int (nI (cd [1, 2, 3] (tOrder S (xs (4 * k + 1)) (xs (4 * k + 2)) (xs (4 * k + 3)))))) :: lvL b z (4 * k)) dL_law_936 (by decide) rfl (q := 938) rfl ?_
  refine vv_aload_n hC 3 dL_law_938 rfl rfl (q := 939) rfl ?_
  refine vv_aload_n hC 1 dL_law_939 rfl rfl (q := 940) rfl ?_
  refine vv_iload hC 5 dL_law_940 rfl (q := 942) rfl ?_
  refine vv_iconst hC (v := nI 1) dL_law_942 rfl (q := 943) rfl ?_
  refine vv_iaddN hC dL_law_943 (q := 944) rfl ?_
  refine vv_sld hC hX hbl X.nb (j := 4 * k + 1) (by omega) (by omega) dL_law_944 (q := 945) rfl ?_
  refine vv_aload_n hC 1 dL_law_945 rfl rfl (q := 946) rfl ?_
  refine vv_iload hC 5 dL_law_946 rfl (q := 948) rfl ?_
  refine vv_iconst hC (v := nI 2) dL_law_948 rfl (q := 949) rfl ?_
  refine vv_iaddN hC dL_law_949 (q := 950) rfl ?_
  refine vv_sld hC hX hbl X.nb (j := 4 * k + 2) (by omega) (by omega) dL_law_950 (q := 951) rfl ?_
  refine vv_aload_n hC 1 dL_law_951 rfl rfl (q := 952) rfl ?_
  refine vv_iload hC 5 dL_law_952 rfl (q := 954) rfl ?_
  refine vv_iconst hC (v := nI 3) dL_law_954 rfl (q := 955) rfl ?_
  refine vv_iaddN hC dL_law_955 (q := 956) rfl ?_
  refine vv_sld hC hX hbl X.nb (j := 4 * k + 3) (by omega) (by omega) dL_law_956 (q := 957) rfl ?_
  refine vv_lawM hC hK (As := [.int (xs (4 * k + 1)), .int (xs (4 * k + 2)), .int (xs (4 * k + 3))]) (c9_order l (adM_inj z) T (xs (4 * k + 1)) (xs (4 * k + 2)) (xs (4 * k + 3)) h1) (cwV 3 hC.2.2.2.2 gL_law_X9_order rfl rfl rfl hdX9_order ⟨Nat.le_of_ble_eq_true rfl, Nat.le_of_ble_eq_true rfl⟩) rfl rfl (Nat.le_of_ble_eq_true rfl) (by show _ ≤ 601024 ∧ _ ≤ 7293034; omega) dL_law_957 (q := 960) rfl ?_
  refine vv_istore hC (i := 6) (lv' := (6, .int (if mtOrd T (xs (4 * k + 1)) (xs (4 * k + 2)) (xs (4 * k + 3)) = 0 then nI (T.1 17) else 0)) :: (5, .int (nI (cd [1, 2, 3] (tOrder S (xs (4 * k + 1)) (xs (4 * k + 2)) (xs (4 * k + 3)))))) :: lvL b z (4 * k)) dL_law_960 (by decide) rfl (q := 962) rfl ?_
  exact law_tail X (by show _ ≤ 601024 ∧ _ ≤ 7293034; omega) (h3.trans h2) (law_h2 (by decide) h2 h4) dL_law_962 dL_law_963 dL_law_966 dL_law_968 dL_law_973 dL_law_975 dL_law_978 dL_law_979 dL_law_980 dL_law_981 dL_law_983 dL_law_984 dL_law_985 dL_law_990 (by decide) (vv_widen (by omega) (by omega) (next _ _ _ hR2))
set_option maxRecDepth 100000 in
set_option maxHeartbeats 4000000 in
theorem law_finish {p : Program} {l : Launch} {e : Env} {s : State} {m : MethodId} {below : List Frame} {meth : Method} {c : Code} {b L z : Nat} {xs : Nat → Int32} {D : va_G} {cI cW cZ cL : ClassId} {Q : State → Prop} {Rel : Nat → sC → sM → Prop} (X : LX l s m c p b L z xs D cI cW cZ cL) (hop : opK_finish Rel) {k : Nat} (hk : k < 512) (hkL : 4 * k + 4 ≤ L) {S : sC} {T : sM} {o : Int64} (hR : Rel k S T) (next : ∀ (S' : sC) (T' : sM) (o' : Int64), Rel (k + 1) S' T' → vv p l e room_1 s m #[Value.ref b] below meth c 7 (AZ z) s.heap (118 + 6 * (k + 1)) (23300 + 36 * (k + 1)) Q (BL D cI cW cZ cL z S' T' o') 1826 (lvL b z (4 * k)) []) : vv p l e room_1 s m #[Value.ref b] below meth c 7 (AZ z) s.heap (118 + 6 * k) (23300 + 36 * k) Q (BL D cI cW cZ cL z S T o) 993 (lvL b z (4 * k)) [] := by
  obtain ⟨hC, hK, hz, hE, hN, hX, hbl, hlst, hL⟩ := id X
  obtain ⟨h1, h2, h3, h4, hR2⟩ := hop k S T (xs (4 * k + 1)) (xs (4 * k + 2)) hk hR
  refine vv_aload_n hC 1 dL_law_993 rfl rfl (q := 994) rfl ?_
  refine vv_aload_n hC 0 dL_law_994 rfl rfl (q := 995) rfl ?_
  refine vv_iload hC 4 dL_law_995 rfl (q := 997) rfl ?_
  refine vv_iconst hC (v := nI 1) dL_law_997 rfl (q := 998) rfl ?_
  refine vv_iaddN hC dL_law_998 (q := 999) rfl ?_
  refine vv_sld hC hX hbl X.nb (j := 4 * k + 1) (by omega) (by omega) dL_law_999 (q := 1000) rfl ?_
  refine vv_aload_n hC 0 dL_law_1000 rfl rfl (q := 1001) rfl ?_
  refine vv_iload hC 4 dL_law_1001 rfl (q := 1003) rfl ?_
  refine vv_iconst hC (v := nI 2) dL_law_1003 rfl (q := 1004) rfl ?_
  refine vv_iaddN hC dL_law_1004 (q := 1005) rfl ?_
  refine vv_sld hC hX hbl X.nb (j := 4 * k + 2) (by omega) (by omega) dL_law_1005 (q := 1006) rfl ?_
  refine vv_aload_n hC 3 dL_law_1006 rfl rfl (q := 1007) rfl ?_
  refine vv_lawW hC hK hz hE hN (As := [.int (xs (4 * k + 1)), .int (xs (4 * k + 2)), .ref (adW z 90)]) (fun sz => cw_finish l (adW_inj z) hlst (AZ z) sz S o (xs (4 * k + 1)) (xs (4 * k + 2))) (vx_cwSW 4 hC.2.2.2.2 gL_law_L_finish rfl rfl rfl hsL_finish ⟨Nat.le_of_ble_eq_true rfl, Nat.le_of_ble_eq_true rfl⟩) rfl rfl (Nat.le_of_ble_eq_true rfl) (by show _ ≤ 601024 ∧ _ ≤ 7293034; omega) dL_law_1007 (q := 1010) rfl ?_
  refine vv_istore hC (i := 5) (lv' := (5, .int (nI (cd [1, 2, 3] (tFinish S (xs (4 * k + 1)) (xs (4 * k + 2)))))) :: lvL b z (4 * k)) dL_law_1010 (by decide) rfl (q := 1012) rfl ?_
  refine vv_aload_n hC 3 dL_law_1012 rfl rfl (q := 1013) rfl ?_
  refine vv_aload_n hC 1 dL_law_1013 rfl rfl (q := 1014) rfl ?_
  refine vv_iload hC 5 dL_law_1014 rfl (q := 1016) rfl ?_
  refine vv_iconst hC (v := nI 1) dL_law_1016 rfl (q := 1017) rfl ?_
  refine vv_iaddN hC dL_law_1017 (q := 1018) rfl ?_
  refine vv_sld hC hX hbl X.nb (j := 4 * k + 1) (by omega) (by omega) dL_law_1018 (q := 1019) rfl ?_
  refine vv_aload_n hC 1 dL_law_1019 rfl rfl (q := 1020) rfl ?_
  refine vv_iload hC 5 dL_law_1020 rfl (q := 1022) rfl ?_
  refine vv_iconst hC (v := nI 2) dL_law_1022 rfl (q := 1023) rfl ?_
  refine vv_iaddN hC dL_law_1023 (q := 1024) rfl ?_
  refine vv_sld hC hX hbl X.nb (j := 4 * k + 2) (by omega) (by omega) dL_law_1024 (q := 1025) rfl ?_
  refine vv_lawM hC hK (As := [.int (xs (4 * k + 1)), .int (xs (4 * k + 2))]) (c9_finish l (adM_inj z) T (xs (4 * k + 1)) (xs (4 * k + 2)) h1) (cwV 2 hC.2.2.2.2 gL_law_X9_finish rfl rfl rfl hdX9_finish ⟨Nat.le_of_ble_eq_true rfl, Nat.le_of_ble_eq_true rfl⟩) rfl rfl (Nat.le_of_ble_eq_true rfl) (by show _ ≤ 601024 ∧ _ ≤ 7293034; omega) dL_law_1025 (q := 1028) rfl ?_
  refine vv_istore hC (i := 6) (lv' := (6, .int (if mtFin T (xs (4 * k + 1)) (xs (4 * k + 2)) = 0 then T.2 14 (tn (T.2 15 (tn (xs (4 * k + 1))))) + T.2 18 (tn (xs (4 * k + 1))) else 0)) :: (5, .int (nI (cd [1, 2, 3] (tFinish S (xs (4 * k + 1)) (xs (4 * k + 2)))))) :: lvL b z (4 * k)) dL_law_1028 (by decide) rfl (q := 1030) rfl ?_
  exact law_tail X (by show _ ≤ 601024 ∧ _ ≤ 7293034; omega) (h3.trans h2) (law_h2 (by decide) h2 h4) dL_law_1030 dL_law_1031 dL_law_1034 dL_law_1036 dL_law_1041 dL_law_1043 dL_law_1046 dL_law_1047 dL_law_1048 dL_law_1049 dL_law_1051 dL_law_1052 dL_law_1053 dL_law_1058 (by decide) (vv_widen (by omega) (by omega) (next _ _ _ hR2))
set_option maxRecDepth 100000 in
set_option maxHeartbeats 4000000 in
theorem law_cancel {p : Program} {l : Launch} {e : Env} {s : State} {m : MethodId} {below : List Frame} {meth : Method} {c : Code} {b L z : Nat} {xs : Nat → Int32} {D : va_G} {cI cW cZ cL : ClassId} {Q : State → Prop} {Rel : Nat → sC → sM → Prop} (X : LX l s m c p b L z xs D cI cW cZ cL) (hop : opK_cancel Rel) {k : Nat} (hk : k < 512) (hkL : 4 * k + 4 ≤ L) {S : sC} {T : sM} {o : Int64} (hR : Rel k S T) (next : ∀ (S' : sC) (T' : sM) (o' : Int64), Rel (k + 1) S' T' → vv p l e room_1 s m #[Value.ref b] below meth c 7 (AZ z) s.heap (118 + 6 * (k + 1)) (23300 + 36 * (k + 1)) Q (BL D cI cW cZ cL z S' T' o') 1826 (lvL b z (4 * k)) []) : vv p l e room_1 s m #[Value.ref b] below meth c 7 (AZ z) s.heap (118 + 6 * k) (23300 + 36 * k) Q (BL D cI cW cZ cL z S T o) 1061 (lvL b z (4 * k)) [] := by
  obtain ⟨hC, hK, hz, hE, hN, hX, hbl, hlst, hL⟩ := id X
  obtain ⟨h1, h2, h3, h4, hR2⟩ := hop k S T (xs (4 * k + 1)) hk hR
  refine vv_aload_n hC 1 dL_law_1061 rfl rfl (q := 1062) rfl ?_
  refine vv_aload_n hC 0 dL_law_1062 rfl rfl (q := 1063) rfl ?_
  refine vv_iload hC 4 dL_law_1063 rfl (q := 1065) rfl ?_
  refine vv_iconst hC (v := nI 1) dL_law_1065 rfl (q := 1066) rfl ?_
  refine vv_iaddN hC dL_law_1066 (q := 1067) rfl ?_
  refine vv_sld hC hX hbl X.nb (j := 4 * k + 1) (by omega) (by omega) dL_law_1067 (q := 1068) rfl ?_
  refine vv_aload_n hC 3 dL_law_1068 rfl rfl (q := 1069) rfl ?_
  refine vv_lawW hC hK hz hE hN (As := [.int (xs (4 * k + 1)), .ref (adW z 90)]) (fun sz => cw_cancel l (adW_inj z) hlst (AZ z) sz S o (xs (4 * k + 1))) (vx_cwSW 3 hC.2.2.2.2 gL_law_L_cancel rfl rfl rfl hsL_cancel ⟨Nat.le_of_ble_eq_true rfl, Nat.le_of_ble_eq_true rfl⟩) rfl rfl (Nat.le_of_ble_eq_true rfl) (by show _ ≤ 601024 ∧ _ ≤ 7293034; omega) dL_law_1069 (q := 1072) rfl ?_
  refine vv_istore hC (i := 5) (lv' := (5, .int (nI (cd [1, 3] (tCancel S (xs (4 * k + 1)))))) :: lvL b z (4 * k)) dL_law_1072 (by decide) rfl (q := 1074) rfl ?_
  refine vv_aload_n hC 3 dL_law_1074 rfl rfl (q := 1075) rfl ?_
  refine vv_aload_n hC 1 dL_law_1075 rfl rfl (q := 1076) rfl ?_
  refine vv_iload hC 5 dL_law_1076 rfl (q := 1078) rfl ?_
  refine vv_iconst hC (v := nI 1) dL_law_1078 rfl (q := 1079) rfl ?_
  refine vv_iaddN hC dL_law_1079 (q := 1080) rfl ?_
  refine vv_sld hC hX hbl X.nb (j := 4 * k + 1) (by omega) (by omega) dL_law_1080 (q := 1081) rfl ?_
  refine vv_lawM hC hK (As := [.int (xs (4 * k + 1))]) (c9_cancel l (adM_inj z) T (xs (4 * k + 1)) h1) (cwV 1 hC.2.2.2.2 gL_law_X9_cancel rfl rfl rfl hdX9_cancel ⟨Nat.le_of_ble_eq_true rfl, Nat.le_of_ble_eq_true rfl⟩) rfl rfl (Nat.le_of_ble_eq_true rfl) (by show _ ≤ 601024 ∧ _ ≤ 7293034; omega) dL_law_1081 (q := 1084) rfl ?_
  refine vv_istore hC (i := 6) (lv' := (6, .int (if mtCan T (xs (4 * k + 1)) = 0 then T.2 17 (tn (xs (4 * k + 1))) else 0)) :: (5, .int (nI (cd [1, 3] (tCancel S (xs (4 * k + 1)))))) :: lvL b z (4 * k)) dL_law_1084 (by decide) rfl (q := 1086) rfl ?_
  exact law_tail X (by show _ ≤ 601024 ∧ _ ≤ 7293034; omega) (h3.trans h2) (law_h2 (by decide) h2 h4) dL_law_1086 dL_law_1087 dL_law_1090 dL_law_1092 dL_law_1097 dL_law_1099 dL_law_1102 dL_law_1103 dL_law_1104 dL_law_1105 dL_law_1107 dL_law_1108 dL_law_1109 dL_law_1114 (by decide) (vv_widen (by omega) (by omega) (next _ _ _ hR2))
set_option maxRecDepth 100000 in
set_option maxHeartbeats 4000000 in
theorem law_stateOf {p : Program} {l : Launch} {e : Env} {s : State} {m : MethodId} {below : List Frame} {meth : Method} {c : Code} {b L z : Nat} {xs : Nat → Int32} {D : va_G} {cI cW cZ cL : ClassId} {Q : State → Prop} {Rel : Nat → sC → sM → Prop} (X : LX l s m c p b L z xs D cI cW cZ cL) (hop : opK_stateOf Rel) {k : Nat} (hk : k < 512) (hkL : 4 * k + 4 ≤ L) {S : sC} {T : sM} {o : Int64} (hR : Rel k S T) (next : ∀ (S' : sC) (T' : sM) (o' : Int64), Rel (k + 1) S' T' → vv p l e room_1 s m #[Value.ref b] below meth c 7 (AZ z) s.heap (118 + 6 * (k + 1)) (23300 + 36 * (k + 1)) Q (BL D cI cW cZ cL z S' T' o') 1826 (lvL b z (4 * k)) []) : vv p l e room_1 s m #[Value.ref b] below meth c 7 (AZ z) s.heap (118 + 6 * k) (23300 + 36 * k) Q (BL D cI cW cZ cL z S T o) 1117 (lvL b z (4 * k)) [] := by
  obtain ⟨hC, hK, hz, hE, hN, hX, hbl, hlst, hL⟩ := id X
  obtain ⟨h1, h2, h3, h4, hR2⟩ := hop k S T (xs (4 * k + 1)) hk hR
  refine vv_aload_n hC 1 dL_law_1117 rfl rfl (q := 1118) rfl ?_
  refine vv_aload_n hC 0 dL_law_1118 rfl rfl (q := 1119) rfl ?_
  refine vv_iload hC 4 dL_law_1119 rfl (q := 1121) rfl ?_
  refine vv_iconst hC (v := nI 1) dL_law_1121 rfl (q := 1122) rfl ?_
  refine vv_iaddN hC dL_law_1122 (q := 1123) rfl ?_
  refine vv_sld hC hX hbl X.nb (j := 4 * k + 1) (by omega) (by omega) dL_law_1123 (q := 1124) rfl ?_
  refine vv_aload_n hC 3 dL_law_1124 rfl rfl (q := 1125) rfl ?_
  refine vv_lawW hC hK hz hE hN (As := [.int (xs (4 * k + 1)), .ref (adW z 90)]) (fun sz => cw_stateOf l (adW_inj z) hlst (AZ z) sz S o (xs (4 * k + 1))) (vx_cwSW 3 hC.2.2.2.2 gL_law_L_stateOf rfl rfl rfl hsL_stateOf ⟨Nat.le_of_ble_eq_true rfl, Nat.le_of_ble_eq_true rfl⟩) rfl rfl (Nat.le_of_ble_eq_true rfl) (by show _ ≤ 601024 ∧ _ ≤ 7293034; omega) dL_law_1125 (q := 1128) rfl ?_
  refine vv_istore hC (i := 5) (lv' := (5, .int (nI (cd [1] (tIx (xs (4 * k + 1)) (nI (S.1 62).length))))) :: lvL b z (4 * k)) dL_law_1128 (by decide) rfl (q := 1130) rfl ?_
  refine vv_aload_n hC 3 dL_law_1130 rfl rfl (q := 1131) rfl ?_
  refine vv_aload_n hC 1 dL_law_1131 rfl rfl (q := 1132) rfl ?_
  refine vv_iload hC 5 dL_law_1132 rfl (q := 1134) rfl ?_
  refine vv_iconst hC (v := nI 1) dL_law_1134 rfl (q := 1135) rfl ?_
  refine vv_iaddN hC dL_law_1135 (q := 1136) rfl ?_
  refine vv_sld hC hX hbl X.nb (j := 4 * k + 1) (by omega) (by omega) dL_law_1136 (q := 1137) rfl ?_
  refine vv_lawM hC hK (As := [.int (xs (4 * k + 1))]) (c9_stateOf l (adM_inj z) T (xs (4 * k + 1)) h1) (cwV 1 hC.2.2.2.2 gL_law_X9_stateOf rfl rfl rfl hdX9_stateOf ⟨Nat.le_of_ble_eq_true rfl, Nat.le_of_ble_eq_true rfl⟩) rfl rfl (Nat.le_of_ble_eq_true rfl) (by show _ ≤ 601024 ∧ _ ≤ 7293034; omega) dL_law_1137 (q := 1140) rfl ?_
  refine vv_istore hC (i := 6) (lv' := (6, .int (if mtRv T (xs (4 * k + 1)) = 0 then T.2 16 (tn (xs (4 * k + 1))) else 0)) :: (5, .int (nI (cd [1] (tIx (xs (4 * k + 1)) (nI (S.1 62).length))))) :: lvL b z (4 * k)) dL_law_1140 (by decide) rfl (q := 1142) rfl ?_
  exact law_tail X (by show _ ≤ 601024 ∧ _ ≤ 7293034; omega) (h3.trans h2) (law_h2 (by decide) h2 h4) dL_law_1142 dL_law_1143 dL_law_1146 dL_law_1148 dL_law_1153 dL_law_1155 dL_law_1158 dL_law_1159 dL_law_1160 dL_law_1161 dL_law_1163 dL_law_1164 dL_law_1165 dL_law_1170 (by decide) (vv_widen (by omega) (by omega) (next _ _ _ hR2))
set_option maxRecDepth 100000 in
set_option maxHeartbeats 4000000 in
theorem law_frozenBy {p : Program} {l : Launch} {e : Env} {s : State} {m : MethodId} {below : List Frame} {meth : Method} {c : Code} {b L z : Nat} {xs : Nat → Int32} {D : va_G} {cI cW cZ cL : ClassId} {Q : State → Prop} {Rel : Nat → sC → sM → Prop} (X : LX l s m c p b L z xs D cI cW cZ cL) (hop : opK_frozenBy Rel) {k : Nat} (hk : k < 512) (hkL : 4 * k + 4 ≤ L) {S : sC} {T : sM} {o : Int64} (hR : Rel k S T) (next : ∀ (S' : sC) (T' : sM) (o' : Int64), Rel (k + 1) S' T' → vv p l e room_1 s m #[Value.ref b] below meth c 7 (AZ z) s.heap (118 + 6 * (k + 1)) (23300 + 36 * (k + 1)) Q (BL D cI cW cZ cL z S' T' o') 1826 (lvL b z (4 * k)) []) : vv p l e room_1 s m #[Value.ref b] below meth c 7 (AZ z) s.heap (118 + 6 * k) (23300 + 36 * k) Q (BL D cI cW cZ cL z S T o) 1173 (lvL b z (4 * k)) [] := by
  obtain ⟨hC, hK, hz, hE, hN, hX, hbl, hlst, hL⟩ := id X
  obtain ⟨h1, h2, h3, h4, hR2⟩ := hop k S T (xs (4 * k + 1)) hk hR
  refine vv_aload_n hC 1 dL_law_1173 rfl rfl (q := 1174) rfl ?_
  refine vv_aload_n hC 0 dL_law_1174 rfl rfl (q := 1175) rfl ?_
  refine vv_iload hC 4 dL_law_1175 rfl (q := 1177) rfl ?_
  refine vv_iconst hC (v := nI 1) dL_law_1177 rfl (q := 1178) rfl ?_
  refine vv_iaddN hC dL_law_1178 (q := 1179) rfl ?_
  refine vv_sld hC hX hbl X.nb (j := 4 * k + 1) (by omega) (by omega) dL_law_1179 (q := 1180) rfl ?_
  refine vv_aload_n hC 3 dL_law_1180 rfl rfl (q := 1181) rfl ?_
  refine vv_lawW hC hK hz hE hN (As := [.int (xs (4 * k + 1)), .ref (adW z 90)]) (fun sz => cw_frozenBy l (adW_inj z) hlst (AZ z) sz S o (xs (4 * k + 1))) (vx_cwSW 3 hC.2.2.2.2 gL_law_L_frozenBy rfl rfl rfl hsL_frozenBy ⟨Nat.le_of_ble_eq_true rfl, Nat.le_of_ble_eq_true rfl⟩) rfl rfl (Nat.le_of_ble_eq_true rfl) (by show _ ≤ 601024 ∧ _ ≤ 7293034; omega) dL_law_1181 (q := 1184) rfl ?_
  refine vv_istore hC (i := 5) (lv' := (5, .int (nI (cd [1] (tWord S (xs (4 * k + 1)))))) :: lvL b z (4 * k)) dL_law_1184 (by decide) rfl (q := 1186) rfl ?_
  refine vv_aload_n hC 3 dL_law_1186 rfl rfl (q := 1187) rfl ?_
  refine vv_aload_n hC 1 dL_law_1187 rfl rfl (q := 1188) rfl ?_
  refine vv_iload hC 5 dL_law_1188 rfl (q := 1190) rfl ?_
  refine vv_iconst hC (v := nI 1) dL_law_1190 rfl (q := 1191) rfl ?_
  refine vv_iaddN hC dL_law_1191 (q := 1192) rfl ?_
  refine vv_sld hC hX hbl X.nb (j := 4 * k + 1) (by omega) (by omega) dL_law_1192 (q := 1193) rfl ?_
  refine vv_lawM hC hK (As := [.int (xs (4 * k + 1))]) (c9_frozenBy l (adM_inj z) T (xs (4 * k + 1)) h1) (cwV 1 hC.2.2.2.2 gL_law_X9_frozenBy rfl rfl rfl hdX9_frozenBy ⟨Nat.le_of_ble_eq_true rfl, Nat.le_of_ble_eq_true rfl⟩) rfl rfl (Nat.le_of_ble_eq_true rfl) (by show _ ≤ 601024 ∧ _ ≤ 7293034; omega) dL_law_1193 (q := 1196) rfl ?_
  refine vv_istore hC (i := 6) (lv' := (6, .int (if mtWd T (xs (4 * k + 1)) = 0 then T.2 6 (tn (xs (4 * k + 1))) else 0)) :: (5, .int (nI (cd [1] (tWord S (xs (4 * k + 1)))))) :: lvL b z (4 * k)) dL_law_1196 (by decide) rfl (q := 1198) rfl ?_
  exact law_tail X (by show _ ≤ 601024 ∧ _ ≤ 7293034; omega) (h3.trans h2) (law_h2 (by decide) h2 h4) dL_law_1198 dL_law_1199 dL_law_1202 dL_law_1204 dL_law_1209 dL_law_1211 dL_law_1214 dL_law_1215 dL_law_1216 dL_law_1217 dL_law_1219 dL_law_1220 dL_law_1221 dL_law_1226 (by decide) (vv_widen (by omega) (by omega) (next _ _ _ hR2))
set_option maxRecDepth 100000 in
set_option maxHeartbeats 4000000 in
theorem law_earned {p : Program} {l : Launch} {e : Env} {s : State} {m : MethodId} {below : List Frame} {meth : Method} {c : Code} {b L z : Nat} {xs : Nat → Int32} {D : va_G} {cI cW cZ cL : ClassId} {Q : State → Prop} {Rel : Nat → sC → sM → Prop} (X : LX l s m c p b L z xs D cI cW cZ cL) (hop : opK_earned Rel) {k : Nat} (hk : k < 512) (hkL : 4 * k + 4 ≤ L) {S : sC} {T : sM} {o : Int64} (hR : Rel k S T) (next : ∀ (S' : sC) (T' : sM) (o' : Int64), Rel (k + 1) S' T' → vv p l e room_1 s m #[Value.ref b] below meth c 7 (AZ z) s.heap (118 + 6 * (k + 1)) (23300 + 36 * (k + 1)) Q (BL D cI cW cZ cL z S' T' o') 1826 (lvL b z (4 * k)) []) : vv p l e room_1 s m #[Value.ref b] below meth c 7 (AZ z) s.heap (118 + 6 * k) (23300 + 36 * k) Q (BL D cI cW cZ cL z S T o) 1229 (lvL b z (4 * k)) [] := by
  obtain ⟨hC, hK, hz, hE, hN, hX, hbl, hlst, hL⟩ := id X
  obtain ⟨h1, h2, h3, h4, hR2⟩ := hop k S T (xs (4 * k + 1)) hk hR
  refine vv_aload_n hC 1 dL_law_1229 rfl rfl (q := 1230) rfl ?_
  refine vv_aload_n hC 0 dL_law_1230 rfl rfl (q := 1231) rfl ?_
  refine vv_iload hC 4 dL_law_1231 rfl (q := 1233) rfl ?_
  refine vv_iconst hC (v := nI 1) dL_law_1233 rfl (q := 1234) rfl ?_
  refine vv_iaddN hC dL_law_1234 (q := 1235) rfl ?_
  refine vv_sld hC hX hbl X.nb (j := 4 * k + 1) (by omega) (by omega) dL_law_1235 (q := 1236) rfl ?_
  refine vv_aload_n hC 3 dL_law_1236 rfl rfl (q := 1237) rfl ?_
  refine vv_lawW hC hK hz hE hN (As := [.int (xs (4 * k + 1)), .ref (adW z 90)]) (fun sz => cw_earned l (adW_inj z) hlst (AZ z) sz S o (xs (4 * k + 1))) (vx_cwSW 3 hC.2.2.2.2 gL_law_L_earned rfl rfl rfl hsL_earned ⟨Nat.le_of_ble_eq_true rfl, Nat.le_of_ble_eq_true rfl⟩) rfl rfl (Nat.le_of_ble_eq_true rfl) (by show _ ≤ 601024 ∧ _ ≤ 7293034; omega) dL_law_1237 (q := 1240) rfl ?_
  refine vv_istore hC (i := 5) (lv' := (5, .int (nI (cd [1] (tIx (xs (4 * k + 1)) 4)))) :: lvL b z (4 * k)) dL_law_1240 (by decide) rfl (q := 1242) rfl ?_
  refine vv_aload_n hC 3 dL_law_1242 rfl rfl (q := 1243) rfl ?_
  refine vv_aload_n hC 1 dL_law_1243 rfl rfl (q := 1244) rfl ?_
  refine vv_iload hC 5 dL_law_1244 rfl (q := 1246) rfl ?_
  refine vv_iconst hC (v := nI 1) dL_law_1246 rfl (q := 1247) rfl ?_
  refine vv_iaddN hC dL_law_1247 (q := 1248) rfl ?_
  refine vv_sld hC hX hbl X.nb (j := 4 * k + 1) (by omega) (by omega) dL_law_1248 (q := 1249) rfl ?_
  refine vv_lawM hC hK (As := [.int (xs (4 * k + 1))]) (c9_earned l (adM_inj z) T (xs (4 * k + 1)) h1) (cwV 1 hC.2.2.2.2 gL_law_X9_earned rfl rfl rfl hdX9_earned ⟨Nat.le_of_ble_eq_true rfl, Nat.le_of_ble_eq_true rfl⟩) rfl rfl (Nat.le_of_ble_eq_true rfl) (by show _ ≤ 601024 ∧ _ ≤ 7293034; omega) dL_law_1249 (q := 1252) rfl ?_
  refine vv_istore hC (i := 6) (lv' := (6, .int (if mtRw (xs (4 * k + 1)) = 0 then T.2 14 (tn (xs (4 * k + 1))) else 0)) :: (5, .int (nI (cd [1] (tIx (xs (4 * k + 1)) 4)))) :: lvL b z (4 * k)) dL_law_1252 (by decide) rfl (q := 1254) rfl ?_
  exact law_tail X (by show _ ≤ 601024 ∧ _ ≤ 7293034; omega) (h3.trans h2) (law_h2 (by decide) h2 h4) dL_law_1254 dL_law_1255 dL_law_1258 dL_law_1260 dL_law_1265 dL_law_1267 dL_law_1270 dL_law_1271 dL_law_1272 dL_law_1273 dL_law_1275 dL_law_1276 dL_law_1277 dL_law_1282 (by decide) (vv_widen (by omega) (by omega) (next _ _ _ hR2))
set_option maxRecDepth 100000 in
set_option maxHeartbeats 4000000 in
theorem law_addIssue {p : Program} {l : Launch} {e : Env} {s : State} {m : MethodId} {below : List Frame} {meth : Method} {c : Code} {b L z : Nat} {xs : Nat → Int32} {D : va_G} {cI cW cZ cL : ClassId} {Q : State → Prop} {Rel : Nat → sC → sM → Prop} (X : LX l s m c p b L z xs D cI cW cZ cL) (hop : opK_addIssue Rel) {k : Nat} (hk : k < 512) (hkL : 4 * k + 4 ≤ L) {S : sC} {T : sM} {o : Int64} (hR : Rel k S T) (next : ∀ (S' : sC) (T' : sM) (o' : Int64), Rel (k + 1) S' T' → vv p l e room_1 s m #[Value.ref b] below meth c 7 (AZ z) s.heap (118 + 6 * (k + 1)) (23300 + 36 * (k + 1)) Q (BL D cI cW cZ cL z S' T' o') 1826 (lvL b z (4 * k)) []) : vv p l e room_1 s m #[Value.ref b] below meth c 7 (AZ z) s.heap (118 + 6 * k) (23300 + 36 * k) Q (BL D cI cW cZ cL z S T o) 1285 (lvL b z (4 * k)) [] := by
  obtain ⟨hC, hK, hz, hE, hN, hX, hbl, hlst, hL⟩ := id X
  obtain ⟨h1, h2, h3, h4, hR2⟩ := hop k S T (xs (4 * k + 1)) (xs (4 * k + 2)) hk hR
  refine vv_aload_n hC 1 dL_law_1285 rfl rfl (q := 1286) rfl ?_
  refine vv_aload_n hC 0 dL_law_1286 rfl rfl (q := 1287) rfl ?_
  refine vv_iload hC 4 dL_law_1287 rfl (q := 1289) rfl ?_
  refine vv_iconst hC (v := nI 1) dL_law_1289 rfl (q := 1290) rfl ?_
  refine vv_iaddN hC dL_law_1290 (q := 1291) rfl ?_
  refine vv_sld hC hX hbl X.nb (j := 4 * k + 1) (by omega) (by omega) dL_law_1291 (q := 1292) rfl ?_
  refine vv_aload_n hC 0 dL_law_1292 rfl rfl (q := 1293) rfl ?_
  refine vv_iload hC 4 dL_law_1293 rfl (q := 1295) rfl ?_
  refine vv_iconst hC (v := nI 2) dL_law_1295 rfl (q := 1296) rfl ?_
  refine vv_iaddN hC dL_law_1296 (q := 1297) rfl ?_
  refine vv_sld hC hX hbl X.nb (j := 4 * k + 2) (by omega) (by omega) dL_law_1297 (q := 1298) rfl ?_
  refine vv_aload_n hC 3 dL_law_1298 rfl rfl (q := 1299) rfl ?_
  refine vv_lawW hC hK hz hE hN (As := [.int (xs (4 * k + 1)), .int (xs (4 * k + 2)), .ref (adW z 90)]) (fun sz => cw_addIssue l (adW_inj z) hlst (AZ z) sz S o (xs (4 * k + 1)) (xs (4 * k + 2))) (vx_cwSW 4 hC.2.2.2.2 gL_law_L_addIssue rfl rfl rfl hsL_addIssue ⟨Nat.le_of_ble_eq_true rfl, Nat.le_of_ble_eq_true rfl⟩) rfl rfl (Nat.le_of_ble_eq_true rfl) (by show _ ≤ 601024 ∧ _ ≤ 7293034; omega) dL_law_1299 (q := 1302) rfl ?_
  refine vv_istore hC (i := 5) (lv' := (5, .int (nI (cd [2, 3] (tIssue S (xs (4 * k + 1)) (xs (4 * k + 2)))))) :: lvL b z (4 * k)) dL_law_1302 (by decide) rfl (q := 1304) rfl ?_
  refine vv_aload_n hC 3 dL_law_1304 rfl rfl (q := 1305) rfl ?_
  refine vv_aload_n hC 1 dL_law_1305 rfl rfl (q := 1306) rfl ?_
  refine vv_iload hC 5 dL_law_1306 rfl (q := 1308) rfl ?_
  refine vv_iconst hC (v := nI 1) dL_law_1308 rfl (q := 1309) rfl ?_
  refine vv_iaddN hC dL_law_1309 (q := 1310) rfl ?_
  refine vv_sld hC hX hbl X.nb (j := 4 * k + 1) (by omega) (by omega) dL_law_1310 (q := 1311) rfl ?_
  refine vv_aload_n hC 1 dL_law_1311 rfl rfl (q := 1312) rfl ?_
  refine vv_iload hC 5 dL_law_1312 rfl (q := 1314) rfl ?_
  refine vv_iconst hC (v := nI 2) dL_law_1314 rfl (q := 1315) rfl ?_
  refine vv_iaddN hC dL_law_1315 (q := 1316) rfl ?_
  refine vv_sld hC hX hbl X.nb (j := 4 * k + 2) (by omega) (by omega) dL_law_1316 (q := 1317) rfl ?_
  refine vv_lawM hC hK (As := [.int (xs (4 * k + 1)), .int (xs (4 * k + 2))]) (c9_addIssue l (adM_inj z) T (xs (4 * k + 1)) (xs (4 * k + 2)) h1) (cwV 2 hC.2.2.2.2 gL_law_X9_addIssue rfl rfl rfl hdX9_addIssue ⟨Nat.le_of_ble_eq_true rfl, Nat.le_of_ble_eq_true rfl⟩) rfl rfl (Nat.le_of_ble_eq_true rfl) (by show _ ≤ 601024 ∧ _ ≤ 7293034; omega) dL_law_1317 (q := 1320) rfl ?_
  refine vv_istore hC (i := 6) (lv' := (6, .int (if mtIss T (xs (4 * k + 1)) (xs (4 * k + 2)) = 0 then nI (T.1 25) else 0)) :: (5, .int (nI (cd [2, 3] (tIssue S (xs (4 * k + 1)) (xs (4 * k + 2)))))) :: lvL b z (4 * k)) dL_law_1320 (by decide) rfl (q := 1322) rfl ?_
  exact law_tail X (by show _ ≤ 601024 ∧ _ ≤ 7293034; omega) (h3.trans h2) (law_h2 (by decide) h2 h4) dL_law_1322 dL_law_1323 dL_law_1326 dL_law_1328 dL_law_1333 dL_law_1335 dL_law_1338 dL_law_1339 dL_law_1340 dL_law_1341 dL_law_1343 dL_law_1344 dL_law_1345 dL_law_1350 (by decide) (vv_widen (by omega) (by omega) (next _ _ _ hR2))
set_option maxRecDepth 100000 in
set_option maxHeartbeats 4000000 in
theorem law_waiting {p : Program} {l : Launch} {e : Env} {s : State} {m : MethodId} {below : List Frame} {meth : Method} {c : Code} {b L z : Nat} {xs : Nat → Int32} {D : va_G} {cI cW cZ cL : ClassId} {Q : State → Prop} {Rel : Nat → sC → sM → Prop} (X : LX l s m c p b L z xs D cI cW cZ cL) (hop : opK_waiting Rel) {k : Nat} (hk : k < 512) (hkL : 4 * k + 4 ≤ L) {S : sC} {T : sM} {o : Int64} (hR : Rel k S T) (next : ∀ (S' : sC) (T' : sM) (o' : Int64), Rel (k + 1) S' T' → vv p l e room_1 s m #[Value.ref b] below meth c 7 (AZ z) s.heap (118 + 6 * (k + 1)) (23300 + 36 * (k + 1)) Q (BL D cI cW cZ cL z S' T' o') 1826 (lvL b z (4 * k)) []) : vv p l e room_1 s m #[Value.ref b] below meth c 7 (AZ z) s.heap (118 + 6 * k) (23300 + 36 * k) Q (BL D cI cW cZ cL z S T o) 1353 (lvL b z (4 * k)) [] := by
  obtain ⟨hC, hK, hz, hE, hN, hX, hbl, hlst, hL⟩ := id X
  obtain ⟨h1, h2, h3, h4, hR2⟩ := hop k S T (xs (4 * k + 1)) hk hR
  refine vv_aload_n hC 1 dL_law_1353 rfl rfl (q := 1354) rfl ?_
  refine vv_aload_n hC 0 dL_law_1354 rfl rfl (q := 1355) rfl ?_
  refine vv_iload hC 4 dL_law_1355 rfl (q := 1357) rfl ?_
  refine vv_iconst hC (v := nI 1) dL_law_1357 rfl (q := 1358) rfl ?_
  refine vv_iaddN hC dL_law_1358 (q := 1359) rfl ?_
  refine vv_sld hC hX hbl X.nb (j := 4 * k + 1) (by omega) (by omega) dL_law_1359 (q := 1360) rfl ?_
  refine vv_aload_n hC 3 dL_law_1360 rfl rfl (q := 1361) rfl ?_
  refine vv_lawW hC hK hz hE hN (As := [.int (xs (4 * k + 1)), .ref (adW z 90)]) (fun sz => cw_waiting l (adW_inj z) hlst (AZ z) sz S o (xs (4 * k + 1))) (vx_cwSW 3 hC.2.2.2.2 gL_law_L_waiting rfl rfl rfl hsL_waiting ⟨Nat.le_of_ble_eq_true rfl, Nat.le_of_ble_eq_true rfl⟩) rfl rfl (Nat.le_of_ble_eq_true rfl) (by show _ ≤ 601024 ∧ _ ≤ 7293034; omega) dL_law_1361 (q := 1364) rfl ?_
  refine vv_istore hC (i := 5) (lv' := (5, .int (nI (cd [2] (tB2 (!decide ((xs (4 * k + 1)) < 0)))))) :: lvL b z (4 * k)) dL_law_1364 (by decide) rfl (q := 1366) rfl ?_
  refine vv_aload_n hC 3 dL_law_1366 rfl rfl (q := 1367) rfl ?_
  refine vv_aload_n hC 1 dL_law_1367 rfl rfl (q := 1368) rfl ?_
  refine vv_iload hC 5 dL_law_1368 rfl (q := 1370) rfl ?_
  refine vv_iconst hC (v := nI 1) dL_law_1370 rfl (q := 1371) rfl ?_
  refine vv_iaddN hC dL_law_1371 (q := 1372) rfl ?_
  refine vv_sld hC hX hbl X.nb (j := 4 * k + 1) (by omega) (by omega) dL_law_1372 (q := 1373) rfl ?_
  refine vv_lawM hC hK (As := [.int (xs (4 * k + 1))]) (c9_waiting l (adM_inj z) T (xs (4 * k + 1)) h1) (cwV 1 hC.2.2.2.2 gL_law_X9_waiting rfl rfl rfl hdX9_waiting ⟨Nat.le_of_ble_eq_true rfl, Nat.le_of_ble_eq_true rfl⟩) rfl rfl (Nat.le_of_ble_eq_true rfl) (by show _ ≤ 601024 ∧ _ ≤ 7293034; omega) dL_law_1373 (q := 1376) rfl ?_
  refine vv_istore hC (i := 6) (lv' := (6, .int (if mtPo (xs (4 * k + 1)) = 0 then mWt T (xs (4 * k + 1)) else 0)) :: (5, .int (nI (cd [2] (tB2 (!decide ((xs (4 * k + 1)) < 0)))))) :: lvL b z (4 * k)) dL_law_1376 (by decide) rfl (q := 1378) rfl ?_
  exact law_tail X (by show _ ≤ 601024 ∧ _ ≤ 7293034; omega) (h3.trans h2) (law_h2 (by decide) h2 h4) dL_law_1378 dL_law_1379 dL_law_1382 dL_law_1384 dL_law_1389 dL_law_1391 dL_law_1394 dL_law_1395 dL_law_1396 dL_law_1397 dL_law_1399 dL_law_1400 dL_law_1401 dL_law_1406 (by decide) (vv_widen (by omega) (by omega) (next _ _ _ hR2))
set_option maxRecDepth 100000 in
set_option maxHeartbeats 4000000 in
theorem law_pass {p : Program} {l : Launch} {e : Env} {s : State} {m : MethodId} {below : List Frame} {meth : Method} {c : Code} {b L z : Nat} {xs : Nat → Int32} {D : va_G} {cI cW cZ cL : ClassId} {Q : State → Prop} {Rel : Nat → sC → sM → Prop} (X : LX l s m c p b L z xs D cI cW cZ cL) (hop : opK_pass Rel) {k : Nat} (hk : k < 512) (hkL : 4 * k + 4 ≤ L) {S : sC} {T : sM} {o : Int64} (hR : Rel k S T) (next : ∀ (S' : sC) (T' : sM) (o' : Int64), Rel (k + 1) S' T' → vv p l e room_1 s m #[Value.ref b] below meth c 7 (AZ z) s.heap (118 + 6 * (k + 1)) (23300 + 36 * (k + 1)) Q (BL D cI cW cZ cL z S' T' o') 1826 (lvL b z (4 * k)) []) : vv p l e room_1 s m #[Value.ref b] below meth c 7 (AZ z) s.heap (118 + 6 * k) (23300 + 36 * k) Q (BL D cI cW cZ cL z S T o) 1409 (lvL b z (4 * k)) [] := by
  obtain ⟨hC, hK, hz, hE, hN, hX, hbl, hlst, hL⟩ := id X
  obtain ⟨h1, h2, h3, h4, hR2⟩ := hop k S T (xs (4 * k + 1)) hk hR
  refine vv_aload_n hC 1 dL_law_1409 rfl rfl (q := 1410) rfl ?_
  refine vv_aload_n hC 0 dL_law_1410 rfl rfl (q := 1411) rfl ?_
  refine vv_iload hC 4 dL_law_1411 rfl (q := 1413) rfl ?_
  refine vv_iconst hC (v := nI 1) dL_law_1413 rfl (q := 1414) rfl ?_
  refine vv_iaddN hC dL_law_1414 (q := 1415) rfl ?_
  refine vv_sld hC hX hbl X.nb (j := 4 * k + 1) (by omega) (by omega) dL_law_1415 (q := 1416) rfl ?_
  refine vv_aload_n hC 3 dL_law_1416 rfl rfl (q := 1417) rfl ?_
  refine vv_lawW hC hK hz hE hN (As := [.int (xs (4 * k + 1)), .ref (adW z 90)]) (fun sz => cw_pass l (adW_inj z) hlst (AZ z) sz S o (xs (4 * k + 1))) (vx_cwSW 3 hC.2.2.2.2 gL_law_L_pass rfl rfl rfl hsL_pass ⟨Nat.le_of_ble_eq_true rfl, Nat.le_of_ble_eq_true rfl⟩) rfl rfl (Nat.le_of_ble_eq_true rfl) (by show _ ≤ 601024 ∧ _ ≤ 7293034; omega) dL_law_1417 (q := 1420) rfl ?_
  refine vv_istore hC (i := 5) (lv' := (5, .int (nI (cd [2, 3] (tPass S (xs (4 * k + 1)))))) :: lvL b z (4 * k)) dL_law_1420 (by decide) rfl (q := 1422) rfl ?_
  refine vv_aload_n hC 3 dL_law_1422 rfl rfl (q := 1423) rfl ?_
  refine vv_aload_n hC 1 dL_law_1423 rfl rfl (q := 1424) rfl ?_
  refine vv_iload hC 5 dL_law_1424 rfl (q := 1426) rfl ?_
  refine vv_iconst hC (v := nI 1) dL_law_1426 rfl (q := 1427) rfl ?_
  refine vv_iaddN hC dL_law_1427 (q := 1428) rfl ?_
  refine vv_sld hC hX hbl X.nb (j := 4 * k + 1) (by omega) (by omega) dL_law_1428 (q := 1429) rfl ?_
  refine vv_lawM hC hK (As := [.int (xs (4 * k + 1))]) (c9_pass l (adM_inj z) T (xs (4 * k + 1)) h1) (cwV 1 hC.2.2.2.2 gL_law_X9_pass rfl rfl rfl hdX9_pass ⟨Nat.le_of_ble_eq_true rfl, Nat.le_of_ble_eq_true rfl⟩) rfl rfl (Nat.le_of_ble_eq_true rfl) (by show _ ≤ 601024 ∧ _ ≤ 7293034; omega) dL_law_1429 (q := 1432) rfl ?_
  refine vv_istore hC (i := 6) (lv' := (6, .int (if mtPs T (xs (4 * k + 1)) = 0 then (mPas T (tn (xs (4 * k + 1)))).2 else 0)) :: (5, .int (nI (cd [2, 3] (tPass S (xs (4 * k + 1)))))) :: lvL b z (4 * k)) dL_law_1432 (by decide) rfl (q := 1434) rfl ?_
  exact law_tail X (by show _ ≤ 601024 ∧ _ ≤ 7293034; omega) (h3.trans h2) (law_h2 (by decide) h2 h4) dL_law_1434 dL_law_1435 dL_law_1438 dL_law_1440 dL_law_1445 dL_law_1447 dL_law_1450 dL_law_1451 dL_law_1452 dL_law_1453 dL_law_1455 dL_law_1456 dL_law_1457 dL_law_1462 (by decide) (vv_widen (by omega) (by omega) (next _ _ _ hR2))
set_option maxRecDepth 100000 in
set_option maxHeartbeats 4000000 in
theorem law_today {p : Program} {l : Launch} {e : Env} {s : State} {m : MethodId} {below : List Frame} {meth : Method} {c : Code} {b L z : Nat} {xs : Nat → Int32} {D : va_G} {cI cW cZ cL : ClassId} {Q : State → Prop} {Rel : Nat → sC → sM → Prop} (X : LX l s m c p b L z xs D cI cW cZ cL) (hop : opK_today Rel) {k : Nat} (hk : k < 512) (hkL : 4 * k + 4 ≤ L) {S : sC} {T : sM} {o : Int64} (hR : Rel k S T) (next : ∀ (S' : sC) (T' : sM) (o' : Int64), Rel (k + 1) S' T' → vv p l e room_1 s m #[Value.ref b] below meth c 7 (AZ z) s.heap (118 + 6 * (k + 1)) (23300 + 36 * (k + 1)) Q (BL D cI cW cZ cL z S' T' o') 1826 (lvL b z (4 * k)) []) : vv p l e room_1 s m #[Value.ref b] below meth c 7 (AZ z) s.heap (118 + 6 * k) (23300 + 36 * k) Q (BL D cI cW cZ cL z S T o) 1465 (lvL b z (4 * k)) [] := by
  obtain ⟨hC, hK, hz, hE, hN, hX, hbl, hlst, hL⟩ := id X
  obtain ⟨h2, hR2⟩ := hop k S T hk hR
  refine vv_aload_n hC 1 dL_law_1465 rfl rfl (q := 1466) rfl ?_
  refine vv_lawC hC hK (As := []) (c8_today l ((adW_inj z).le (by omega)) S) (cwV 0 hC.2.2.2.2 gL_law_X8_today rfl rfl rfl hdX8_today ⟨Nat.le_of_ble_eq_true rfl, Nat.le_of_ble_eq_true rfl⟩) rfl rfl (Nat.le_of_ble_eq_true rfl) (by show _ ≤ 601024 ∧ _ ≤ 7293034; omega) dL_law_1466 (q := 1469) rfl ?_
  refine vv_aload_n hC 2 dL_law_1469 rfl rfl (q := 1470) rfl ?_
  refine vv_lawM hC hK (As := []) (c9_today l (adM_inj z) T) (cwV 0 hC.2.2.2.2 gL_law_X9_today rfl rfl rfl hdX9_today ⟨Nat.le_of_ble_eq_true rfl, Nat.le_of_ble_eq_true rfl⟩) rfl rfl (Nat.le_of_ble_eq_true rfl) (by show _ ≤ 601024 ∧ _ ≤ 7293034; omega) dL_law_1470 (q := 1473) rfl ?_
  exact vv_icmp_eq hC (tgt := 1826) dL_law_1473 (by decide) (q := 1476) rfl (fun _ => vv_widen (by omega) (by omega) (next _ _ _ hR2)) (fun h => absurd h2.symm h)
set_option maxRecDepth 100000 in
set_option maxHeartbeats 4000000 in
theorem law_printed {p : Program} {l : Launch} {e : Env} {s : State} {m : MethodId} {below : List Frame} {meth : Method} {c : Code} {b L z : Nat} {xs : Nat → Int32} {D : va_G} {cI cW cZ cL : ClassId} {Q : State → Prop} {Rel : Nat → sC → sM → Prop} (X : LX l s m c p b L z xs D cI cW cZ cL) (hop : opK_printed Rel) {k : Nat} (hk : k < 512) (hkL : 4 * k + 4 ≤ L) {S : sC} {T : sM} {o : Int64} (hR : Rel k S T) (next : ∀ (S' : sC) (T' : sM) (o' : Int64), Rel (k + 1) S' T' → vv p l e room_1 s m #[Value.ref b] below meth c 7 (AZ z) s.heap (118 + 6 * (k + 1)) (23300 + 36 * (k + 1)) Q (BL D cI cW cZ cL z S' T' o') 1826 (lvL b z (4 * k)) []) : vv p l e room_1 s m #[Value.ref b] below meth c 7 (AZ z) s.heap (118 + 6 * k) (23300 + 36 * k) Q (BL D cI cW cZ cL z S T o) 1478 (lvL b z (4 * k)) [] := by
  obtain ⟨hC, hK, hz, hE, hN, hX, hbl, hlst, hL⟩ := id X
  obtain ⟨h1, h2, h3, h4, hR2⟩ := hop k S T (xs (4 * k + 1)) hk hR
  refine vv_aload_n hC 1 dL_law_1478 rfl rfl (q := 1479) rfl ?_
  refine vv_aload_n hC 0 dL_law_1479 rfl rfl (q := 1480) rfl ?_
  refine vv_iload hC 4 dL_law_1480 rfl (q := 1482) rfl ?_
  refine vv_iconst hC (v := nI 1) dL_law_1482 rfl (q := 1483) rfl ?_
  refine vv_iaddN hC dL_law_1483 (q := 1484) rfl ?_
  refine vv_sld hC hX hbl X.nb (j := 4 * k + 1) (by omega) (by omega) dL_law_1484 (q := 1485) rfl ?_
  refine vv_aload_n hC 3 dL_law_1485 rfl rfl (q := 1486) rfl ?_
  refine vv_lawW hC hK hz hE hN (As := [.int (xs (4 * k + 1)), .ref (adW z 90)]) (fun sz => cw_printed l (adW_inj z) hlst (AZ z) sz S o (xs (4 * k + 1))) (vx_cwSW 3 hC.2.2.2.2 gL_law_L_printed rfl rfl rfl hsL_printed ⟨Nat.le_of_ble_eq_true rfl, Nat.le_of_ble_eq_true rfl⟩) rfl rfl (Nat.le_of_ble_eq_true rfl) (by show _ ≤ 601024 ∧ _ ≤ 7293034; omega) dL_law_1486 (q := 1489) rfl ?_
  refine vv_istore hC (i := 5) (lv' := (5, .int (nI (cd [1] (tIx (xs (4 * k + 1)) (nI (S.1 79).length))))) :: lvL b z (4 * k)) dL_law_1489 (by decide) rfl (q := 1491) rfl ?_
  refine vv_aload_n hC 3 dL_law_1491 rfl rfl (q := 1492) rfl ?_
  refine vv_aload_n hC 1 dL_law_1492 rfl rfl (q := 1493) rfl ?_
  refine vv_iload hC 5 dL_law_1493 rfl (q := 1495) rfl ?_
  refine vv_iconst hC (v := nI 1) dL_law_1495 rfl (q := 1496) rfl ?_
  refine vv_iaddN hC dL_law_1496 (q := 1497) rfl ?_
  refine vv_sld hC hX hbl X.nb (j := 4 * k + 1) (by omega) (by omega) dL_law_1497 (q := 1498) rfl ?_
  refine vv_lawM hC hK (As := [.int (xs (4 * k + 1))]) (c9_printed l (adM_inj z) T (xs (4 * k + 1)) h1) (cwV 1 hC.2.2.2.2 gL_law_X9_printed rfl rfl rfl hdX9_printed ⟨Nat.le_of_ble_eq_true rfl, Nat.le_of_ble_eq_true rfl⟩) rfl rfl (Nat.le_of_ble_eq_true rfl) (by show _ ≤ 601024 ∧ _ ≤ 7293034; omega) dL_law_1498 (q := 1501) rfl ?_
  refine vv_istore hC (i := 6) (lv' := (6, .int (if mtPd T (xs (4 * k + 1)) = 0 then T.2 23 (tn (xs (4 * k + 1))) else 0)) :: (5, .int (nI (cd [1] (tIx (xs (4 * k + 1)) (nI (S.1 79).length))))) :: lvL b z (4 * k)) dL_law_1501 (by decide) rfl (q := 1503) rfl ?_
  exact law_tail X (by show _ ≤ 601024 ∧ _ ≤ 7293034; omega) (h3.trans h2) (law_h2 (by decide) h2 h4) dL_law_1503 dL_law_1504 dL_law_1507 dL_law_1509 dL_law_1514 dL_law_1516 dL_law_1519 dL_law_1520 dL_law_1521 dL_law_1522 dL_law_1524 dL_law_1525 dL_law_1526 dL_law_1531 (by decide) (vv_widen (by omega) (by omega) (next _ _ _ hR2))
set_option maxRecDepth 100000 in
set_option maxHeartbeats 4000000 in
theorem law_royalties {p : Program} {l : Launch} {e : Env} {s : State} {m : MethodId} {below : List Frame} {meth : Method} {c : Code} {b L z : Nat} {xs : Nat → Int32} {D : va_G} {cI cW cZ cL : ClassId} {Q : State → Prop} {Rel : Nat → sC → sM → Prop} (X : LX l s m c p b L z xs D cI cW cZ cL) (hop : opK_royalties Rel) {k : Nat} (hk : k < 512) (hkL : 4 * k + 4 ≤ L) {S : sC} {T : sM} {o : Int64} (hR : Rel k S T) (next : ∀ (S' : sC) (T' : sM) (o' : Int64), Rel (k + 1) S' T' → vv p l e room_1 s m #[Value.ref b] below meth c 7 (AZ z) s.heap (118 + 6 * (k + 1)) (23300 + 36 * (k + 1)) Q (BL D cI cW cZ cL z S' T' o') 1826 (lvL b z (4 * k)) []) : vv p l e room_1 s m #[Value.ref b] below meth c 7 (AZ z) s.heap (118 + 6 * k) (23300 + 36 * k) Q (BL D cI cW cZ cL z S T o) 1534 (lvL b z (4 * k)) [] := by
  obtain ⟨hC, hK, hz, hE, hN, hX, hbl, hlst, hL⟩ := id X
  obtain ⟨h1, h2, h3, h4, hR2⟩ := hop k S T (xs (4 * k + 1)) hk hR
  refine vv_aload_n hC 1 dL_law_1534 rfl rfl (q := 1535) rfl ?_
  refine vv_aload_n hC 0 dL_law_1535 rfl rfl (q := 1536) rfl ?_
  refine vv_iload hC 4 dL_law_1536 rfl (q := 1538) rfl ?_
  refine vv_iconst hC (v := nI 1) dL_law_1538 rfl (q := 1539) rfl ?_
  refine vv_iaddN hC dL_law_1539 (q := 1540) rfl ?_
  refine vv_sld hC hX hbl X.nb (j := 4 * k + 1) (by omega) (by omega) dL_law_1540 (q := 1541) rfl ?_
  refine vv_aload_n hC 3 dL_law_1541 rfl rfl (q := 1542) rfl ?_
  refine vv_lawW hC hK hz hE hN (As := [.int (xs (4 * k + 1)), .ref (adW z 90)]) (fun sz => cw_royalties l (adW_inj z) hlst (AZ z) sz S o (xs (4 * k + 1))) (vx_cwSW 3 hC.2.2.2.2 gL_law_L_royalties rfl rfl rfl hsL_royalties ⟨Nat.le_of_ble_eq_true rfl, Nat.le_of_ble_eq_true rfl⟩) rfl rfl (Nat.le_of_ble_eq_true rfl) (by show _ ≤ 601024 ∧ _ ≤ 7293034; omega) dL_law_1542 (q := 1545) rfl ?_
  refine vv_istore hC (i := 5) (lv' := (5, .int (nI (cd [1] (tIx (xs (4 * k + 1)) 6)))) :: lvL b z (4 * k)) dL_law_1545 (by decide) rfl (q := 1547) rfl ?_
  refine vv_aload_n hC 3 dL_law_1547 rfl rfl (q := 1548) rfl ?_
  refine vv_aload_n hC 1 dL_law_1548 rfl rfl (q := 1549) rfl ?_
  refine vv_iload hC 5 dL_law_1549 rfl (q := 1551) rfl ?_
  refine vv_iconst hC (v := nI 1) dL_law_1551 rfl (q := 1552) rfl ?_
  refine vv_iaddN hC dL_law_1552 (q := 1553) rfl ?_
  refine vv_sld hC hX hbl X.nb (j := 4 * k + 1) (by omega) (by omega) dL_law_1553 (q := 1554) rfl ?_
  refine vv_lawM hC hK (As := [.int (xs (4 * k + 1))]) (c9_royalties l (adM_inj z) T (xs (4 * k + 1))) (cwV 1 hC.2.2.2.2 gL_law_X9_royalties rfl rfl rfl hdX9_royalties ⟨Nat.le_of_ble_eq_true rfl, Nat.le_of_ble_eq_true rfl⟩) rfl rfl (Nat.le_of_ble_eq_true rfl) (by show _ ≤ 601024 ∧ _ ≤ 7293034; omega) dL_law_1554 (q := 1557) rfl ?_
  refine vv_istore hC (i := 6) (lv' := (6, .int (if mtW (xs (4 * k + 1)) = 0 then T.2 12 (tn (xs (4 * k + 1))) else 0)) :: (5, .int (nI (cd [1] (tIx (xs (4 * k + 1)) 6)))) :: lvL b z (4 * k)) dL_law_1557 (by decide) rfl (q := 1559) rfl ?_
  exact law_tail X (by show _ ≤ 601024 ∧ _ ≤ 7293034; omega) (h3.trans h2) (law_h2 (by decide) h2 h4) dL_law_1559 dL_law_1560 dL_law_1563 dL_law_1565 dL_law_1570 dL_law_1572 dL_law_1575 dL_law_1576 dL_law_1577 dL_law_1578 dL_law_1580 dL_law_1581 dL_law_1582 dL_law_1587 (by decide) (vv_widen (by omega) (by omega) (next _ _ _ hR2))
set_option maxRecDepth 100000 in
set_option maxHeartbeats 4000000 in
theorem law_comment {p : Program} {l : Launch} {e : Env} {s : State} {m : MethodId} {below : List Frame} {meth : Method} {c : Code} {b L z : Nat} {xs : Nat → Int32} {D : va_G} {cI cW cZ cL : ClassId} {Q : State → Prop} {Rel : Nat → sC → sM → Prop} (X : LX l s m c p b L z xs D cI cW cZ cL) (hop : opK_comment Rel) {k : Nat} (hk : k < 512) (hkL : 4 * k + 4 ≤ L) {S : sC} {T : sM} {o : Int64} (hR : Rel k S T) (next : ∀ (S' : sC) (T' : sM) (o' : Int64), Rel (k + 1) S' T' → vv p l e room_1 s m #[Value.ref b] below meth c 7 (AZ z) s.heap (118 + 6 * (k + 1)) (23300 + 36 * (k + 1)) Q (BL D cI cW cZ cL z S' T' o') 1826 (lvL b z (4 * k)) []) : vv p l e room_1 s m #[Value.ref b] below meth c 7 (AZ z) s.heap (118 + 6 * k) (23300 + 36 * k) Q (BL D cI cW cZ cL z S T o) 1590 (lvL b z (4 * k)) [] := by
  obtain ⟨hC, hK, hz, hE, hN, hX, hbl, hlst, hL⟩ := id X
  obtain ⟨h1, h2, h3, h4, hR2⟩ := hop k S T (xs (4 * k + 1)) (xs (4 * k + 2)) hk hR
  refine vv_aload_n hC 1 dL_law_1590 rfl rfl (q := 1591) rfl ?_
  refine vv_aload_n hC 0 dL_law_1591 rfl rfl (q := 1592) rfl ?_
  refine vv_iload hC 4 dL_law_1592 rfl (q := 1594) rfl ?_
  refine vv_iconst hC (v := nI 1) dL_law_1594 rfl (q := 1595) rfl ?_
  refine vv_iaddN hC dL_law_1595 (q := 1596) rfl ?_
  refine vv_sld hC hX hbl X.nb (j := 4 * k + 1) (by omega) (by omega) dL_law_1596 (q := 1597) rfl ?_
  refine vv_aload_n hC 0 dL_law_1597 rfl rfl (q := 1598) rfl ?_
  refine vv_iload hC 4 dL_law_1598 rfl (q := 1600) rfl ?_
  refine vv_iconst hC (v := nI 2) dL_law_1600 rfl (q := 1601) rfl ?_
  refine vv_iaddN hC dL_law_1601 (q := 1602) rfl ?_
  refine vv_sld hC hX hbl X.nb (j := 4 * k + 2) (by omega) (by omega) dL_law_1602 (q := 1603) rfl ?_
  refine vv_aload_n hC 3 dL_law_1603 rfl rfl (q := 1604) rfl ?_
  refine vv_lawW hC hK hz hE hN (As := [.int (xs (4 * k + 1)), .int (xs (4 * k + 2)), .ref (adW z 90)]) (fun sz => cw_comment l (adW_inj z) hlst (AZ z) sz S o (xs (4 * k + 1)) (xs (4 * k + 2))) (vx_cwSW 4 hC.2.2.2.2 gL_law_L_comment rfl rfl rfl hsL_comment ⟨Nat.le_of_ble_eq_true rfl, Nat.le_of_ble_eq_true rfl⟩) rfl rfl (Nat.le_of_ble_eq_true rfl) (by show _ ≤ 601024 ∧ _ ≤ 7293034; omega) dL_law_1604 (q := 1607) rfl ?_
  refine vv_istore hC (i := 5) (lv' := (5, .int (nI (cd [1, 2, 3] (tComment S (xs (4 * k + 1)) (xs (4 * k + 2)))))) :: lvL b z (4 * k)) dL_law_1607 (by decide) rfl (q := 1609) rfl ?_
  refine vv_aload_n hC 3 dL_law_1609 rfl rfl (q := 1610) rfl ?_
  refine vv_aload_n hC 1 dL_law_1610 rfl rfl (q := 1611) rfl ?_
  refine vv_iload hC 5 dL_law_1611 rfl (q := 1613) rfl ?_
  refine vv_iconst hC (v := nI 1) dL_law_1613 rfl (q := 1614) rfl ?_
  refine vv_iaddN hC dL_law_1614 (q := 1615) rfl ?_
  refine vv_sld hC hX hbl X.nb (j := 4 * k + 1) (by omega) (by omega) dL_law_1615 (q := 1616) rfl ?_
  refine vv_aload_n hC 1 dL_law_1616 rfl rfl (q := 1617) rfl ?_
  refine vv_iload hC 5 dL_law_1617 rfl (q := 1619) rfl ?_
  refine vv_iconst hC (v := nI 2) dL_law_1619 rfl (q := 1620) rfl ?_
  refine vv_iaddN hC dL_law_1620 (q := 1621) rfl ?_
  refine vv_sld hC hX hbl X.nb (j := 4 * k + 2) (by omega) (by omega) dL_law_1621 (q := 1622) rfl ?_
  refine vv_lawM hC hK (As := [.int (xs (4 * k + 1)), .int (xs (4 * k + 2))]) (c9_comment l (adM_inj z) T (xs (4 * k + 1)) (xs (4 * k + 2)) h1) (cwV 2 hC.2.2.2.2 gL_law_X9_comment rfl rfl rfl hdX9_comment ⟨Nat.le_of_ble_eq_true rfl, Nat.le_of_ble_eq_true rfl⟩) rfl rfl (Nat.le_of_ble_eq_true rfl) (by show _ ≤ 601024 ∧ _ ≤ 7293034; omega) dL_law_1622 (q := 1625) rfl ?_
  refine vv_istore hC (i := 6) (lv' := (6, .int (if mtCom T (xs (4 * k + 1)) (xs (4 * k + 2)) = 0 then nI (T.1 30) else 0)) :: (5, .int (nI (cd [1, 2, 3] (tComment S (xs (4 * k + 1)) (xs (4 * k + 2)))))) :: lvL b z (4 * k)) dL_law_1625 (by decide) rfl (q := 1627) rfl ?_
  exact law_tail X (by show _ ≤ 601024 ∧ _ ≤ 7293034; omega) (h3.trans h2) (law_h2 (by decide) h2 h4) dL_law_1627 dL_law_1628 dL_law_1631 dL_law_1633 dL_law_1638 dL_law_1640 dL_law_1643 dL_law_1644 dL_law_1645 dL_law_1646 dL_law_1648 dL_law_1649 dL_law_1650 dL_law_1655 (by decide) (vv_widen (by omega) (by omega) (next _ _ _ hR2))
set_option maxRecDepth 100000 in
set_option maxHeartbeats 4000000 in
theorem law_span {p : Program} {l : Launch} {e : Env} {s : State} {m : MethodId} {below : List Frame} {meth : Method} {c : Code} {b L z : Nat} {xs : Nat → Int32} {D : va_G} {cI cW cZ cL : ClassId} {Q : State → Prop} {Rel : Nat → sC → sM → Prop} (X : LX l s m c p b L z xs D cI cW cZ cL) (hop : opK_span Rel) {k : Nat} (hk : k < 512) (hkL : 4 * k + 4 ≤ L) {S : sC} {T : sM} {o : Int64} (hR : Rel k S T) (next : ∀ (S' : sC) (T' : sM) (o' : Int64), Rel (k + 1) S' T' → vv p l e room_1 s m #[Value.ref b] below meth c 7 (AZ z) s.heap (118 + 6 * (k + 1)) (23300 + 36 * (k + 1)) Q (BL D cI cW cZ cL z S' T' o') 1826 (lvL b z (4 * k)) []) : vv p l e room_1 s m #[Value.ref b] below meth c 7 (AZ z) s.heap (118 + 6 * k) (23300 + 36 * k) Q (BL D cI cW cZ cL z S T o) 1658 (lvL b z (4 * k)) [] := by
  obtain ⟨hC, hK, hz, hE, hN, hX, hbl, hlst, hL⟩ := id X
  obtain ⟨h1, h2, h3, h4, hR2⟩ := hop k S T (xs (4 * k + 1)) hk hR
  refine vv_aload_n hC 1 dL_law_1658 rfl rfl (q := 1659) rfl ?_
  refine vv_aload_n hC 0 dL_law_1659 rfl rfl (q := 1660) rfl ?_
  refine vv_iload hC 4 dL_law_1660 rfl (q := 1662) rfl ?_
  refine vv_iconst hC (v := nI 1) dL_law_1662 rfl (q := 1663) rfl ?_
  refine vv_iaddN hC dL_law_1663 (q := 1664) rfl ?_
  refine vv_sld hC hX hbl X.nb (j := 4 * k + 1) (by omega) (by omega) dL_law_1664 (q := 1665) rfl ?_
  refine vv_aload_n hC 3 dL_law_1665 rfl rfl (q := 1666) rfl ?_
  refine vv_lawW hC hK hz hE hN (As := [.int (xs (4 * k + 1)), .ref (adW z 90)]) (fun sz => cw_span l (adW_inj z) hlst (AZ z) sz S o (xs (4 * k + 1))) (vx_cwSW 3 hC.2.2.2.2 gL_law_L_span rfl rfl rfl hsL_span ⟨Nat.le_of_ble_eq_true rfl, Nat.le_of_ble_eq_true rfl⟩) rfl rfl (Nat.le_of_ble_eq_true rfl) (by show _ ≤ 601024 ∧ _ ≤ 7293034; omega) dL_law_1666 (q := 1669) rfl ?_
  refine vv_istore hC (i := 5) (lv' := (5, .int (nI (cd [1] (tIx (xs (4 * k + 1)) (nI (S.1 86).length))))) :: lvL b z (4 * k)) dL_law_1669 (by decide) rfl (q := 1671) rfl ?_
  refine vv_aload_n hC 3 dL_law_1671 rfl rfl (q := 1672) rfl ?_
  refine vv_aload_n hC 1 dL_law_1672 rfl rfl (q := 1673) rfl ?_
  refine vv_iload hC 5 dL_law_1673 rfl (q := 1675) rfl ?_
  refine vv_iconst hC (v := nI 1) dL_law_1675 rfl (q := 1676) rfl ?_
  refine vv_iaddN hC dL_law_1676 (q := 1677) rfl ?_
  refine vv_sld hC hX hbl X.nb (j := 4 * k + 1) (by omega) (by omega) dL_law_1677 (q := 1678) rfl ?_
  refine vv_lawM hC hK (As := [.int (xs (4 * k + 1))]) (c9_span l (adM_inj z) T (xs (4 * k + 1)) h1) (cwV 1 hC.2.2.2.2 gL_law_X9_span rfl rfl rfl hdX9_span ⟨Nat.le_of_ble_eq_true rfl, Nat.le_of_ble_eq_true rfl⟩) rfl rfl (Nat.le_of_ble_eq_true rfl) (by show _ ≤ 601024 ∧ _ ≤ 7293034; omega) dL_law_1678 (q := 1681) rfl ?_
  refine vv_istore hC (i := 6) (lv' := (6, .int (if mtSpn T (xs (4 * k + 1)) = 0 then mSpn T (tn (xs (4 * k + 1))) else 0)) :: (5, .int (nI (cd [1] (tIx (xs (4 * k + 1)) (nI (S.1 86).length))))) :: lvL b z (4 * k)) dL_law_1681 (by decide) rfl (q := 1683) rfl ?_
  exact law_tail X (by show _ ≤ 601024 ∧ _ ≤ 7293034; omega) (h3.trans h2) (law_h2 (by decide) h2 h4) dL_law_1683 dL_law_1684 dL_law_1687 dL_law_1689 dL_law_1694 dL_law_1696 dL_law_1699 dL_law_1700 dL_law_1701 dL_law_1702 dL_law_1704 dL_law_1705 dL_law_1706 dL_law_1711 (by decide) (vv_widen (by omega) (by omega) (next _ _ _ hR2))
set_option maxRecDepth 100000 in
set_option maxHeartbeats 4000000 in
theorem law_keep {p : Program} {l : Launch} {e : Env} {s : State} {m : MethodId} {below : List Frame} {meth : Method} {c : Code} {b L z : Nat} {xs : Nat → Int32} {D : va_G} {cI cW cZ cL : ClassId} {Q : State → Prop} {Rel : Nat → sC → sM → Prop} (X : LX l s m c p b L z xs D cI cW cZ cL) (hop : opK_keep Rel) {k : Nat} (hk : k < 512) (hkL : 4 * k + 4 ≤ L) {S : sC} {T : sM} {o : Int64} (hR : Rel k S T) (next : ∀ (S' : sC) (T' : sM) (o' : Int64), Rel (k + 1) S' T' → vv p l e room_1 s m #[Value.ref b] below meth c 7 (AZ z) s.heap (118 + 6 * (k + 1)) (23300 + 36 * (k + 1)) Q (BL D cI cW cZ cL z S' T' o') 1826 (lvL b z (4 * k)) []) : vv p l e room_1 s m #[Value.ref b] below meth c 7 (AZ z) s.heap (118 + 6 * k) (23300 + 36 * k) Q (BL D cI cW cZ cL z S T o) 1714 (lvL b z (4 * k)) [] := by
  obtain ⟨hC, hK, hz, hE, hN, hX, hbl, hlst, hL⟩ := id X
  obtain ⟨h1, h2, h3, h4, hR2⟩ := hop k S T hk hR
  refine vv_aload_n hC 1 dL_law_1714 rfl rfl (q := 1715) rfl ?_
  refine vv_aload_n hC 3 dL_law_1715 rfl rfl (q := 1716) rfl ?_
  refine vv_lawW hC hK hz hE hN (As := [.ref (adW z 90)]) (fun sz => cw_keep l (adW_inj z) hlst (AZ z) sz S o ) (vx_cwSW 2 hC.2.2.2.2 gL_law_L_keep rfl rfl rfl hsL_keep ⟨Nat.le_of_ble_eq_true rfl, Nat.le_of_ble_eq_true rfl⟩) rfl rfl (Nat.le_of_ble_eq_true rfl) (by show _ ≤ 601024 ∧ _ ≤ 7293034; omega) dL_law_1716 (q := 1719) rfl ?_
  refine vv_istore hC (i := 5) (lv' := (5, .int (nI (cd [3] (tKeep S)))) :: lvL b z (4 * k)) dL_law_1719 (by decide) rfl (q := 1721) rfl ?_
  refine vv_aload_n hC 3 dL_law_1721 rfl rfl (q := 1722) rfl ?_
  refine vv_lawM hC hK (As := []) (c9_keep l (adM_inj z) T  h1) (cwV 0 hC.2.2.2.2 gL_law_X9_keep rfl rfl rfl hdX9_keep ⟨Nat.le_of_ble_eq_true rfl, Nat.le_of_ble_eq_true rfl⟩) rfl rfl (Nat.le_of_ble_eq_true rfl) (by show _ ≤ 601024 ∧ _ ≤ 7293034; omega) dL_law_1722 (q := 1725) rfl ?_
  refine vv_istore hC (i := 6) (lv' := (6, .int (if mtKp T = 0 then nI (T.1 33) else 0)) :: (5, .int (nI (cd [3] (tKeep S)))) :: lvL b z (4 * k)) dL_law_1725 (by decide) rfl (q := 1727) rfl ?_
  exact law_tail X (by show _ ≤ 601024 ∧ _ ≤ 7293034; omega) (h3.trans h2) (law_h2 (by decide) h2 h4) dL_law_1727 dL_law_1728 dL_law_1731 dL_law_1733 dL_law_1738 dL_law_1740 dL_law_1743 dL_law_1744 dL_law_1745 dL_law_1746 dL_law_1748 dL_law_1749 dL_law_1750 dL_law_1755 (by decide) (vv_widen (by omega) (by omega) (next _ _ _ hR2))
set_option maxRecDepth 100000 in
set_option maxHeartbeats 4000000 in
theorem law_compare {p : Program} {l : Launch} {e : Env} {s : State} {m : MethodId} {below : List Frame} {meth : Method} {c : Code} {b L z : Nat} {xs : Nat → Int32} {D : va_G} {cI cW cZ cL : ClassId} {Q : State → Prop} {Rel : Nat → sC → sM → Prop} (X : LX l s m c p b L z xs D cI cW cZ cL) (hop : opK_compare Rel) {k : Nat} (hk : k < 512) (hkL : 4 * k + 4 ≤ L) {S : sC} {T : sM} {o : Int64} (hR : Rel k S T) (next : ∀ (S' : sC) (T' : sM) (o' : Int64), Rel (k + 1) S' T' → vv p l e room_1 s m #[Value.ref b] below meth c 7 (AZ z) s.heap (118 + 6 * (k + 1)) (23300 + 36 * (k + 1)) Q (BL D cI cW cZ cL z S' T' o') 1826 (lvL b z (4 * k)) []) : vv p l e room_1 s m #[Value.ref b] below meth c 7 (AZ z) s.heap (118 + 6 * k) (23300 + 36 * k) Q (BL D cI cW cZ cL z S T o) 1758 (lvL b z (4 * k)) [] := by
  obtain ⟨hC, hK, hz, hE, hN, hX, hbl, hlst, hL⟩ := id X
  obtain ⟨h1, h2, h3, h4, hR2⟩ := hop k S T (xs (4 * k + 1)) (xs (4 * k + 2)) hk hR
  refine vv_aload_n hC 1 dL_law_1758 rfl rfl (q := 1759) rfl ?_
  refine vv_aload_n hC 0 dL_law_1759 rfl rfl (q := 1760) rfl ?_
  refine vv_iload hC 4 dL_law_1760 rfl (q := 1762) rfl ?_
  refine vv_iconst hC (v := nI 1) dL_law_1762 rfl (q := 1763) rfl ?_
  refine vv_iaddN hC dL_law_1763 (q := 1764) rfl ?_
  refine vv_sld hC hX hbl X.nb (j := 4 * k + 1) (by omega) (by omega) dL_law_1764 (q := 1765) rfl ?_
  refine vv_aload_n hC 0 dL_law_1765 rfl rfl (q := 1766) rfl ?_
  refine vv_iload hC 4 dL_law_1766 rfl (q := 1768) rfl ?_
  refine vv_iconst hC (v := nI 2) dL_law_1768 rfl (q := 1769) rfl ?_
  refine vv_iaddN hC dL_law_1769 (q := 1770) rfl ?_
  refine vv_sld hC hX hbl X.nb (j := 4 * k + 2) (by omega) (by omega) dL_law_1770 (q := 1771) rfl ?_
  refine vv_aload_n hC 3 dL_law_1771 rfl rfl (q := 1772) rfl ?_
  refine vv_lawW hC hK hz hE hN (As := [.int (xs (4 * k + 1)), .int (xs (4 * k + 2)), .ref (adW z 90)]) (fun sz => cw_compare l (adW_inj z) hlst (AZ z) sz S o (xs (4 * k + 1)) (xs (4 * k + 2))) (vx_cwSW 4 hC.2.2.2.2 gL_law_L_compare rfl rfl rfl hsL_compare ⟨Nat.le_of_ble_eq_true rfl, Nat.le_of_ble_eq_true rfl⟩) rfl rfl (Nat.le_of_ble_eq_true rfl) (by show _ ≤ 601024 ∧ _ ≤ 7293034; omega) dL_law_1772 (q := 1775) rfl ?_
  refine vv_istore hC (i := 5) (lv' := (5, .int (nI (cd [1] (tCompare S (xs (4 * k + 1)) (xs (4 * k + 2)))))) :: lvL b z (4 * k)) dL_law_1775 (by decide) rfl (q := 1777) rfl ?_
  refine vv_aload_n hC 3 dL_law_1777 rfl rfl (q := 1778) rfl ?_
  refine vv_aload_n hC 1 dL_law_1778 rfl rfl (q := 1779) rfl ?_
  refine vv_iload hC 5 dL_law_1779 rfl (q := 1781) rfl ?_
  refine vv_iconst hC (v := nI 1) dL_law_1781 rfl (q := 1782) rfl ?_
  refine vv_iaddN hC dL_law_1782 (q := 1783) rfl ?_
  refine vv_sld hC hX hbl X.nb (j := 4 * k + 1) (by omega) (by omega) dL_law_1783 (q := 1784) rfl ?_
  refine vv_aload_n hC 1 dL_law_1784 rfl rfl (q := 1785) rfl ?_
  refine vv_iload hC 5 dL_law_1785 rfl (q := 1787) rfl ?_
  refine vv_iconst hC (v := nI 2) dL_law_1787 rfl (q := 1788) rfl ?_
  refine vv_iaddN hC dL_law_1788 (q := 1789) rfl ?_
  refine vv_sld hC hX hbl X.nb (j := 4 * k + 2) (by omega) (by omega) dL_law_1789 (q := 1790) rfl ?_
  refine vv_lawM hC hK (As := [.int (xs (4 * k + 1)), .int (xs (4 * k + 2))]) (c9_compare l (adM_inj z) T (xs (4 * k + 1)) (xs (4 * k + 2)) h1) (cwV 2 hC.2.2.2.2 gL_law_X9_compare rfl rfl rfl hdX9_compare ⟨Nat.le_of_ble_eq_true rfl, Nat.le_of_ble_eq_true rfl⟩) rfl rfl (Nat.le_of_ble_eq_true rfl) (by show _ ≤ 601024 ∧ _ ≤ 7293034; omega) dL_law_1790 (q := 1793) rfl ?_
  refine vv_istore hC (i := 6) (lv' := (6, .int (if mtCmp T (xs (4 * k + 1)) (xs (4 * k + 2)) = 0 then nI (1000 * mOnl T (tn (xs (4 * k + 2))) (tn (xs (4 * k + 1))) 300 + mOnl T (tn (xs (4 * k + 1))) (tn (xs (4 * k + 2))) 300) else 0)) :: (5, .int (nI (cd [1] (tCompare S (xs (4 * k + 1)) (xs (4 * k + 2)))))) :: lvL b z (4 * k)) dL_law_1793 (by decide) rfl (q := 1795) rfl ?_
  exact law_tail X (by show _ ≤ 601024 ∧ _ ≤ 7293034; omega) (h3.trans h2) (law_h2 (by decide) h2 h4) dL_law_1795 dL_law_1796 dL_law_1799 dL_law_1801 dL_law_1806 dL_law_1808 dL_law_1811 dL_law_1812 dL_law_1813 dL_law_1814 dL_law_1816 dL_law_1817 dL_law_1818 dL_law_1823 (by decide) (vv_widen (by omega) (by omega) (next _ _ _ hR2))
