/-! the law's walk, a case a theorem -/
abbrev LC (p : Program) (s : State) (m : MethodId) (meth : Method) (c : Code) (b L : Nat) (xs : Nat → Int32) : Prop := p.tables.exec = Jvm.exec ∧ c.code = code ∧ meth.sig.returnType = ret ∧ c.maxLocals = 4 ∧ s.vm.findClass "TurnedAboutLaw" = some m.cls ∧ (∀ w ∈ tblG, w.before #[Value.ref b] s = true) ∧ va_X b L xs s s.heap ∧ b < s.heap.size ∧ meth.locks = false ∧ (Jvm.Cond.and given_1 narrow_1).before #[Value.ref b] s = true
theorem lg_cmp_self (x : Int64) : lg_cmp x x = 0 := by
  unfold lg_cmp
  rw [if_neg (by intro h; exact absurd (Int64.lt_iff_toInt_lt.mp h) (by omega)), if_pos rfl]
theorem S_arg {p : Program} {l : Launch} {e : Env} {R : Room} {s : State} {m : MethodId} {args : Array Value} {below : List Frame} {meth : Method} {c : Code} {H : Heap} {locs : List Loc} {cells slots : Nat} {Q : State → Prop} {cc : ByteArray} {pc : Nat} {ls : Array Slot} {rest : List Value} {A : Nat → Prop} {H0 : Heap} {b L n k : Nat} {xs : Nat → Int32} {x1 x2 : Nat} {kk : Int} (hx : p.tables.exec = Jvm.exec) (hb : c.code = cc) (hX : va_X b L xs s H0) (hbl : b < H0.size) (hbA : ¬ A b) (hS : va_S A H0 H locs) (hl : lv_has ls 4 [(0, .ref b), (1, .ref x1), (2, .ref x2), (3, .int (nI n))]) (hn : n + k < L) (hL : L < 2 ^ 31)
    (d0 : decode cc pc = .ok (.aload_n 0, 1)) (d1 : decode cc (pc + 1) = .ok (.iload_n 3, 1)) (d2 : decode cc (pc + 1 + 1) = .ok (.iconst kk, 1)) (d3 : decode cc (pc + 1 + 1 + 1) = .ok (.iadd, 1)) (d4 : decode cc (pc + 1 + 1 + 1 + 1) = .ok (.iaload, 1)) (hk : Int32.ofInt kk = nI k)
    (kt : W p l e R s m args below meth c H locs cells slots Q (F0 m (pc + 1 + 1 + 1 + 1 + 1) ls (.int (xs (n + k)) :: rest))) : W p l e R s m args below meth c H locs cells slots Q (F0 m pc ls rest) := by
  refine lv_aload_n hx hb d0 rfl (lv_at hl 0 rfl) ?_
  refine lv_iload_n hx hb d1 rfl (lv_at hl 3 rfl) ?_
  refine lv_iconst (v := nI k) hx hb d2 hk ?_
  refine lv_iadd hx hb d3 ?_
  rw [nI_add]
  refine va_sld hx hb hX hbl hbA hS (vp_in_nI hn hL) d4 ?_
  rw [nI_clamp (by omega)]
  exact kt
set_option maxHeartbeats 4000000 in
set_option maxRecDepth 100000 in
theorem law_0 {p : Program} {l : Launch} {e : Env} {s : State} {m : MethodId} {below : List Frame} {meth : Method} {c : Code} {b L : Nat} {xs : Nat → Int32} {g : tG} {A : Nat → Prop} (C : LC p s m meth c b L xs) (hK : tK g s) (hZ : tZ g A s s.heap) (hA : ∀ q, s.heap.size ≤ q → A q) (hbA : ¬ A b) {n : Nat} (hn : n + 6 ≤ L) (hL : L ≤ 3072) {σ : Hp} (hI : Inv σ) {P : Nat → Nat} {H : Heap} {locs : List Loc} {ls : Array Slot} {cells slots : Nat} (hB : tB g P σ A s.heap H locs) (hl : lv_has ls 4 [(0, .ref b), (1, .ref (gL g 0)), (2, .ref (gL g 40)), (3, .int (nI n))]) (hc : cells + 161 ≤ 600000) (hs : slots + 322 ≤ 7302250) {Q : State → Prop} (next : ∀ (P : Nat → Nat) (σ2 : Hp) (H : Heap) (locs : List Loc) (ls : Array Slot), Inv σ2 → tB g P σ2 A s.heap H locs → lv_has ls 4 [(0, .ref b), (1, .ref (gL g 0)), (2, .ref (gL g 40)), (3, .int (nI n))] → W p l e room_1 s m #[Value.ref b] below meth c H locs (cells + 161) (slots + 322) Q (F0 m 2235 ls [])) : W p l e room_1 s m #[Value.ref b] below meth c H locs cells slots Q (F0 m 224 ls []) := by
  obtain ⟨hx, hb, hr, hml, hown, ht, hX, hbl, hlocks, hgv⟩ := id C
  obtain ⟨r, σ1, σ2, h1, h2, hI2⟩ := op_row σ hI (xs (n + 1)) (xs (n + 2)) (xs (n + 3))
  refine lv_aload_n hx hb dL_law_224 rfl (lv_at hl 1 rfl) ?_
  refine S_arg (k := 1) hx hb C.2.2.2.2.2.2.1 C.2.2.2.2.2.2.2.1 hbA hB.2.2 hl (by omega) (by omega) dL_law_225 dL_law_226 dL_law_227 dL_law_228 dL_law_229 (by decide) ?_
  refine S_arg (k := 2) hx hb C.2.2.2.2.2.2.1 C.2.2.2.2.2.2.2.1 hbA hB.2.2 hl (by omega) (by omega) dL_law_230 dL_law_231 dL_law_232 dL_law_233 dL_law_234 (by decide) ?_
  refine S_arg (k := 3) hx hb C.2.2.2.2.2.2.1 C.2.2.2.2.2.2.2.1 hbA hB.2.2 hl (by omega) (by omega) dL_law_235 dL_law_236 dL_law_237 dL_law_238 dL_law_239 (by decide) ?_
  refine R_call (rest := []) [.int r] (R_runV (n := 3) (As := [.int (xs (n + 1)), .int (xs (n + 2)), .int (xs (n + 3))]) ⟨hx, hb, hml, hown, ht⟩ (fun _ h9 => h9) hK hZ hA hB (c_X11_row l g P σ (xs (n + 1)) (xs (n + 2)) (xs (n + 3)) H.size h1) (R_recv hK hB (by decide) (cell_0 rfl) rfl) tw170 tw167 tw168 tw169 tw1 ⟨by decide, by decide, by decide⟩ rfl rfl ⟨Nat.le_of_ble_eq_true rfl, Nat.le_of_ble_eq_true rfl⟩ rfl hl.1 rfl (Nat.le_of_ble_eq_true rfl) dL_law_240 ⟨by show cells + 0 ≤ 600000; omega, by show slots + 0 ≤ 7302250; omega⟩) hB hA rfl (fun H locs hB => ?_)
  refine lv_aload_n hx hb dL_law_243 rfl (lv_at hl 2 rfl) ?_
  refine S_arg (k := 1) hx hb C.2.2.2.2.2.2.1 C.2.2.2.2.2.2.2.1 hbA hB.2.2 hl (by omega) (by omega) dL_law_244 dL_law_245 dL_law_246 dL_law_247 dL_law_248 (by decide) ?_
  refine S_arg (k := 2) hx hb C.2.2.2.2.2.2.1 C.2.2.2.2.2.2.2.1 hbA hB.2.2 hl (by omega) (by omega) dL_law_249 dL_law_250 dL_law_251 dL_law_252 dL_law_253 (by decide) ?_
  refine S_arg (k := 3) hx hb C.2.2.2.2.2.2.1 C.2.2.2.2.2.2.2.1 hbA hB.2.2 hl (by omega) (by omega) dL_law_254 dL_law_255 dL_law_256 dL_law_257 dL_law_258 (by decide) ?_
  refine R_call (rest := [.int r]) [.int r, .int r] (R_runV (n := 3) (As := [.int (xs (n + 1)), .int (xs (n + 2)), .int (xs (n + 3))]) ⟨hx, hb, hml, hown, ht⟩ (fun _ h9 => h9) hK hZ hA hB (c_X12_row l g P σ1 (xs (n + 1)) (xs (n + 2)) (xs (n + 3)) H.size h2) (R_recv hK hB (by decide) (cell_8 rfl) rfl) tw1034 tw1031 tw1032 tw1033 tw5 ⟨by decide, by decide, by decide⟩ rfl rfl ⟨Nat.le_of_ble_eq_true rfl, Nat.le_of_ble_eq_true rfl⟩ rfl hl.1 rfl (Nat.le_of_ble_eq_true rfl) dL_law_259 ⟨by show cells + 0 ≤ 600000; omega, by show slots + 0 ≤ 7302250; omega⟩) hB hA rfl (fun H locs hB => ?_)
  refine lv_icmp_eq (tgt := 2235) hx hb dL_law_262 (by decide) (fun _ => ?_) (fun c9 => absurd rfl c9)
  refine W.widen (k := cells + 161) (n := slots + 322) (by omega) (by omega) ?_
  exact next P σ2 H locs ls hI2 hB hl
set_option maxHeartbeats 4000000 in
set_option maxRecDepth 100000 in
theorem law_1 {p : Program} {l : Launch} {e : Env} {s : State} {m : MethodId} {below : List Frame} {meth : Method} {c : Code} {b L : Nat} {xs : Nat → Int32} {g : tG} {A : Nat → Prop} (C : LC p s m meth c b L xs) (hK : tK g s) (hZ : tZ g A s s.heap) (hA : ∀ q, s.heap.size ≤ q → A q) (hbA : ¬ A b) {n : Nat} (hn : n + 6 ≤ L) (hL : L ≤ 3072) {σ : Hp} (hI : Inv σ) {P : Nat → Nat} {H : Heap} {locs : List Loc} {ls : Array Slot} {cells slots : Nat} (hB : tB g P σ A s.heap H locs) (hl : lv_has ls 4 [(0, .ref b), (1, .ref (gL g 0)), (2, .ref (gL g 40)), (3, .int (nI n))]) (hc : cells + 161 ≤ 600000) (hs : slots + 322 ≤ 7302250) {Q : State → Prop} (next : ∀ (P : Nat → Nat) (σ2 : Hp) (H : Heap) (locs : List Loc) (ls : Array Slot), Inv σ2 → tB g P σ2 A s.heap H locs → lv_has ls 4 [(0, .ref b), (1, .ref (gL g 0)), (2, .ref (gL g 40)), (3, .int (nI n))] → W p l e room_1 s m #[Value.ref b] below meth c H locs (cells + 161) (slots + 322) Q (F0 m 2235 ls [])) : W p l e room_1 s m #[Value.ref b] below meth c H locs cells slots Q (F0 m 267 ls []) := by
  obtain ⟨hx, hb, hr, hml, hown, ht, hX, hbl, hlocks, hgv⟩ := id C
  obtain ⟨r, σ1, σ2, h1, h2, hI2⟩ := op_set σ hI (xs (n + 1)) (xs (n + 2)) (((xs (n + 3)).toInt64 <<< ((32 : Int32).toInt64 &&& 63)) ||| ((xs (n + 4)).toInt64 &&& (4294967295 : Int64)))
  refine lv_aload_n hx hb dL_law_267 rfl (lv_at hl 1 rfl) ?_
  refine S_arg (k := 1) hx hb C.2.2.2.2.2.2.1 C.2.2.2.2.2.2.2.1 hbA hB.2.2 hl (by omega) (by omega) dL_law_268 dL_law_269 dL_law_270 dL_law_271 dL_law_272 (by decide) ?_
  refine S_arg (k := 2) hx hb C.2.2.2.2.2.2.1 C.2.2.2.2.2.2.2.1 hbA hB.2.2 hl (by omega) (by omega) dL_law_273 dL_law_274 dL_law_275 dL_law_276 dL_law_277 (by decide) ?_
  refine S_arg (k := 3) hx hb C.2.2.2.2.2.2.1 C.2.2.2.2.2.2.2.1 hbA hB.2.2 hl (by omega) (by omega) dL_law_278 dL_law_279 dL_law_280 dL_law_281 dL_law_282 (by decide) ?_
  refine lv_i2l (v := (xs (n + 3)).toInt64) hx hb dL_law_283 rfl ?_
  refine lv_bipush (v := 32) hx hb dL_law_284 (by decide) ?_
  refine lv_lshl (v := ((xs (n + 3)).toInt64 <<< ((32 : Int32).toInt64 &&& 63))) hx hb dL_law_286 rfl ?_
  refine S_arg (k := 4) hx hb C.2.2.2.2.2.2.1 C.2.2.2.2.2.2.2.1 hbA hB.2.2 hl (by omega) (by omega) dL_law_287 dL_law_288 dL_law_289 dL_law_290 dL_law_291 (by decide) ?_
  refine lv_i2l (v := (xs (n + 4)).toInt64) hx hb dL_law_292 rfl ?_
  refine lv_ldc2 (v := 4294967295) hx hb hown (ht _ tw1356) dL_law_293 ?_
  refine lv_land hx hb dL_law_296 ?_
  refine lv_lor hx hb dL_law_297 ?_
  refine R_call (rest := []) [.int r] (R_runV (n := 3) (As := [.int (xs (n + 1)), .int (xs (n + 2)), .long (((xs (n + 3)).toInt64 <<< ((32 : Int32).toInt64 &&& 63)) ||| ((xs (n + 4)).toInt64 &&& (4294967295 : Int64)))]) ⟨hx, hb, hml, hown, ht⟩ (fun _ h9 => h9) hK hZ hA hB (c_X11_set l g P σ (xs (n + 1)) (xs (n + 2)) (((xs (n + 3)).toInt64 <<< ((32 : Int32).toInt64 &&& 63)) ||| ((xs (n + 4)).toInt64 &&& (4294967295 : Int64))) H.size h1) (R_recv hK hB (by decide) (cell_0 rfl) rfl) tw189 tw186 tw187 tw188 tw1 ⟨by decide, by decide, by decide⟩ rfl rfl ⟨Nat.le_of_ble_eq_true rfl, Nat.le_of_ble_eq_true rfl⟩ rfl hl.1 rfl (Nat.le_of_ble_eq_true rfl) dL_law_298 ⟨by show cells + 0 ≤ 600000; omega, by show slots + 0 ≤ 7302250; omega⟩) hB hA rfl (fun H locs hB => ?_)
  refine lv_aload_n hx hb dL_law_301 rfl (lv_at hl 2 rfl) ?_
  refine S_arg (k := 1) hx hb C.2.2.2.2.2.2.1 C.2.2.2.2.2.2.2.1 hbA hB.2.2 hl (by omega) (by omega) dL_law_302 dL_law_303 dL_law_304 dL_law_305 dL_law_306 (by decide) ?_
  refine S_arg (k := 2) hx hb C.2.2.2.2.2.2.1 C.2.2.2.2.2.2.2.1 hbA hB.2.2 hl (by omega) (by omega) dL_law_307 dL_law_308 dL_law_309 dL_law_310 dL_law_311 (by decide) ?_
  refine S_arg (k := 3) hx hb C.2.2.2.2.2.2.1 C.2.2.2.2.2.2.2.1 hbA hB.2.2 hl (by omega) (by omega) dL_law_312 dL_law_313 dL_law_314 dL_law_315 dL_law_316 (by decide) ?_
  refine lv_i2l (v := (xs (n + 3)).toInt64) hx hb dL_law_317 rfl ?_
  refine lv_bipush (v := 32) hx hb dL_law_318 (by decide) ?_
  refine lv_lshl (v := ((xs (n + 3)).toInt64 <<< ((32 : Int32).toInt64 &&& 63))) hx hb dL_law_320 rfl ?_
  refine S_arg (k := 4) hx hb C.2.2.2.2.2.2.1 C.2.2.2.2.2.2.2.1 hbA hB.2.2 hl (by omega) (by omega) dL_law_321 dL_law_322 dL_law_323 dL_law_324 dL_law_325 (by decide) ?_
  refine lv_i2l (v := (xs (n + 4)).toInt64) hx hb dL_law_326 rfl ?_
  refine lv_ldc2 (v := 4294967295) hx hb hown (ht _ tw1356) dL_law_327 ?_
  refine lv_land hx hb dL_law_330 ?_
  refine lv_lor hx hb dL_law_331 ?_
  refine R_call (rest := [.int r]) [.int r, .int r] (R_runV (n := 3) (As := [.int (xs (n + 1)), .int (xs (n + 2)), .long (((xs (n + 3)).toInt64 <<< ((32 : Int32).toInt64 &&& 63)) ||| ((xs (n + 4)).toInt64 &&& (4294967295 : Int64)))]) ⟨hx, hb, hml, hown, ht⟩ (fun _ h9 => h9) hK hZ hA hB (c_X12_set l g P σ1 (xs (n + 1)) (xs (n + 2)) (((xs (n + 3)).toInt64 <<< ((32 : Int32).toInt64 &&& 63)) ||| ((xs (n + 4)).toInt64 &&& (4294967295 : Int64))) H.size h2) (R_recv hK hB (by decide) (cell_8 rfl) rfl) tw1046 tw1043 tw1044 tw1045 tw5 ⟨by decide, by decide, by decide⟩ rfl rfl ⟨Nat.le_of_ble_eq_true rfl, Nat.le_of_ble_eq_true rfl⟩ rfl hl.1 rfl (Nat.le_of_ble_eq_true rfl) dL_law_332 ⟨by show cells + 0 ≤ 600000; omega, by show slots + 0 ≤ 7302250; omega⟩) hB hA rfl (fun H locs hB => ?_)
  refine lv_icmp_eq (tgt := 2235) hx hb dL_law_335 (by decide) (fun _ => ?_) (fun c9 => absurd rfl c9)
  refine W.widen (k := cells + 161) (n := slots + 322) (by omega) (by omega) ?_
  exact next P σ2 H locs ls hI2 hB hl
set_option maxHeartbeats 4000000 in
set_option maxRecDepth 100000 in
theorem law_2 {p : Program} {l : Launch} {e : Env} {s : State} {m : MethodId} {below : List Frame} {meth : Method} {c : Code} {b L : Nat} {xs : Nat → Int32} {g : tG} {A : Nat → Prop} (C : LC p s m meth c b L xs) (hK : tK g s) (hZ : tZ g A s s.heap) (hA : ∀ q, s.heap.size ≤ q → A q) (hbA : ¬ A b) {n : Nat} (hn : n + 6 ≤ L) (hL : L ≤ 3072) {σ : Hp} (hI : Inv σ) {P : Nat → Nat} {H : Heap} {locs : List Loc} {ls : Array Slot} {cells slots : Nat} (hB : tB g P σ A s.heap H locs) (hl : lv_has ls 4 [(0, .ref b), (1, .ref (gL g 0)), (2, .ref (gL g 40)), (3, .int (nI n))]) (hc : cells + 161 ≤ 600000) (hs : slots + 322 ≤ 7302250) {Q : State → Prop} (next : ∀ (P : Nat → Nat) (σ2 : Hp) (H : Heap) (locs : List Loc) (ls : Array Slot), Inv σ2 → tB g P σ2 A s.heap H locs → lv_has ls 4 [(0, .ref b), (1, .ref (gL g 0)), (2, .ref (gL g 40)), (3, .int (nI n))] → W p l e room_1 s m #[Value.ref b] below meth c H locs (cells + 161) (slots + 322) Q (F0 m 2235 ls [])) : W p l e room_1 s m #[Value.ref b] below meth c H locs cells slots Q (F0 m 340 ls []) := by
  obtain ⟨hx, hb, hr, hml, hown, ht, hX, hbl, hlocks, hgv⟩ := id C
  obtain ⟨r, σ1, σ2, h1, h2, hI2⟩ := op_copy σ hI (xs (n + 1)) (xs (n + 2)) (xs (n + 3)) (xs (n + 4)) (xs (n + 5))
  refine lv_aload_n hx hb dL_law_340 rfl (lv_at hl 1 rfl) ?_
  refine S_arg (k := 1) hx hb C.2.2.2.2.2.2.1 C.2.2.2.2.2.2.2.1 hbA hB.2.2 hl (by omega) (by omega) dL_law_341 dL_law_342 dL_law_343 dL_law_344 dL_law_345 (by decide) ?_
  refine S_arg (k := 2) hx hb C.2.2.2.2.2.2.1 C.2.2.2.2.2.2.2.1 hbA hB.2.2 hl (by omega) (by omega) dL_law_346 dL_law_347 dL_law_348 dL_law_349 dL_law_350 (by decide) ?_
  refine S_arg (k := 3) hx hb C.2.2.2.2.2.2.1 C.2.2.2.2.2.2.2.1 hbA hB.2.2 hl (by omega) (by omega) dL_law_351 dL_law_352 dL_law_353 dL_law_354 dL_law_355 (by decide) ?_
  refine S_arg (k := 4) hx hb C.2.2.2.2.2.2.1 C.2.2.2.2.2.2.2.1 hbA hB.2.2 hl (by omega) (by omega) dL_law_356 dL_law_357 dL_law_358 dL_law_359 dL_law_360 (by decide) ?_
  refine S_arg (k := 5) hx hb C.2.2.2.2.2.2.1 C.2.2.2.2.2.2.2.1 hbA hB.2.2 hl (by omega) (by omega) dL_law_361 dL_law_362 dL_law_363 dL_law_364 dL_law_365 (by decide) ?_
  refine R_call (rest := []) [.int r] (R_runV (n := 5) (As := [.int (xs (n + 1)), .int (xs (n + 2)), .int (xs (n + 3)), .int (xs (n + 4)), .int (xs (n + 5))]) ⟨hx, hb, hml, hown, ht⟩ (fun _ h9 => h9) hK hZ hA hB (c_X11_copy l g P σ (xs (n + 1)) (xs (n + 2)) (xs (n + 3)) (xs (n + 4)) (xs (n + 5)) H.size h1) (R_recv hK hB (by decide) (cell_0 rfl) rfl) tw209 tw206 tw207 tw208 tw1 ⟨by decide, by decide, by decide⟩ rfl rfl ⟨Nat.le_of_ble_eq_true rfl, Nat.le_of_ble_eq_true rfl⟩ rfl hl.1 rfl (Nat.le_of_ble_eq_true rfl) dL_law_366 ⟨by show cells + 0 ≤ 600000; omega, by show slots + 0 ≤ 7302250; omega⟩) hB hA rfl (fun H locs hB => ?_)
  refine lv_aload_n hx hb dL_law_369 rfl (lv_at hl 2 rfl) ?_
  refine S_arg (k := 1) hx hb C.2.2.2.2.2.2.1 C.2.2.2.2.2.2.2.1 hbA hB.2.2 hl (by omega) (by omega) dL_law_370 dL_law_371 dL_law_372 dL_law_373 dL_law_374 (by decide) ?_
  refine S_arg (k := 2) hx hb C.2.2.2.2.2.2.1 C.2.2.2.2.2.2.2.1 hbA hB.2.2 hl (by omega) (by omega) dL_law_375 dL_law_376 dL_law_377 dL_law_378 dL_law_379 (by decide) ?_
  refine S_arg (k := 3) hx hb C.2.2.2.2.2.2.1 C.2.2.2.2.2.2.2.1 hbA hB.2.2 hl (by omega) (by omega) dL_law_380 dL_law_381 dL_law_382 dL_law_383 dL_law_384 (by decide) ?_
  refine S_arg (k := 4) hx hb C.2.2.2.2.2.2.1 C.2.2.2.2.2.2.2.1 hbA hB.2.2 hl (by omega) (by omega) dL_law_385 dL_law_386 dL_law_387 dL_law_388 dL_law_389 (by decide) ?_
  refine S_arg (k := 5) hx hb C.2.2.2.2.2.2.1 C.2.2.2.2.2.2.2.1 hbA hB.2.2 hl (by omega) (by omega) dL_law_390 dL_law_391 dL_law_392 dL_law_393 dL_law_394 (by decide) ?_
  refine R_call (rest := [.int r]) [.int r, .int r] (R_runV (n := 5) (As := [.int (xs (n + 1)), .int (xs (n + 2)), .int (xs (n + 3)), .int (xs (n + 4)), .int (xs (n + 5))]) ⟨hx, hb, hml, hown, ht⟩ (fun _ h9 => h9) hK hZ hA hB (c_X12_copy l g P σ1 (xs (n + 1)) (xs (n + 2)) (xs (n + 3)) (xs (n + 4)) (xs (n + 5)) H.size h2) (R_recv hK hB (by decide) (cell_8 rfl) rfl) tw1050 tw1047 tw1048 tw1049 tw5 ⟨by decide, by decide, by decide⟩ rfl rfl ⟨Nat.le_of_ble_eq_true rfl, Nat.le_of_ble_eq_true rfl⟩ rfl hl.1 rfl (Nat.le_of_ble_eq_true rfl) dL_law_395 ⟨by show cells + 0 ≤ 600000; omega, by show slots + 0 ≤ 7302250; omega⟩) hB hA rfl (fun H locs hB => ?_)
  refine lv_icmp_eq (tgt := 2235) hx hb dL_law_398 (by decide) (fun _ => ?_) (fun c9 => absurd rfl c9)
  refine W.widen (k := cells + 161) (n := slots + 322) (by omega) (by omega) ?_
  exact next P σ2 H locs ls hI2 hB hl
set_option maxHeartbeats 4000000 in
set_option maxRecDepth 100000 in
theorem law_3 {p : Program} {l : Launch} {e : Env} {s : State} {m : MethodId} {below : List Frame} {meth : Method} {c : Code} {b L : Nat} {xs : Nat → Int32} {g : tG} {A : Nat → Prop} (C : LC p s m meth c b L xs) (hK : tK g s) (hZ : tZ g A s s.heap) (hA : ∀ q, s.heap.size ≤ q → A q) (hbA : ¬ A b) {n : Nat} (hn : n + 6 ≤ L) (hL : L ≤ 3072) {σ : Hp} (hI : Inv σ) {P : Nat → Nat} {H : Heap} {locs : List Loc} {ls : Array Slot} {cells slots : Nat} (hB : tB g P σ A s.heap H locs) (hl : lv_has ls 4 [(0, .ref b), (1, .ref (gL g 0)), (2, .ref (gL g 40)), (3, .int (nI n))]) (hc : cells + 161 ≤ 600000) (hs : slots + 322 ≤ 7302250) {Q : State → Prop} (next : ∀ (P : Nat → Nat) (σ2 : Hp) (H : Heap) (locs : List Loc) (ls : Array Slot), Inv σ2 → tB g P σ2 A s.heap H locs → lv_has ls 4 [(0, .ref b), (1, .ref (gL g 0)), (2, .ref (gL g 40)), (3, .int (nI n))] → W p l e room_1 s m #[Value.ref b] below meth c H locs (cells + 161) (slots + 322) Q (F0 m 2235 ls [])) : W p l e room_1 s m #[Value.ref b] below meth c H locs cells slots Q (F0 m 403 ls []) := by
  obtain ⟨hx, hb, hr, hml, hown, ht, hX, hbl, hlocks, hgv⟩ := id C
  obtain ⟨r, σ1, σ2, h1, h2, hI2⟩ := op_element σ hI (xs (n + 1)) (xs (n + 2))
  refine lv_aload_n hx hb dL_law_403 rfl (lv_at hl 1 rfl) ?_
  refine S_arg (k := 1) hx hb C.2.2.2.2.2.2.1 C.2.2.2.2.2.2.2.1 hbA hB.2.2 hl (by omega) (by omega) dL_law_404 dL_law_405 dL_law_406 dL_law_407 dL_law_408 (by decide) ?_
  refine S_arg (k := 2) hx hb C.2.2.2.2.2.2.1 C.2.2.2.2.2.2.2.1 hbA hB.2.2 hl (by omega) (by omega) dL_law_409 dL_law_410 dL_law_411 dL_law_412 dL_law_413 (by decide) ?_
  refine R_call (rest := []) [.long r] (R_runV (n := 2) (As := [.int (xs (n + 1)), .int (xs (n + 2))]) ⟨hx, hb, hml, hown, ht⟩ (fun _ h9 => h9) hK hZ hA hB (c_X11_element l g P σ (xs (n + 1)) (xs (n + 2)) H.size h1) (R_recv hK hB (by decide) (cell_0 rfl) rfl) tw216 tw213 tw214 tw215 tw1 ⟨by decide, by decide, by decide⟩ rfl rfl ⟨Nat.le_of_ble_eq_true rfl, Nat.le_of_ble_eq_true rfl⟩ rfl hl.1 rfl (Nat.le_of_ble_eq_true rfl) dL_law_414 ⟨by show cells + 0 ≤ 600000; omega, by show slots + 0 ≤ 7302250; omega⟩) hB hA rfl (fun H locs hB => ?_)
  refine lv_aload_n hx hb dL_law_417 rfl (lv_at hl 2 rfl) ?_
  refine S_arg (k := 1) hx hb C.2.2.2.2.2.2.1 C.2.2.2.2.2.2.2.1 hbA hB.2.2 hl (by omega) (by omega) dL_law_418 dL_law_419 dL_law_420 dL_law_421 dL_law_422 (by decide) ?_
  refine S_arg (k := 2) hx hb C.2.2.2.2.2.2.1 C.2.2.2.2.2.2.2.1 hbA hB.2.2 hl (by omega) (by omega) dL_law_423 dL_law_424 dL_law_425 dL_law_426 dL_law_427 (by decide) ?_
  refine R_call (rest := [.long r]) [.long r, .long r] (R_runV (n := 2) (As := [.int (xs (n + 1)), .int (xs (n + 2))]) ⟨hx, hb, hml, hown, ht⟩ (fun _ h9 => h9) hK hZ hA hB (c_X12_element l g P σ1 (xs (n + 1)) (xs (n + 2)) H.size h2) (R_recv hK hB (by decide) (cell_8 rfl) rfl) tw1054 tw1051 tw1052 tw1053 tw5 ⟨by decide, by decide, by decide⟩ rfl rfl ⟨Nat.le_of_ble_eq_true rfl, Nat.le_of_ble_eq_true rfl⟩ rfl hl.1 rfl (Nat.le_of_ble_eq_true rfl) dL_law_428 ⟨by show cells + 0 ≤ 600000; omega, by show slots + 0 ≤ 7302250; omega⟩) hB hA rfl (fun H locs hB => ?_)
  refine W.lcmp hx hb dL_law_431 ?_
  refine lv_if_eq (tgt := 2235) hx hb dL_law_432 (by decide) (fun _ => ?_) (fun c9 => absurd (lg_cmp_self r) c9)
  refine W.widen (k := cells + 161) (n := slots + 322) (by omega) (by omega) ?_
  exact next P σ2 H locs ls hI2 hB hl
set_option maxHeartbeats 4000000 in
set_option maxRecDepth 100000 in
theorem law_4 {p : Program} {l : Launch} {e : Env} {s : State} {m : MethodId} {below : List Frame} {meth : Method} {c : Code} {b L : Nat} {xs : Nat → Int32} {g : tG} {A : Nat → Prop} (C : LC p s m meth c b L xs) (hK : tK g s) (hZ : tZ g A s s.heap) (hA : ∀ q, s.heap.size ≤ q → A q) (hbA : ¬ A b) {n : Nat} (hn : n + 6 ≤ L) (hL : L ≤ 3072) {σ : Hp} (hI : Inv σ) {P : Nat → Nat} {H : Heap} {locs : List Loc} {ls : Array Slot} {cells slots : Nat} (hB : tB g P σ A s.heap H locs) (hl : lv_has ls 4 [(0, .ref b), (1, .ref (gL g 0)), (2, .ref (gL g 40)), (3, .int (nI n))]) (hc : cells + 161 ≤ 600000) (hs : slots + 322 ≤ 7302250) {Q : State → Prop} (next : ∀ (P : Nat → Nat) (σ2 : Hp) (H : Heap) (locs : List Loc) (ls : Array Slot), Inv σ2 → tB g P σ2 A s.heap H locs → lv_has ls 4 [(0, .ref b), (1, .ref (gL g 0)), (2, .ref (gL g 40)), (3, .int (nI n))] → W p l e room_1 s m #[Value.ref b] below meth c H locs (cells + 161) (slots + 322) Q (F0 m 2235 ls [])) : W p l e room_1 s m #[Value.ref b] below meth c H locs cells slots Q (F0 m 437 ls []) := by
  obtain ⟨hx, hb, hr, hml, hown, ht, hX, hbl, hlocks, hgv⟩ := id C
  obtain ⟨r, σ1, σ2, h1, h2, hI2⟩ := op_show σ hI (xs (n + 1)) (xs (n + 2))
  refine lv_aload_n hx hb dL_law_437 rfl (lv_at hl 1 rfl) ?_
  refine S_arg (k := 1) hx hb C.2.2.2.2.2.2.1 C.2.2.2.2.2.2.2.1 hbA hB.2.2 hl (by omega) (by omega) dL_law_438 dL_law_439 dL_law_440 dL_law_441 dL_law_442 (by decide) ?_
  refine S_arg (k := 2) hx hb C.2.2.2.2.2.2.1 C.2.2.2.2.2.2.2.1 hbA hB.2.2 hl (by omega) (by omega) dL_law_443 dL_law_444 dL_law_445 dL_law_446 dL_law_447 (by decide) ?_
  refine R_call (rest := []) [.int r] (R_runV (n := 2) (As := [.int (xs (n + 1)), .int (xs (n + 2))]) ⟨hx, hb, hml, hown, ht⟩ (fun _ h9 => h9) hK hZ hA hB (c_X11_show l g P σ (xs (n + 1)) (xs (n + 2)) H.size h1) (R_recv hK hB (by decide) (cell_0 rfl) rfl) tw224 tw221 tw222 tw223 tw1 ⟨by decide, by decide, by decide⟩ rfl rfl ⟨Nat.le_of_ble_eq_true rfl, Nat.le_of_ble_eq_true rfl⟩ rfl hl.1 rfl (Nat.le_of_ble_eq_true rfl) dL_law_448 ⟨by show cells + 0 ≤ 600000; omega, by show slots + 0 ≤ 7302250; omega⟩) hB hA rfl (fun H locs hB => ?_)
  refine lv_aload_n hx hb dL_law_451 rfl (lv_at hl 2 rfl) ?_
  refine S_arg (k := 1) hx hb C.2.2.2.2.2.2.1 C.2.2.2.2.2.2.2.1 hbA hB.2.2 hl (by omega) (by omega) dL_law_452 dL_law_453 dL_law_454 dL_law_455 dL_law_456 (by decide) ?_
  refine S_arg (k := 2) hx hb C.2.2.2.2.2.2.1 C.2.2.2.2.2.2.2.1 hbA hB.2.2 hl (by omega) (by omega) dL_law_457 dL_law_458 dL_law_459 dL_law_460 dL_law_461 (by decide) ?_
  refine R_call (rest := [.int r]) [.int r, .int r] (R_runV (n := 2) (As := [.int (xs (n + 1)), .int (xs (n + 2))]) ⟨hx, hb, hml, hown, ht⟩ (fun _ h9 => h9) hK hZ hA hB (c_X12_show l g P σ1 (xs (n + 1)) (xs (n + 2)) H.size h2) (R_recv hK hB (by decide) (cell_8 rfl) rfl) tw1058 tw1055 tw1056 tw1057 tw5 ⟨by decide, by decide, by decide⟩ rfl rfl ⟨Nat.le_of_ble_eq_true rfl, Nat.le_of_ble_eq_true rfl⟩ rfl hl.1 rfl (Nat.le_of_ble_eq_true rfl) dL_law_462 ⟨by show cells + 0 ≤ 600000; omega, by show slots + 0 ≤ 7302250; omega⟩) hB hA rfl (fun H locs hB => ?_)
  refine lv_icmp_eq (tgt := 2235) hx hb dL_law_465 (by decide) (fun _ => ?_) (fun c9 => absurd rfl c9)
  refine W.widen (k := cells + 161) (n := slots + 322) (by omega) (by omega) ?_
  exact next P σ2 H locs ls hI2 hB hl
set_option maxHeartbeats 4000000 in
set_option maxRecDepth 100000 in
theorem law_5 {p : Program} {l : Launch} {e : Env} {s : State} {m : MethodId} {below : List Frame} {meth : Method} {c : Code} {b L : Nat} {xs : Nat → Int32} {g : tG} {A : Nat → Prop} (C : LC p s m meth c b L xs) (hK : tK g s) (hZ : tZ g A s s.heap) (hA : ∀ q, s.heap.size ≤ q → A q) (hbA : ¬ A b) {n : Nat} (hn : n + 6 ≤ L) (hL : L ≤ 3072) {σ : Hp} (hI : Inv σ) {P : Nat → Nat} {H : Heap} {locs : List Loc} {ls : Array Slot} {cells slots : Nat} (hB : tB g P σ A s.heap H locs) (hl : lv_has ls 4 [(0, .ref b), (1, .ref (gL g 0)), (2, .ref (gL g 40)), (3, .int (nI n))]) (hc : cells + 161 ≤ 600000) (hs : slots + 322 ≤ 7302250) {Q : State → Prop} (next : ∀ (P : Nat → Nat) (σ2 : Hp) (H : Heap) (locs : List Loc) (ls : Array Slot), Inv σ2 → tB g P σ2 A s.heap H locs → lv_has ls 4 [(0, .ref b), (1, .ref (gL g 0)), (2, .ref (gL g 40)), (3, .int (nI n))] → W p l e room_1 s m #[Value.ref b] below meth c H locs (cells + 161) (slots + 322) Q (F0 m 2235 ls [])) : W p l e room_1 s m #[Value.ref b] below meth c H locs cells slots Q (F0 m 470 ls []) := by
  obtain ⟨hx, hb, hr, hml, hown, ht, hX, hbl, hlocks, hgv⟩ := id C
  obtain ⟨r, σ1, σ2, h1, h2, hI2⟩ := op_holds σ hI (xs (n + 1))
  refine lv_aload_n hx hb dL_law_470 rfl (lv_at hl 1 rfl) ?_
  refine S_arg (k := 1) hx hb C.2.2.2.2.2.2.1 C.2.2.2.2.2.2.2.1 hbA hB.2.2 hl (by omega) (by omega) dL_law_471 dL_law_472 dL_law_473 dL_law_474 dL_law_475 (by decide) ?_
  refine R_call (rest := []) [.int r] (R_runV (n := 1) (As := [.int (xs (n + 1))]) ⟨hx, hb, hml, hown, ht⟩ (fun _ h9 => h9) hK hZ hA hB (c_X11_holds l g P σ (xs (n + 1)) H.size h1) (R_recv hK hB (by decide) (cell_0 rfl) rfl) tw236 tw233 tw234 tw235 tw1 ⟨by decide, by decide, by decide⟩ rfl rfl ⟨Nat.le_of_ble_eq_true rfl, Nat.le_of_ble_eq_true rfl⟩ rfl hl.1 rfl (Nat.le_of_ble_eq_true rfl) dL_law_476 ⟨by show cells + 0 ≤ 600000; omega, by show slots + 0 ≤ 7302250; omega⟩) hB hA rfl (fun H locs hB => ?_)
  refine lv_aload_n hx hb dL_law_479 rfl (lv_at hl 2 rfl) ?_
  refine S_arg (k := 1) hx hb C.2.2.2.2.2.2.1 C.2.2.2.2.2.2.2.1 hbA hB.2.2 hl (by omega) (by omega) dL_law_480 dL_law_481 dL_law_482 dL_law_483 dL_law_484 (by decide) ?_
  refine R_call (rest := [.int r]) [.int r, .int r] (R_runV (n := 1) (As := [.int (xs (n + 1))]) ⟨hx, hb, hml, hown, ht⟩ (fun _ h9 => h9) hK hZ hA hB (c_X12_holds l g P σ1 (xs (n + 1)) H.size h2) (R_recv hK hB (by decide) (cell_8 rfl) rfl) tw1066 tw1063 tw1064 tw1065 tw5 ⟨by decide, by decide, by decide⟩ rfl rfl ⟨Nat.le_of_ble_eq_true rfl, Nat.le_of_ble_eq_true rfl⟩ rfl hl.1 rfl (Nat.le_of_ble_eq_true rfl) dL_law_485 ⟨by show cells + 0 ≤ 600000; omega, by show slots + 0 ≤ 7302250; omega⟩) hB hA rfl (fun H locs hB => ?_)
  refine lv_icmp_eq (tgt := 2235) hx hb dL_law_488 (by decide) (fun _ => ?_) (fun c9 => absurd rfl c9)
  refine W.widen (k := cells + 161) (n := slots + 322) (by omega) (by omega) ?_
  exact next P σ2 H locs ls hI2 hB hl
set_option maxHeartbeats 4000000 in
set_option maxRecDepth 100000 in
theorem law_6 {p : Program} {l : Launch} {e : Env} {s : State} {m : MethodId} {below : List Frame} {meth : Method} {c : Code} {b L : Nat} {xs : Nat → Int32} {g : tG} {A : Nat → Prop} (C : LC p s m meth c b L xs) (hK : tK g s) (hZ : tZ g A s s.heap) (hA : ∀ q, s.heap.size ≤ q → A q) (hbA : ¬ A b) {n : Nat} (hn : n + 6 ≤ L) (hL : L ≤ 3072) {σ : Hp} (hI : Inv σ) {P : Nat → Nat} {H : Heap} {locs : List Loc} {ls : Array Slot} {cells slots : Nat} (hB : tB g P σ A s.heap H locs) (hl : lv_has ls 4 [(0, .ref b), (1, .ref (gL g 0)), (2, .ref (gL g 40)), (3, .int (nI n))]) (hc : cells + 161 ≤ 600000) (hs : slots + 322 ≤ 7302250) {Q : State → Prop} (next : ∀ (P : Nat → Nat) (σ2 : Hp) (H : Heap) (locs : List Loc) (ls : Array Slot), Inv σ2 → tB g P σ2 A s.heap H locs → lv_has ls 4 [(0, .ref b), (1, .ref (gL g 0)), (2, .ref (gL g 40)), (3, .int (nI n))] → W p l e room_1 s m #[Value.ref b] below meth c H locs (cells + 161) (slots + 322) Q (F0 m 2235 ls [])) : W p l e room_1 s m #[Value.ref b] below meth c H locs cells slots Q (F0 m 493 ls []) := by
  obtain ⟨hx, hb, hr, hml, hown, ht, hX, hbl, hlocks, hgv⟩ := id C
  obtain ⟨r, σ1, σ2, h1, h2, hI2⟩ := op_says σ hI (xs (n + 1)) (xs (n + 2))
  refine lv_aload_n hx hb dL_law_493 rfl (lv_at hl 1 rfl) ?_
  refine S_arg (k := 1) hx hb C.2.2.2.2.2.2.1 C.2.2.2.2.2.2.2.1 hbA hB.2.2 hl (by omega) (by omega) dL_law_494 dL_law_495 dL_law_496 dL_law_497 dL_law_498 (by decide) ?_
  refine S_arg (k := 2) hx hb C.2.2.2.2.2.2.1 C.2.2.2.2.2.2.2.1 hbA hB.2.2 hl (by omega) (by omega) dL_law_499 dL_law_500 dL_law_501 dL_law_502 dL_law_503 (by decide) ?_
  refine R_call (rest := []) [.int r] (R_runV (n := 2) (As := [.int (xs (n + 1)), .int (xs (n + 2))]) ⟨hx, hb, hml, hown, ht⟩ (fun _ h9 => h9) hK hZ hA hB (c_X11_says l g P σ (xs (n + 1)) (xs (n + 2)) H.size h1) (R_recv hK hB (by decide) (cell_0 rfl) rfl) tw240 tw237 tw238 tw239 tw1 ⟨by decide, by decide, by decide⟩ rfl rfl ⟨Nat.le_of_ble_eq_true rfl, Nat.le_of_ble_eq_true rfl⟩ rfl hl.1 rfl (Nat.le_of_ble_eq_true rfl) dL_law_504 ⟨by show cells + 0 ≤ 600000; omega, by show slots + 0 ≤ 7302250; omega⟩) hB hA rfl (fun H locs hB => ?_)
  refine lv_aload_n hx hb dL_law_507 rfl (lv_at hl 2 rfl) ?_
  refine S_arg (k := 1) hx hb C.2.2.2.2.2.2.1 C.2.2.2.2.2.2.2.1 hbA hB.2.2 hl (by omega) (by omega) dL_law_508 dL_law_509 dL_law_510 dL_law_511 dL_law_512 (by decide) ?_
  refine S_arg (k := 2) hx hb C.2.2.2.2.2.2.1 C.2.2.2.2.2.2.2.1 hbA hB.2.2 hl (by omega) (by omega) dL_law_513 dL_law_514 dL_law_515 dL_law_516 dL_law_517 (by decide) ?_
  refine R_call (rest := [.int r]) [.int r, .int r] (R_runV (n := 2) (As := [.int (xs (n + 1)), .int (xs (n + 2))]) ⟨hx, hb, hml, hown, ht⟩ (fun _ h9 => h9) hK hZ hA hB (c_X12_says l g P σ1 (xs (n + 1)) (xs (n + 2)) H.size h2) (R_recv hK hB (by decide) (cell_8 rfl) rfl) tw1070 tw1067 tw1068 tw1069 tw5 ⟨by decide, by decide, by decide⟩ rfl rfl ⟨Nat.le_of_ble_eq_true rfl, Nat.le_of_ble_eq_true rfl⟩ rfl hl.1 rfl (Nat.le_of_ble_eq_true rfl) dL_law_518 ⟨by show cells + 0 ≤ 600000; omega, by show slots + 0 ≤ 7302250; omega⟩) hB hA rfl (fun H locs hB => ?_)
  refine lv_icmp_eq (tgt := 2235) hx hb dL_law_521 (by decide) (fun _ => ?_) (fun c9 => absurd rfl c9)
  refine W.widen (k := cells + 161) (n := slots + 322) (by omega) (by omega) ?_
  exact next P σ2 H locs ls hI2 hB hl
set_option maxHeartbeats 4000000 in
set_option maxRecDepth 100000 in
theorem law_7 {p : Program} {l : Launch} {e : Env} {s : State} {m : MethodId} {below : List Frame} {meth : Method} {c : Code} {b L : Nat} {xs : Nat → Int32} {g : tG} {A : Nat → Prop} (C : LC p s m meth c b L xs) (hK : tK g s) (hZ : tZ g A s s.heap) (hA : ∀ q, s.heap.size ≤ q → A q) (hbA : ¬ A b) {n : Nat} (hn : n + 6 ≤ L) (hL : L ≤ 3072) {σ : Hp} (hI : Inv σ) {P : Nat → Nat} {H : Heap} {locs : List Loc} {ls : Array Slot} {cells slots : Nat} (hB : tB g P σ A s.heap H locs) (hl : lv_has ls 4 [(0, .ref b), (1, .ref (gL g 0)), (2, .ref (gL g 40)), (3, .int (nI n))]) (hc : cells + 161 ≤ 600000) (hs : slots + 322 ≤ 7302250) {Q : State → Prop} (next : ∀ (P : Nat → Nat) (σ2 : Hp) (H : Heap) (locs : List Loc) (ls : Array Slot), Inv σ2 → tB g P σ2 A s.heap H locs → lv_has ls 4 [(0, .ref b), (1, .ref (gL g 0)), (2, .ref (gL g 40)), (3, .int (nI n))] → W p l e room_1 s m #[Value.ref b] below meth c H locs (cells + 161) (slots + 322) Q (F0 m 2235 ls [])) : W p l e room_1 s m #[Value.ref b] below meth c H locs cells slots Q (F0 m 526 ls []) := by
  obtain ⟨hx, hb, hr, hml, hown, ht, hX, hbl, hlocks, hgv⟩ := id C
  obtain ⟨r, σ1, σ2, h1, h2, hI2⟩ := op_base σ hI (xs (n + 1))
  refine lv_aload_n hx hb dL_law_526 rfl (lv_at hl 1 rfl) ?_
  refine S_arg (k := 1) hx hb C.2.2.2.2.2.2.1 C.2.2.2.2.2.2.2.1 hbA hB.2.2 hl (by omega) (by omega) dL_law_527 dL_law_528 dL_law_529 dL_law_530 dL_law_531 (by decide) ?_
  refine R_call (rest := []) [.int r] (R_runV (n := 1) (As := [.int (xs (n + 1))]) ⟨hx, hb, hml, hown, ht⟩ (fun _ h9 => h9) hK hZ hA hB (c_X11_base l g P σ (xs (n + 1)) H.size h1) (R_recv hK hB (by decide) (cell_0 rfl) rfl) tw352 tw349 tw350 tw351 tw1 ⟨by decide, by decide, by decide⟩ rfl rfl ⟨Nat.le_of_ble_eq_true rfl, Nat.le_of_ble_eq_true rfl⟩ rfl hl.1 rfl (Nat.le_of_ble_eq_true rfl) dL_law_532 ⟨by show cells + 0 ≤ 600000; omega, by show slots + 0 ≤ 7302250; omega⟩) hB hA rfl (fun H locs hB => ?_)
  refine lv_aload_n hx hb dL_law_535 rfl (lv_at hl 2 rfl) ?_
  refine S_arg (k := 1) hx hb C.2.2.2.2.2.2.1 C.2.2.2.2.2.2.2.1 hbA hB.2.2 hl (by omega) (by omega) dL_law_536 dL_law_537 dL_law_538 dL_law_539 dL_law_540 (by decide) ?_
  refine R_call (rest := [.int r]) [.int r, .int r] (R_runV (n := 1) (As := [.int (xs (n + 1))]) ⟨hx, hb, hml, hown, ht⟩ (fun _ h9 => h9) hK hZ hA hB (c_X12_base l g P σ1 (xs (n + 1)) H.size h2) (R_recv hK hB (by decide) (cell_8 rfl) rfl) tw1101 tw1098 tw1099 tw1100 tw5 ⟨by decide, by decide, by decide⟩ rfl rfl ⟨Nat.le_of_ble_eq_true rfl, Nat.le_of_ble_eq_true rfl⟩ rfl hl.1 rfl (Nat.le_of_ble_eq_true rfl) dL_law_541 ⟨by show cells + 0 ≤ 600000; omega, by show slots + 0 ≤ 7302250; omega⟩) hB hA rfl (fun H locs hB => ?_)
  refine lv_icmp_eq (tgt := 2235) hx hb dL_law_544 (by decide) (fun _ => ?_) (fun c9 => absurd rfl c9)
  refine W.widen (k := cells + 161) (n := slots + 322) (by omega) (by omega) ?_
  exact next P σ2 H locs ls hI2 hB hl
set_option maxHeartbeats 4000000 in
set_option maxRecDepth 100000 in
theorem law_8 {p : Program} {l : Launch} {e : Env} {s : State} {m : MethodId} {below : List Frame} {meth : Method} {c : Code} {b L : Nat} {xs : Nat → Int32} {g : tG} {A : Nat → Prop} (C : LC p s m meth c b L xs) (hK : tK g s) (hZ : tZ g A s s.heap) (hA : ∀ q, s.heap.size ≤ q → A q) (hbA : ¬ A b) {n : Nat} (hn : n + 6 ≤ L) (hL : L ≤ 3072) {σ : Hp} (hI : Inv σ) {P : Nat → Nat} {H : Heap} {locs : List Loc} {ls : Array Slot} {cells slots : Nat} (hB : tB g P σ A s.heap H locs) (hl : lv_has ls 4 [(0, .ref b), (1, .ref (gL g 0)), (2, .ref (gL g 40)), (3, .int (nI n))]) (hc : cells + 161 ≤ 600000) (hs : slots + 322 ≤ 7302250) {Q : State → Prop} (next : ∀ (P : Nat → Nat) (σ2 : Hp) (H : Heap) (locs : List Loc) (ls : Array Slot), Inv σ2 → tB g P σ2 A s.heap H locs → lv_has ls 4 [(0, .ref b), (1, .ref (gL g 0)), (2, .ref (gL g 40)), (3, .int (nI n))] → W p l e room_1 s m #[Value.ref b] below meth c H locs (cells + 161) (slots + 322) Q (F0 m 2235 ls [])) : W p l e room_1 s m #[Value.ref b] below meth c H locs cells slots Q (F0 m 549 ls []) := by
  obtain ⟨hx, hb, hr, hml, hown, ht, hX, hbl, hlocks, hgv⟩ := id C
  obtain ⟨r, σ1, σ2, h1, h2, hI2⟩ := op_law σ hI (xs (n + 1)) (xs (n + 2))
  refine lv_aload_n hx hb dL_law_549 rfl (lv_at hl 1 rfl) ?_
  refine S_arg (k := 1) hx hb C.2.2.2.2.2.2.1 C.2.2.2.2.2.2.2.1 hbA hB.2.2 hl (by omega) (by omega) dL_law_550 dL_law_551 dL_law_552 dL_law_553 dL_law_554 (by decide) ?_
  refine S_arg (k := 2) hx hb C.2.2.2.2.2.2.1 C.2.2.2.2.2.2.2.1 hbA hB.2.2 hl (by omega) (by omega) dL_law_555 dL_law_556 dL_law_557 dL_law_558 dL_law_559 (by decide) ?_
  refine R_callN (rest := []) [.int r] (R_runV (n := 2) (As := [.int (xs (n + 1)), .int (xs (n + 2))]) ⟨hx, hb, hml, hown, ht⟩ (fun _ h9 => h9) hK hZ hA hB (c_X11_law l g P σ (xs (n + 1)) (xs (n + 2)) H.size h1) (R_recv hK hB (by decide) (cell_0 rfl) rfl) tw356 tw353 tw354 tw355 tw1 ⟨by decide, by decide, by decide⟩ rfl rfl ⟨Nat.le_of_ble_eq_true rfl, Nat.le_of_ble_eq_true rfl⟩ rfl hl.1 rfl (Nat.le_of_ble_eq_true rfl) dL_law_560 ⟨by show cells + 1 ≤ 600000; omega, by show slots + 2 ≤ 7302250; omega⟩) hB hA rfl (fun P H locs hB => ?_)
  refine lv_aload_n hx hb dL_law_563 rfl (lv_at hl 2 rfl) ?_
  refine S_arg (k := 1) hx hb C.2.2.2.2.2.2.1 C.2.2.2.2.2.2.2.1 hbA hB.2.2 hl (by omega) (by omega) dL_law_564 dL_law_565 dL_law_566 dL_law_567 dL_law_568 (by decide) ?_
  refine S_arg (k := 2) hx hb C.2.2.2.2.2.2.1 C.2.2.2.2.2.2.2.1 hbA hB.2.2 hl (by omega) (by omega) dL_law_569 dL_law_570 dL_law_571 dL_law_572 dL_law_573 (by decide) ?_
  refine R_call (rest := [.int r]) [.int r, .int r] (R_runV (n := 2) (As := [.int (xs (n + 1)), .int (xs (n + 2))]) ⟨hx, hb, hml, hown, ht⟩ (fun _ h9 => h9) hK hZ hA hB (c_X12_law l g P σ1 (xs (n + 1)) (xs (n + 2)) H.size h2) (R_recv hK hB (by decide) (cell_8 rfl) rfl) tw1105 tw1102 tw1103 tw1104 tw5 ⟨by decide, by decide, by decide⟩ rfl rfl ⟨Nat.le_of_ble_eq_true rfl, Nat.le_of_ble_eq_true rfl⟩ rfl hl.1 rfl (Nat.le_of_ble_eq_true rfl) dL_law_574 ⟨by show (cells + 1) + 0 ≤ 600000; omega, by show (slots + 2) + 0 ≤ 7302250; omega⟩) hB hA rfl (fun H locs hB => ?_)
  refine lv_icmp_eq (tgt := 2235) hx hb dL_law_577 (by decide) (fun _ => ?_) (fun c9 => absurd rfl c9)
  refine W.widen (k := cells + 161) (n := slots + 322) (by omega) (by omega) ?_
  exact next P σ2 H locs ls hI2 hB hl
set_option maxHeartbeats 4000000 in
set_option maxRecDepth 100000 in
theorem law_9 {p : Program} {l : Launch} {e : Env} {s : State} {m : MethodId} {below : List Frame} {meth : Method} {c : Code} {b L : Nat} {xs : Nat → Int32} {g : tG} {A : Nat → Prop} (C : LC p s m meth c b L xs) (hK : tK g s) (hZ : tZ g A s s.heap) (hA : ∀ q, s.heap.size ≤ q → A q) (hbA : ¬ A b) {n : Nat} (hn : n + 6 ≤ L) (hL : L ≤ 3072) {σ : Hp} (hI : Inv σ) {P : Nat → Nat} {H : Heap} {locs : List Loc} {ls : Array Slot} {cells slots : Nat} (hB : tB g P σ A s.heap H locs) (hl : lv_has ls 4 [(0, .ref b), (1, .ref (gL g 0)), (2, .ref (gL g 40)), (3, .int (nI n))]) (hc : cells + 161 ≤ 600000) (hs : slots + 322 ≤ 7302250) {Q : State → Prop} (next : ∀ (P : Nat → Nat) (σ2 : Hp) (H : Heap) (locs : List Loc) (ls : Array Slot), Inv σ2 → tB g P σ2 A s.heap H locs → lv_has ls 4 [(0, .ref b), (1, .ref (gL g 0)), (2, .ref (gL g 40)), (3, .int (nI n))] → W p l e room_1 s m #[Value.ref b] below meth c H locs (cells + 161) (slots + 322) Q (F0 m 2235 ls [])) : W p l e room_1 s m #[Value.ref b] below meth c H locs cells slots Q (F0 m 582 ls []) := by
  obtain ⟨hx, hb, hr, hml, hown, ht, hX, hbl, hlocks, hgv⟩ := id C
  obtain ⟨r, σ1, σ2, h1, h2, hI2⟩ := op_value σ hI (xs (n + 1)) (xs (n + 2)) (xs (n + 3))
  refine lv_aload_n hx hb dL_law_582 rfl (lv_at hl 1 rfl) ?_
  refine S_arg (k := 1) hx hb C.2.2.2.2.2.2.1 C.2.2.2.2.2.2.2.1 hbA hB.2.2 hl (by omega) (by omega) dL_law_583 dL_law_584 dL_law_585 dL_law_586 dL_law_587 (by decide) ?_
  refine S_arg (k := 2) hx hb C.2.2.2.2.2.2.1 C.2.2.2.2.2.2.2.1 hbA hB.2.2 hl (by omega) (by omega) dL_law_588 dL_law_589 dL_law_590 dL_law_591 dL_law_592 (by decide) ?_
  refine S_arg (k := 3) hx hb C.2.2.2.2.2.2.1 C.2.2.2.2.2.2.2.1 hbA hB.2.2 hl (by omega) (by omega) dL_law_593 dL_law_594 dL_law_595 dL_law_596 dL_law_597 (by decide) ?_
  refine R_call (rest := []) [.int r] (R_runV (n := 3) (As := [.int (xs (n + 1)), .int (xs (n + 2)), .int (xs (n + 3))]) ⟨hx, hb, hml, hown, ht⟩ (fun _ h9 => h9) hK hZ hA hB (c_X11_value l g P σ (xs (n + 1)) (xs (n + 2)) (xs (n + 3)) H.size h1) (R_recv hK hB (by decide) (cell_0 rfl) rfl) tw443 tw440 tw441 tw442 tw1 ⟨by decide, by decide, by decide⟩ rfl rfl ⟨Nat.le_of_ble_eq_true rfl, Nat.le_of_ble_eq_true rfl⟩ rfl hl.1 rfl (Nat.le_of_ble_eq_true rfl) dL_law_598 ⟨by show cells + 0 ≤ 600000; omega, by show slots + 0 ≤ 7302250; omega⟩) hB hA rfl (fun H locs hB => ?_)
  refine lv_aload_n hx hb dL_law_601 rfl (lv_at hl 2 rfl) ?_
  refine S_arg (k := 1) hx hb C.2.2.2.2.2.2.1 C.2.2.2.2.2.2.2.1 hbA hB.2.2 hl (by omega) (by omega) dL_law_602 dL_law_603 dL_law_604 dL_law_605 dL_law_606 (by decide) ?_
  refine S_arg (k := 2) hx hb C.2.2.2.2.2.2.1 C.2.2.2.2.2.2.2.1 hbA hB.2.2 hl (by omega) (by omega) dL_law_607 dL_law_608 dL_law_609 dL_law_610 dL_law_611 (by decide) ?_
  refine S_arg (k := 3) hx hb C.2.2.2.2.2.2.1 C.2.2.2.2.2.2.2.1 hbA hB.2.2 hl (by omega) (by omega) dL_law_612 dL_law_613 dL_law_614 dL_law_615 dL_law_616 (by decide) ?_
  refine R_call (rest := [.int r]) [.int r, .int r] (R_runV (n := 3) (As := [.int (xs (n + 1)), .int (xs (n + 2)), .int (xs (n + 3))]) ⟨hx, hb, hml, hown, ht⟩ (fun _ h9 => h9) hK hZ hA hB (c_X12_value l g P σ1 (xs (n + 1)) (xs (n + 2)) (xs (n + 3)) H.size h2) (R_recv hK hB (by decide) (cell_8 rfl) rfl) tw1113 tw1110 tw1111 tw1112 tw5 ⟨by decide, by decide, by decide⟩ rfl rfl ⟨Nat.le_of_ble_eq_true rfl, Nat.le_of_ble_eq_true rfl⟩ rfl hl.1 rfl (Nat.le_of_ble_eq_true rfl) dL_law_617 ⟨by show cells + 0 ≤ 600000; omega, by show slots + 0 ≤ 7302250; omega⟩) hB hA rfl (fun H locs hB => ?_)
  refine lv_icmp_eq (tgt := 2235) hx hb dL_law_620 (by decide) (fun _ => ?_) (fun c9 => absurd rfl c9)
  refine W.widen (k := cells + 161) (n := slots + 322) (by omega) (by omega) ?_
  exact next P σ2 H locs ls hI2 hB hl
set_option maxHeartbeats 4000000 in
set_option maxRecDepth 100000 in
theorem law_10 {p : Program} {l : Launch} {e : Env} {s : State} {m : MethodId} {below : List Frame} {meth : Method} {c : Code} {b L : Nat} {xs : Nat → Int32} {g : tG} {A : Nat → Prop} (C : LC p s m meth c b L xs) (hK : tK g s) (hZ : tZ g A s s.heap) (hA : ∀ q, s.heap.size ≤ q → A q) (hbA : ¬ A b) {n : Nat} (hn : n + 6 ≤ L) (hL : L ≤ 3072) {σ : Hp} (hI : Inv σ) {P : Nat → Nat} {H : Heap} {locs : List Loc} {ls : Array Slot} {cells slots : Nat} (hB : tB g P σ A s.heap H locs) (hl : lv_has ls 4 [(0, .ref b), (1, .ref (gL g 0)), (2, .ref (gL g 40)), (3, .int (nI n))]) (hc : cells + 161 ≤ 600000) (hs : slots + 322 ≤ 7302250) {Q : State → Prop} (next : ∀ (P : Nat → Nat) (σ2 : Hp) (H : Heap) (locs : List Loc) (ls : Array Slot), Inv σ2 → tB g P σ2 A s.heap H locs → lv_has ls 4 [(0, .ref b), (1, .ref (gL g 0)), (2, .ref (gL g 40)), (3, .int (nI n))] → W p l e room_1 s m #[Value.ref b] below meth c H locs (cells + 161) (slots + 322) Q (F0 m 2235 ls [])) : W p l e room_1 s m #[Value.ref b] below meth c H locs cells slots Q (F0 m 625 ls []) := by
  obtain ⟨hx, hb, hr, hml, hown, ht, hX, hbl, hlocks, hgv⟩ := id C
  obtain ⟨r, σ1, σ2, h1, h2, hI2⟩ := op_lawOf σ hI (xs (n + 1)) (xs (n + 2))
  refine lv_aload_n hx hb dL_law_625 rfl (lv_at hl 1 rfl) ?_
  refine S_arg (k := 1) hx hb C.2.2.2.2.2.2.1 C.2.2.2.2.2.2.2.1 hbA hB.2.2 hl (by omega) (by omega) dL_law_626 dL_law_627 dL_law_628 dL_law_629 dL_law_630 (by decide) ?_
  refine S_arg (k := 2) hx hb C.2.2.2.2.2.2.1 C.2.2.2.2.2.2.2.1 hbA hB.2.2 hl (by omega) (by omega) dL_law_631 dL_law_632 dL_law_633 dL_law_634 dL_law_635 (by decide) ?_
  refine R_call (rest := []) [.int r] (R_runV (n := 2) (As := [.int (xs (n + 1)), .int (xs (n + 2))]) ⟨hx, hb, hml, hown, ht⟩ (fun _ h9 => h9) hK hZ hA hB (c_X11_lawOf l g P σ (xs (n + 1)) (xs (n + 2)) H.size h1) (R_recv hK hB (by decide) (cell_0 rfl) rfl) tw452 tw449 tw450 tw451 tw1 ⟨by decide, by decide, by decide⟩ rfl rfl ⟨Nat.le_of_ble_eq_true rfl, Nat.le_of_ble_eq_true rfl⟩ rfl hl.1 rfl (Nat.le_of_ble_eq_true rfl) dL_law_636 ⟨by show cells + 0 ≤ 600000; omega, by show slots + 0 ≤ 7302250; omega⟩) hB hA rfl (fun H locs hB => ?_)
  refine lv_aload_n hx hb dL_law_639 rfl (lv_at hl 2 rfl) ?_
  refine S_arg (k := 1) hx hb C.2.2.2.2.2.2.1 C.2.2.2.2.2.2.2.1 hbA hB.2.2 hl (by omega) (by omega) dL_law_640 dL_law_641 dL_law_642 dL_law_643 dL_law_644 (by decide) ?_
  refine S_arg (k := 2) hx hb C.2.2.2.2.2.2.1 C.2.2.2.2.2.2.2.1 hbA hB.2.2 hl (by omega) (by omega) dL_law_645 dL_law_646 dL_law_647 dL_law_648 dL_law_649 (by decide) ?_
  refine R_call (rest := [.int r]) [.int r, .int r] (R_runV (n := 2) (As := [.int (xs (n + 1)), .int (xs (n + 2))]) ⟨hx, hb, hml, hown, ht⟩ (fun _ h9 => h9) hK hZ hA hB (c_X12_lawOf l g P σ1 (xs (n + 1)) (xs (n + 2)) H.size h2) (R_recv hK hB (by decide) (cell_8 rfl) rfl) tw1117 tw1114 tw1115 tw1116 tw5 ⟨by decide, by decide, by decide⟩ rfl rfl ⟨Nat.le_of_ble_eq_true rfl, Nat.le_of_ble_eq_true rfl⟩ rfl hl.1 rfl (Nat.le_of_ble_eq_true rfl) dL_law_650 ⟨by show cells + 0 ≤ 600000; omega, by show slots + 0 ≤ 7302250; omega⟩) hB hA rfl (fun H locs hB => ?_)
  refine lv_icmp_eq (tgt := 2235) hx hb dL_law_653 (by decide) (fun _ => ?_) (fun c9 => absurd rfl c9)
  refine W.widen (k := cells + 161) (n := slots + 322) (by omega) (by omega) ?_
  exact next P σ2 H locs ls hI2 hB hl
set_option maxHeartbeats 4000000 in
set_option maxRecDepth 100000 in
theorem law_11 {p : Program} {l : Launch} {e : Env} {s : State} {m : MethodId} {below : List Frame} {meth : Method} {c : Code} {b L : Nat} {xs : Nat → Int32} {g : tG} {A : Nat → Prop} (C : LC p s m meth c b L xs) (hK : tK g s) (hZ : tZ g A s s.heap) (hA : ∀ q, s.heap.size ≤ q → A q) (hbA : ¬ A b) {n : Nat} (hn : n + 6 ≤ L) (hL : L ≤ 3072) {σ : Hp} (hI : Inv σ) {P : Nat → Nat} {H : Heap} {locs : List Loc} {ls : Array Slot} {cells slots : Nat} (hB : tB g P σ A s.heap H locs) (hl : lv_has ls 4 [(0, .ref b), (1, .ref (gL g 0)), (2, .ref (gL g 40)), (3, .int (nI n))]) (hc : cells + 161 ≤ 600000) (hs : slots + 322 ≤ 7302250) {Q : State → Prop} (next : ∀ (P : Nat → Nat) (σ2 : Hp) (H : Heap) (locs : List Loc) (ls : Array Slot), Inv σ2 → tB g P σ2 A s.heap H locs → lv_has ls 4 [(0, .ref b), (1, .ref (gL g 0)), (2, .ref (gL g 40)), (3, .int (nI n))] → W p l e room_1 s m #[Value.ref b] below meth c H locs (cells + 161) (slots + 322) Q (F0 m 2235 ls [])) : W p l e room_1 s m #[Value.ref b] below meth c H locs cells slots Q (F0 m 658 ls []) := by
  obtain ⟨hx, hb, hr, hml, hown, ht, hX, hbl, hlocks, hgv⟩ := id C
  obtain ⟨r, σ1, σ2, h1, h2, hI2⟩ := op_text σ hI (xs (n + 1))
  refine lv_aload_n hx hb dL_law_658 rfl (lv_at hl 1 rfl) ?_
  refine S_arg (k := 1) hx hb C.2.2.2.2.2.2.1 C.2.2.2.2.2.2.2.1 hbA hB.2.2 hl (by omega) (by omega) dL_law_659 dL_law_660 dL_law_661 dL_law_662 dL_law_663 (by decide) ?_
  refine R_callN (rest := []) [.int r] (R_runV (n := 1) (As := [.int (xs (n + 1))]) ⟨hx, hb, hml, hown, ht⟩ (fun _ h9 => h9) hK hZ hA hB (c_X11_text l g P σ (xs (n + 1)) H.size h1) (R_recv hK hB (by decide) (cell_0 rfl) rfl) tw479 tw476 tw477 tw478 tw1 ⟨by decide, by decide, by decide⟩ rfl rfl ⟨Nat.le_of_ble_eq_true rfl, Nat.le_of_ble_eq_true rfl⟩ rfl hl.1 rfl (Nat.le_of_ble_eq_true rfl) dL_law_664 ⟨by show cells + 161 ≤ 600000; omega, by show slots + 322 ≤ 7302250; omega⟩) hB hA rfl (fun P H locs hB => ?_)
  refine lv_aload_n hx hb dL_law_667 rfl (lv_at hl 2 rfl) ?_
  refine S_arg (k := 1) hx hb C.2.2.2.2.2.2.1 C.2.2.2.2.2.2.2.1 hbA hB.2.2 hl (by omega) (by omega) dL_law_668 dL_law_669 dL_law_670 dL_law_671 dL_law_672 (by decide) ?_
  refine R_call (rest := [.int r]) [.int r, .int r] (R_runV (n := 1) (As := [.int (xs (n + 1))]) ⟨hx, hb, hml, hown, ht⟩ (fun _ h9 => h9) hK hZ hA hB (c_X12_text l g P σ1 (xs (n + 1)) H.size h2) (R_recv hK hB (by decide) (cell_8 rfl) rfl) tw1121 tw1118 tw1119 tw1120 tw5 ⟨by decide, by decide, by decide⟩ rfl rfl ⟨Nat.le_of_ble_eq_true rfl, Nat.le_of_ble_eq_true rfl⟩ rfl hl.1 rfl (Nat.le_of_ble_eq_true rfl) dL_law_673 ⟨by show (cells + 161) + 0 ≤ 600000; omega, by show (slots + 322) + 0 ≤ 7302250; omega⟩) hB hA rfl (fun H locs hB => ?_)
  refine lv_icmp_eq (tgt := 2235) hx hb dL_law_676 (by decide) (fun _ => ?_) (fun c9 => absurd rfl c9)
  refine W.widen (k := cells + 161) (n := slots + 322) (by omega) (by omega) ?_
  exact next P σ2 H locs ls hI2 hB hl
set_option maxHeartbeats 4000000 in
set_option maxRecDepth 100000 in
theorem law_12 {p : Program} {l : Launch} {e : Env} {s : State} {m : MethodId} {below : List Frame} {meth : Method} {c : Code} {b L : Nat} {xs : Nat → Int32} {g : tG} {A : Nat → Prop} (C : LC p s m meth c b L xs) (hK : tK g s) (hZ : tZ g A s s.heap) (hA : ∀ q, s.heap.size ≤ q → A q) (hbA : ¬ A b) {n : Nat} (hn : n + 6 ≤ L) (hL : L ≤ 3072) {σ : Hp} (hI : Inv σ) {P : Nat → Nat} {H : Heap} {locs : List Loc} {ls : Array Slot} {cells slots : Nat} (hB : tB g P σ A s.heap H locs) (hl : lv_has ls 4 [(0, .ref b), (1, .ref (gL g 0)), (2, .ref (gL g 40)), (3, .int (nI n))]) (hc : cells + 161 ≤ 600000) (hs : slots + 322 ≤ 7302250) {Q : State → Prop} (next : ∀ (P : Nat → Nat) (σ2 : Hp) (H : Heap) (locs : List Loc) (ls : Array Slot), Inv σ2 → tB g P σ2 A s.heap H locs → lv_has ls 4 [(0, .ref b), (1, .ref (gL g 0)), (2, .ref (gL g 40)), (3, .int (nI n))] → W p l e room_1 s m #[Value.ref b] below meth c H locs (cells + 161) (slots + 322) Q (F0 m 2235 ls [])) : W p l e room_1 s m #[Value.ref b] below meth c H locs cells slots Q (F0 m 681 ls []) := by
  obtain ⟨hx, hb, hr, hml, hown, ht, hX, hbl, hlocks, hgv⟩ := id C
  obtain ⟨r, σ1, σ2, h1, h2, hI2⟩ := op_fault σ hI
  refine lv_aload_n hx hb dL_law_681 rfl (lv_at hl 1 rfl) ?_
  refine R_call (rest := []) [.int r] (R_runV (n := 0) (As := []) ⟨hx, hb, hml, hown, ht⟩ (fun _ h9 => h9) hK hZ hA hB (c_X11_fault l g P σ H.size h1) (R_recv hK hB (by decide) (cell_0 rfl) rfl) tw615 tw612 tw613 tw614 tw1 ⟨by decide, by decide, by decide⟩ rfl rfl ⟨Nat.le_of_ble_eq_true rfl, Nat.le_of_ble_eq_true rfl⟩ rfl hl.1 rfl (Nat.le_of_ble_eq_true rfl) dL_law_682 ⟨by show cells + 0 ≤ 600000; omega, by show slots + 0 ≤ 7302250; omega⟩) hB hA rfl (fun H locs hB => ?_)
  refine lv_aload_n hx hb dL_law_685 rfl (lv_at hl 2 rfl) ?_
  refine R_call (rest := [.int r]) [.int r, .int r] (R_runV (n := 0) (As := []) ⟨hx, hb, hml, hown, ht⟩ (fun _ h9 => h9) hK hZ hA hB (c_X12_fault l g P σ1 H.size h2) (R_recv hK hB (by decide) (cell_8 rfl) rfl) tw1169 tw1166 tw1167 tw1168 tw5 ⟨by decide, by decide, by decide⟩ rfl rfl ⟨Nat.le_of_ble_eq_true rfl, Nat.le_of_ble_eq_true rfl⟩ rfl hl.1 rfl (Nat.le_of_ble_eq_true rfl) dL_law_686 ⟨by show cells + 0 ≤ 600000; omega, by show slots + 0 ≤ 7302250; omega⟩) hB hA rfl (fun H locs hB => ?_)
  refine lv_icmp_eq (tgt := 2235) hx hb dL_law_689 (by decide) (fun _ => ?_) (fun c9 => absurd rfl c9)
  refine W.widen (k := cells + 161) (n := slots + 322) (by omega) (by omega) ?_
  exact next P σ2 H locs ls hI2 hB hl
set_option maxHeartbeats 4000000 in
set_option maxRecDepth 100000 in
theorem law_13 {p : Program} {l : Launch} {e : Env} {s : State} {m : MethodId} {below : List Frame} {meth : Method} {c : Code} {b L : Nat} {xs : Nat → Int32} {g : tG} {A : Nat → Prop} (C : LC p s m meth c b L xs) (hK : tK g s) (hZ : tZ g A s s.heap) (hA : ∀ q, s.heap.size ≤ q → A q) (hbA : ¬ A b) {n : Nat} (hn : n + 6 ≤ L) (hL : L ≤ 3072) {σ : Hp} (hI : Inv σ) {P : Nat → Nat} {H : Heap} {locs : List Loc} {ls : Array Slot} {cells slots : Nat} (hB : tB g P σ A s.heap H locs) (hl : lv_has ls 4 [(0, .ref b), (1, .ref (gL g 0)), (2, .ref (gL g 40)), (3, .int (nI n))]) (hc : cells + 161 ≤ 600000) (hs : slots + 322 ≤ 7302250) {Q : State → Prop} (next : ∀ (P : Nat → Nat) (σ2 : Hp) (H : Heap) (locs : List Loc) (ls : Array Slot), Inv σ2 → tB g P σ2 A s.heap H locs → lv_has ls 4 [(0, .ref b), (1, .ref (gL g 0)), (2, .ref (gL g 40)), (3, .int (nI n))] → W p l e room_1 s m #[Value.ref b] below meth c H locs (cells + 161) (slots + 322) Q (F0 m 2235 ls [])) : W p l e room_1 s m #[Value.ref b] below meth c H locs cells slots Q (F0 m 694 ls []) := by
  obtain ⟨hx, hb, hr, hml, hown, ht, hX, hbl, hlocks, hgv⟩ := id C
  obtain ⟨r, σ1, σ2, h1, h2, hI2⟩ := op_turned σ hI (((xs (n + 1)).toInt64 <<< ((32 : Int32).toInt64 &&& 63)) ||| ((xs (n + 2)).toInt64 &&& (4294967295 : Int64)))
  refine lv_aload_n hx hb dL_law_694 rfl (lv_at hl 1 rfl) ?_
  refine S_arg (k := 1) hx hb C.2.2.2.2.2.2.1 C.2.2.2.2.2.2.2.1 hbA hB.2.2 hl (by omega) (by omega) dL_law_695 dL_law_696 dL_law_697 dL_law_698 dL_law_699 (by decide) ?_
  refine lv_i2l (v := (xs (n + 1)).toInt64) hx hb dL_law_700 rfl ?_
  refine lv_bipush (v := 32) hx hb dL_law_701 (by decide) ?_
  refine lv_lshl (v := ((xs (n + 1)).toInt64 <<< ((32 : Int32).toInt64 &&& 63))) hx hb dL_law_703 rfl ?_
  refine S_arg (k := 2) hx hb C.2.2.2.2.2.2.1 C.2.2.2.2.2.2.2.1 hbA hB.2.2 hl (by omega) (by omega) dL_law_704 dL_law_705 dL_law_706 dL_law_707 dL_law_708 (by decide) ?_
  refine lv_i2l (v := (xs (n + 2)).toInt64) hx hb dL_law_709 rfl ?_
  refine lv_ldc2 (v := 4294967295) hx hb hown (ht _ tw1356) dL_law_710 ?_
  refine lv_land hx hb dL_law_713 ?_
  refine lv_lor hx hb dL_law_714 ?_
  refine R_call (rest := []) [.long r] (R_runV (n := 1) (As := [.long (((xs (n + 1)).toInt64 <<< ((32 : Int32).toInt64 &&& 63)) ||| ((xs (n + 2)).toInt64 &&& (4294967295 : Int64)))]) ⟨hx, hb, hml, hown, ht⟩ (fun _ h9 => h9) hK hZ hA hB (c_X11_turned l g P σ (((xs (n + 1)).toInt64 <<< ((32 : Int32).toInt64 &&& 63)) ||| ((xs (n + 2)).toInt64 &&& (4294967295 : Int64))) H.size h1) (R_recv hK hB (by decide) (cell_0 rfl) rfl) tw619 tw616 tw617 tw618 tw1 ⟨by decide, by decide, by decide⟩ rfl rfl ⟨Nat.le_of_ble_eq_true rfl, Nat.le_of_ble_eq_true rfl⟩ rfl hl.1 rfl (Nat.le_of_ble_eq_true rfl) dL_law_715 ⟨by show cells + 0 ≤ 600000; omega, by show slots + 0 ≤ 7302250; omega⟩) hB hA rfl (fun H locs hB => ?_)
  refine lv_aload_n hx hb dL_law_718 rfl (lv_at hl 2 rfl) ?_
  refine S_arg (k := 1) hx hb C.2.2.2.2.2.2.1 C.2.2.2.2.2.2.2.1 hbA hB.2.2 hl (by omega) (by omega) dL_law_719 dL_law_720 dL_law_721 dL_law_722 dL_law_723 (by decide) ?_
  refine lv_i2l (v := (xs (n + 1)).toInt64) hx hb dL_law_724 rfl ?_
  refine lv_bipush (v := 32) hx hb dL_law_725 (by decide) ?_
  refine lv_lshl (v := ((xs (n + 1)).toInt64 <<< ((32 : Int32).toInt64 &&& 63))) hx hb dL_law_727 rfl ?_
  refine S_arg (k := 2) hx hb C.2.2.2.2.2.2.1 C.2.2.2.2.2.2.2.1 hbA hB.2.2 hl (by omega) (by omega) dL_law_728 dL_law_729 dL_law_730 dL_law_731 dL_law_732 (by decide) ?_
  refine lv_i2l (v := (xs (n + 2)).toInt64) hx hb dL_law_733 rfl ?_
  refine lv_ldc2 (v := 4294967295) hx hb hown (ht _ tw1356) dL_law_734 ?_
  refine lv_land hx hb dL_law_737 ?_
  refine lv_lor hx hb dL_law_738 ?_
  refine R_call (rest := [.long r]) [.long r, .long r] (R_runV (n := 1) (As := [.long (((xs (n + 1)).toInt64 <<< ((32 : Int32).toInt64 &&& 63)) ||| ((xs (n + 2)).toInt64 &&& (4294967295 : Int64)))]) ⟨hx, hb, hml, hown, ht⟩ (fun _ h9 => h9) hK hZ hA hB (c_X12_turned l g P σ1 (((xs (n + 1)).toInt64 <<< ((32 : Int32).toInt64 &&& 63)) ||| ((xs (n + 2)).toInt64 &&& (4294967295 : Int64))) H.size h2) (R_recv hK hB (by decide) (cell_8 rfl) rfl) tw1173 tw1170 tw1171 tw1172 tw5 ⟨by decide, by decide, by decide⟩ rfl rfl ⟨Nat.le_of_ble_eq_true rfl, Nat.le_of_ble_eq_true rfl⟩ rfl hl.1 rfl (Nat.le_of_ble_eq_true rfl) dL_law_739 ⟨by show cells + 0 ≤ 600000; omega, by show slots + 0 ≤ 7302250; omega⟩) hB hA rfl (fun H locs hB => ?_)
  refine W.lcmp hx hb dL_law_742 ?_
  refine lv_if_eq (tgt := 2235) hx hb dL_law_743 (by decide) (fun _ => ?_) (fun c9 => absurd (lg_cmp_self r) c9)
  refine W.widen (k := cells + 161) (n := slots + 322) (by omega) (by omega) ?_
  exact next P σ2 H locs ls hI2 hB hl
set_option maxHeartbeats 4000000 in
set_option maxRecDepth 100000 in
theorem law_14 {p : Program} {l : Launch} {e : Env} {s : State} {m : MethodId} {below : List Frame} {meth : Method} {c : Code} {b L : Nat} {xs : Nat → Int32} {g : tG} {A : Nat → Prop} (C : LC p s m meth c b L xs) (hK : tK g s) (hZ : tZ g A s s.heap) (hA : ∀ q, s.heap.size ≤ q → A q) (hbA : ¬ A b) {n : Nat} (hn : n + 6 ≤ L) (hL : L ≤ 3072) {σ : Hp} (hI : Inv σ) {P : Nat → Nat} {H : Heap} {locs : List Loc} {ls : Array Slot} {cells slots : Nat} (hB : tB g P σ A s.heap H locs) (hl : lv_has ls 4 [(0, .ref b), (1, .ref (gL g 0)), (2, .ref (gL g 40)), (3, .int (nI n))]) (hc : cells + 161 ≤ 600000) (hs : slots + 322 ≤ 7302250) {Q : State → Prop} (next : ∀ (P : Nat → Nat) (σ2 : Hp) (H : Heap) (locs : List Loc) (ls : Array Slot), Inv σ2 → tB g P σ2 A s.heap H locs → lv_has ls 4 [(0, .ref b), (1, .ref (gL g 0)), (2, .ref (gL g 40)), (3, .int (nI n))] → W p l e room_1 s m #[Value.ref b] below meth c H locs (cells + 161) (slots + 322) Q (F0 m 2235 ls [])) : W p l e room_1 s m #[Value.ref b] below meth c H locs cells slots Q (F0 m 748 ls []) := by
  obtain ⟨hx, hb, hr, hml, hown, ht, hX, hbl, hlocks, hgv⟩ := id C
  obtain ⟨r, σ1, σ2, h1, h2, hI2⟩ := op_numberOf σ hI (((xs (n + 1)).toInt64 <<< ((32 : Int32).toInt64 &&& 63)) ||| ((xs (n + 2)).toInt64 &&& (4294967295 : Int64))) (xs (n + 3))
  refine lv_aload_n hx hb dL_law_748 rfl (lv_at hl 1 rfl) ?_
  refine S_arg (k := 1) hx hb C.2.2.2.2.2.2.1 C.2.2.2.2.2.2.2.1 hbA hB.2.2 hl (by omega) (by omega) dL_law_749 dL_law_750 dL_law_751 dL_law_752 dL_law_753 (by decide) ?_
  refine lv_i2l (v := (xs (n + 1)).toInt64) hx hb dL_law_754 rfl ?_
  refine lv_bipush (v := 32) hx hb dL_law_755 (by decide) ?_
  refine lv_lshl (v := ((xs (n + 1)).toInt64 <<< ((32 : Int32).toInt64 &&& 63))) hx hb dL_law_757 rfl ?_
  refine S_arg (k := 2) hx hb C.2.2.2.2.2.2.1 C.2.2.2.2.2.2.2.1 hbA hB.2.2 hl (by omega) (by omega) dL_law_758 dL_law_759 dL_law_760 dL_law_761 dL_law_762 (by decide) ?_
  refine lv_i2l (v := (xs (n + 2)).toInt64) hx hb dL_law_763 rfl ?_
  refine lv_ldc2 (v := 4294967295) hx hb hown (ht _ tw1356) dL_law_764 ?_
  refine lv_land hx hb dL_law_767 ?_
  refine lv_lor hx hb dL_law_768 ?_
  refine S_arg (k := 3) hx hb C.2.2.2.2.2.2.1 C.2.2.2.2.2.2.2.1 hbA hB.2.2 hl (by omega) (by omega) dL_law_769 dL_law_770 dL_law_771 dL_law_772 dL_law_773 (by decide) ?_
  refine R_call (rest := []) [.int r] (R_runV (n := 2) (As := [.long (((xs (n + 1)).toInt64 <<< ((32 : Int32).toInt64 &&& 63)) ||| ((xs (n + 2)).toInt64 &&& (4294967295 : Int64))), .int (xs (n + 3))]) ⟨hx, hb, hml, hown, ht⟩ (fun _ h9 => h9) hK hZ hA hB (c_X11_numberOf l g P σ (((xs (n + 1)).toInt64 <<< ((32 : Int32).toInt64 &&& 63)) ||| ((xs (n + 2)).toInt64 &&& (4294967295 : Int64))) (xs (n + 3)) H.size h1) (R_recv hK hB (by decide) (cell_0 rfl) rfl) tw628 tw625 tw626 tw627 tw1 ⟨by decide, by decide, by decide⟩ rfl rfl ⟨Nat.le_of_ble_eq_true rfl, Nat.le_of_ble_eq_true rfl⟩ rfl hl.1 rfl (Nat.le_of_ble_eq_true rfl) dL_law_774 ⟨by show cells + 0 ≤ 600000; omega, by show slots + 0 ≤ 7302250; omega⟩) hB hA rfl (fun H locs hB => ?_)
  refine lv_aload_n hx hb dL_law_777 rfl (lv_at hl 2 rfl) ?_
  refine S_arg (k := 1) hx hb C.2.2.2.2.2.2.1 C.2.2.2.2.2.2.2.1 hbA hB.2.2 hl (by omega) (by omega) dL_law_778 dL_law_779 dL_law_780 dL_law_781 dL_law_782 (by decide) ?_
  refine lv_i2l (v := (xs (n + 1)).toInt64) hx hb dL_law_783 rfl ?_
  refine lv_bipush (v := 32) hx hb dL_law_784 (by decide) ?_
  refine lv_lshl (v := ((xs (n + 1)).toInt64 <<< ((32 : Int32).toInt64 &&& 63))) hx hb dL_law_786 rfl ?_
  refine S_arg (k := 2) hx hb C.2.2.2.2.2.2.1 C.2.2.2.2.2.2.2.1 hbA hB.2.2 hl (by omega) (by omega) dL_law_787 dL_law_788 dL_law_789 dL_law_790 dL_law_791 (by decide) ?_
  refine lv_i2l (v := (xs (n + 2)).toInt64) hx hb dL_law_792 rfl ?_
  refine lv_ldc2 (v := 4294967295) hx hb hown (ht _ tw1356) dL_law_793 ?_
  refine lv_land hx hb dL_law_796 ?_
  refine lv_lor hx hb dL_law_797 ?_
  refine S_arg (k := 3) hx hb C.2.2.2.2.2.2.1 C.2.2.2.2.2.2.2.1 hbA hB.2.2 hl (by omega) (by omega) dL_law_798 dL_law_799 dL_law_800 dL_law_801 dL_law_802 (by decide) ?_
  refine R_call (rest := [.int r]) [.int r, .int r] (R_runV (n := 2) (As := [.long (((xs (n + 1)).toInt64 <<< ((32 : Int32).toInt64 &&& 63)) ||| ((xs (n + 2)).toInt64 &&& (4294967295 : Int64))), .int (xs (n + 3))]) ⟨hx, hb, hml, hown, ht⟩ (fun _ h9 => h9) hK hZ hA hB (c_X12_numberOf l g P σ1 (((xs (n + 1)).toInt64 <<< ((32 : Int32).toInt64 &&& 63)) ||| ((xs (n + 2)).toInt64 &&& (4294967295 : Int64))) (xs (n + 3)) H.size h2) (R_recv hK hB (by decide) (cell_8 rfl) rfl) tw1181 tw1178 tw1179 tw1180 tw5 ⟨by decide, by decide, by decide⟩ rfl rfl ⟨Nat.le_of_ble_eq_true rfl, Nat.le_of_ble_eq_true rfl⟩ rfl hl.1 rfl (Nat.le_of_ble_eq_true rfl) dL_law_803 ⟨by show cells + 0 ≤ 600000; omega, by show slots + 0 ≤ 7302250; omega⟩) hB hA rfl (fun H locs hB => ?_)
  refine lv_icmp_eq (tgt := 2235) hx hb dL_law_806 (by decide) (fun _ => ?_) (fun c9 => absurd rfl c9)
  refine W.widen (k := cells + 161) (n := slots + 322) (by omega) (by omega) ?_
  exact next P σ2 H locs ls hI2 hB hl
set_option maxHeartbeats 4000000 in
set_option maxRecDepth 100000 in
theorem law_15 {p : Program} {l : Launch} {e : Env} {s : State} {m : MethodId} {below : List Frame} {meth : Method} {c : Code} {b L : Nat} {xs : Nat → Int32} {g : tG} {A : Nat → Prop} (C : LC p s m meth c b L xs) (hK : tK g s) (hZ : tZ g A s s.heap) (hA : ∀ q, s.heap.size ≤ q → A q) (hbA : ¬ A b) {n : Nat} (hn : n + 6 ≤ L) (hL : L ≤ 3072) {σ : Hp} (hI : Inv σ) {P : Nat → Nat} {H : Heap} {locs : List Loc} {ls : Array Slot} {cells slots : Nat} (hB : tB g P σ A s.heap H locs) (hl : lv_has ls 4 [(0, .ref b), (1, .ref (gL g 0)), (2, .ref (gL g 40)), (3, .int (nI n))]) (hc : cells + 161 ≤ 600000) (hs : slots + 322 ≤ 7302250) {Q : State → Prop} (next : ∀ (P : Nat → Nat) (σ2 : Hp) (H : Heap) (locs : List Loc) (ls : Array Slot), Inv σ2 → tB g P σ2 A s.heap H locs → lv_has ls 4 [(0, .ref b), (1, .ref (gL g 0)), (2, .ref (gL g 40)), (3, .int (nI n))] → W p l e room_1 s m #[Value.ref b] below meth c H locs (cells + 161) (slots + 322) Q (F0 m 2235 ls [])) : W p l e room_1 s m #[Value.ref b] below meth c H locs cells slots Q (F0 m 811 ls []) := by
  obtain ⟨hx, hb, hr, hml, hown, ht, hX, hbl, hlocks, hgv⟩ := id C
  obtain ⟨r, σ1, σ2, h1, h2, hI2⟩ := op_next σ hI (xs (n + 1)) (((xs (n + 2)).toInt64 <<< ((32 : Int32).toInt64 &&& 63)) ||| ((xs (n + 3)).toInt64 &&& (4294967295 : Int64)))
  refine lv_aload_n hx hb dL_law_811 rfl (lv_at hl 1 rfl) ?_
  refine S_arg (k := 1) hx hb C.2.2.2.2.2.2.1 C.2.2.2.2.2.2.2.1 hbA hB.2.2 hl (by omega) (by omega) dL_law_812 dL_law_813 dL_law_814 dL_law_815 dL_law_816 (by decide) ?_
  refine S_arg (k := 2) hx hb C.2.2.2.2.2.2.1 C.2.2.2.2.2.2.2.1 hbA hB.2.2 hl (by omega) (by omega) dL_law_817 dL_law_818 dL_law_819 dL_law_820 dL_law_821 (by decide) ?_
  refine lv_i2l (v := (xs (n + 2)).toInt64) hx hb dL_law_822 rfl ?_
  refine lv_bipush (v := 32) hx hb dL_law_823 (by decide) ?_
  refine lv_lshl (v := ((xs (n + 2)).toInt64 <<< ((32 : Int32).toInt64 &&& 63))) hx hb dL_law_825 rfl ?_
  refine S_arg (k := 3) hx hb C.2.2.2.2.2.2.1 C.2.2.2.2.2.2.2.1 hbA hB.2.2 hl (by omega) (by omega) dL_law_826 dL_law_827 dL_law_828 dL_law_829 dL_law_830 (by decide) ?_
  refine lv_i2l (v := (xs (n + 3)).toInt64) hx hb dL_law_831 rfl ?_
  refine lv_ldc2 (v := 4294967295) hx hb hown (ht _ tw1356) dL_law_832 ?_
  refine lv_land hx hb dL_law_835 ?_
  refine lv_lor hx hb dL_law_836 ?_
  refine R_call (rest := []) [.long r] (R_runV (n := 2) (As := [.int (xs (n + 1)), .long (((xs (n + 2)).toInt64 <<< ((32 : Int32).toInt64 &&& 63)) ||| ((xs (n + 3)).toInt64 &&& (4294967295 : Int64)))]) ⟨hx, hb, hml, hown, ht⟩ (fun _ h9 => h9) hK hZ hA hB (c_X11_next l g P σ (xs (n + 1)) (((xs (n + 2)).toInt64 <<< ((32 : Int32).toInt64 &&& 63)) ||| ((xs (n + 3)).toInt64 &&& (4294967295 : Int64))) H.size h1) (R_recv hK hB (by decide) (cell_0 rfl) rfl) tw669 tw666 tw667 tw668 tw1 ⟨by decide, by decide, by decide⟩ rfl rfl ⟨Nat.le_of_ble_eq_true rfl, Nat.le_of_ble_eq_true rfl⟩ rfl hl.1 rfl (Nat.le_of_ble_eq_true rfl) dL_law_837 ⟨by show cells + 0 ≤ 600000; omega, by show slots + 0 ≤ 7302250; omega⟩) hB hA rfl (fun H locs hB => ?_)
  refine lv_aload_n hx hb dL_law_840 rfl (lv_at hl 2 rfl) ?_
  refine S_arg (k := 1) hx hb C.2.2.2.2.2.2.1 C.2.2.2.2.2.2.2.1 hbA hB.2.2 hl (by omega) (by omega) dL_law_841 dL_law_842 dL_law_843 dL_law_844 dL_law_845 (by decide) ?_
  refine S_arg (k := 2) hx hb C.2.2.2.2.2.2.1 C.2.2.2.2.2.2.2.1 hbA hB.2.2 hl (by omega) (by omega) dL_law_846 dL_law_847 dL_law_848 dL_law_849 dL_law_850 (by decide) ?_
  refine lv_i2l (v := (xs (n + 2)).toInt64) hx hb dL_law_851 rfl ?_
  refine lv_bipush (v := 32) hx hb dL_law_852 (by decide) ?_
  refine lv_lshl (v := ((xs (n + 2)).toInt64 <<< ((32 : Int32).toInt64 &&& 63))) hx hb dL_law_854 rfl ?_
  refine S_arg (k := 3) hx hb C.2.2.2.2.2.2.1 C.2.2.2.2.2.2.2.1 hbA hB.2.2 hl (by omega) (by omega) dL_law_855 dL_law_856 dL_law_857 dL_law_858 dL_law_859 (by decide) ?_
  refine lv_i2l (v := (xs (n + 3)).toInt64) hx hb dL_law_860 rfl ?_
  refine lv_ldc2 (v := 4294967295) hx hb hown (ht _ tw1356) dL_law_861 ?_
  refine lv_land hx hb dL_law_864 ?_
  refine lv_lor hx hb dL_law_865 ?_
  refine R_call (rest := [.long r]) [.long r, .long r] (R_runV (n := 2) (As := [.int (xs (n + 1)), .long (((xs (n + 2)).toInt64 <<< ((32 : Int32).toInt64 &&& 63)) ||| ((xs (n + 3)).toInt64 &&& (4294967295 : Int64)))]) ⟨hx, hb, hml, hown, ht⟩ (fun _ h9 => h9) hK hZ hA hB (c_X12_next l g P σ1 (xs (n + 1)) (((xs (n + 2)).toInt64 <<< ((32 : Int32).toInt64 &&& 63)) ||| ((xs (n + 3)).toInt64 &&& (4294967295 : Int64))) H.size h2) (R_recv hK hB (by decide) (cell_8 rfl) rfl) tw1193 tw1190 tw1191 tw1192 tw5 ⟨by decide, by decide, by decide⟩ rfl rfl ⟨Nat.le_of_ble_eq_true rfl, Nat.le_of_ble_eq_true rfl⟩ rfl hl.1 rfl (Nat.le_of_ble_eq_true rfl) dL_law_866 ⟨by show cells + 0 ≤ 600000; omega, by show slots + 0 ≤ 7302250; omega⟩) hB hA rfl (fun H locs hB => ?_)
  refine W.lcmp hx hb dL_law_869 ?_
  refine lv_if_eq (tgt := 2235) hx hb dL_law_870 (by decide) (fun _ => ?_) (fun c9 => absurd (lg_cmp_self r) c9)
  refine W.widen (k := cells + 161) (n := slots + 322) (by omega) (by omega) ?_
  exact next P σ2 H locs ls hI2 hB hl
set_option maxHeartbeats 4000000 in
set_option maxRecDepth 100000 in
theorem law_16 {p : Program} {l : Launch} {e : Env} {s : State} {m : MethodId} {below : List Frame} {meth : Method} {c : Code} {b L : Nat} {xs : Nat → Int32} {g : tG} {A : Nat → Prop} (C : LC p s m meth c b L xs) (hK : tK g s) (hZ : tZ g A s s.heap) (hA : ∀ q, s.heap.size ≤ q → A q) (hbA : ¬ A b) {n : Nat} (hn : n + 6 ≤ L) (hL : L ≤ 3072) {σ : Hp} (hI : Inv σ) {P : Nat → Nat} {H : Heap} {locs : List Loc} {ls : Array Slot} {cells slots : Nat} (hB : tB g P σ A s.heap H locs) (hl : lv_has ls 4 [(0, .ref b), (1, .ref (gL g 0)), (2, .ref (gL g 40)), (3, .int (nI n))]) (hc : cells + 161 ≤ 600000) (hs : slots + 322 ≤ 7302250) {Q : State → Prop} (next : ∀ (P : Nat → Nat) (σ2 : Hp) (H : Heap) (locs : List Loc) (ls : Array Slot), Inv σ2 → tB g P σ2 A s.heap H locs → lv_has ls 4 [(0, .ref b), (1, .ref (gL g 0)), (2, .ref (gL g 40)), (3, .int (nI n))] → W p l e room_1 s m #[Value.ref b] below meth c H locs (cells + 161) (slots + 322) Q (F0 m 2235 ls [])) : W p l e room_1 s m #[Value.ref b] below meth c H locs cells slots Q (F0 m 875 ls []) := by
  obtain ⟨hx, hb, hr, hml, hown, ht, hX, hbl, hlocks, hgv⟩ := id C
  obtain ⟨r, σ1, σ2, h1, h2, hI2⟩ := op_after σ hI (xs (n + 1)) (((xs (n + 2)).toInt64 <<< ((32 : Int32).toInt64 &&& 63)) ||| ((xs (n + 3)).toInt64 &&& (4294967295 : Int64))) (xs (n + 4))
  refine lv_aload_n hx hb dL_law_875 rfl (lv_at hl 1 rfl) ?_
  refine S_arg (k := 1) hx hb C.2.2.2.2.2.2.1 C.2.2.2.2.2.2.2.1 hbA hB.2.2 hl (by omega) (by omega) dL_law_876 dL_law_877 dL_law_878 dL_law_879 dL_law_880 (by decide) ?_
  refine S_arg (k := 2) hx hb C.2.2.2.2.2.2.1 C.2.2.2.2.2.2.2.1 hbA hB.2.2 hl (by omega) (by omega) dL_law_881 dL_law_882 dL_law_883 dL_law_884 dL_law_885 (by decide) ?_
  refine lv_i2l (v := (xs (n + 2)).toInt64) hx hb dL_law_886 rfl ?_
  refine lv_bipush (v := 32) hx hb dL_law_887 (by decide) ?_
  refine lv_lshl (v := ((xs (n + 2)).toInt64 <<< ((32 : Int32).toInt64 &&& 63))) hx hb dL_law_889 rfl ?_
  refine S_arg (k := 3) hx hb C.2.2.2.2.2.2.1 C.2.2.2.2.2.2.2.1 hbA hB.2.2 hl (by omega) (by omega) dL_law_890 dL_law_891 dL_law_892 dL_law_893 dL_law_894 (by decide) ?_
  refine lv_i2l (v := (xs (n + 3)).toInt64) hx hb dL_law_895 rfl ?_
  refine lv_ldc2 (v := 4294967295) hx hb hown (ht _ tw1356) dL_law_896 ?_
  refine lv_land hx hb dL_law_899 ?_
  refine lv_lor hx hb dL_law_900 ?_
  refine S_arg (k := 4) hx hb C.2.2.2.2.2.2.1 C.2.2.2.2.2.2.2.1 hbA hB.2.2 hl (by omega) (by omega) dL_law_901 dL_law_902 dL_law_903 dL_law_904 dL_law_905 (by decide) ?_
  refine R_call (rest := []) [.long r] (R_runV (n := 3) (As := [.int (xs (n + 1)), .long (((xs (n + 2)).toInt64 <<< ((32 : Int32).toInt64 &&& 63)) ||| ((xs (n + 3)).toInt64 &&& (4294967295 : Int64))), .int (xs (n + 4))]) ⟨hx, hb, hml, hown, ht⟩ (fun _ h9 => h9) hK hZ hA hB (c_X11_after l g P σ (xs (n + 1)) (((xs (n + 2)).toInt64 <<< ((32 : Int32).toInt64 &&& 63)) ||| ((xs (n + 3)).toInt64 &&& (4294967295 : Int64))) (xs (n + 4)) H.size h1) (R_recv hK hB (by decide) (cell_0 rfl) rfl) tw674 tw671 tw672 tw673 tw1 ⟨by decide, by decide, by decide⟩ rfl rfl ⟨Nat.le_of_ble_eq_true rfl, Nat.le_of_ble_eq_true rfl⟩ rfl hl.1 rfl (Nat.le_of_ble_eq_true rfl) dL_law_906 ⟨by show cells + 0 ≤ 600000; omega, by show slots + 0 ≤ 7302250; omega⟩) hB hA rfl (fun H locs hB => ?_)
  refine lv_aload_n hx hb dL_law_909 rfl (lv_at hl 2 rfl) ?_
  refine S_arg (k := 1) hx hb C.2.2.2.2.2.2.1 C.2.2.2.2.2.2.2.1 hbA hB.2.2 hl (by omega) (by omega) dL_law_910 dL_law_911 dL_law_912 dL_law_913 dL_law_914 (by decide) ?_
  refine S_arg (k := 2) hx hb C.2.2.2.2.2.2.1 C.2.2.2.2.2.2.2.1 hbA hB.2.2 hl (by omega) (by omega) dL_law_915 dL_law_916 dL_law_917 dL_law_918 dL_law_919 (by decide) ?_
  refine lv_i2l (v := (xs (n + 2)).toInt64) hx hb dL_law_920 rfl ?_
  refine lv_bipush (v := 32) hx hb dL_law_921 (by decide) ?_
  refine lv_lshl (v := ((xs (n + 2)).toInt64 <<< ((32 : Int32).toInt64 &&& 63))) hx hb dL_law_923 rfl ?_
  refine S_arg (k := 3) hx hb C.2.2.2.2.2.2.1 C.2.2.2.2.2.2.2.1 hbA hB.2.2 hl (by omega) (by omega) dL_law_924 dL_law_925 dL_law_926 dL_law_927 dL_law_928 (by decide) ?_
  refine lv_i2l (v := (xs (n + 3)).toInt64) hx hb dL_law_929 rfl ?_
  refine lv_ldc2 (v := 4294967295) hx hb hown (ht _ tw1356) dL_law_930 ?_
  refine lv_land hx hb dL_law_933 ?_
  refine lv_lor hx hb dL_law_934 ?_
  refine S_arg (k := 4) hx hb C.2.2.2.2.2.2.1 C.2.2.2.2.2.2.2.1 hbA hB.2.2 hl (by omega) (by omega) dL_law_935 dL_law_936 dL_law_937 dL_law_938 dL_law_939 (by decide) ?_
  refine R_call (rest := [.long r]) [.long r, .long r] (R_runV (n := 3) (As := [.int (xs (n + 1)), .long (((xs (n + 2)).toInt64 <<< ((32 : Int32).toInt64 &&& 63)) ||| ((xs (n + 3)).toInt64 &&& (4294967295 : Int64))), .int (xs (n + 4))]) ⟨hx, hb, hml, hown, ht⟩ (fun _ h9 => h9) hK hZ hA hB (c_X12_after l g P σ1 (xs (n + 1)) (((xs (n + 2)).toInt64 <<< ((32 : Int32).toInt64 &&& 63)) ||| ((xs (n + 3)).toInt64 &&& (4294967295 : Int64))) (xs (n + 4)) H.size h2) (R_recv hK hB (by decide) (cell_8 rfl) rfl) tw1197 tw1194 tw1195 tw1196 tw5 ⟨by decide, by decide, by decide⟩ rfl rfl ⟨Nat.le_of_ble_eq_true rfl, Nat.le_of_ble_eq_true rfl⟩ rfl hl.1 rfl (Nat.le_of_ble_eq_true rfl) dL_law_940 ⟨by show cells + 0 ≤ 600000; omega, by show slots + 0 ≤ 7302250; omega⟩) hB hA rfl (fun H locs hB => ?_)
  refine W.lcmp hx hb dL_law_943 ?_
  refine lv_if_eq (tgt := 2235) hx hb dL_law_944 (by decide) (fun _ => ?_) (fun c9 => absurd (lg_cmp_self r) c9)
  refine W.widen (k := cells + 161) (n := slots + 322) (by omega) (by omega) ?_
  exact next P σ2 H locs ls hI2 hB hl
set_option maxHeartbeats 4000000 in
set_option maxRecDepth 100000 in
theorem law_17 {p : Program} {l : Launch} {e : Env} {s : State} {m : MethodId} {below : List Frame} {meth : Method} {c : Code} {b L : Nat} {xs : Nat → Int32} {g : tG} {A : Nat → Prop} (C : LC p s m meth c b L xs) (hK : tK g s) (hZ : tZ g A s s.heap) (hA : ∀ q, s.heap.size ≤ q → A q) (hbA : ¬ A b) {n : Nat} (hn : n + 6 ≤ L) (hL : L ≤ 3072) {σ : Hp} (hI : Inv σ) {P : Nat → Nat} {H : Heap} {locs : List Loc} {ls : Array Slot} {cells slots : Nat} (hB : tB g P σ A s.heap H locs) (hl : lv_has ls 4 [(0, .ref b), (1, .ref (gL g 0)), (2, .ref (gL g 40)), (3, .int (nI n))]) (hc : cells + 161 ≤ 600000) (hs : slots + 322 ≤ 7302250) {Q : State → Prop} (next : ∀ (P : Nat → Nat) (σ2 : Hp) (H : Heap) (locs : List Loc) (ls : Array Slot), Inv σ2 → tB g P σ2 A s.heap H locs → lv_has ls 4 [(0, .ref b), (1, .ref (gL g 0)), (2, .ref (gL g 40)), (3, .int (nI n))] → W p l e room_1 s m #[Value.ref b] below meth c H locs (cells + 161) (slots + 322) Q (F0 m 2235 ls [])) : W p l e room_1 s m #[Value.ref b] below meth c H locs cells slots Q (F0 m 949 ls []) := by
  obtain ⟨hx, hb, hr, hml, hown, ht, hX, hbl, hlocks, hgv⟩ := id C
  obtain ⟨r, σ1, σ2, h1, h2, hI2⟩ := op_goes σ hI (xs (n + 1)) (((xs (n + 2)).toInt64 <<< ((32 : Int32).toInt64 &&& 63)) ||| ((xs (n + 3)).toInt64 &&& (4294967295 : Int64)))
  refine lv_aload_n hx hb dL_law_949 rfl (lv_at hl 1 rfl) ?_
  refine S_arg (k := 1) hx hb C.2.2.2.2.2.2.1 C.2.2.2.2.2.2.2.1 hbA hB.2.2 hl (by omega) (by omega) dL_law_950 dL_law_951 dL_law_952 dL_law_953 dL_law_954 (by decide) ?_
  refine S_arg (k := 2) hx hb C.2.2.2.2.2.2.1 C.2.2.2.2.2.2.2.1 hbA hB.2.2 hl (by omega) (by omega) dL_law_955 dL_law_956 dL_law_957 dL_law_958 dL_law_959 (by decide) ?_
  refine lv_i2l (v := (xs (n + 2)).toInt64) hx hb dL_law_960 rfl ?_
  refine lv_bipush (v := 32) hx hb dL_law_961 (by decide) ?_
  refine lv_lshl (v := ((xs (n + 2)).toInt64 <<< ((32 : Int32).toInt64 &&& 63))) hx hb dL_law_963 rfl ?_
  refine S_arg (k := 3) hx hb C.2.2.2.2.2.2.1 C.2.2.2.2.2.2.2.1 hbA hB.2.2 hl (by omega) (by omega) dL_law_964 dL_law_965 dL_law_966 dL_law_967 dL_law_968 (by decide) ?_
  refine lv_i2l (v := (xs (n + 3)).toInt64) hx hb dL_law_969 rfl ?_
  refine lv_ldc2 (v := 4294967295) hx hb hown (ht _ tw1356) dL_law_970 ?_
  refine lv_land hx hb dL_law_973 ?_
  refine lv_lor hx hb dL_law_974 ?_
  refine R_call (rest := []) [.int r] (R_runV (n := 2) (As := [.int (xs (n + 1)), .long (((xs (n + 2)).toInt64 <<< ((32 : Int32).toInt64 &&& 63)) ||| ((xs (n + 3)).toInt64 &&& (4294967295 : Int64)))]) ⟨hx, hb, hml, hown, ht⟩ (fun _ h9 => h9) hK hZ hA hB (c_X11_goes l g P σ (xs (n + 1)) (((xs (n + 2)).toInt64 <<< ((32 : Int32).toInt64 &&& 63)) ||| ((xs (n + 3)).toInt64 &&& (4294967295 : Int64))) H.size h1) (R_recv hK hB (by decide) (cell_0 rfl) rfl) tw682 tw679 tw680 tw681 tw1 ⟨by decide, by decide, by decide⟩ rfl rfl ⟨Nat.le_of_ble_eq_true rfl, Nat.le_of_ble_eq_true rfl⟩ rfl hl.1 rfl (Nat.le_of_ble_eq_true rfl) dL_law_975 ⟨by show cells + 0 ≤ 600000; omega, by show slots + 0 ≤ 7302250; omega⟩) hB hA rfl (fun H locs hB => ?_)
  refine lv_aload_n hx hb dL_law_978 rfl (lv_at hl 2 rfl) ?_
  refine S_arg (k := 1) hx hb C.2.2.2.2.2.2.1 C.2.2.2.2.2.2.2.1 hbA hB.2.2 hl (by omega) (by omega) dL_law_979 dL_law_980 dL_law_981 dL_law_982 dL_law_983 (by decide) ?_
  refine S_arg (k := 2) hx hb C.2.2.2.2.2.2.1 C.2.2.2.2.2.2.2.1 hbA hB.2.2 hl (by omega) (by omega) dL_law_984 dL_law_985 dL_law_986 dL_law_987 dL_law_988 (by decide) ?_
  refine lv_i2l (v := (xs (n + 2)).toInt64) hx hb dL_law_989 rfl ?_
  refine lv_bipush (v := 32) hx hb dL_law_990 (by decide) ?_
  refine lv_lshl (v := ((xs (n + 2)).toInt64 <<< ((32 : Int32).toInt64 &&& 63))) hx hb dL_law_992 rfl ?_
  refine S_arg (k := 3) hx hb C.2.2.2.2.2.2.1 C.2.2.2.2.2.2.2.1 hbA hB.2.2 hl (by omega) (by omega) dL_law_993 dL_law_994 dL_law_995 dL_law_996 dL_law_997 (by decide) ?_
  refine lv_i2l (v := (xs (n + 3)).toInt64) hx hb dL_law_998 rfl ?_
  refine lv_ldc2 (v := 4294967295) hx hb hown (ht _ tw1356) dL_law_999 ?_
  refine lv_land hx hb dL_law_1002 ?_
  refine lv_lor hx hb dL_law_1003 ?_
  refine R_call (rest := [.int r]) [.int r, .int r] (R_runV (n := 2) (As := [.int (xs (n + 1)), .long (((xs (n + 2)).toInt64 <<< ((32 : Int32).toInt64 &&& 63)) ||| ((xs (n + 3)).toInt64 &&& (4294967295 : Int64)))]) ⟨hx, hb, hml, hown, ht⟩ (fun _ h9 => h9) hK hZ hA hB (c_X12_goes l g P σ1 (xs (n + 1)) (((xs (n + 2)).toInt64 <<< ((32 : Int32).toInt64 &&& 63)) ||| ((xs (n + 3)).toInt64 &&& (4294967295 : Int64))) H.size h2) (R_recv hK hB (by decide) (cell_8 rfl) rfl) tw1205 tw1202 tw1203 tw1204 tw5 ⟨by decide, by decide, by decide⟩ rfl rfl ⟨Nat.le_of_ble_eq_true rfl, Nat.le_of_ble_eq_true rfl⟩ rfl hl.1 rfl (Nat.le_of_ble_eq_true rfl) dL_law_1004 ⟨by show cells + 0 ≤ 600000; omega, by show slots + 0 ≤ 7302250; omega⟩) hB hA rfl (fun H locs hB => ?_)
  refine lv_icmp_eq (tgt := 2235) hx hb dL_law_1007 (by decide) (fun _ => ?_) (fun c9 => absurd rfl c9)
  refine W.widen (k := cells + 161) (n := slots + 322) (by omega) (by omega) ?_
  exact next P σ2 H locs ls hI2 hB hl
set_option maxHeartbeats 4000000 in
set_option maxRecDepth 100000 in
theorem law_18 {p : Program} {l : Launch} {e : Env} {s : State} {m : MethodId} {below : List Frame} {meth : Method} {c : Code} {b L : Nat} {xs : Nat → Int32} {g : tG} {A : Nat → Prop} (C : LC p s m meth c b L xs) (hK : tK g s) (hZ : tZ g A s s.heap) (hA : ∀ q, s.heap.size ≤ q → A q) (hbA : ¬ A b) {n : Nat} (hn : n + 6 ≤ L) (hL : L ≤ 3072) {σ : Hp} (hI : Inv σ) {P : Nat → Nat} {H : Heap} {locs : List Loc} {ls : Array Slot} {cells slots : Nat} (hB : tB g P σ A s.heap H locs) (hl : lv_has ls 4 [(0, .ref b), (1, .ref (gL g 0)), (2, .ref (gL g 40)), (3, .int (nI n))]) (hc : cells + 161 ≤ 600000) (hs : slots + 322 ≤ 7302250) {Q : State → Prop} (next : ∀ (P : Nat → Nat) (σ2 : Hp) (H : Heap) (locs : List Loc) (ls : Array Slot), Inv σ2 → tB g P σ2 A s.heap H locs → lv_has ls 4 [(0, .ref b), (1, .ref (gL g 0)), (2, .ref (gL g 40)), (3, .int (nI n))] → W p l e room_1 s m #[Value.ref b] below meth c H locs (cells + 161) (slots + 322) Q (F0 m 2235 ls [])) : W p l e room_1 s m #[Value.ref b] below meth c H locs cells slots Q (F0 m 1012 ls []) := by
  obtain ⟨hx, hb, hr, hml, hown, ht, hX, hbl, hlocks, hgv⟩ := id C
  obtain ⟨r, σ1, σ2, h1, h2, hI2⟩ := op_comes σ hI (xs (n + 1)) (((xs (n + 2)).toInt64 <<< ((32 : Int32).toInt64 &&& 63)) ||| ((xs (n + 3)).toInt64 &&& (4294967295 : Int64)))
  refine lv_aload_n hx hb dL_law_1012 rfl (lv_at hl 1 rfl) ?_
  refine S_arg (k := 1) hx hb C.2.2.2.2.2.2.1 C.2.2.2.2.2.2.2.1 hbA hB.2.2 hl (by omega) (by omega) dL_law_1013 dL_law_1014 dL_law_1015 dL_law_1016 dL_law_1017 (by decide) ?_
  refine S_arg (k := 2) hx hb C.2.2.2.2.2.2.1 C.2.2.2.2.2.2.2.1 hbA hB.2.2 hl (by omega) (by omega) dL_law_1018 dL_law_1019 dL_law_1020 dL_law_1021 dL_law_1022 (by decide) ?_
  refine lv_i2l (v := (xs (n + 2)).toInt64) hx hb dL_law_1023 rfl ?_
  refine lv_bipush (v := 32) hx hb dL_law_1024 (by decide) ?_
  refine lv_lshl (v := ((xs (n + 2)).toInt64 <<< ((32 : Int32).toInt64 &&& 63))) hx hb dL_law_1026 rfl ?_
  refine S_arg (k := 3) hx hb C.2.2.2.2.2.2.1 C.2.2.2.2.2.2.2.1 hbA hB.2.2 hl (by omega) (by omega) dL_law_1027 dL_law_1028 dL_law_1029 dL_law_1030 dL_law_1031 (by decide) ?_
  refine lv_i2l (v := (xs (n + 3)).toInt64) hx hb dL_law_1032 rfl ?_
  refine lv_ldc2 (v := 4294967295) hx hb hown (ht _ tw1356) dL_law_1033 ?_
  refine lv_land hx hb dL_law_1036 ?_
  refine lv_lor hx hb dL_law_1037 ?_
  refine R_call (rest := []) [.long r] (R_runV (n := 2) (As := [.int (xs (n + 1)), .long (((xs (n + 2)).toInt64 <<< ((32 : Int32).toInt64 &&& 63)) ||| ((xs (n + 3)).toInt64 &&& (4294967295 : Int64)))]) ⟨hx, hb, hml, hown, ht⟩ (fun _ h9 => h9) hK hZ hA hB (c_X11_comes l g P σ (xs (n + 1)) (((xs (n + 2)).toInt64 <<< ((32 : Int32).toInt64 &&& 63)) ||| ((xs (n + 3)).toInt64 &&& (4294967295 : Int64))) H.size h1) (R_recv hK hB (by decide) (cell_0 rfl) rfl) tw690 tw687 tw688 tw689 tw1 ⟨by decide, by decide, by decide⟩ rfl rfl ⟨Nat.le_of_ble_eq_true rfl, Nat.le_of_ble_eq_true rfl⟩ rfl hl.1 rfl (Nat.le_of_ble_eq_true rfl) dL_law_1038 ⟨by show cells + 0 ≤ 600000; omega, by show slots + 0 ≤ 7302250; omega⟩) hB hA rfl (fun H locs hB => ?_)
  refine lv_aload_n hx hb dL_law_1041 rfl (lv_at hl 2 rfl) ?_
  refine S_arg (k := 1) hx hb C.2.2.2.2.2.2.1 C.2.2.2.2.2.2.2.1 hbA hB.2.2 hl (by omega) (by omega) dL_law_1042 dL_law_1043 dL_law_1044 dL_law_1045 dL_law_1046 (by decide) ?_
  refine S_arg (k := 2) hx hb C.2.2.2.2.2.2.1 C.2.2.2.2.2.2.2.1 hbA hB.2.2 hl (by omega) (by omega) dL_law_1047 dL_law_1048 dL_law_1049 dL_law_1050 dL_law_1051 (by decide) ?_
  refine lv_i2l (v := (xs (n + 2)).toInt64) hx hb dL_law_1052 rfl ?_
  refine lv_bipush (v := 32) hx hb dL_law_1053 (by decide) ?_
  refine lv_lshl (v := ((xs (n + 2)).toInt64 <<< ((32 : Int32).toInt64 &&& 63))) hx hb dL_law_1055 rfl ?_
  refine S_arg (k := 3) hx hb C.2.2.2.2.2.2.1 C.2.2.2.2.2.2.2.1 hbA hB.2.2 hl (by omega) (by omega) dL_law_1056 dL_law_1057 dL_law_1058 dL_law_1059 dL_law_1060 (by decide) ?_
  refine lv_i2l (v := (xs (n + 3)).toInt64) hx hb dL_law_1061 rfl ?_
  refine lv_ldc2 (v := 4294967295) hx hb hown (ht _ tw1356) dL_law_1062 ?_
  refine lv_land hx hb dL_law_1065 ?_
  refine lv_lor hx hb dL_law_1066 ?_
  refine R_call (rest := [.long r]) [.long r, .long r] (R_runV (n := 2) (As := [.int (xs (n + 1)), .long (((xs (n + 2)).toInt64 <<< ((32 : Int32).toInt64 &&& 63)) ||| ((xs (n + 3)).toInt64 &&& (4294967295 : Int64)))]) ⟨hx, hb, hml, hown, ht⟩ (fun _ h9 => h9) hK hZ hA hB (c_X12_comes l g P σ1 (xs (n + 1)) (((xs (n + 2)).toInt64 <<< ((32 : Int32).toInt64 &&& 63)) ||| ((xs (n + 3)).toInt64 &&& (4294967295 : Int64))) H.size h2) (R_recv hK hB (by decide) (cell_8 rfl) rfl) tw1217 tw1214 tw1215 tw1216 tw5 ⟨by decide, by decide, by decide⟩ rfl rfl ⟨Nat.le_of_ble_eq_true rfl, Nat.le_of_ble_eq_true rfl⟩ rfl hl.1 rfl (Nat.le_of_ble_eq_true rfl) dL_law_1067 ⟨by show cells + 0 ≤ 600000; omega, by show slots + 0 ≤ 7302250; omega⟩) hB hA rfl (fun H locs hB => ?_)
  refine W.lcmp hx hb dL_law_1070 ?_
  refine lv_if_eq (tgt := 2235) hx hb dL_law_1071 (by decide) (fun _ => ?_) (fun c9 => absurd (lg_cmp_self r) c9)
  refine W.widen (k := cells + 161) (n := slots + 322) (by omega) (by omega) ?_
  exact next P σ2 H locs ls hI2 hB hl
set_option maxHeartbeats 4000000 in
set_option maxRecDepth 100000 in
theorem law_19 {p : Program} {l : Launch} {e : Env} {s : State} {m : MethodId} {below : List Frame} {meth : Method} {c : Code} {b L : Nat} {xs : Nat → Int32} {g : tG} {A : Nat → Prop} (C : LC p s m meth c b L xs) (hK : tK g s) (hZ : tZ g A s s.heap) (hA : ∀ q, s.heap.size ≤ q → A q) (hbA : ¬ A b) {n : Nat} (hn : n + 6 ≤ L) (hL : L ≤ 3072) {σ : Hp} (hI : Inv σ) {P : Nat → Nat} {H : Heap} {locs : List Loc} {ls : Array Slot} {cells slots : Nat} (hB : tB g P σ A s.heap H locs) (hl : lv_has ls 4 [(0, .ref b), (1, .ref (gL g 0)), (2, .ref (gL g 40)), (3, .int (nI n))]) (hc : cells + 161 ≤ 600000) (hs : slots + 322 ≤ 7302250) {Q : State → Prop} (next : ∀ (P : Nat → Nat) (σ2 : Hp) (H : Heap) (locs : List Loc) (ls : Array Slot), Inv σ2 → tB g P σ2 A s.heap H locs → lv_has ls 4 [(0, .ref b), (1, .ref (gL g 0)), (2, .ref (gL g 40)), (3, .int (nI n))] → W p l e room_1 s m #[Value.ref b] below meth c H locs (cells + 161) (slots + 322) Q (F0 m 2235 ls [])) : W p l e room_1 s m #[Value.ref b] below meth c H locs cells slots Q (F0 m 1076 ls []) := by
  obtain ⟨hx, hb, hr, hml, hown, ht, hX, hbl, hlocks, hgv⟩ := id C
  obtain ⟨r, σ1, σ2, h1, h2, hI2⟩ := op_round σ hI (xs (n + 1)) (((xs (n + 2)).toInt64 <<< ((32 : Int32).toInt64 &&& 63)) ||| ((xs (n + 3)).toInt64 &&& (4294967295 : Int64))) (xs (n + 4))
  refine lv_aload_n hx hb dL_law_1076 rfl (lv_at hl 1 rfl) ?_
  refine S_arg (k := 1) hx hb C.2.2.2.2.2.2.1 C.2.2.2.2.2.2.2.1 hbA hB.2.2 hl (by omega) (by omega) dL_law_1077 dL_law_1078 dL_law_1079 dL_law_1080 dL_law_1081 (by decide) ?_
  refine S_arg (k := 2) hx hb C.2.2.2.2.2.2.1 C.2.2.2.2.2.2.2.1 hbA hB.2.2 hl (by omega) (by omega) dL_law_1082 dL_law_1083 dL_law_1084 dL_law_1085 dL_law_1086 (by decide) ?_
  refine lv_i2l (v := (xs (n + 2)).toInt64) hx hb dL_law_1087 rfl ?_
  refine lv_bipush (v := 32) hx hb dL_law_1088 (by decide) ?_
  refine lv_lshl (v := ((xs (n + 2)).toInt64 <<< ((32 : Int32).toInt64 &&& 63))) hx hb dL_law_1090 rfl ?_
  refine S_arg (k := 3) hx hb C.2.2.2.2.2.2.1 C.2.2.2.2.2.2.2.1 hbA hB.2.2 hl (by omega) (by omega) dL_law_1091 dL_law_1092 dL_law_1093 dL_law_1094 dL_law_1095 (by decide) ?_
  refine lv_i2l (v := (xs (n + 3)).toInt64) hx hb dL_law_1096 rfl ?_
  refine lv_ldc2 (v := 4294967295) hx hb hown (ht _ tw1356) dL_law_1097 ?_
  refine lv_land hx hb dL_law_1100 ?_
  refine lv_lor hx hb dL_law_1101 ?_
  refine S_arg (k := 4) hx hb C.2.2.2.2.2.2.1 C.2.2.2.2.2.2.2.1 hbA hB.2.2 hl (by omega) (by omega) dL_law_1102 dL_law_1103 dL_law_1104 dL_law_1105 dL_law_1106 (by decide) ?_
  refine R_call (rest := []) [.long r] (R_runV (n := 3) (As := [.int (xs (n + 1)), .long (((xs (n + 2)).toInt64 <<< ((32 : Int32).toInt64 &&& 63)) ||| ((xs (n + 3)).toInt64 &&& (4294967295 : Int64))), .int (xs (n + 4))]) ⟨hx, hb, hml, hown, ht⟩ (fun _ h9 => h9) hK hZ hA hB (c_X11_round l g P σ (xs (n + 1)) (((xs (n + 2)).toInt64 <<< ((32 : Int32).toInt64 &&& 63)) ||| ((xs (n + 3)).toInt64 &&& (4294967295 : Int64))) (xs (n + 4)) H.size h1) (R_recv hK hB (by decide) (cell_0 rfl) rfl) tw694 tw691 tw692 tw693 tw1 ⟨by decide, by decide, by decide⟩ rfl rfl ⟨Nat.le_of_ble_eq_true rfl, Nat.le_of_ble_eq_true rfl⟩ rfl hl.1 rfl (Nat.le_of_ble_eq_true rfl) dL_law_1107 ⟨by show cells + 0 ≤ 600000; omega, by show slots + 0 ≤ 7302250; omega⟩) hB hA rfl (fun H locs hB => ?_)
  refine lv_aload_n hx hb dL_law_1110 rfl (lv_at hl 2 rfl) ?_
  refine S_arg (k := 1) hx hb C.2.2.2.2.2.2.1 C.2.2.2.2.2.2.2.1 hbA hB.2.2 hl (by omega) (by omega) dL_law_1111 dL_law_1112 dL_law_1113 dL_law_1114 dL_law_1115 (by decide) ?_
  refine S_arg (k := 2) hx hb C.2.2.2.2.2.2.1 C.2.2.2.2.2.2.2.1 hbA hB.2.2 hl (by omega) (by omega) dL_law_1116 dL_law_1117 dL_law_1118 dL_law_1119 dL_law_1120 (by decide) ?_
  refine lv_i2l (v := (xs (n + 2)).toInt64) hx hb dL_law_1121 rfl ?_
  refine lv_bipush (v := 32) hx hb dL_law_1122 (by decide) ?_
  refine lv_lshl (v := ((xs (n + 2)).toInt64 <<< ((32 : Int32).toInt64 &&& 63))) hx hb dL_law_1124 rfl ?_
  refine S_arg (k := 3) hx hb C.2.2.2.2.2.2.1 C.2.2.2.2.2.2.2.1 hbA hB.2.2 hl (by omega) (by omega) dL_law_1125 dL_law_1126 dL_law_1127 dL_law_1128 dL_law_1129 (by decide) ?_
  refine lv_i2l (v := (xs (n + 3)).toInt64) hx hb dL_law_1130 rfl ?_
  refine lv_ldc2 (v := 4294967295) hx hb hown (ht _ tw1356) dL_law_1131 ?_
  refine lv_land hx hb dL_law_1134 ?_
  refine lv_lor hx hb dL_law_1135 ?_
  refine S_arg (k := 4) hx hb C.2.2.2.2.2.2.1 C.2.2.2.2.2.2.2.1 hbA hB.2.2 hl (by omega) (by omega) dL_law_1136 dL_law_1137 dL_law_1138 dL_law_1139 dL_law_1140 (by decide) ?_
  refine R_call (rest := [.long r]) [.long r, .long r] (R_runV (n := 3) (As := [.int (xs (n + 1)), .long (((xs (n + 2)).toInt64 <<< ((32 : Int32).toInt64 &&& 63)) ||| ((xs (n + 3)).toInt64 &&& (4294967295 : Int64))), .int (xs (n + 4))]) ⟨hx, hb, hml, hown, ht⟩ (fun _ h9 => h9) hK hZ hA hB (c_X12_round l g P σ1 (xs (n + 1)) (((xs (n + 2)).toInt64 <<< ((32 : Int32).toInt64 &&& 63)) ||| ((xs (n + 3)).toInt64 &&& (4294967295 : Int64))) (xs (n + 4)) H.size h2) (R_recv hK hB (by decide) (cell_8 rfl) rfl) tw1221 tw1218 tw1219 tw1220 tw5 ⟨by decide, by decide, by decide⟩ rfl rfl ⟨Nat.le_of_ble_eq_true rfl, Nat.le_of_ble_eq_true rfl⟩ rfl hl.1 rfl (Nat.le_of_ble_eq_true rfl) dL_law_1141 ⟨by show cells + 0 ≤ 600000; omega, by show slots + 0 ≤ 7302250; omega⟩) hB hA rfl (fun H locs hB => ?_)
  refine W.lcmp hx hb dL_law_1144 ?_
  refine lv_if_eq (tgt := 2235) hx hb dL_law_1145 (by decide) (fun _ => ?_) (fun c9 => absurd (lg_cmp_self r) c9)
  refine W.widen (k := cells + 161) (n := slots + 322) (by omega) (by omega) ?_
  exact next P σ2 H locs ls hI2 hB hl
set_option maxHeartbeats 4000000 in
set_option maxRecDepth 100000 in
theorem law_20 {p : Program} {l : Launch} {e : Env} {s : State} {m : MethodId} {below : List Frame} {meth : Method} {c : Code} {b L : Nat} {xs : Nat → Int32} {g : tG} {A : Nat → Prop} (C : LC p s m meth c b L xs) (hK : tK g s) (hZ : tZ g A s s.heap) (hA : ∀ q, s.heap.size ≤ q → A q) (hbA : ¬ A b) {n : Nat} (hn : n + 6 ≤ L) (hL : L ≤ 3072) {σ : Hp} (hI : Inv σ) {P : Nat → Nat} {H : Heap} {locs : List Loc} {ls : Array Slot} {cells slots : Nat} (hB : tB g P σ A s.heap H locs) (hl : lv_has ls 4 [(0, .ref b), (1, .ref (gL g 0)), (2, .ref (gL g 40)), (3, .int (nI n))]) (hc : cells + 161 ≤ 600000) (hs : slots + 322 ≤ 7302250) {Q : State → Prop} (next : ∀ (P : Nat → Nat) (σ2 : Hp) (H : Heap) (locs : List Loc) (ls : Array Slot), Inv σ2 → tB g P σ2 A s.heap H locs → lv_has ls 4 [(0, .ref b), (1, .ref (gL g 0)), (2, .ref (gL g 40)), (3, .int (nI n))] → W p l e room_1 s m #[Value.ref b] below meth c H locs (cells + 161) (slots + 322) Q (F0 m 2235 ls [])) : W p l e room_1 s m #[Value.ref b] below meth c H locs cells slots Q (F0 m 1150 ls []) := by
  obtain ⟨hx, hb, hr, hml, hown, ht, hX, hbl, hlocks, hgv⟩ := id C
  obtain ⟨r, σ1, σ2, h1, h2, hI2⟩ := op_meet σ hI (xs (n + 1)) (((xs (n + 2)).toInt64 <<< ((32 : Int32).toInt64 &&& 63)) ||| ((xs (n + 3)).toInt64 &&& (4294967295 : Int64))) (((xs (n + 4)).toInt64 <<< ((32 : Int32).toInt64 &&& 63)) ||| ((xs (n + 5)).toInt64 &&& (4294967295 : Int64)))
  refine lv_aload_n hx hb dL_law_1150 rfl (lv_at hl 1 rfl) ?_
  refine S_arg (k := 1) hx hb C.2.2.2.2.2.2.1 C.2.2.2.2.2.2.2.1 hbA hB.2.2 hl (by omega) (by omega) dL_law_1151 dL_law_1152 dL_law_1153 dL_law_1154 dL_law_1155 (by decide) ?_
  refine S_arg (k := 2) hx hb C.2.2.2.2.2.2.1 C.2.2.2.2.2.2.2.1 hbA hB.2.2 hl (by omega) (by omega) dL_law_1156 dL_law_1157 dL_law_1158 dL_law_1159 dL_law_1160 (by decide) ?_
  refine lv_i2l (v := (xs (n + 2)).toInt64) hx hb dL_law_1161 rfl ?_
  refine lv_bipush (v := 32) hx hb dL_law_1162 (by decide) ?_
  refine lv_lshl (v := ((xs (n + 2)).toInt64 <<< ((32 : Int32).toInt64 &&& 63))) hx hb dL_law_1164 rfl ?_
  refine S_arg (k := 3) hx hb C.2.2.2.2.2.2.1 C.2.2.2.2.2.2.2.1 hbA hB.2.2 hl (by omega) (by omega) dL_law_1165 dL_law_1166 dL_law_1167 dL_law_1168 dL_law_1169 (by decide) ?_
  refine lv_i2l (v := (xs (n + 3)).toInt64) hx hb dL_law_1170 rfl ?_
  refine lv_ldc2 (v := 4294967295) hx hb hown (ht _ tw1356) dL_law_1171 ?_
  refine lv_land hx hb dL_law_1174 ?_
  refine lv_lor hx hb dL_law_1175 ?_
  refine S_arg (k := 4) hx hb C.2.2.2.2.2.2.1 C.2.2.2.2.2.2.2.1 hbA hB.2.2 hl (by omega) (by omega) dL_law_1176 dL_law_1177 dL_law_1178 dL_law_1179 dL_law_1180 (by decide) ?_
  refine lv_i2l (v := (xs (n + 4)).toInt64) hx hb dL_law_1181 rfl ?_
  refine lv_bipush (v := 32) hx hb dL_law_1182 (by decide) ?_
  refine lv_lshl (v := ((xs (n + 4)).toInt64 <<< ((32 : Int32).toInt64 &&& 63))) hx hb dL_law_1184 rfl ?_
  refine S_arg (k := 5) hx hb C.2.2.2.2.2.2.1 C.2.2.2.2.2.2.2.1 hbA hB.2.2 hl (by omega) (by omega) dL_law_1185 dL_law_1186 dL_law_1187 dL_law_1188 dL_law_1189 (by decide) ?_
  refine lv_i2l (v := (xs (n + 5)).toInt64) hx hb dL_law_1190 rfl ?_
  refine lv_ldc2 (v := 4294967295) hx hb hown (ht _ tw1356) dL_law_1191 ?_
  refine lv_land hx hb dL_law_1194 ?_
  refine lv_lor hx hb dL_law_1195 ?_
  refine R_call (rest := []) [.long r] (R_runV (n := 3) (As := [.int (xs (n + 1)), .long (((xs (n + 2)).toInt64 <<< ((32 : Int32).toInt64 &&& 63)) ||| ((xs (n + 3)).toInt64 &&& (4294967295 : Int64))), .long (((xs (n + 4)).toInt64 <<< ((32 : Int32).toInt64 &&& 63)) ||| ((xs (n + 5)).toInt64 &&& (4294967295 : Int64)))]) ⟨hx, hb, hml, hown, ht⟩ (fun _ h9 => h9) hK hZ hA hB (c_X11_meet l g P σ (xs (n + 1)) (((xs (n + 2)).toInt64 <<< ((32 : Int32).toInt64 &&& 63)) ||| ((xs (n + 3)).toInt64 &&& (4294967295 : Int64))) (((xs (n + 4)).toInt64 <<< ((32 : Int32).toInt64 &&& 63)) ||| ((xs (n + 5)).toInt64 &&& (4294967295 : Int64))) H.size h1) (R_recv hK hB (by decide) (cell_0 rfl) rfl) tw709 tw706 tw707 tw708 tw1 ⟨by decide, by decide, by decide⟩ rfl rfl ⟨Nat.le_of_ble_eq_true rfl, Nat.le_of_ble_eq_true rfl⟩ rfl hl.1 rfl (Nat.le_of_ble_eq_true rfl) dL_law_1196 ⟨by show cells + 0 ≤ 600000; omega, by show slots + 0 ≤ 7302250; omega⟩) hB hA rfl (fun H locs hB => ?_)
  refine lv_aload_n hx hb dL_law_1199 rfl (lv_at hl 2 rfl) ?_
  refine S_arg (k := 1) hx hb C.2.2.2.2.2.2.1 C.2.2.2.2.2.2.2.1 hbA hB.2.2 hl (by omega) (by omega) dL_law_1200 dL_law_1201 dL_law_1202 dL_law_1203 dL_law_1204 (by decide) ?_
  refine S_arg (k := 2) hx hb C.2.2.2.2.2.2.1 C.2.2.2.2.2.2.2.1 hbA hB.2.2 hl (by omega) (by omega) dL_law_1205 dL_law_1206 dL_law_1207 dL_law_1208 dL_law_1209 (by decide) ?_
  refine lv_i2l (v := (xs (n + 2)).toInt64) hx hb dL_law_1210 rfl ?_
  refine lv_bipush (v := 32) hx hb dL_law_1211 (by decide) ?_
  refine lv_lshl (v := ((xs (n + 2)).toInt64 <<< ((32 : Int32).toInt64 &&& 63))) hx hb dL_law_1213 rfl ?_
  refine S_arg (k := 3) hx hb C.2.2.2.2.2.2.1 C.2.2.2.2.2.2.2.1 hbA hB.2.2 hl (by omega) (by omega) dL_law_1214 dL_law_1215 dL_law_1216 dL_law_1217 dL_law_1218 (by decide) ?_
  refine lv_i2l (v := (xs (n + 3)).toInt64) hx hb dL_law_1219 rfl ?_
  refine lv_ldc2 (v := 4294967295) hx hb hown (ht _ tw1356) dL_law_1220 ?_
  refine lv_land hx hb dL_law_1223 ?_
  refine lv_lor hx hb dL_law_1224 ?_
  refine S_arg (k := 4) hx hb C.2.2.2.2.2.2.1 C.2.2.2.2.2.2.2.1 hbA hB.2.2 hl (by omega) (by omega) dL_law_1225 dL_law_1226 dL_law_1227 dL_law_1228 dL_law_1229 (by decide) ?_
  refine lv_i2l (v := (xs (n + 4)).toInt64) hx hb dL_law_1230 rfl ?_
  refine lv_bipush (v := 32) hx hb dL_law_1231 (by decide) ?_
  refine lv_lshl (v := ((xs (n + 4)).toInt64 <<< ((32 : Int32).toInt64 &&& 63))) hx hb dL_law_1233 rfl ?_
  refine S_arg (k := 5) hx hb C.2.2.2.2.2.2.1 C.2.2.2.2.2.2.2.1 hbA hB.2.2 hl (by omega) (by omega) dL_law_1234 dL_law_1235 dL_law_1236 dL_law_1237 dL_law_1238 (by decide) ?_
  refine lv_i2l (v := (xs (n + 5)).toInt64) hx hb dL_law_1239 rfl ?_
  refine lv_ldc2 (v := 4294967295) hx hb hown (ht _ tw1356) dL_law_1240 ?_
  refine lv_land hx hb dL_law_1243 ?_
  refine lv_lor hx hb dL_law_1244 ?_
  refine R_call (rest := [.long r]) [.long r, .long r] (R_runV (n := 3) (As := [.int (xs (n + 1)), .long (((xs (n + 2)).toInt64 <<< ((32 : Int32).toInt64 &&& 63)) ||| ((xs (n + 3)).toInt64 &&& (4294967295 : Int64))), .long (((xs (n + 4)).toInt64 <<< ((32 : Int32).toInt64 &&& 63)) ||| ((xs (n + 5)).toInt64 &&& (4294967295 : Int64)))]) ⟨hx, hb, hml, hown, ht⟩ (fun _ h9 => h9) hK hZ hA hB (c_X12_meet l g P σ1 (xs (n + 1)) (((xs (n + 2)).toInt64 <<< ((32 : Int32).toInt64 &&& 63)) ||| ((xs (n + 3)).toInt64 &&& (4294967295 : Int64))) (((xs (n + 4)).toInt64 <<< ((32 : Int32).toInt64 &&& 63)) ||| ((xs (n + 5)).toInt64 &&& (4294967295 : Int64))) H.size h2) (R_recv hK hB (by decide) (cell_8 rfl) rfl) tw1229 tw1226 tw1227 tw1228 tw5 ⟨by decide, by decide, by decide⟩ rfl rfl ⟨Nat.le_of_ble_eq_true rfl, Nat.le_of_ble_eq_true rfl⟩ rfl hl.1 rfl (Nat.le_of_ble_eq_true rfl) dL_law_1245 ⟨by show cells + 0 ≤ 600000; omega, by show slots + 0 ≤ 7302250; omega⟩) hB hA rfl (fun H locs hB => ?_)
  refine W.lcmp hx hb dL_law_1248 ?_
  refine lv_if_eq (tgt := 2235) hx hb dL_law_1249 (by decide) (fun _ => ?_) (fun c9 => absurd (lg_cmp_self r) c9)
  refine W.widen (k := cells + 161) (n := slots + 322) (by omega) (by omega) ?_
  exact next P σ2 H locs ls hI2 hB hl
set_option maxHeartbeats 4000000 in
set_option maxRecDepth 100000 in
theorem law_21 {p : Program} {l : Launch} {e : Env} {s : State} {m : MethodId} {below : List Frame} {meth : Method} {c : Code} {b L : Nat} {xs : Nat → Int32} {g : tG} {A : Nat → Prop} (C : LC p s m meth c b L xs) (hK : tK g s) (hZ : tZ g A s s.heap) (hA : ∀ q, s.heap.size ≤ q → A q) (hbA : ¬ A b) {n : Nat} (hn : n + 6 ≤ L) (hL : L ≤ 3072) {σ : Hp} (hI : Inv σ) {P : Nat → Nat} {H : Heap} {locs : List Loc} {ls : Array Slot} {cells slots : Nat} (hB : tB g P σ A s.heap H locs) (hl : lv_has ls 4 [(0, .ref b), (1, .ref (gL g 0)), (2, .ref (gL g 40)), (3, .int (nI n))]) (hc : cells + 161 ≤ 600000) (hs : slots + 322 ≤ 7302250) {Q : State → Prop} (next : ∀ (P : Nat → Nat) (σ2 : Hp) (H : Heap) (locs : List Loc) (ls : Array Slot), Inv σ2 → tB g P σ2 A s.heap H locs → lv_has ls 4 [(0, .ref b), (1, .ref (gL g 0)), (2, .ref (gL g 40)), (3, .int (nI n))] → W p l e room_1 s m #[Value.ref b] below meth c H locs (cells + 161) (slots + 322) Q (F0 m 2235 ls [])) : W p l e room_1 s m #[Value.ref b] below meth c H locs cells slots Q (F0 m 1254 ls []) := by
  obtain ⟨hx, hb, hr, hml, hown, ht, hX, hbl, hlocks, hgv⟩ := id C
  obtain ⟨r, σ1, σ2, h1, h2, hI2⟩ := op_source σ hI (xs (n + 1)) (((xs (n + 2)).toInt64 <<< ((32 : Int32).toInt64 &&& 63)) ||| ((xs (n + 3)).toInt64 &&& (4294967295 : Int64))) (xs (n + 4))
  refine lv_aload_n hx hb dL_law_1254 rfl (lv_at hl 1 rfl) ?_
  refine S_arg (k := 1) hx hb C.2.2.2.2.2.2.1 C.2.2.2.2.2.2.2.1 hbA hB.2.2 hl (by omega) (by omega) dL_law_1255 dL_law_1256 dL_law_1257 dL_law_1258 dL_law_1259 (by decide) ?_
  refine S_arg (k := 2) hx hb C.2.2.2.2.2.2.1 C.2.2.2.2.2.2.2.1 hbA hB.2.2 hl (by omega) (by omega) dL_law_1260 dL_law_1261 dL_law_1262 dL_law_1263 dL_law_1264 (by decide) ?_
  refine lv_i2l (v := (xs (n + 2)).toInt64) hx hb dL_law_1265 rfl ?_
  refine lv_bipush (v := 32) hx hb dL_law_1266 (by decide) ?_
  refine lv_lshl (v := ((xs (n + 2)).toInt64 <<< ((32 : Int32).toInt64 &&& 63))) hx hb dL_law_1268 rfl ?_
  refine S_arg (k := 3) hx hb C.2.2.2.2.2.2.1 C.2.2.2.2.2.2.2.1 hbA hB.2.2 hl (by omega) (by omega) dL_law_1269 dL_law_1270 dL_law_1271 dL_law_1272 dL_law_1273 (by decide) ?_
  refine lv_i2l (v := (xs (n + 3)).toInt64) hx hb dL_law_1274 rfl ?_
  refine lv_ldc2 (v := 4294967295) hx hb hown (ht _ tw1356) dL_law_1275 ?_
  refine lv_land hx hb dL_law_1278 ?_
  refine lv_lor hx hb dL_law_1279 ?_
  refine S_arg (k := 4) hx hb C.2.2.2.2.2.2.1 C.2.2.2.2.2.2.2.1 hbA hB.2.2 hl (by omega) (by omega) dL_law_1280 dL_law_1281 dL_law_1282 dL_law_1283 dL_law_1284 (by decide) ?_
  refine R_call (rest := []) [.int r] (R_runV (n := 3) (As := [.int (xs (n + 1)), .long (((xs (n + 2)).toInt64 <<< ((32 : Int32).toInt64 &&& 63)) ||| ((xs (n + 3)).toInt64 &&& (4294967295 : Int64))), .int (xs (n + 4))]) ⟨hx, hb, hml, hown, ht⟩ (fun _ h9 => h9) hK hZ hA hB (c_X11_source l g P σ (xs (n + 1)) (((xs (n + 2)).toInt64 <<< ((32 : Int32).toInt64 &&& 63)) ||| ((xs (n + 3)).toInt64 &&& (4294967295 : Int64))) (xs (n + 4)) H.size h1) (R_recv hK hB (by decide) (cell_0 rfl) rfl) tw720 tw717 tw718 tw719 tw1 ⟨by decide, by decide, by decide⟩ rfl rfl ⟨Nat.le_of_ble_eq_true rfl, Nat.le_of_ble_eq_true rfl⟩ rfl hl.1 rfl (Nat.le_of_ble_eq_true rfl) dL_law_1285 ⟨by show cells + 0 ≤ 600000; omega, by show slots + 0 ≤ 7302250; omega⟩) hB hA rfl (fun H locs hB => ?_)
  refine lv_aload_n hx hb dL_law_1288 rfl (lv_at hl 2 rfl) ?_
  refine S_arg (k := 1) hx hb C.2.2.2.2.2.2.1 C.2.2.2.2.2.2.2.1 hbA hB.2.2 hl (by omega) (by omega) dL_law_1289 dL_law_1290 dL_law_1291 dL_law_1292 dL_law_1293 (by decide) ?_
  refine S_arg (k := 2) hx hb C.2.2.2.2.2.2.1 C.2.2.2.2.2.2.2.1 hbA hB.2.2 hl (by omega) (by omega) dL_law_1294 dL_law_1295 dL_law_1296 dL_law_1297 dL_law_1298 (by decide) ?_
  refine lv_i2l (v := (xs (n + 2)).toInt64) hx hb dL_law_1299 rfl ?_
  refine lv_bipush (v := 32) hx hb dL_law_1300 (by decide) ?_
  refine lv_lshl (v := ((xs (n + 2)).toInt64 <<< ((32 : Int32).toInt64 &&& 63))) hx hb dL_law_1302 rfl ?_
  refine S_arg (k := 3) hx hb C.2.2.2.2.2.2.1 C.2.2.2.2.2.2.2.1 hbA hB.2.2 hl (by omega) (by omega) dL_law_1303 dL_law_1304 dL_law_1305 dL_law_1306 dL_law_1307 (by decide) ?_
  refine lv_i2l (v := (xs (n + 3)).toInt64) hx hb dL_law_1308 rfl ?_
  refine lv_ldc2 (v := 4294967295) hx hb hown (ht _ tw1356) dL_law_1309 ?_
  refine lv_land hx hb dL_law_1312 ?_
  refine lv_lor hx hb dL_law_1313 ?_
  refine S_arg (k := 4) hx hb C.2.2.2.2.2.2.1 C.2.2.2.2.2.2.2.1 hbA hB.2.2 hl (by omega) (by omega) dL_law_1314 dL_law_1315 dL_law_1316 dL_law_1317 dL_law_1318 (by decide) ?_
  refine R_call (rest := [.int r]) [.int r, .int r] (R_runV (n := 3) (As := [.int (xs (n + 1)), .long (((xs (n + 2)).toInt64 <<< ((32 : Int32).toInt64 &&& 63)) ||| ((xs (n + 3)).toInt64 &&& (4294967295 : Int64))), .int (xs (n + 4))]) ⟨hx, hb, hml, hown, ht⟩ (fun _ h9 => h9) hK hZ hA hB (c_X12_source l g P σ1 (xs (n + 1)) (((xs (n + 2)).toInt64 <<< ((32 : Int32).toInt64 &&& 63)) ||| ((xs (n + 3)).toInt64 &&& (4294967295 : Int64))) (xs (n + 4)) H.size h2) (R_recv hK hB (by decide) (cell_8 rfl) rfl) tw1233 tw1230 tw1231 tw1232 tw5 ⟨by decide, by decide, by decide⟩ rfl rfl ⟨Nat.le_of_ble_eq_true rfl, Nat.le_of_ble_eq_true rfl⟩ rfl hl.1 rfl (Nat.le_of_ble_eq_true rfl) dL_law_1319 ⟨by show cells + 0 ≤ 600000; omega, by show slots + 0 ≤ 7302250; omega⟩) hB hA rfl (fun H locs hB => ?_)
  refine lv_icmp_eq (tgt := 2235) hx hb dL_law_1322 (by decide) (fun _ => ?_) (fun c9 => absurd rfl c9)
  refine W.widen (k := cells + 161) (n := slots + 322) (by omega) (by omega) ?_
  exact next P σ2 H locs ls hI2 hB hl
set_option maxHeartbeats 4000000 in
set_option maxRecDepth 100000 in
theorem law_22 {p : Program} {l : Launch} {e : Env} {s : State} {m : MethodId} {below : List Frame} {meth : Method} {c : Code} {b L : Nat} {xs : Nat → Int32} {g : tG} {A : Nat → Prop} (C : LC p s m meth c b L xs) (hK : tK g s) (hZ : tZ g A s s.heap) (hA : ∀ q, s.heap.size ≤ q → A q) (hbA : ¬ A b) {n : Nat} (hn : n + 6 ≤ L) (hL : L ≤ 3072) {σ : Hp} (hI : Inv σ) {P : Nat → Nat} {H : Heap} {locs : List Loc} {ls : Array Slot} {cells slots : Nat} (hB : tB g P σ A s.heap H locs) (hl : lv_has ls 4 [(0, .ref b), (1, .ref (gL g 0)), (2, .ref (gL g 40)), (3, .int (nI n))]) (hc : cells + 161 ≤ 600000) (hs : slots + 322 ≤ 7302250) {Q : State → Prop} (next : ∀ (P : Nat → Nat) (σ2 : Hp) (H : Heap) (locs : List Loc) (ls : Array Slot), Inv σ2 → tB g P σ2 A s.heap H locs → lv_has ls 4 [(0, .ref b), (1, .ref (gL g 0)), (2, .ref (gL g 40)), (3, .int (nI n))] → W p l e room_1 s m #[Value.ref b] below meth c H locs (cells + 161) (slots + 322) Q (F0 m 2235 ls [])) : W p l e room_1 s m #[Value.ref b] below meth c H locs cells slots Q (F0 m 1327 ls []) := by
  obtain ⟨hx, hb, hr, hml, hown, ht, hX, hbl, hlocks, hgv⟩ := id C
  obtain ⟨r, σ1, σ2, h1, h2, hI2⟩ := op_barren σ hI (xs (n + 1)) (xs (n + 2)) (xs (n + 3))
  refine lv_aload_n hx hb dL_law_1327 rfl (lv_at hl 1 rfl) ?_
  refine S_arg (k := 1) hx hb C.2.2.2.2.2.2.1 C.2.2.2.2.2.2.2.1 hbA hB.2.2 hl (by omega) (by omega) dL_law_1328 dL_law_1329 dL_law_1330 dL_law_1331 dL_law_1332 (by decide) ?_
  refine S_arg (k := 2) hx hb C.2.2.2.2.2.2.1 C.2.2.2.2.2.2.2.1 hbA hB.2.2 hl (by omega) (by omega) dL_law_1333 dL_law_1334 dL_law_1335 dL_law_1336 dL_law_1337 (by decide) ?_
  refine S_arg (k := 3) hx hb C.2.2.2.2.2.2.1 C.2.2.2.2.2.2.2.1 hbA hB.2.2 hl (by omega) (by omega) dL_law_1338 dL_law_1339 dL_law_1340 dL_law_1341 dL_law_1342 (by decide) ?_
  refine R_call (rest := []) [.int r] (R_runV (n := 3) (As := [.int (xs (n + 1)), .int (xs (n + 2)), .int (xs (n + 3))]) ⟨hx, hb, hml, hown, ht⟩ (fun _ h9 => h9) hK hZ hA hB (c_X11_barren l g P σ (xs (n + 1)) (xs (n + 2)) (xs (n + 3)) H.size h1) (R_recv hK hB (by decide) (cell_0 rfl) rfl) tw732 tw729 tw730 tw731 tw1 ⟨by decide, by decide, by decide⟩ rfl rfl ⟨Nat.le_of_ble_eq_true rfl, Nat.le_of_ble_eq_true rfl⟩ rfl hl.1 rfl (Nat.le_of_ble_eq_true rfl) dL_law_1343 ⟨by show cells + 0 ≤ 600000; omega, by show slots + 0 ≤ 7302250; omega⟩) hB hA rfl (fun H locs hB => ?_)
  refine lv_aload_n hx hb dL_law_1346 rfl (lv_at hl 2 rfl) ?_
  refine S_arg (k := 1) hx hb C.2.2.2.2.2.2.1 C.2.2.2.2.2.2.2.1 hbA hB.2.2 hl (by omega) (by omega) dL_law_1347 dL_law_1348 dL_law_1349 dL_law_1350 dL_law_1351 (by decide) ?_
  refine S_arg (k := 2) hx hb C.2.2.2.2.2.2.1 C.2.2.2.2.2.2.2.1 hbA hB.2.2 hl (by omega) (by omega) dL_law_1352 dL_law_1353 dL_law_1354 dL_law_1355 dL_law_1356 (by decide) ?_
  refine S_arg (k := 3) hx hb C.2.2.2.2.2.2.1 C.2.2.2.2.2.2.2.1 hbA hB.2.2 hl (by omega) (by omega) dL_law_1357 dL_law_1358 dL_law_1359 dL_law_1360 dL_law_1361 (by decide) ?_
  refine R_call (rest := [.int r]) [.int r, .int r] (R_runV (n := 3) (As := [.int (xs (n + 1)), .int (xs (n + 2)), .int (xs (n + 3))]) ⟨hx, hb, hml, hown, ht⟩ (fun _ h9 => h9) hK hZ hA hB (c_X12_barren l g P σ1 (xs (n + 1)) (xs (n + 2)) (xs (n + 3)) H.size h2) (R_recv hK hB (by decide) (cell_8 rfl) rfl) tw1237 tw1234 tw1235 tw1236 tw5 ⟨by decide, by decide, by decide⟩ rfl rfl ⟨Nat.le_of_ble_eq_true rfl, Nat.le_of_ble_eq_true rfl⟩ rfl hl.1 rfl (Nat.le_of_ble_eq_true rfl) dL_law_1362 ⟨by show cells + 0 ≤ 600000; omega, by show slots + 0 ≤ 7302250; omega⟩) hB hA rfl (fun H locs hB => ?_)
  refine lv_icmp_eq (tgt := 2235) hx hb dL_law_1365 (by decide) (fun _ => ?_) (fun c9 => absurd rfl c9)
  refine W.widen (k := cells + 161) (n := slots + 322) (by omega) (by omega) ?_
  exact next P σ2 H locs ls hI2 hB hl
set_option maxHeartbeats 4000000 in
set_option maxRecDepth 100000 in
theorem law_23 {p : Program} {l : Launch} {e : Env} {s : State} {m : MethodId} {below : List Frame} {meth : Method} {c : Code} {b L : Nat} {xs : Nat → Int32} {g : tG} {A : Nat → Prop} (C : LC p s m meth c b L xs) (hK : tK g s) (hZ : tZ g A s s.heap) (hA : ∀ q, s.heap.size ≤ q → A q) (hbA : ¬ A b) {n : Nat} (hn : n + 6 ≤ L) (hL : L ≤ 3072) {σ : Hp} (hI : Inv σ) {P : Nat → Nat} {H : Heap} {locs : List Loc} {ls : Array Slot} {cells slots : Nat} (hB : tB g P σ A s.heap H locs) (hl : lv_has ls 4 [(0, .ref b), (1, .ref (gL g 0)), (2, .ref (gL g 40)), (3, .int (nI n))]) (hc : cells + 161 ≤ 600000) (hs : slots + 322 ≤ 7302250) {Q : State → Prop} (next : ∀ (P : Nat → Nat) (σ2 : Hp) (H : Heap) (locs : List Loc) (ls : Array Slot), Inv σ2 → tB g P σ2 A s.heap H locs → lv_has ls 4 [(0, .ref b), (1, .ref (gL g 0)), (2, .ref (gL g 40)), (3, .int (nI n))] → W p l e room_1 s m #[Value.ref b] below meth c H locs (cells + 161) (slots + 322) Q (F0 m 2235 ls [])) : W p l e room_1 s m #[Value.ref b] below meth c H locs cells slots Q (F0 m 1370 ls []) := by
  obtain ⟨hx, hb, hr, hml, hown, ht, hX, hbl, hlocks, hgv⟩ := id C
  obtain ⟨r, σ1, σ2, h1, h2, hI2⟩ := op_longest σ hI (xs (n + 1)) (xs (n + 2))
  refine lv_aload_n hx hb dL_law_1370 rfl (lv_at hl 1 rfl) ?_
  refine S_arg (k := 1) hx hb C.2.2.2.2.2.2.1 C.2.2.2.2.2.2.2.1 hbA hB.2.2 hl (by omega) (by omega) dL_law_1371 dL_law_1372 dL_law_1373 dL_law_1374 dL_law_1375 (by decide) ?_
  refine S_arg (k := 2) hx hb C.2.2.2.2.2.2.1 C.2.2.2.2.2.2.2.1 hbA hB.2.2 hl (by omega) (by omega) dL_law_1376 dL_law_1377 dL_law_1378 dL_law_1379 dL_law_1380 (by decide) ?_
  refine R_call (rest := []) [.int r] (R_runV (n := 2) (As := [.int (xs (n + 1)), .int (xs (n + 2))]) ⟨hx, hb, hml, hown, ht⟩ (fun _ h9 => h9) hK hZ hA hB (c_X11_longest l g P σ (xs (n + 1)) (xs (n + 2)) H.size h1) (R_recv hK hB (by decide) (cell_0 rfl) rfl) tw747 tw744 tw745 tw746 tw1 ⟨by decide, by decide, by decide⟩ rfl rfl ⟨Nat.le_of_ble_eq_true rfl, Nat.le_of_ble_eq_true rfl⟩ rfl hl.1 rfl (Nat.le_of_ble_eq_true rfl) dL_law_1381 ⟨by show cells + 0 ≤ 600000; omega, by show slots + 0 ≤ 7302250; omega⟩) hB hA rfl (fun H locs hB => ?_)
  refine lv_aload_n hx hb dL_law_1384 rfl (lv_at hl 2 rfl) ?_
  refine S_arg (k := 1) hx hb C.2.2.2.2.2.2.1 C.2.2.2.2.2.2.2.1 hbA hB.2.2 hl (by omega) (by omega) dL_law_1385 dL_law_1386 dL_law_1387 dL_law_1388 dL_law_1389 (by decide) ?_
  refine S_arg (k := 2) hx hb C.2.2.2.2.2.2.1 C.2.2.2.2.2.2.2.1 hbA hB.2.2 hl (by omega) (by omega) dL_law_1390 dL_law_1391 dL_law_1392 dL_law_1393 dL_law_1394 (by decide) ?_
  refine R_call (rest := [.int r]) [.int r, .int r] (R_runV (n := 2) (As := [.int (xs (n + 1)), .int (xs (n + 2))]) ⟨hx, hb, hml, hown, ht⟩ (fun _ h9 => h9) hK hZ hA hB (c_X12_longest l g P σ1 (xs (n + 1)) (xs (n + 2)) H.size h2) (R_recv hK hB (by decide) (cell_8 rfl) rfl) tw1242 tw1239 tw1240 tw1241 tw5 ⟨by decide, by decide, by decide⟩ rfl rfl ⟨Nat.le_of_ble_eq_true rfl, Nat.le_of_ble_eq_true rfl⟩ rfl hl.1 rfl (Nat.le_of_ble_eq_true rfl) dL_law_1395 ⟨by show cells + 0 ≤ 600000; omega, by show slots + 0 ≤ 7302250; omega⟩) hB hA rfl (fun H locs hB => ?_)
  refine lv_icmp_eq (tgt := 2235) hx hb dL_law_1398 (by decide) (fun _ => ?_) (fun c9 => absurd rfl c9)
  refine W.widen (k := cells + 161) (n := slots + 322) (by omega) (by omega) ?_
  exact next P σ2 H locs ls hI2 hB hl
set_option maxHeartbeats 4000000 in
set_option maxRecDepth 100000 in
theorem law_24 {p : Program} {l : Launch} {e : Env} {s : State} {m : MethodId} {below : List Frame} {meth : Method} {c : Code} {b L : Nat} {xs : Nat → Int32} {g : tG} {A : Nat → Prop} (C : LC p s m meth c b L xs) (hK : tK g s) (hZ : tZ g A s s.heap) (hA : ∀ q, s.heap.size ≤ q → A q) (hbA : ¬ A b) {n : Nat} (hn : n + 6 ≤ L) (hL : L ≤ 3072) {σ : Hp} (hI : Inv σ) {P : Nat → Nat} {H : Heap} {locs : List Loc} {ls : Array Slot} {cells slots : Nat} (hB : tB g P σ A s.heap H locs) (hl : lv_has ls 4 [(0, .ref b), (1, .ref (gL g 0)), (2, .ref (gL g 40)), (3, .int (nI n))]) (hc : cells + 161 ≤ 600000) (hs : slots + 322 ≤ 7302250) {Q : State → Prop} (next : ∀ (P : Nat → Nat) (σ2 : Hp) (H : Heap) (locs : List Loc) (ls : Array Slot), Inv σ2 → tB g P σ2 A s.heap H locs → lv_has ls 4 [(0, .ref b), (1, .ref (gL g 0)), (2, .ref (gL g 40)), (3, .int (nI n))] → W p l e room_1 s m #[Value.ref b] below meth c H locs (cells + 161) (slots + 322) Q (F0 m 2235 ls [])) : W p l e room_1 s m #[Value.ref b] below meth c H locs cells slots Q (F0 m 1403 ls []) := by
  obtain ⟨hx, hb, hr, hml, hown, ht, hX, hbl, hlocks, hgv⟩ := id C
  obtain ⟨r, σ1, σ2, h1, h2, hI2⟩ := op_many σ hI (xs (n + 1)) (xs (n + 2)) (xs (n + 3)) (xs (n + 4))
  refine lv_aload_n hx hb dL_law_1403 rfl (lv_at hl 1 rfl) ?_
  refine S_arg (k := 1) hx hb C.2.2.2.2.2.2.1 C.2.2.2.2.2.2.2.1 hbA hB.2.2 hl (by omega) (by omega) dL_law_1404 dL_law_1405 dL_law_1406 dL_law_1407 dL_law_1408 (by decide) ?_
  refine S_arg (k := 2) hx hb C.2.2.2.2.2.2.1 C.2.2.2.2.2.2.2.1 hbA hB.2.2 hl (by omega) (by omega) dL_law_1409 dL_law_1410 dL_law_1411 dL_law_1412 dL_law_1413 (by decide) ?_
  refine S_arg (k := 3) hx hb C.2.2.2.2.2.2.1 C.2.2.2.2.2.2.2.1 hbA hB.2.2 hl (by omega) (by omega) dL_law_1414 dL_law_1415 dL_law_1416 dL_law_1417 dL_law_1418 (by decide) ?_
  refine S_arg (k := 4) hx hb C.2.2.2.2.2.2.1 C.2.2.2.2.2.2.2.1 hbA hB.2.2 hl (by omega) (by omega) dL_law_1419 dL_law_1420 dL_law_1421 dL_law_1422 dL_law_1423 (by decide) ?_
  refine R_call (rest := []) [.int r] (R_runV (n := 4) (As := [.int (xs (n + 1)), .int (xs (n + 2)), .int (xs (n + 3)), .int (xs (n + 4))]) ⟨hx, hb, hml, hown, ht⟩ (fun _ h9 => h9) hK hZ hA hB (c_X11_many l g P σ (xs (n + 1)) (xs (n + 2)) (xs (n + 3)) (xs (n + 4)) H.size h1) (R_recv hK hB (by decide) (cell_0 rfl) rfl) tw751 tw748 tw749 tw750 tw1 ⟨by decide, by decide, by decide⟩ rfl rfl ⟨Nat.le_of_ble_eq_true rfl, Nat.le_of_ble_eq_true rfl⟩ rfl hl.1 rfl (Nat.le_of_ble_eq_true rfl) dL_law_1424 ⟨by show cells + 0 ≤ 600000; omega, by show slots + 0 ≤ 7302250; omega⟩) hB hA rfl (fun H locs hB => ?_)
  refine lv_aload_n hx hb dL_law_1427 rfl (lv_at hl 2 rfl) ?_
  refine S_arg (k := 1) hx hb C.2.2.2.2.2.2.1 C.2.2.2.2.2.2.2.1 hbA hB.2.2 hl (by omega) (by omega) dL_law_1428 dL_law_1429 dL_law_1430 dL_law_1431 dL_law_1432 (by decide) ?_
  refine S_arg (k := 2) hx hb C.2.2.2.2.2.2.1 C.2.2.2.2.2.2.2.1 hbA hB.2.2 hl (by omega) (by omega) dL_law_1433 dL_law_1434 dL_law_1435 dL_law_1436 dL_law_1437 (by decide) ?_
  refine S_arg (k := 3) hx hb C.2.2.2.2.2.2.1 C.2.2.2.2.2.2.2.1 hbA hB.2.2 hl (by omega) (by omega) dL_law_1438 dL_law_1439 dL_law_1440 dL_law_1441 dL_law_1442 (by decide) ?_
  refine S_arg (k := 4) hx hb C.2.2.2.2.2.2.1 C.2.2.2.2.2.2.2.1 hbA hB.2.2 hl (by omega) (by omega) dL_law_1443 dL_law_1444 dL_law_1445 dL_law_1446 dL_law_1447 (by decide) ?_
  refine R_call (rest := [.int r]) [.int r, .int r] (R_runV (n := 4) (As := [.int (xs (n + 1)), .int (xs (n + 2)), .int (xs (n + 3)), .int (xs (n + 4))]) ⟨hx, hb, hml, hown, ht⟩ (fun _ h9 => h9) hK hZ hA hB (c_X12_many l g P σ1 (xs (n + 1)) (xs (n + 2)) (xs (n + 3)) (xs (n + 4)) H.size h2) (R_recv hK hB (by decide) (cell_8 rfl) rfl) tw1246 tw1243 tw1244 tw1245 tw5 ⟨by decide, by decide, by decide⟩ rfl rfl ⟨Nat.le_of_ble_eq_true rfl, Nat.le_of_ble_eq_true rfl⟩ rfl hl.1 rfl (Nat.le_of_ble_eq_true rfl) dL_law_1448 ⟨by show cells + 0 ≤ 600000; omega, by show slots + 0 ≤ 7302250; omega⟩) hB hA rfl (fun H locs hB => ?_)
  refine lv_icmp_eq (tgt := 2235) hx hb dL_law_1451 (by decide) (fun _ => ?_) (fun c9 => absurd rfl c9)
  refine W.widen (k := cells + 161) (n := slots + 322) (by omega) (by omega) ?_
  exact next P σ2 H locs ls hI2 hB hl
set_option maxHeartbeats 4000000 in
set_option maxRecDepth 100000 in
theorem law_25 {p : Program} {l : Launch} {e : Env} {s : State} {m : MethodId} {below : List Frame} {meth : Method} {c : Code} {b L : Nat} {xs : Nat → Int32} {g : tG} {A : Nat → Prop} (C : LC p s m meth c b L xs) (hK : tK g s) (hZ : tZ g A s s.heap) (hA : ∀ q, s.heap.size ≤ q → A q) (hbA : ¬ A b) {n : Nat} (hn : n + 6 ≤ L) (hL : L ≤ 3072) {σ : Hp} (hI : Inv σ) {P : Nat → Nat} {H : Heap} {locs : List Loc} {ls : Array Slot} {cells slots : Nat} (hB : tB g P σ A s.heap H locs) (hl : lv_has ls 4 [(0, .ref b), (1, .ref (gL g 0)), (2, .ref (gL g 40)), (3, .int (nI n))]) (hc : cells + 161 ≤ 600000) (hs : slots + 322 ≤ 7302250) {Q : State → Prop} (next : ∀ (P : Nat → Nat) (σ2 : Hp) (H : Heap) (locs : List Loc) (ls : Array Slot), Inv σ2 → tB g P σ2 A s.heap H locs → lv_has ls 4 [(0, .ref b), (1, .ref (gL g 0)), (2, .ref (gL g 40)), (3, .int (nI n))] → W p l e room_1 s m #[Value.ref b] below meth c H locs (cells + 161) (slots + 322) Q (F0 m 2235 ls [])) : W p l e room_1 s m #[Value.ref b] below meth c H locs cells slots Q (F0 m 1456 ls []) := by
  obtain ⟨hx, hb, hr, hml, hown, ht, hX, hbl, hlocks, hgv⟩ := id C
  obtain ⟨r, σ1, σ2, h1, h2, hI2⟩ := op_rounds σ hI (xs (n + 1)) (xs (n + 2))
  refine lv_aload_n hx hb dL_law_1456 rfl (lv_at hl 1 rfl) ?_
  refine S_arg (k := 1) hx hb C.2.2.2.2.2.2.1 C.2.2.2.2.2.2.2.1 hbA hB.2.2 hl (by omega) (by omega) dL_law_1457 dL_law_1458 dL_law_1459 dL_law_1460 dL_law_1461 (by decide) ?_
  refine S_arg (k := 2) hx hb C.2.2.2.2.2.2.1 C.2.2.2.2.2.2.2.1 hbA hB.2.2 hl (by omega) (by omega) dL_law_1462 dL_law_1463 dL_law_1464 dL_law_1465 dL_law_1466 (by decide) ?_
  refine R_call (rest := []) [.int r] (R_runV (n := 2) (As := [.int (xs (n + 1)), .int (xs (n + 2))]) ⟨hx, hb, hml, hown, ht⟩ (fun _ h9 => h9) hK hZ hA hB (c_X11_rounds l g P σ (xs (n + 1)) (xs (n + 2)) H.size h1) (R_recv hK hB (by decide) (cell_0 rfl) rfl) tw755 tw752 tw753 tw754 tw1 ⟨by decide, by decide, by decide⟩ rfl rfl ⟨Nat.le_of_ble_eq_true rfl, Nat.le_of_ble_eq_true rfl⟩ rfl hl.1 rfl (Nat.le_of_ble_eq_true rfl) dL_law_1467 ⟨by show cells + 0 ≤ 600000; omega, by show slots + 0 ≤ 7302250; omega⟩) hB hA rfl (fun H locs hB => ?_)
  refine lv_aload_n hx hb dL_law_1470 rfl (lv_at hl 2 rfl) ?_
  refine S_arg (k := 1) hx hb C.2.2.2.2.2.2.1 C.2.2.2.2.2.2.2.1 hbA hB.2.2 hl (by omega) (by omega) dL_law_1471 dL_law_1472 dL_law_1473 dL_law_1474 dL_law_1475 (by decide) ?_
  refine S_arg (k := 2) hx hb C.2.2.2.2.2.2.1 C.2.2.2.2.2.2.2.1 hbA hB.2.2 hl (by omega) (by omega) dL_law_1476 dL_law_1477 dL_law_1478 dL_law_1479 dL_law_1480 (by decide) ?_
  refine R_call (rest := [.int r]) [.int r, .int r] (R_runV (n := 2) (As := [.int (xs (n + 1)), .int (xs (n + 2))]) ⟨hx, hb, hml, hown, ht⟩ (fun _ h9 => h9) hK hZ hA hB (c_X12_rounds l g P σ1 (xs (n + 1)) (xs (n + 2)) H.size h2) (R_recv hK hB (by decide) (cell_8 rfl) rfl) tw1250 tw1247 tw1248 tw1249 tw5 ⟨by decide, by decide, by decide⟩ rfl rfl ⟨Nat.le_of_ble_eq_true rfl, Nat.le_of_ble_eq_true rfl⟩ rfl hl.1 rfl (Nat.le_of_ble_eq_true rfl) dL_law_1481 ⟨by show cells + 0 ≤ 600000; omega, by show slots + 0 ≤ 7302250; omega⟩) hB hA rfl (fun H locs hB => ?_)
  refine lv_icmp_eq (tgt := 2235) hx hb dL_law_1484 (by decide) (fun _ => ?_) (fun c9 => absurd rfl c9)
  refine W.widen (k := cells + 161) (n := slots + 322) (by omega) (by omega) ?_
  exact next P σ2 H locs ls hI2 hB hl
set_option maxHeartbeats 4000000 in
set_option maxRecDepth 100000 in
theorem law_26 {p : Program} {l : Launch} {e : Env} {s : State} {m : MethodId} {below : List Frame} {meth : Method} {c : Code} {b L : Nat} {xs : Nat → Int32} {g : tG} {A : Nat → Prop} (C : LC p s m meth c b L xs) (hK : tK g s) (hZ : tZ g A s s.heap) (hA : ∀ q, s.heap.size ≤ q → A q) (hbA : ¬ A b) {n : Nat} (hn : n + 6 ≤ L) (hL : L ≤ 3072) {σ : Hp} (hI : Inv σ) {P : Nat → Nat} {H : Heap} {locs : List Loc} {ls : Array Slot} {cells slots : Nat} (hB : tB g P σ A s.heap H locs) (hl : lv_has ls 4 [(0, .ref b), (1, .ref (gL g 0)), (2, .ref (gL g 40)), (3, .int (nI n))]) (hc : cells + 161 ≤ 600000) (hs : slots + 322 ≤ 7302250) {Q : State → Prop} (next : ∀ (P : Nat → Nat) (σ2 : Hp) (H : Heap) (locs : List Loc) (ls : Array Slot), Inv σ2 → tB g P σ2 A s.heap H locs → lv_has ls 4 [(0, .ref b), (1, .ref (gL g 0)), (2, .ref (gL g 40)), (3, .int (nI n))] → W p l e room_1 s m #[Value.ref b] below meth c H locs (cells + 161) (slots + 322) Q (F0 m 2235 ls [])) : W p l e room_1 s m #[Value.ref b] below meth c H locs cells slots Q (F0 m 1489 ls []) := by
  obtain ⟨hx, hb, hr, hml, hown, ht, hX, hbl, hlocks, hgv⟩ := id C
  obtain ⟨r, σ1, σ2, h1, h2, hI2⟩ := op_waits σ hI (((xs (n + 1)).toInt64 <<< ((32 : Int32).toInt64 &&& 63)) ||| ((xs (n + 2)).toInt64 &&& (4294967295 : Int64)))
  refine lv_aload_n hx hb dL_law_1489 rfl (lv_at hl 1 rfl) ?_
  refine S_arg (k := 1) hx hb C.2.2.2.2.2.2.1 C.2.2.2.2.2.2.2.1 hbA hB.2.2 hl (by omega) (by omega) dL_law_1490 dL_law_1491 dL_law_1492 dL_law_1493 dL_law_1494 (by decide) ?_
  refine lv_i2l (v := (xs (n + 1)).toInt64) hx hb dL_law_1495 rfl ?_
  refine lv_bipush (v := 32) hx hb dL_law_1496 (by decide) ?_
  refine lv_lshl (v := ((xs (n + 1)).toInt64 <<< ((32 : Int32).toInt64 &&& 63))) hx hb dL_law_1498 rfl ?_
  refine S_arg (k := 2) hx hb C.2.2.2.2.2.2.1 C.2.2.2.2.2.2.2.1 hbA hB.2.2 hl (by omega) (by omega) dL_law_1499 dL_law_1500 dL_law_1501 dL_law_1502 dL_law_1503 (by decide) ?_
  refine lv_i2l (v := (xs (n + 2)).toInt64) hx hb dL_law_1504 rfl ?_
  refine lv_ldc2 (v := 4294967295) hx hb hown (ht _ tw1356) dL_law_1505 ?_
  refine lv_land hx hb dL_law_1508 ?_
  refine lv_lor hx hb dL_law_1509 ?_
  refine R_call (rest := []) [.long r] (R_runV (n := 1) (As := [.long (((xs (n + 1)).toInt64 <<< ((32 : Int32).toInt64 &&& 63)) ||| ((xs (n + 2)).toInt64 &&& (4294967295 : Int64)))]) ⟨hx, hb, hml, hown, ht⟩ (fun _ h9 => h9) hK hZ hA hB (c_X11_waits l g P σ (((xs (n + 1)).toInt64 <<< ((32 : Int32).toInt64 &&& 63)) ||| ((xs (n + 2)).toInt64 &&& (4294967295 : Int64))) H.size h1) (R_recv hK hB (by decide) (cell_0 rfl) rfl) tw643 tw640 tw641 tw642 tw1 ⟨by decide, by decide, by decide⟩ rfl rfl ⟨Nat.le_of_ble_eq_true rfl, Nat.le_of_ble_eq_true rfl⟩ rfl hl.1 rfl (Nat.le_of_ble_eq_true rfl) dL_law_1510 ⟨by show cells + 0 ≤ 600000; omega, by show slots + 0 ≤ 7302250; omega⟩) hB hA rfl (fun H locs hB => ?_)
  refine lv_aload_n hx hb dL_law_1513 rfl (lv_at hl 2 rfl) ?_
  refine S_arg (k := 1) hx hb C.2.2.2.2.2.2.1 C.2.2.2.2.2.2.2.1 hbA hB.2.2 hl (by omega) (by omega) dL_law_1514 dL_law_1515 dL_law_1516 dL_law_1517 dL_law_1518 (by decide) ?_
  refine lv_i2l (v := (xs (n + 1)).toInt64) hx hb dL_law_1519 rfl ?_
  refine lv_bipush (v := 32) hx hb dL_law_1520 (by decide) ?_
  refine lv_lshl (v := ((xs (n + 1)).toInt64 <<< ((32 : Int32).toInt64 &&& 63))) hx hb dL_law_1522 rfl ?_
  refine S_arg (k := 2) hx hb C.2.2.2.2.2.2.1 C.2.2.2.2.2.2.2.1 hbA hB.2.2 hl (by omega) (by omega) dL_law_1523 dL_law_1524 dL_law_1525 dL_law_1526 dL_law_1527 (by decide) ?_
  refine lv_i2l (v := (xs (n + 2)).toInt64) hx hb dL_law_1528 rfl ?_
  refine lv_ldc2 (v := 4294967295) hx hb hown (ht _ tw1356) dL_law_1529 ?_
  refine lv_land hx hb dL_law_1532 ?_
  refine lv_lor hx hb dL_law_1533 ?_
  refine R_call (rest := [.long r]) [.long r, .long r] (R_runV (n := 1) (As := [.long (((xs (n + 1)).toInt64 <<< ((32 : Int32).toInt64 &&& 63)) ||| ((xs (n + 2)).toInt64 &&& (4294967295 : Int64)))]) ⟨hx, hb, hml, hown, ht⟩ (fun _ h9 => h9) hK hZ hA hB (c_X12_waits l g P σ1 (((xs (n + 1)).toInt64 <<< ((32 : Int32).toInt64 &&& 63)) ||| ((xs (n + 2)).toInt64 &&& (4294967295 : Int64))) H.size h2) (R_recv hK hB (by decide) (cell_8 rfl) rfl) tw1254 tw1251 tw1252 tw1253 tw5 ⟨by decide, by decide, by decide⟩ rfl rfl ⟨Nat.le_of_ble_eq_true rfl, Nat.le_of_ble_eq_true rfl⟩ rfl hl.1 rfl (Nat.le_of_ble_eq_true rfl) dL_law_1534 ⟨by show cells + 0 ≤ 600000; omega, by show slots + 0 ≤ 7302250; omega⟩) hB hA rfl (fun H locs hB => ?_)
  refine W.lcmp hx hb dL_law_1537 ?_
  refine lv_if_eq (tgt := 2235) hx hb dL_law_1538 (by decide) (fun _ => ?_) (fun c9 => absurd (lg_cmp_self r) c9)
  refine W.widen (k := cells + 161) (n := slots + 322) (by omega) (by omega) ?_
  exact next P σ2 H locs ls hI2 hB hl
set_option maxHeartbeats 4000000 in
set_option maxRecDepth 100000 in
theorem law_27 {p : Program} {l : Launch} {e : Env} {s : State} {m : MethodId} {below : List Frame} {meth : Method} {c : Code} {b L : Nat} {xs : Nat → Int32} {g : tG} {A : Nat → Prop} (C : LC p s m meth c b L xs) (hK : tK g s) (hZ : tZ g A s s.heap) (hA : ∀ q, s.heap.size ≤ q → A q) (hbA : ¬ A b) {n : Nat} (hn : n + 6 ≤ L) (hL : L ≤ 3072) {σ : Hp} (hI : Inv σ) {P : Nat → Nat} {H : Heap} {locs : List Loc} {ls : Array Slot} {cells slots : Nat} (hB : tB g P σ A s.heap H locs) (hl : lv_has ls 4 [(0, .ref b), (1, .ref (gL g 0)), (2, .ref (gL g 40)), (3, .int (nI n))]) (hc : cells + 161 ≤ 600000) (hs : slots + 322 ≤ 7302250) {Q : State → Prop} (next : ∀ (P : Nat → Nat) (σ2 : Hp) (H : Heap) (locs : List Loc) (ls : Array Slot), Inv σ2 → tB g P σ2 A s.heap H locs → lv_has ls 4 [(0, .ref b), (1, .ref (gL g 0)), (2, .ref (gL g 40)), (3, .int (nI n))] → W p l e room_1 s m #[Value.ref b] below meth c H locs (cells + 161) (slots + 322) Q (F0 m 2235 ls [])) : W p l e room_1 s m #[Value.ref b] below meth c H locs cells slots Q (F0 m 1543 ls []) := by
  obtain ⟨hx, hb, hr, hml, hown, ht, hX, hbl, hlocks, hgv⟩ := id C
  obtain ⟨r, σ1, σ2, h1, h2, hI2⟩ := op_fit σ hI (((xs (n + 1)).toInt64 <<< ((32 : Int32).toInt64 &&& 63)) ||| ((xs (n + 2)).toInt64 &&& (4294967295 : Int64))) (((xs (n + 3)).toInt64 <<< ((32 : Int32).toInt64 &&& 63)) ||| ((xs (n + 4)).toInt64 &&& (4294967295 : Int64)))
  refine lv_aload_n hx hb dL_law_1543 rfl (lv_at hl 1 rfl) ?_
  refine S_arg (k := 1) hx hb C.2.2.2.2.2.2.1 C.2.2.2.2.2.2.2.1 hbA hB.2.2 hl (by omega) (by omega) dL_law_1544 dL_law_1545 dL_law_1546 dL_law_1547 dL_law_1548 (by decide) ?_
  refine lv_i2l (v := (xs (n + 1)).toInt64) hx hb dL_law_1549 rfl ?_
  refine lv_bipush (v := 32) hx hb dL_law_1550 (by decide) ?_
  refine lv_lshl (v := ((xs (n + 1)).toInt64 <<< ((32 : Int32).toInt64 &&& 63))) hx hb dL_law_1552 rfl ?_
  refine S_arg (k := 2) hx hb C.2.2.2.2.2.2.1 C.2.2.2.2.2.2.2.1 hbA hB.2.2 hl (by omega) (by omega) dL_law_1553 dL_law_1554 dL_law_1555 dL_law_1556 dL_law_1557 (by decide) ?_
  refine lv_i2l (v := (xs (n + 2)).toInt64) hx hb dL_law_1558 rfl ?_
  refine lv_ldc2 (v := 4294967295) hx hb hown (ht _ tw1356) dL_law_1559 ?_
  refine lv_land hx hb dL_law_1562 ?_
  refine lv_lor hx hb dL_law_1563 ?_
  refine S_arg (k := 3) hx hb C.2.2.2.2.2.2.1 C.2.2.2.2.2.2.2.1 hbA hB.2.2 hl (by omega) (by omega) dL_law_1564 dL_law_1565 dL_law_1566 dL_law_1567 dL_law_1568 (by decide) ?_
  refine lv_i2l (v := (xs (n + 3)).toInt64) hx hb dL_law_1569 rfl ?_
  refine lv_bipush (v := 32) hx hb dL_law_1570 (by decide) ?_
  refine lv_lshl (v := ((xs (n + 3)).toInt64 <<< ((32 : Int32).toInt64 &&& 63))) hx hb dL_law_1572 rfl ?_
  refine S_arg (k := 4) hx hb C.2.2.2.2.2.2.1 C.2.2.2.2.2.2.2.1 hbA hB.2.2 hl (by omega) (by omega) dL_law_1573 dL_law_1574 dL_law_1575 dL_law_1576 dL_law_1577 (by decide) ?_
  refine lv_i2l (v := (xs (n + 4)).toInt64) hx hb dL_law_1578 rfl ?_
  refine lv_ldc2 (v := 4294967295) hx hb hown (ht _ tw1356) dL_law_1579 ?_
  refine lv_land hx hb dL_law_1582 ?_
  refine lv_lor hx hb dL_law_1583 ?_
  refine R_call (rest := []) [.int r] (R_runV (n := 2) (As := [.long (((xs (n + 1)).toInt64 <<< ((32 : Int32).toInt64 &&& 63)) ||| ((xs (n + 2)).toInt64 &&& (4294967295 : Int64))), .long (((xs (n + 3)).toInt64 <<< ((32 : Int32).toInt64 &&& 63)) ||| ((xs (n + 4)).toInt64 &&& (4294967295 : Int64)))]) ⟨hx, hb, hml, hown, ht⟩ (fun _ h9 => h9) hK hZ hA hB (c_X11_fit l g P σ (((xs (n + 1)).toInt64 <<< ((32 : Int32).toInt64 &&& 63)) ||| ((xs (n + 2)).toInt64 &&& (4294967295 : Int64))) (((xs (n + 3)).toInt64 <<< ((32 : Int32).toInt64 &&& 63)) ||| ((xs (n + 4)).toInt64 &&& (4294967295 : Int64))) H.size h1) (R_recv hK hB (by decide) (cell_0 rfl) rfl) tw759 tw756 tw757 tw758 tw1 ⟨by decide, by decide, by decide⟩ rfl rfl ⟨Nat.le_of_ble_eq_true rfl, Nat.le_of_ble_eq_true rfl⟩ rfl hl.1 rfl (Nat.le_of_ble_eq_true rfl) dL_law_1584 ⟨by show cells + 0 ≤ 600000; omega, by show slots + 0 ≤ 7302250; omega⟩) hB hA rfl (fun H locs hB => ?_)
  refine lv_aload_n hx hb dL_law_1587 rfl (lv_at hl 2 rfl) ?_
  refine S_arg (k := 1) hx hb C.2.2.2.2.2.2.1 C.2.2.2.2.2.2.2.1 hbA hB.2.2 hl (by omega) (by omega) dL_law_1588 dL_law_1589 dL_law_1590 dL_law_1591 dL_law_1592 (by decide) ?_
  refine lv_i2l (v := (xs (n + 1)).toInt64) hx hb dL_law_1593 rfl ?_
  refine lv_bipush (v := 32) hx hb dL_law_1594 (by decide) ?_
  refine lv_lshl (v := ((xs (n + 1)).toInt64 <<< ((32 : Int32).toInt64 &&& 63))) hx hb dL_law_1596 rfl ?_
  refine S_arg (k := 2) hx hb C.2.2.2.2.2.2.1 C.2.2.2.2.2.2.2.1 hbA hB.2.2 hl (by omega) (by omega) dL_law_1597 dL_law_1598 dL_law_1599 dL_law_1600 dL_law_1601 (by decide) ?_
  refine lv_i2l (v := (xs (n + 2)).toInt64) hx hb dL_law_1602 rfl ?_
  refine lv_ldc2 (v := 4294967295) hx hb hown (ht _ tw1356) dL_law_1603 ?_
  refine lv_land hx hb dL_law_1606 ?_
  refine lv_lor hx hb dL_law_1607 ?_
  refine S_arg (k := 3) hx hb C.2.2.2.2.2.2.1 C.2.2.2.2.2.2.2.1 hbA hB.2.2 hl (by omega) (by omega) dL_law_1608 dL_law_1609 dL_law_1610 dL_law_1611 dL_law_1612 (by decide) ?_
  refine lv_i2l (v := (xs (n + 3)).toInt64) hx hb dL_law_1613 rfl ?_
  refine lv_bipush (v := 32) hx hb dL_law_1614 (by decide) ?_
  refine lv_lshl (v := ((xs (n + 3)).toInt64 <<< ((32 : Int32).toInt64 &&& 63))) hx hb dL_law_1616 rfl ?_
  refine S_arg (k := 4) hx hb C.2.2.2.2.2.2.1 C.2.2.2.2.2.2.2.1 hbA hB.2.2 hl (by omega) (by omega) dL_law_1617 dL_law_1618 dL_law_1619 dL_law_1620 dL_law_1621 (by decide) ?_
  refine lv_i2l (v := (xs (n + 4)).toInt64) hx hb dL_law_1622 rfl ?_
  refine lv_ldc2 (v := 4294967295) hx hb hown (ht _ tw1356) dL_law_1623 ?_
  refine lv_land hx hb dL_law_1626 ?_
  refine lv_lor hx hb dL_law_1627 ?_
  refine R_call (rest := [.int r]) [.int r, .int r] (R_runV (n := 2) (As := [.long (((xs (n + 1)).toInt64 <<< ((32 : Int32).toInt64 &&& 63)) ||| ((xs (n + 2)).toInt64 &&& (4294967295 : Int64))), .long (((xs (n + 3)).toInt64 <<< ((32 : Int32).toInt64 &&& 63)) ||| ((xs (n + 4)).toInt64 &&& (4294967295 : Int64)))]) ⟨hx, hb, hml, hown, ht⟩ (fun _ h9 => h9) hK hZ hA hB (c_X12_fit l g P σ1 (((xs (n + 1)).toInt64 <<< ((32 : Int32).toInt64 &&& 63)) ||| ((xs (n + 2)).toInt64 &&& (4294967295 : Int64))) (((xs (n + 3)).toInt64 <<< ((32 : Int32).toInt64 &&& 63)) ||| ((xs (n + 4)).toInt64 &&& (4294967295 : Int64))) H.size h2) (R_recv hK hB (by decide) (cell_8 rfl) rfl) tw1262 tw1259 tw1260 tw1261 tw5 ⟨by decide, by decide, by decide⟩ rfl rfl ⟨Nat.le_of_ble_eq_true rfl, Nat.le_of_ble_eq_true rfl⟩ rfl hl.1 rfl (Nat.le_of_ble_eq_true rfl) dL_law_1628 ⟨by show cells + 0 ≤ 600000; omega, by show slots + 0 ≤ 7302250; omega⟩) hB hA rfl (fun H locs hB => ?_)
  refine lv_icmp_eq (tgt := 2235) hx hb dL_law_1631 (by decide) (fun _ => ?_) (fun c9 => absurd rfl c9)
  refine W.widen (k := cells + 161) (n := slots + 322) (by omega) (by omega) ?_
  exact next P σ2 H locs ls hI2 hB hl
set_option maxHeartbeats 4000000 in
set_option maxRecDepth 100000 in
theorem law_28 {p : Program} {l : Launch} {e : Env} {s : State} {m : MethodId} {below : List Frame} {meth : Method} {c : Code} {b L : Nat} {xs : Nat → Int32} {g : tG} {A : Nat → Prop} (C : LC p s m meth c b L xs) (hK : tK g s) (hZ : tZ g A s s.heap) (hA : ∀ q, s.heap.size ≤ q → A q) (hbA : ¬ A b) {n : Nat} (hn : n + 6 ≤ L) (hL : L ≤ 3072) {σ : Hp} (hI : Inv σ) {P : Nat → Nat} {H : Heap} {locs : List Loc} {ls : Array Slot} {cells slots : Nat} (hB : tB g P σ A s.heap H locs) (hl : lv_has ls 4 [(0, .ref b), (1, .ref (gL g 0)), (2, .ref (gL g 40)), (3, .int (nI n))]) (hc : cells + 161 ≤ 600000) (hs : slots + 322 ≤ 7302250) {Q : State → Prop} (next : ∀ (P : Nat → Nat) (σ2 : Hp) (H : Heap) (locs : List Loc) (ls : Array Slot), Inv σ2 → tB g P σ2 A s.heap H locs → lv_has ls 4 [(0, .ref b), (1, .ref (gL g 0)), (2, .ref (gL g 40)), (3, .int (nI n))] → W p l e room_1 s m #[Value.ref b] below meth c H locs (cells + 161) (slots + 322) Q (F0 m 2235 ls [])) : W p l e room_1 s m #[Value.ref b] below meth c H locs cells slots Q (F0 m 1636 ls []) := by
  obtain ⟨hx, hb, hr, hml, hown, ht, hX, hbl, hlocks, hgv⟩ := id C
  obtain ⟨r, σ1, σ2, h1, h2, hI2⟩ := op_began σ hI (xs (n + 1)) (((xs (n + 2)).toInt64 <<< ((32 : Int32).toInt64 &&& 63)) ||| ((xs (n + 3)).toInt64 &&& (4294967295 : Int64))) (xs (n + 4)) (xs (n + 5))
  refine lv_aload_n hx hb dL_law_1636 rfl (lv_at hl 1 rfl) ?_
  refine S_arg (k := 1) hx hb C.2.2.2.2.2.2.1 C.2.2.2.2.2.2.2.1 hbA hB.2.2 hl (by omega) (by omega) dL_law_1637 dL_law_1638 dL_law_1639 dL_law_1640 dL_law_1641 (by decide) ?_
  refine S_arg (k := 2) hx hb C.2.2.2.2.2.2.1 C.2.2.2.2.2.2.2.1 hbA hB.2.2 hl (by omega) (by omega) dL_law_1642 dL_law_1643 dL_law_1644 dL_law_1645 dL_law_1646 (by decide) ?_
  refine lv_i2l (v := (xs (n + 2)).toInt64) hx hb dL_law_1647 rfl ?_
  refine lv_bipush (v := 32) hx hb dL_law_1648 (by decide) ?_
  refine lv_lshl (v := ((xs (n + 2)).toInt64 <<< ((32 : Int32).toInt64 &&& 63))) hx hb dL_law_1650 rfl ?_
  refine S_arg (k := 3) hx hb C.2.2.2.2.2.2.1 C.2.2.2.2.2.2.2.1 hbA hB.2.2 hl (by omega) (by omega) dL_law_1651 dL_law_1652 dL_law_1653 dL_law_1654 dL_law_1655 (by decide) ?_
  refine lv_i2l (v := (xs (n + 3)).toInt64) hx hb dL_law_1656 rfl ?_
  refine lv_ldc2 (v := 4294967295) hx hb hown (ht _ tw1356) dL_law_1657 ?_
  refine lv_land hx hb dL_law_1660 ?_
  refine lv_lor hx hb dL_law_1661 ?_
  refine S_arg (k := 4) hx hb C.2.2.2.2.2.2.1 C.2.2.2.2.2.2.2.1 hbA hB.2.2 hl (by omega) (by omega) dL_law_1662 dL_law_1663 dL_law_1664 dL_law_1665 dL_law_1666 (by decide) ?_
  refine S_arg (k := 5) hx hb C.2.2.2.2.2.2.1 C.2.2.2.2.2.2.2.1 hbA hB.2.2 hl (by omega) (by omega) dL_law_1667 dL_law_1668 dL_law_1669 dL_law_1670 dL_law_1671 (by decide) ?_
  refine R_call (rest := []) [.int r] (R_runV (n := 4) (As := [.int (xs (n + 1)), .long (((xs (n + 2)).toInt64 <<< ((32 : Int32).toInt64 &&& 63)) ||| ((xs (n + 3)).toInt64 &&& (4294967295 : Int64))), .int (xs (n + 4)), .int (xs (n + 5))]) ⟨hx, hb, hml, hown, ht⟩ (fun _ h9 => h9) hK hZ hA hB (c_X11_began l g P σ (xs (n + 1)) (((xs (n + 2)).toInt64 <<< ((32 : Int32).toInt64 &&& 63)) ||| ((xs (n + 3)).toInt64 &&& (4294967295 : Int64))) (xs (n + 4)) (xs (n + 5)) H.size h1) (R_recv hK hB (by decide) (cell_0 rfl) rfl) tw728 tw725 tw726 tw727 tw1 ⟨by decide, by decide, by decide⟩ rfl rfl ⟨Nat.le_of_ble_eq_true rfl, Nat.le_of_ble_eq_true rfl⟩ rfl hl.1 rfl (Nat.le_of_ble_eq_true rfl) dL_law_1672 ⟨by show cells + 0 ≤ 600000; omega, by show slots + 0 ≤ 7302250; omega⟩) hB hA rfl (fun H locs hB => ?_)
  refine lv_aload_n hx hb dL_law_1675 rfl (lv_at hl 2 rfl) ?_
  refine S_arg (k := 1) hx hb C.2.2.2.2.2.2.1 C.2.2.2.2.2.2.2.1 hbA hB.2.2 hl (by omega) (by omega) dL_law_1676 dL_law_1677 dL_law_1678 dL_law_1679 dL_law_1680 (by decide) ?_
  refine S_arg (k := 2) hx hb C.2.2.2.2.2.2.1 C.2.2.2.2.2.2.2.1 hbA hB.2.2 hl (by omega) (by omega) dL_law_1681 dL_law_1682 dL_law_1683 dL_law_1684 dL_law_1685 (by decide) ?_
  refine lv_i2l (v := (xs (n + 2)).toInt64) hx hb dL_law_1686 rfl ?_
  refine lv_bipush (v := 32) hx hb dL_law_1687 (by decide) ?_
  refine lv_lshl (v := ((xs (n + 2)).toInt64 <<< ((32 : Int32).toInt64 &&& 63))) hx hb dL_law_1689 rfl ?_
  refine S_arg (k := 3) hx hb C.2.2.2.2.2.2.1 C.2.2.2.2.2.2.2.1 hbA hB.2.2 hl (by omega) (by omega) dL_law_1690 dL_law_1691 dL_law_1692 dL_law_1693 dL_law_1694 (by decide) ?_
  refine lv_i2l (v := (xs (n + 3)).toInt64) hx hb dL_law_1695 rfl ?_
  refine lv_ldc2 (v := 4294967295) hx hb hown (ht _ tw1356) dL_law_1696 ?_
  refine lv_land hx hb dL_law_1699 ?_
  refine lv_lor hx hb dL_law_1700 ?_
  refine S_arg (k := 4) hx hb C.2.2.2.2.2.2.1 C.2.2.2.2.2.2.2.1 hbA hB.2.2 hl (by omega) (by omega) dL_law_1701 dL_law_1702 dL_law_1703 dL_law_1704 dL_law_1705 (by decide) ?_
  refine S_arg (k := 5) hx hb C.2.2.2.2.2.2.1 C.2.2.2.2.2.2.2.1 hbA hB.2.2 hl (by omega) (by omega) dL_law_1706 dL_law_1707 dL_law_1708 dL_law_1709 dL_law_1710 (by decide) ?_
  refine R_call (rest := [.int r]) [.int r, .int r] (R_runV (n := 4) (As := [.int (xs (n + 1)), .long (((xs (n + 2)).toInt64 <<< ((32 : Int32).toInt64 &&& 63)) ||| ((xs (n + 3)).toInt64 &&& (4294967295 : Int64))), .int (xs (n + 4)), .int (xs (n + 5))]) ⟨hx, hb, hml, hown, ht⟩ (fun _ h9 => h9) hK hZ hA hB (c_X12_began l g P σ1 (xs (n + 1)) (((xs (n + 2)).toInt64 <<< ((32 : Int32).toInt64 &&& 63)) ||| ((xs (n + 3)).toInt64 &&& (4294967295 : Int64))) (xs (n + 4)) (xs (n + 5)) H.size h2) (R_recv hK hB (by decide) (cell_8 rfl) rfl) tw1266 tw1263 tw1264 tw1265 tw5 ⟨by decide, by decide, by decide⟩ rfl rfl ⟨Nat.le_of_ble_eq_true rfl, Nat.le_of_ble_eq_true rfl⟩ rfl hl.1 rfl (Nat.le_of_ble_eq_true rfl) dL_law_1711 ⟨by show cells + 0 ≤ 600000; omega, by show slots + 0 ≤ 7302250; omega⟩) hB hA rfl (fun H locs hB => ?_)
  refine lv_icmp_eq (tgt := 2235) hx hb dL_law_1714 (by decide) (fun _ => ?_) (fun c9 => absurd rfl c9)
  refine W.widen (k := cells + 161) (n := slots + 322) (by omega) (by omega) ?_
  exact next P σ2 H locs ls hI2 hB hl
set_option maxHeartbeats 4000000 in
set_option maxRecDepth 100000 in
theorem law_29 {p : Program} {l : Launch} {e : Env} {s : State} {m : MethodId} {below : List Frame} {meth : Method} {c : Code} {b L : Nat} {xs : Nat → Int32} {g : tG} {A : Nat → Prop} (C : LC p s m meth c b L xs) (hK : tK g s) (hZ : tZ g A s s.heap) (hA : ∀ q, s.heap.size ≤ q → A q) (hbA : ¬ A b) {n : Nat} (hn : n + 6 ≤ L) (hL : L ≤ 3072) {σ : Hp} (hI : Inv σ) {P : Nat → Nat} {H : Heap} {locs : List Loc} {ls : Array Slot} {cells slots : Nat} (hB : tB g P σ A s.heap H locs) (hl : lv_has ls 4 [(0, .ref b), (1, .ref (gL g 0)), (2, .ref (gL g 40)), (3, .int (nI n))]) (hc : cells + 161 ≤ 600000) (hs : slots + 322 ≤ 7302250) {Q : State → Prop} (next : ∀ (P : Nat → Nat) (σ2 : Hp) (H : Heap) (locs : List Loc) (ls : Array Slot), Inv σ2 → tB g P σ2 A s.heap H locs → lv_has ls 4 [(0, .ref b), (1, .ref (gL g 0)), (2, .ref (gL g 40)), (3, .int (nI n))] → W p l e room_1 s m #[Value.ref b] below meth c H locs (cells + 161) (slots + 322) Q (F0 m 2235 ls [])) : W p l e room_1 s m #[Value.ref b] below meth c H locs cells slots Q (F0 m 1719 ls []) := by
  obtain ⟨hx, hb, hr, hml, hown, ht, hX, hbl, hlocks, hgv⟩ := id C
  obtain ⟨r, σ1, σ2, h1, h2, hI2⟩ := op_slip σ hI (((xs (n + 1)).toInt64 <<< ((32 : Int32).toInt64 &&& 63)) ||| ((xs (n + 2)).toInt64 &&& (4294967295 : Int64))) (((xs (n + 3)).toInt64 <<< ((32 : Int32).toInt64 &&& 63)) ||| ((xs (n + 4)).toInt64 &&& (4294967295 : Int64)))
  refine lv_aload_n hx hb dL_law_1719 rfl (lv_at hl 1 rfl) ?_
  refine S_arg (k := 1) hx hb C.2.2.2.2.2.2.1 C.2.2.2.2.2.2.2.1 hbA hB.2.2 hl (by omega) (by omega) dL_law_1720 dL_law_1721 dL_law_1722 dL_law_1723 dL_law_1724 (by decide) ?_
  refine lv_i2l (v := (xs (n + 1)).toInt64) hx hb dL_law_1725 rfl ?_
  refine lv_bipush (v := 32) hx hb dL_law_1726 (by decide) ?_
  refine lv_lshl (v := ((xs (n + 1)).toInt64 <<< ((32 : Int32).toInt64 &&& 63))) hx hb dL_law_1728 rfl ?_
  refine S_arg (k := 2) hx hb C.2.2.2.2.2.2.1 C.2.2.2.2.2.2.2.1 hbA hB.2.2 hl (by omega) (by omega) dL_law_1729 dL_law_1730 dL_law_1731 dL_law_1732 dL_law_1733 (by decide) ?_
  refine lv_i2l (v := (xs (n + 2)).toInt64) hx hb dL_law_1734 rfl ?_
  refine lv_ldc2 (v := 4294967295) hx hb hown (ht _ tw1356) dL_law_1735 ?_
  refine lv_land hx hb dL_law_1738 ?_
  refine lv_lor hx hb dL_law_1739 ?_
  refine S_arg (k := 3) hx hb C.2.2.2.2.2.2.1 C.2.2.2.2.2.2.2.1 hbA hB.2.2 hl (by omega) (by omega) dL_law_1740 dL_law_1741 dL_law_1742 dL_law_1743 dL_law_1744 (by decide) ?_
  refine lv_i2l (v := (xs (n + 3)).toInt64) hx hb dL_law_1745 rfl ?_
  refine lv_bipush (v := 32) hx hb dL_law_1746 (by decide) ?_
  refine lv_lshl (v := ((xs (n + 3)).toInt64 <<< ((32 : Int32).toInt64 &&& 63))) hx hb dL_law_1748 rfl ?_
  refine S_arg (k := 4) hx hb C.2.2.2.2.2.2.1 C.2.2.2.2.2.2.2.1 hbA hB.2.2 hl (by omega) (by omega) dL_law_1749 dL_law_1750 dL_law_1751 dL_law_1752 dL_law_1753 (by decide) ?_
  refine lv_i2l (v := (xs (n + 4)).toInt64) hx hb dL_law_1754 rfl ?_
  refine lv_ldc2 (v := 4294967295) hx hb hown (ht _ tw1356) dL_law_1755 ?_
  refine lv_land hx hb dL_law_1758 ?_
  refine lv_lor hx hb dL_law_1759 ?_
  refine R_call (rest := []) [.int r] (R_runV (n := 2) (As := [.long (((xs (n + 1)).toInt64 <<< ((32 : Int32).toInt64 &&& 63)) ||| ((xs (n + 2)).toInt64 &&& (4294967295 : Int64))), .long (((xs (n + 3)).toInt64 <<< ((32 : Int32).toInt64 &&& 63)) ||| ((xs (n + 4)).toInt64 &&& (4294967295 : Int64)))]) ⟨hx, hb, hml, hown, ht⟩ (fun _ h9 => h9) hK hZ hA hB (c_X11_slip l g P σ (((xs (n + 1)).toInt64 <<< ((32 : Int32).toInt64 &&& 63)) ||| ((xs (n + 2)).toInt64 &&& (4294967295 : Int64))) (((xs (n + 3)).toInt64 <<< ((32 : Int32).toInt64 &&& 63)) ||| ((xs (n + 4)).toInt64 &&& (4294967295 : Int64))) H.size h1) (R_recv hK hB (by decide) (cell_0 rfl) rfl) tw654 tw651 tw652 tw653 tw1 ⟨by decide, by decide, by decide⟩ rfl rfl ⟨Nat.le_of_ble_eq_true rfl, Nat.le_of_ble_eq_true rfl⟩ rfl hl.1 rfl (Nat.le_of_ble_eq_true rfl) dL_law_1760 ⟨by show cells + 0 ≤ 600000; omega, by show slots + 0 ≤ 7302250; omega⟩) hB hA rfl (fun H locs hB => ?_)
  refine lv_aload_n hx hb dL_law_1763 rfl (lv_at hl 2 rfl) ?_
  refine S_arg (k := 1) hx hb C.2.2.2.2.2.2.1 C.2.2.2.2.2.2.2.1 hbA hB.2.2 hl (by omega) (by omega) dL_law_1764 dL_law_1765 dL_law_1766 dL_law_1767 dL_law_1768 (by decide) ?_
  refine lv_i2l (v := (xs (n + 1)).toInt64) hx hb dL_law_1769 rfl ?_
  refine lv_bipush (v := 32) hx hb dL_law_1770 (by decide) ?_
  refine lv_lshl (v := ((xs (n + 1)).toInt64 <<< ((32 : Int32).toInt64 &&& 63))) hx hb dL_law_1772 rfl ?_
  refine S_arg (k := 2) hx hb C.2.2.2.2.2.2.1 C.2.2.2.2.2.2.2.1 hbA hB.2.2 hl (by omega) (by omega) dL_law_1773 dL_law_1774 dL_law_1775 dL_law_1776 dL_law_1777 (by decide) ?_
  refine lv_i2l (v := (xs (n + 2)).toInt64) hx hb dL_law_1778 rfl ?_
  refine lv_ldc2 (v := 4294967295) hx hb hown (ht _ tw1356) dL_law_1779 ?_
  refine lv_land hx hb dL_law_1782 ?_
  refine lv_lor hx hb dL_law_1783 ?_
  refine S_arg (k := 3) hx hb C.2.2.2.2.2.2.1 C.2.2.2.2.2.2.2.1 hbA hB.2.2 hl (by omega) (by omega) dL_law_1784 dL_law_1785 dL_law_1786 dL_law_1787 dL_law_1788 (by decide) ?_
  refine lv_i2l (v := (xs (n + 3)).toInt64) hx hb dL_law_1789 rfl ?_
  refine lv_bipush (v := 32) hx hb dL_law_1790 (by decide) ?_
  refine lv_lshl (v := ((xs (n + 3)).toInt64 <<< ((32 : Int32).toInt64 &&& 63))) hx hb dL_law_1792 rfl ?_
  refine S_arg (k := 4) hx hb C.2.2.2.2.2.2.1 C.2.2.2.2.2.2.2.1 hbA hB.2.2 hl (by omega) (by omega) dL_law_1793 dL_law_1794 dL_law_1795 dL_law_1796 dL_law_1797 (by decide) ?_
  refine lv_i2l (v := (xs (n + 4)).toInt64) hx hb dL_law_1798 rfl ?_
  refine lv_ldc2 (v := 4294967295) hx hb hown (ht _ tw1356) dL_law_1799 ?_
  refine lv_land hx hb dL_law_1802 ?_
  refine lv_lor hx hb dL_law_1803 ?_
  refine R_call (rest := [.int r]) [.int r, .int r] (R_runV (n := 2) (As := [.long (((xs (n + 1)).toInt64 <<< ((32 : Int32).toInt64 &&& 63)) ||| ((xs (n + 2)).toInt64 &&& (4294967295 : Int64))), .long (((xs (n + 3)).toInt64 <<< ((32 : Int32).toInt64 &&& 63)) ||| ((xs (n + 4)).toInt64 &&& (4294967295 : Int64)))]) ⟨hx, hb, hml, hown, ht⟩ (fun _ h9 => h9) hK hZ hA hB (c_X12_slip l g P σ1 (((xs (n + 1)).toInt64 <<< ((32 : Int32).toInt64 &&& 63)) ||| ((xs (n + 2)).toInt64 &&& (4294967295 : Int64))) (((xs (n + 3)).toInt64 <<< ((32 : Int32).toInt64 &&& 63)) ||| ((xs (n + 4)).toInt64 &&& (4294967295 : Int64))) H.size h2) (R_recv hK hB (by decide) (cell_8 rfl) rfl) tw1270 tw1267 tw1268 tw1269 tw5 ⟨by decide, by decide, by decide⟩ rfl rfl ⟨Nat.le_of_ble_eq_true rfl, Nat.le_of_ble_eq_true rfl⟩ rfl hl.1 rfl (Nat.le_of_ble_eq_true rfl) dL_law_1804 ⟨by show cells + 0 ≤ 600000; omega, by show slots + 0 ≤ 7302250; omega⟩) hB hA rfl (fun H locs hB => ?_)
  refine lv_icmp_eq (tgt := 2235) hx hb dL_law_1807 (by decide) (fun _ => ?_) (fun c9 => absurd rfl c9)
  refine W.widen (k := cells + 161) (n := slots + 322) (by omega) (by omega) ?_
  exact next P σ2 H locs ls hI2 hB hl
set_option maxHeartbeats 4000000 in
set_option maxRecDepth 100000 in
theorem law_30 {p : Program} {l : Launch} {e : Env} {s : State} {m : MethodId} {below : List Frame} {meth : Method} {c : Code} {b L : Nat} {xs : Nat → Int32} {g : tG} {A : Nat → Prop} (C : LC p s m meth c b L xs) (hK : tK g s) (hZ : tZ g A s s.heap) (hA : ∀ q, s.heap.size ≤ q → A q) (hbA : ¬ A b) {n : Nat} (hn : n + 6 ≤ L) (hL : L ≤ 3072) {σ : Hp} (hI : Inv σ) {P : Nat → Nat} {H : Heap} {locs : List Loc} {ls : Array Slot} {cells slots : Nat} (hB : tB g P σ A s.heap H locs) (hl : lv_has ls 4 [(0, .ref b), (1, .ref (gL g 0)), (2, .ref (gL g 40)), (3, .int (nI n))]) (hc : cells + 161 ≤ 600000) (hs : slots + 322 ≤ 7302250) {Q : State → Prop} (next : ∀ (P : Nat → Nat) (σ2 : Hp) (H : Heap) (locs : List Loc) (ls : Array Slot), Inv σ2 → tB g P σ2 A s.heap H locs → lv_has ls 4 [(0, .ref b), (1, .ref (gL g 0)), (2, .ref (gL g 40)), (3, .int (nI n))] → W p l e room_1 s m #[Value.ref b] below meth c H locs (cells + 161) (slots + 322) Q (F0 m 2235 ls [])) : W p l e room_1 s m #[Value.ref b] below meth c H locs cells slots Q (F0 m 1812 ls []) := by
  obtain ⟨hx, hb, hr, hml, hown, ht, hX, hbl, hlocks, hgv⟩ := id C
  obtain ⟨r, σ1, σ2, h1, h2, hI2⟩ := op_missed σ hI (((xs (n + 1)).toInt64 <<< ((32 : Int32).toInt64 &&& 63)) ||| ((xs (n + 2)).toInt64 &&& (4294967295 : Int64)))
  refine lv_aload_n hx hb dL_law_1812 rfl (lv_at hl 1 rfl) ?_
  refine S_arg (k := 1) hx hb C.2.2.2.2.2.2.1 C.2.2.2.2.2.2.2.1 hbA hB.2.2 hl (by omega) (by omega) dL_law_1813 dL_law_1814 dL_law_1815 dL_law_1816 dL_law_1817 (by decide) ?_
  refine lv_i2l (v := (xs (n + 1)).toInt64) hx hb dL_law_1818 rfl ?_
  refine lv_bipush (v := 32) hx hb dL_law_1819 (by decide) ?_
  refine lv_lshl (v := ((xs (n + 1)).toInt64 <<< ((32 : Int32).toInt64 &&& 63))) hx hb dL_law_1821 rfl ?_
  refine S_arg (k := 2) hx hb C.2.2.2.2.2.2.1 C.2.2.2.2.2.2.2.1 hbA hB.2.2 hl (by omega) (by omega) dL_law_1822 dL_law_1823 dL_law_1824 dL_law_1825 dL_law_1826 (by decide) ?_
  refine lv_i2l (v := (xs (n + 2)).toInt64) hx hb dL_law_1827 rfl ?_
  refine lv_ldc2 (v := 4294967295) hx hb hown (ht _ tw1356) dL_law_1828 ?_
  refine lv_land hx hb dL_law_1831 ?_
  refine lv_lor hx hb dL_law_1832 ?_
  refine R_call (rest := []) [.int r] (R_runV (n := 1) (As := [.long (((xs (n + 1)).toInt64 <<< ((32 : Int32).toInt64 &&& 63)) ||| ((xs (n + 2)).toInt64 &&& (4294967295 : Int64)))]) ⟨hx, hb, hml, hown, ht⟩ (fun _ h9 => h9) hK hZ hA hB (c_X11_missed l g P σ (((xs (n + 1)).toInt64 <<< ((32 : Int32).toInt64 &&& 63)) ||| ((xs (n + 2)).toInt64 &&& (4294967295 : Int64))) H.size h1) (R_recv hK hB (by decide) (cell_0 rfl) rfl) tw661 tw658 tw659 tw660 tw1 ⟨by decide, by decide, by decide⟩ rfl rfl ⟨Nat.le_of_ble_eq_true rfl, Nat.le_of_ble_eq_true rfl⟩ rfl hl.1 rfl (Nat.le_of_ble_eq_true rfl) dL_law_1833 ⟨by show cells + 0 ≤ 600000; omega, by show slots + 0 ≤ 7302250; omega⟩) hB hA rfl (fun H locs hB => ?_)
  refine lv_aload_n hx hb dL_law_1836 rfl (lv_at hl 2 rfl) ?_
  refine S_arg (k := 1) hx hb C.2.2.2.2.2.2.1 C.2.2.2.2.2.2.2.1 hbA hB.2.2 hl (by omega) (by omega) dL_law_1837 dL_law_1838 dL_law_1839 dL_law_1840 dL_law_1841 (by decide) ?_
  refine lv_i2l (v := (xs (n + 1)).toInt64) hx hb dL_law_1842 rfl ?_
  refine lv_bipush (v := 32) hx hb dL_law_1843 (by decide) ?_
  refine lv_lshl (v := ((xs (n + 1)).toInt64 <<< ((32 : Int32).toInt64 &&& 63))) hx hb dL_law_1845 rfl ?_
  refine S_arg (k := 2) hx hb C.2.2.2.2.2.2.1 C.2.2.2.2.2.2.2.1 hbA hB.2.2 hl (by omega) (by omega) dL_law_1846 dL_law_1847 dL_law_1848 dL_law_1849 dL_law_1850 (by decide) ?_
  refine lv_i2l (v := (xs (n + 2)).toInt64) hx hb dL_law_1851 rfl ?_
  refine lv_ldc2 (v := 4294967295) hx hb hown (ht _ tw1356) dL_law_1852 ?_
  refine lv_land hx hb dL_law_1855 ?_
  refine lv_lor hx hb dL_law_1856 ?_
  refine R_call (rest := [.int r]) [.int r, .int r] (R_runV (n := 1) (As := [.long (((xs (n + 1)).toInt64 <<< ((32 : Int32).toInt64 &&& 63)) ||| ((xs (n + 2)).toInt64 &&& (4294967295 : Int64)))]) ⟨hx, hb, hml, hown, ht⟩ (fun _ h9 => h9) hK hZ hA hB (c_X12_missed l g P σ1 (((xs (n + 1)).toInt64 <<< ((32 : Int32).toInt64 &&& 63)) ||| ((xs (n + 2)).toInt64 &&& (4294967295 : Int64))) H.size h2) (R_recv hK hB (by decide) (cell_8 rfl) rfl) tw1274 tw1271 tw1272 tw1273 tw5 ⟨by decide, by decide, by decide⟩ rfl rfl ⟨Nat.le_of_ble_eq_true rfl, Nat.le_of_ble_eq_true rfl⟩ rfl hl.1 rfl (Nat.le_of_ble_eq_true rfl) dL_law_1857 ⟨by show cells + 0 ≤ 600000; omega, by show slots + 0 ≤ 7302250; omega⟩) hB hA rfl (fun H locs hB => ?_)
  refine lv_icmp_eq (tgt := 2235) hx hb dL_law_1860 (by decide) (fun _ => ?_) (fun c9 => absurd rfl c9)
  refine W.widen (k := cells + 161) (n := slots + 322) (by omega) (by omega) ?_
  exact next P σ2 H locs ls hI2 hB hl
set_option maxHeartbeats 4000000 in
set_option maxRecDepth 100000 in
theorem law_31 {p : Program} {l : Launch} {e : Env} {s : State} {m : MethodId} {below : List Frame} {meth : Method} {c : Code} {b L : Nat} {xs : Nat → Int32} {g : tG} {A : Nat → Prop} (C : LC p s m meth c b L xs) (hK : tK g s) (hZ : tZ g A s s.heap) (hA : ∀ q, s.heap.size ≤ q → A q) (hbA : ¬ A b) {n : Nat} (hn : n + 6 ≤ L) (hL : L ≤ 3072) {σ : Hp} (hI : Inv σ) {P : Nat → Nat} {H : Heap} {locs : List Loc} {ls : Array Slot} {cells slots : Nat} (hB : tB g P σ A s.heap H locs) (hl : lv_has ls 4 [(0, .ref b), (1, .ref (gL g 0)), (2, .ref (gL g 40)), (3, .int (nI n))]) (hc : cells + 161 ≤ 600000) (hs : slots + 322 ≤ 7302250) {Q : State → Prop} (next : ∀ (P : Nat → Nat) (σ2 : Hp) (H : Heap) (locs : List Loc) (ls : Array Slot), Inv σ2 → tB g P σ2 A s.heap H locs → lv_has ls 4 [(0, .ref b), (1, .ref (gL g 0)), (2, .ref (gL g 40)), (3, .int (nI n))] → W p l e room_1 s m #[Value.ref b] below meth c H locs (cells + 161) (slots + 322) Q (F0 m 2235 ls [])) : W p l e room_1 s m #[Value.ref b] below meth c H locs cells slots Q (F0 m 1865 ls []) := by
  obtain ⟨hx, hb, hr, hml, hown, ht, hX, hbl, hlocks, hgv⟩ := id C
  obtain ⟨r, σ1, σ2, h1, h2, hI2⟩ := op_judge σ hI (xs (n + 1)) (xs (n + 2)) (xs (n + 3))
  refine lv_aload_n hx hb dL_law_1865 rfl (lv_at hl 1 rfl) ?_
  refine S_arg (k := 1) hx hb C.2.2.2.2.2.2.1 C.2.2.2.2.2.2.2.1 hbA hB.2.2 hl (by omega) (by omega) dL_law_1866 dL_law_1867 dL_law_1868 dL_law_1869 dL_law_1870 (by decide) ?_
  refine S_arg (k := 2) hx hb C.2.2.2.2.2.2.1 C.2.2.2.2.2.2.2.1 hbA hB.2.2 hl (by omega) (by omega) dL_law_1871 dL_law_1872 dL_law_1873 dL_law_1874 dL_law_1875 (by decide) ?_
  refine S_arg (k := 3) hx hb C.2.2.2.2.2.2.1 C.2.2.2.2.2.2.2.1 hbA hB.2.2 hl (by omega) (by omega) dL_law_1876 dL_law_1877 dL_law_1878 dL_law_1879 dL_law_1880 (by decide) ?_
  refine R_call (rest := []) [.int r] (R_runV (n := 3) (As := [.int (xs (n + 1)), .int (xs (n + 2)), .int (xs (n + 3))]) ⟨hx, hb, hml, hown, ht⟩ (fun _ h9 => h9) hK hZ hA hB (c_X11_judge l g P σ (xs (n + 1)) (xs (n + 2)) (xs (n + 3)) H.size h1) (R_recv hK hB (by decide) (cell_0 rfl) rfl) tw763 tw760 tw761 tw762 tw1 ⟨by decide, by decide, by decide⟩ rfl rfl ⟨Nat.le_of_ble_eq_true rfl, Nat.le_of_ble_eq_true rfl⟩ rfl hl.1 rfl (Nat.le_of_ble_eq_true rfl) dL_law_1881 ⟨by show cells + 0 ≤ 600000; omega, by show slots + 0 ≤ 7302250; omega⟩) hB hA rfl (fun H locs hB => ?_)
  refine lv_aload_n hx hb dL_law_1884 rfl (lv_at hl 2 rfl) ?_
  refine S_arg (k := 1) hx hb C.2.2.2.2.2.2.1 C.2.2.2.2.2.2.2.1 hbA hB.2.2 hl (by omega) (by omega) dL_law_1885 dL_law_1886 dL_law_1887 dL_law_1888 dL_law_1889 (by decide) ?_
  refine S_arg (k := 2) hx hb C.2.2.2.2.2.2.1 C.2.2.2.2.2.2.2.1 hbA hB.2.2 hl (by omega) (by omega) dL_law_1890 dL_law_1891 dL_law_1892 dL_law_1893 dL_law_1894 (by decide) ?_
  refine S_arg (k := 3) hx hb C.2.2.2.2.2.2.1 C.2.2.2.2.2.2.2.1 hbA hB.2.2 hl (by omega) (by omega) dL_law_1895 dL_law_1896 dL_law_1897 dL_law_1898 dL_law_1899 (by decide) ?_
  refine R_call (rest := [.int r]) [.int r, .int r] (R_runV (n := 3) (As := [.int (xs (n + 1)), .int (xs (n + 2)), .int (xs (n + 3))]) ⟨hx, hb, hml, hown, ht⟩ (fun _ h9 => h9) hK hZ hA hB (c_X12_judge l g P σ1 (xs (n + 1)) (xs (n + 2)) (xs (n + 3)) H.size h2) (R_recv hK hB (by decide) (cell_8 rfl) rfl) tw1278 tw1275 tw1276 tw1277 tw5 ⟨by decide, by decide, by decide⟩ rfl rfl ⟨Nat.le_of_ble_eq_true rfl, Nat.le_of_ble_eq_true rfl⟩ rfl hl.1 rfl (Nat.le_of_ble_eq_true rfl) dL_law_1900 ⟨by show cells + 0 ≤ 600000; omega, by show slots + 0 ≤ 7302250; omega⟩) hB hA rfl (fun H locs hB => ?_)
  refine lv_icmp_eq (tgt := 2235) hx hb dL_law_1903 (by decide) (fun _ => ?_) (fun c9 => absurd rfl c9)
  refine W.widen (k := cells + 161) (n := slots + 322) (by omega) (by omega) ?_
  exact next P σ2 H locs ls hI2 hB hl
set_option maxHeartbeats 4000000 in
set_option maxRecDepth 100000 in
theorem law_32 {p : Program} {l : Launch} {e : Env} {s : State} {m : MethodId} {below : List Frame} {meth : Method} {c : Code} {b L : Nat} {xs : Nat → Int32} {g : tG} {A : Nat → Prop} (C : LC p s m meth c b L xs) (hK : tK g s) (hZ : tZ g A s s.heap) (hA : ∀ q, s.heap.size ≤ q → A q) (hbA : ¬ A b) {n : Nat} (hn : n + 6 ≤ L) (hL : L ≤ 3072) {σ : Hp} (hI : Inv σ) {P : Nat → Nat} {H : Heap} {locs : List Loc} {ls : Array Slot} {cells slots : Nat} (hB : tB g P σ A s.heap H locs) (hl : lv_has ls 4 [(0, .ref b), (1, .ref (gL g 0)), (2, .ref (gL g 40)), (3, .int (nI n))]) (hc : cells + 161 ≤ 600000) (hs : slots + 322 ≤ 7302250) {Q : State → Prop} (next : ∀ (P : Nat → Nat) (σ2 : Hp) (H : Heap) (locs : List Loc) (ls : Array Slot), Inv σ2 → tB g P σ2 A s.heap H locs → lv_has ls 4 [(0, .ref b), (1, .ref (gL g 0)), (2, .ref (gL g 40)), (3, .int (nI n))] → W p l e room_1 s m #[Value.ref b] below meth c H locs (cells + 161) (slots + 322) Q (F0 m 2235 ls [])) : W p l e room_1 s m #[Value.ref b] below meth c H locs cells slots Q (F0 m 1908 ls []) := by
  obtain ⟨hx, hb, hr, hml, hown, ht, hX, hbl, hlocks, hgv⟩ := id C
  obtain ⟨r, σ1, σ2, h1, h2, hI2⟩ := op_laws σ hI (xs (n + 1)) (xs (n + 2))
  refine lv_aload_n hx hb dL_law_1908 rfl (lv_at hl 1 rfl) ?_
  refine S_arg (k := 1) hx hb C.2.2.2.2.2.2.1 C.2.2.2.2.2.2.2.1 hbA hB.2.2 hl (by omega) (by omega) dL_law_1909 dL_law_1910 dL_law_1911 dL_law_1912 dL_law_1913 (by decide) ?_
  refine S_arg (k := 2) hx hb C.2.2.2.2.2.2.1 C.2.2.2.2.2.2.2.1 hbA hB.2.2 hl (by omega) (by omega) dL_law_1914 dL_law_1915 dL_law_1916 dL_law_1917 dL_law_1918 (by decide) ?_
  refine R_call (rest := []) [.int r] (R_runV (n := 2) (As := [.int (xs (n + 1)), .int (xs (n + 2))]) ⟨hx, hb, hml, hown, ht⟩ (fun _ h9 => h9) hK hZ hA hB (c_X11_laws l g P σ (xs (n + 1)) (xs (n + 2)) H.size h1) (R_recv hK hB (by decide) (cell_0 rfl) rfl) tw774 tw771 tw772 tw773 tw1 ⟨by decide, by decide, by decide⟩ rfl rfl ⟨Nat.le_of_ble_eq_true rfl, Nat.le_of_ble_eq_true rfl⟩ rfl hl.1 rfl (Nat.le_of_ble_eq_true rfl) dL_law_1919 ⟨by show cells + 0 ≤ 600000; omega, by show slots + 0 ≤ 7302250; omega⟩) hB hA rfl (fun H locs hB => ?_)
  refine lv_aload_n hx hb dL_law_1922 rfl (lv_at hl 2 rfl) ?_
  refine S_arg (k := 1) hx hb C.2.2.2.2.2.2.1 C.2.2.2.2.2.2.2.1 hbA hB.2.2 hl (by omega) (by omega) dL_law_1923 dL_law_1924 dL_law_1925 dL_law_1926 dL_law_1927 (by decide) ?_
  refine S_arg (k := 2) hx hb C.2.2.2.2.2.2.1 C.2.2.2.2.2.2.2.1 hbA hB.2.2 hl (by omega) (by omega) dL_law_1928 dL_law_1929 dL_law_1930 dL_law_1931 dL_law_1932 (by decide) ?_
  refine R_call (rest := [.int r]) [.int r, .int r] (R_runV (n := 2) (As := [.int (xs (n + 1)), .int (xs (n + 2))]) ⟨hx, hb, hml, hown, ht⟩ (fun _ h9 => h9) hK hZ hA hB (c_X12_laws l g P σ1 (xs (n + 1)) (xs (n + 2)) H.size h2) (R_recv hK hB (by decide) (cell_8 rfl) rfl) tw1290 tw1287 tw1288 tw1289 tw5 ⟨by decide, by decide, by decide⟩ rfl rfl ⟨Nat.le_of_ble_eq_true rfl, Nat.le_of_ble_eq_true rfl⟩ rfl hl.1 rfl (Nat.le_of_ble_eq_true rfl) dL_law_1933 ⟨by show cells + 0 ≤ 600000; omega, by show slots + 0 ≤ 7302250; omega⟩) hB hA rfl (fun H locs hB => ?_)
  refine lv_icmp_eq (tgt := 2235) hx hb dL_law_1936 (by decide) (fun _ => ?_) (fun c9 => absurd rfl c9)
  refine W.widen (k := cells + 161) (n := slots + 322) (by omega) (by omega) ?_
  exact next P σ2 H locs ls hI2 hB hl
set_option maxHeartbeats 4000000 in
set_option maxRecDepth 100000 in
theorem law_33 {p : Program} {l : Launch} {e : Env} {s : State} {m : MethodId} {below : List Frame} {meth : Method} {c : Code} {b L : Nat} {xs : Nat → Int32} {g : tG} {A : Nat → Prop} (C : LC p s m meth c b L xs) (hK : tK g s) (hZ : tZ g A s s.heap) (hA : ∀ q, s.heap.size ≤ q → A q) (hbA : ¬ A b) {n : Nat} (hn : n + 6 ≤ L) (hL : L ≤ 3072) {σ : Hp} (hI : Inv σ) {P : Nat → Nat} {H : Heap} {locs : List Loc} {ls : Array Slot} {cells slots : Nat} (hB : tB g P σ A s.heap H locs) (hl : lv_has ls 4 [(0, .ref b), (1, .ref (gL g 0)), (2, .ref (gL g 40)), (3, .int (nI n))]) (hc : cells + 161 ≤ 600000) (hs : slots + 322 ≤ 7302250) {Q : State → Prop} (next : ∀ (P : Nat → Nat) (σ2 : Hp) (H : Heap) (locs : List Loc) (ls : Array Slot), Inv σ2 → tB g P σ2 A s.heap H locs → lv_has ls 4 [(0, .ref b), (1, .ref (gL g 0)), (2, .ref (gL g 40)), (3, .int (nI n))] → W p l e room_1 s m #[Value.ref b] below meth c H locs (cells + 161) (slots + 322) Q (F0 m 2235 ls [])) : W p l e room_1 s m #[Value.ref b] below meth c H locs cells slots Q (F0 m 1941 ls []) := by
  obtain ⟨hx, hb, hr, hml, hown, ht, hX, hbl, hlocks, hgv⟩ := id C
  obtain ⟨r, σ1, σ2, h1, h2, hI2⟩ := op_write σ hI (((xs (n + 1)).toInt64 <<< ((32 : Int32).toInt64 &&& 63)) ||| ((xs (n + 2)).toInt64 &&& (4294967295 : Int64)))
  refine lv_aload_n hx hb dL_law_1941 rfl (lv_at hl 1 rfl) ?_
  refine S_arg (k := 1) hx hb C.2.2.2.2.2.2.1 C.2.2.2.2.2.2.2.1 hbA hB.2.2 hl (by omega) (by omega) dL_law_1942 dL_law_1943 dL_law_1944 dL_law_1945 dL_law_1946 (by decide) ?_
  refine lv_i2l (v := (xs (n + 1)).toInt64) hx hb dL_law_1947 rfl ?_
  refine lv_bipush (v := 32) hx hb dL_law_1948 (by decide) ?_
  refine lv_lshl (v := ((xs (n + 1)).toInt64 <<< ((32 : Int32).toInt64 &&& 63))) hx hb dL_law_1950 rfl ?_
  refine S_arg (k := 2) hx hb C.2.2.2.2.2.2.1 C.2.2.2.2.2.2.2.1 hbA hB.2.2 hl (by omega) (by omega) dL_law_1951 dL_law_1952 dL_law_1953 dL_law_1954 dL_law_1955 (by decide) ?_
  refine lv_i2l (v := (xs (n + 2)).toInt64) hx hb dL_law_1956 rfl ?_
  refine lv_ldc2 (v := 4294967295) hx hb hown (ht _ tw1356) dL_law_1957 ?_
  refine lv_land hx hb dL_law_1960 ?_
  refine lv_lor hx hb dL_law_1961 ?_
  refine R_call (rest := []) [.int r] (R_runV (n := 1) (As := [.long (((xs (n + 1)).toInt64 <<< ((32 : Int32).toInt64 &&& 63)) ||| ((xs (n + 2)).toInt64 &&& (4294967295 : Int64)))]) ⟨hx, hb, hml, hown, ht⟩ (fun _ h9 => h9) hK hZ hA hB (c_X11_write l g P σ (((xs (n + 1)).toInt64 <<< ((32 : Int32).toInt64 &&& 63)) ||| ((xs (n + 2)).toInt64 &&& (4294967295 : Int64))) H.size h1) (R_recv hK hB (by decide) (cell_0 rfl) rfl) tw778 tw775 tw776 tw777 tw1 ⟨by decide, by decide, by decide⟩ rfl rfl ⟨Nat.le_of_ble_eq_true rfl, Nat.le_of_ble_eq_true rfl⟩ rfl hl.1 rfl (Nat.le_of_ble_eq_true rfl) dL_law_1962 ⟨by show cells + 0 ≤ 600000; omega, by show slots + 0 ≤ 7302250; omega⟩) hB hA rfl (fun H locs hB => ?_)
  refine lv_aload_n hx hb dL_law_1965 rfl (lv_at hl 2 rfl) ?_
  refine S_arg (k := 1) hx hb C.2.2.2.2.2.2.1 C.2.2.2.2.2.2.2.1 hbA hB.2.2 hl (by omega) (by omega) dL_law_1966 dL_law_1967 dL_law_1968 dL_law_1969 dL_law_1970 (by decide) ?_
  refine lv_i2l (v := (xs (n + 1)).toInt64) hx hb dL_law_1971 rfl ?_
  refine lv_bipush (v := 32) hx hb dL_law_1972 (by decide) ?_
  refine lv_lshl (v := ((xs (n + 1)).toInt64 <<< ((32 : Int32).toInt64 &&& 63))) hx hb dL_law_1974 rfl ?_
  refine S_arg (k := 2) hx hb C.2.2.2.2.2.2.1 C.2.2.2.2.2.2.2.1 hbA hB.2.2 hl (by omega) (by omega) dL_law_1975 dL_law_1976 dL_law_1977 dL_law_1978 dL_law_1979 (by decide) ?_
  refine lv_i2l (v := (xs (n + 2)).toInt64) hx hb dL_law_1980 rfl ?_
  refine lv_ldc2 (v := 4294967295) hx hb hown (ht _ tw1356) dL_law_1981 ?_
  refine lv_land hx hb dL_law_1984 ?_
  refine lv_lor hx hb dL_law_1985 ?_
  refine R_call (rest := [.int r]) [.int r, .int r] (R_runV (n := 1) (As := [.long (((xs (n + 1)).toInt64 <<< ((32 : Int32).toInt64 &&& 63)) ||| ((xs (n + 2)).toInt64 &&& (4294967295 : Int64)))]) ⟨hx, hb, hml, hown, ht⟩ (fun _ h9 => h9) hK hZ hA hB (c_X12_write l g P σ1 (((xs (n + 1)).toInt64 <<< ((32 : Int32).toInt64 &&& 63)) ||| ((xs (n + 2)).toInt64 &&& (4294967295 : Int64))) H.size h2) (R_recv hK hB (by decide) (cell_8 rfl) rfl) tw1294 tw1291 tw1292 tw1293 tw5 ⟨by decide, by decide, by decide⟩ rfl rfl ⟨Nat.le_of_ble_eq_true rfl, Nat.le_of_ble_eq_true rfl⟩ rfl hl.1 rfl (Nat.le_of_ble_eq_true rfl) dL_law_1986 ⟨by show cells + 0 ≤ 600000; omega, by show slots + 0 ≤ 7302250; omega⟩) hB hA rfl (fun H locs hB => ?_)
  refine lv_icmp_eq (tgt := 2235) hx hb dL_law_1989 (by decide) (fun _ => ?_) (fun c9 => absurd rfl c9)
  refine W.widen (k := cells + 161) (n := slots + 322) (by omega) (by omega) ?_
  exact next P σ2 H locs ls hI2 hB hl
set_option maxHeartbeats 4000000 in
set_option maxRecDepth 100000 in
theorem law_34 {p : Program} {l : Launch} {e : Env} {s : State} {m : MethodId} {below : List Frame} {meth : Method} {c : Code} {b L : Nat} {xs : Nat → Int32} {g : tG} {A : Nat → Prop} (C : LC p s m meth c b L xs) (hK : tK g s) (hZ : tZ g A s s.heap) (hA : ∀ q, s.heap.size ≤ q → A q) (hbA : ¬ A b) {n : Nat} (hn : n + 6 ≤ L) (hL : L ≤ 3072) {σ : Hp} (hI : Inv σ) {P : Nat → Nat} {H : Heap} {locs : List Loc} {ls : Array Slot} {cells slots : Nat} (hB : tB g P σ A s.heap H locs) (hl : lv_has ls 4 [(0, .ref b), (1, .ref (gL g 0)), (2, .ref (gL g 40)), (3, .int (nI n))]) (hc : cells + 161 ≤ 600000) (hs : slots + 322 ≤ 7302250) {Q : State → Prop} (next : ∀ (P : Nat → Nat) (σ2 : Hp) (H : Heap) (locs : List Loc) (ls : Array Slot), Inv σ2 → tB g P σ2 A s.heap H locs → lv_has ls 4 [(0, .ref b), (1, .ref (gL g 0)), (2, .ref (gL g 40)), (3, .int (nI n))] → W p l e room_1 s m #[Value.ref b] below meth c H locs (cells + 161) (slots + 322) Q (F0 m 2235 ls [])) : W p l e room_1 s m #[Value.ref b] below meth c H locs cells slots Q (F0 m 1994 ls []) := by
  obtain ⟨hx, hb, hr, hml, hown, ht, hX, hbl, hlocks, hgv⟩ := id C
  obtain ⟨r, σ1, σ2, h1, h2, hI2⟩ := op_slate σ hI (xs (n + 1))
  refine lv_aload_n hx hb dL_law_1994 rfl (lv_at hl 1 rfl) ?_
  refine S_arg (k := 1) hx hb C.2.2.2.2.2.2.1 C.2.2.2.2.2.2.2.1 hbA hB.2.2 hl (by omega) (by omega) dL_law_1995 dL_law_1996 dL_law_1997 dL_law_1998 dL_law_1999 (by decide) ?_
  refine R_call (rest := []) [.long r] (R_runV (n := 1) (As := [.int (xs (n + 1))]) ⟨hx, hb, hml, hown, ht⟩ (fun _ h9 => h9) hK hZ hA hB (c_X11_slate l g P σ (xs (n + 1)) H.size h1) (R_recv hK hB (by decide) (cell_0 rfl) rfl) tw784 tw781 tw782 tw783 tw1 ⟨by decide, by decide, by decide⟩ rfl rfl ⟨Nat.le_of_ble_eq_true rfl, Nat.le_of_ble_eq_true rfl⟩ rfl hl.1 rfl (Nat.le_of_ble_eq_true rfl) dL_law_2000 ⟨by show cells + 0 ≤ 600000; omega, by show slots + 0 ≤ 7302250; omega⟩) hB hA rfl (fun H locs hB => ?_)
  refine lv_aload_n hx hb dL_law_2003 rfl (lv_at hl 2 rfl) ?_
  refine S_arg (k := 1) hx hb C.2.2.2.2.2.2.1 C.2.2.2.2.2.2.2.1 hbA hB.2.2 hl (by omega) (by omega) dL_law_2004 dL_law_2005 dL_law_2006 dL_law_2007 dL_law_2008 (by decide) ?_
  refine R_call (rest := [.long r]) [.long r, .long r] (R_runV (n := 1) (As := [.int (xs (n + 1))]) ⟨hx, hb, hml, hown, ht⟩ (fun _ h9 => h9) hK hZ hA hB (c_X12_slate l g P σ1 (xs (n + 1)) H.size h2) (R_recv hK hB (by decide) (cell_8 rfl) rfl) tw1298 tw1295 tw1296 tw1297 tw5 ⟨by decide, by decide, by decide⟩ rfl rfl ⟨Nat.le_of_ble_eq_true rfl, Nat.le_of_ble_eq_true rfl⟩ rfl hl.1 rfl (Nat.le_of_ble_eq_true rfl) dL_law_2009 ⟨by show cells + 0 ≤ 600000; omega, by show slots + 0 ≤ 7302250; omega⟩) hB hA rfl (fun H locs hB => ?_)
  refine W.lcmp hx hb dL_law_2012 ?_
  refine lv_if_eq (tgt := 2235) hx hb dL_law_2013 (by decide) (fun _ => ?_) (fun c9 => absurd (lg_cmp_self r) c9)
  refine W.widen (k := cells + 161) (n := slots + 322) (by omega) (by omega) ?_
  exact next P σ2 H locs ls hI2 hB hl
set_option maxHeartbeats 4000000 in
set_option maxRecDepth 100000 in
theorem law_35 {p : Program} {l : Launch} {e : Env} {s : State} {m : MethodId} {below : List Frame} {meth : Method} {c : Code} {b L : Nat} {xs : Nat → Int32} {g : tG} {A : Nat → Prop} (C : LC p s m meth c b L xs) (hK : tK g s) (hZ : tZ g A s s.heap) (hA : ∀ q, s.heap.size ≤ q → A q) (hbA : ¬ A b) {n : Nat} (hn : n + 6 ≤ L) (hL : L ≤ 3072) {σ : Hp} (hI : Inv σ) {P : Nat → Nat} {H : Heap} {locs : List Loc} {ls : Array Slot} {cells slots : Nat} (hB : tB g P σ A s.heap H locs) (hl : lv_has ls 4 [(0, .ref b), (1, .ref (gL g 0)), (2, .ref (gL g 40)), (3, .int (nI n))]) (hc : cells + 161 ≤ 600000) (hs : slots + 322 ≤ 7302250) {Q : State → Prop} (next : ∀ (P : Nat → Nat) (σ2 : Hp) (H : Heap) (locs : List Loc) (ls : Array Slot), Inv σ2 → tB g P σ2 A s.heap H locs → lv_has ls 4 [(0, .ref b), (1, .ref (gL g 0)), (2, .ref (gL g 40)), (3, .int (nI n))] → W p l e room_1 s m #[Value.ref b] below meth c H locs (cells + 161) (slots + 322) Q (F0 m 2235 ls [])) : W p l e room_1 s m #[Value.ref b] below meth c H locs cells slots Q (F0 m 2018 ls []) := by
  obtain ⟨hx, hb, hr, hml, hown, ht, hX, hbl, hlocks, hgv⟩ := id C
  obtain ⟨r, σ1, σ2, h1, h2, hI2⟩ := op_on σ hI (xs (n + 1)) (xs (n + 2))
  refine lv_aload_n hx hb dL_law_2018 rfl (lv_at hl 1 rfl) ?_
  refine S_arg (k := 1) hx hb C.2.2.2.2.2.2.1 C.2.2.2.2.2.2.2.1 hbA hB.2.2 hl (by omega) (by omega) dL_law_2019 dL_law_2020 dL_law_2021 dL_law_2022 dL_law_2023 (by decide) ?_
  refine S_arg (k := 2) hx hb C.2.2.2.2.2.2.1 C.2.2.2.2.2.2.2.1 hbA hB.2.2 hl (by omega) (by omega) dL_law_2024 dL_law_2025 dL_law_2026 dL_law_2027 dL_law_2028 (by decide) ?_
  refine R_call (rest := []) [.int r] (R_runV (n := 2) (As := [.int (xs (n + 1)), .int (xs (n + 2))]) ⟨hx, hb, hml, hown, ht⟩ (fun _ h9 => h9) hK hZ hA hB (c_X11_on l g P σ (xs (n + 1)) (xs (n + 2)) H.size h1) (R_recv hK hB (by decide) (cell_0 rfl) rfl) tw788 tw785 tw786 tw787 tw1 ⟨by decide, by decide, by decide⟩ rfl rfl ⟨Nat.le_of_ble_eq_true rfl, Nat.le_of_ble_eq_true rfl⟩ rfl hl.1 rfl (Nat.le_of_ble_eq_true rfl) dL_law_2029 ⟨by show cells + 0 ≤ 600000; omega, by show slots + 0 ≤ 7302250; omega⟩) hB hA rfl (fun H locs hB => ?_)
  refine lv_aload_n hx hb dL_law_2032 rfl (lv_at hl 2 rfl) ?_
  refine S_arg (k := 1) hx hb C.2.2.2.2.2.2.1 C.2.2.2.2.2.2.2.1 hbA hB.2.2 hl (by omega) (by omega) dL_law_2033 dL_law_2034 dL_law_2035 dL_law_2036 dL_law_2037 (by decide) ?_
  refine S_arg (k := 2) hx hb C.2.2.2.2.2.2.1 C.2.2.2.2.2.2.2.1 hbA hB.2.2 hl (by omega) (by omega) dL_law_2038 dL_law_2039 dL_law_2040 dL_law_2041 dL_law_2042 (by decide) ?_
  refine R_call (rest := [.int r]) [.int r, .int r] (R_runV (n := 2) (As := [.int (xs (n + 1)), .int (xs (n + 2))]) ⟨hx, hb, hml, hown, ht⟩ (fun _ h9 => h9) hK hZ hA hB (c_X12_on l g P σ1 (xs (n + 1)) (xs (n + 2)) H.size h2) (R_recv hK hB (by decide) (cell_8 rfl) rfl) tw1302 tw1299 tw1300 tw1301 tw5 ⟨by decide, by decide, by decide⟩ rfl rfl ⟨Nat.le_of_ble_eq_true rfl, Nat.le_of_ble_eq_true rfl⟩ rfl hl.1 rfl (Nat.le_of_ble_eq_true rfl) dL_law_2043 ⟨by show cells + 0 ≤ 600000; omega, by show slots + 0 ≤ 7302250; omega⟩) hB hA rfl (fun H locs hB => ?_)
  refine lv_icmp_eq (tgt := 2235) hx hb dL_law_2046 (by decide) (fun _ => ?_) (fun c9 => absurd rfl c9)
  refine W.widen (k := cells + 161) (n := slots + 322) (by omega) (by omega) ?_
  exact next P σ2 H locs ls hI2 hB hl
set_option maxHeartbeats 4000000 in
set_option maxRecDepth 100000 in
theorem law_36 {p : Program} {l : Launch} {e : Env} {s : State} {m : MethodId} {below : List Frame} {meth : Method} {c : Code} {b L : Nat} {xs : Nat → Int32} {g : tG} {A : Nat → Prop} (C : LC p s m meth c b L xs) (hK : tK g s) (hZ : tZ g A s s.heap) (hA : ∀ q, s.heap.size ≤ q → A q) (hbA : ¬ A b) {n : Nat} (hn : n + 6 ≤ L) (hL : L ≤ 3072) {σ : Hp} (hI : Inv σ) {P : Nat → Nat} {H : Heap} {locs : List Loc} {ls : Array Slot} {cells slots : Nat} (hB : tB g P σ A s.heap H locs) (hl : lv_has ls 4 [(0, .ref b), (1, .ref (gL g 0)), (2, .ref (gL g 40)), (3, .int (nI n))]) (hc : cells + 161 ≤ 600000) (hs : slots + 322 ≤ 7302250) {Q : State → Prop} (next : ∀ (P : Nat → Nat) (σ2 : Hp) (H : Heap) (locs : List Loc) (ls : Array Slot), Inv σ2 → tB g P σ2 A s.heap H locs → lv_has ls 4 [(0, .ref b), (1, .ref (gL g 0)), (2, .ref (gL g 40)), (3, .int (nI n))] → W p l e room_1 s m #[Value.ref b] below meth c H locs (cells + 161) (slots + 322) Q (F0 m 2235 ls [])) : W p l e room_1 s m #[Value.ref b] below meth c H locs cells slots Q (F0 m 2051 ls []) := by
  obtain ⟨hx, hb, hr, hml, hown, ht, hX, hbl, hlocks, hgv⟩ := id C
  obtain ⟨r, σ1, σ2, h1, h2, hI2⟩ := op_wipe σ hI (xs (n + 1))
  refine lv_aload_n hx hb dL_law_2051 rfl (lv_at hl 1 rfl) ?_
  refine S_arg (k := 1) hx hb C.2.2.2.2.2.2.1 C.2.2.2.2.2.2.2.1 hbA hB.2.2 hl (by omega) (by omega) dL_law_2052 dL_law_2053 dL_law_2054 dL_law_2055 dL_law_2056 (by decide) ?_
  refine R_call (rest := []) [.int r] (R_runV (n := 1) (As := [.int (xs (n + 1))]) ⟨hx, hb, hml, hown, ht⟩ (fun _ h9 => h9) hK hZ hA hB (c_X11_wipe l g P σ (xs (n + 1)) H.size h1) (R_recv hK hB (by decide) (cell_0 rfl) rfl) tw800 tw797 tw798 tw799 tw1 ⟨by decide, by decide, by decide⟩ rfl rfl ⟨Nat.le_of_ble_eq_true rfl, Nat.le_of_ble_eq_true rfl⟩ rfl hl.1 rfl (Nat.le_of_ble_eq_true rfl) dL_law_2057 ⟨by show cells + 0 ≤ 600000; omega, by show slots + 0 ≤ 7302250; omega⟩) hB hA rfl (fun H locs hB => ?_)
  refine lv_aload_n hx hb dL_law_2060 rfl (lv_at hl 2 rfl) ?_
  refine S_arg (k := 1) hx hb C.2.2.2.2.2.2.1 C.2.2.2.2.2.2.2.1 hbA hB.2.2 hl (by omega) (by omega) dL_law_2061 dL_law_2062 dL_law_2063 dL_law_2064 dL_law_2065 (by decide) ?_
  refine R_call (rest := [.int r]) [.int r, .int r] (R_runV (n := 1) (As := [.int (xs (n + 1))]) ⟨hx, hb, hml, hown, ht⟩ (fun _ h9 => h9) hK hZ hA hB (c_X12_wipe l g P σ1 (xs (n + 1)) H.size h2) (R_recv hK hB (by decide) (cell_8 rfl) rfl) tw1306 tw1303 tw1304 tw1305 tw5 ⟨by decide, by decide, by decide⟩ rfl rfl ⟨Nat.le_of_ble_eq_true rfl, Nat.le_of_ble_eq_true rfl⟩ rfl hl.1 rfl (Nat.le_of_ble_eq_true rfl) dL_law_2066 ⟨by show cells + 0 ≤ 600000; omega, by show slots + 0 ≤ 7302250; omega⟩) hB hA rfl (fun H locs hB => ?_)
  refine lv_icmp_eq (tgt := 2235) hx hb dL_law_2069 (by decide) (fun _ => ?_) (fun c9 => absurd rfl c9)
  refine W.widen (k := cells + 161) (n := slots + 322) (by omega) (by omega) ?_
  exact next P σ2 H locs ls hI2 hB hl
set_option maxHeartbeats 4000000 in
set_option maxRecDepth 100000 in
theorem law_37 {p : Program} {l : Launch} {e : Env} {s : State} {m : MethodId} {below : List Frame} {meth : Method} {c : Code} {b L : Nat} {xs : Nat → Int32} {g : tG} {A : Nat → Prop} (C : LC p s m meth c b L xs) (hK : tK g s) (hZ : tZ g A s s.heap) (hA : ∀ q, s.heap.size ≤ q → A q) (hbA : ¬ A b) {n : Nat} (hn : n + 6 ≤ L) (hL : L ≤ 3072) {σ : Hp} (hI : Inv σ) {P : Nat → Nat} {H : Heap} {locs : List Loc} {ls : Array Slot} {cells slots : Nat} (hB : tB g P σ A s.heap H locs) (hl : lv_has ls 4 [(0, .ref b), (1, .ref (gL g 0)), (2, .ref (gL g 40)), (3, .int (nI n))]) (hc : cells + 161 ≤ 600000) (hs : slots + 322 ≤ 7302250) {Q : State → Prop} (next : ∀ (P : Nat → Nat) (σ2 : Hp) (H : Heap) (locs : List Loc) (ls : Array Slot), Inv σ2 → tB g P σ2 A s.heap H locs → lv_has ls 4 [(0, .ref b), (1, .ref (gL g 0)), (2, .ref (gL g 40)), (3, .int (nI n))] → W p l e room_1 s m #[Value.ref b] below meth c H locs (cells + 161) (slots + 322) Q (F0 m 2235 ls [])) : W p l e room_1 s m #[Value.ref b] below meth c H locs cells slots Q (F0 m 2074 ls []) := by
  obtain ⟨hx, hb, hr, hml, hown, ht, hX, hbl, hlocks, hgv⟩ := id C
  obtain ⟨r, σ1, σ2, h1, h2, hI2⟩ := op_lessons σ hI (xs (n + 1))
  refine lv_aload_n hx hb dL_law_2074 rfl (lv_at hl 1 rfl) ?_
  refine S_arg (k := 1) hx hb C.2.2.2.2.2.2.1 C.2.2.2.2.2.2.2.1 hbA hB.2.2 hl (by omega) (by omega) dL_law_2075 dL_law_2076 dL_law_2077 dL_law_2078 dL_law_2079 (by decide) ?_
  refine R_call (rest := []) [.int r] (R_runV (n := 1) (As := [.int (xs (n + 1))]) ⟨hx, hb, hml, hown, ht⟩ (fun _ h9 => h9) hK hZ hA hB (c_X11_lessons l g P σ (xs (n + 1)) H.size h1) (R_recv hK hB (by decide) (cell_0 rfl) rfl) tw807 tw804 tw805 tw806 tw1 ⟨by decide, by decide, by decide⟩ rfl rfl ⟨Nat.le_of_ble_eq_true rfl, Nat.le_of_ble_eq_true rfl⟩ rfl hl.1 rfl (Nat.le_of_ble_eq_true rfl) dL_law_2080 ⟨by show cells + 0 ≤ 600000; omega, by show slots + 0 ≤ 7302250; omega⟩) hB hA rfl (fun H locs hB => ?_)
  refine lv_aload_n hx hb dL_law_2083 rfl (lv_at hl 2 rfl) ?_
  refine S_arg (k := 1) hx hb C.2.2.2.2.2.2.1 C.2.2.2.2.2.2.2.1 hbA hB.2.2 hl (by omega) (by omega) dL_law_2084 dL_law_2085 dL_law_2086 dL_law_2087 dL_law_2088 (by decide) ?_
  refine R_call (rest := [.int r]) [.int r, .int r] (R_runV (n := 1) (As := [.int (xs (n + 1))]) ⟨hx, hb, hml, hown, ht⟩ (fun _ h9 => h9) hK hZ hA hB (c_X12_lessons l g P σ1 (xs (n + 1)) H.size h2) (R_recv hK hB (by decide) (cell_8 rfl) rfl) tw1310 tw1307 tw1308 tw1309 tw5 ⟨by decide, by decide, by decide⟩ rfl rfl ⟨Nat.le_of_ble_eq_true rfl, Nat.le_of_ble_eq_true rfl⟩ rfl hl.1 rfl (Nat.le_of_ble_eq_true rfl) dL_law_2089 ⟨by show cells + 0 ≤ 600000; omega, by show slots + 0 ≤ 7302250; omega⟩) hB hA rfl (fun H locs hB => ?_)
  refine lv_icmp_eq (tgt := 2235) hx hb dL_law_2092 (by decide) (fun _ => ?_) (fun c9 => absurd rfl c9)
  refine W.widen (k := cells + 161) (n := slots + 322) (by omega) (by omega) ?_
  exact next P σ2 H locs ls hI2 hB hl
set_option maxHeartbeats 4000000 in
set_option maxRecDepth 100000 in
theorem law_38 {p : Program} {l : Launch} {e : Env} {s : State} {m : MethodId} {below : List Frame} {meth : Method} {c : Code} {b L : Nat} {xs : Nat → Int32} {g : tG} {A : Nat → Prop} (C : LC p s m meth c b L xs) (hK : tK g s) (hZ : tZ g A s s.heap) (hA : ∀ q, s.heap.size ≤ q → A q) (hbA : ¬ A b) {n : Nat} (hn : n + 6 ≤ L) (hL : L ≤ 3072) {σ : Hp} (hI : Inv σ) {P : Nat → Nat} {H : Heap} {locs : List Loc} {ls : Array Slot} {cells slots : Nat} (hB : tB g P σ A s.heap H locs) (hl : lv_has ls 4 [(0, .ref b), (1, .ref (gL g 0)), (2, .ref (gL g 40)), (3, .int (nI n))]) (hc : cells + 161 ≤ 600000) (hs : slots + 322 ≤ 7302250) {Q : State → Prop} (next : ∀ (P : Nat → Nat) (σ2 : Hp) (H : Heap) (locs : List Loc) (ls : Array Slot), Inv σ2 → tB g P σ2 A s.heap H locs → lv_has ls 4 [(0, .ref b), (1, .ref (gL g 0)), (2, .ref (gL g 40)), (3, .int (nI n))] → W p l e room_1 s m #[Value.ref b] below meth c H locs (cells + 161) (slots + 322) Q (F0 m 2235 ls [])) : W p l e room_1 s m #[Value.ref b] below meth c H locs cells slots Q (F0 m 2097 ls []) := by
  obtain ⟨hx, hb, hr, hml, hown, ht, hX, hbl, hlocks, hgv⟩ := id C
  obtain ⟨r, σ1, σ2, h1, h2, hI2⟩ := op_seed σ hI (xs (n + 1))
  refine lv_aload_n hx hb dL_law_2097 rfl (lv_at hl 1 rfl) ?_
  refine S_arg (k := 1) hx hb C.2.2.2.2.2.2.1 C.2.2.2.2.2.2.2.1 hbA hB.2.2 hl (by omega) (by omega) dL_law_2098 dL_law_2099 dL_law_2100 dL_law_2101 dL_law_2102 (by decide) ?_
  refine R_call (rest := []) [.int r] (R_runV (n := 1) (As := [.int (xs (n + 1))]) ⟨hx, hb, hml, hown, ht⟩ (fun _ h9 => h9) hK hZ hA hB (c_X11_seed l g P σ (xs (n + 1)) H.size h1) (R_recv hK hB (by decide) (cell_0 rfl) rfl) tw821 tw818 tw819 tw820 tw1 ⟨by decide, by decide, by decide⟩ rfl rfl ⟨Nat.le_of_ble_eq_true rfl, Nat.le_of_ble_eq_true rfl⟩ rfl hl.1 rfl (Nat.le_of_ble_eq_true rfl) dL_law_2103 ⟨by show cells + 0 ≤ 600000; omega, by show slots + 0 ≤ 7302250; omega⟩) hB hA rfl (fun H locs hB => ?_)
  refine lv_aload_n hx hb dL_law_2106 rfl (lv_at hl 2 rfl) ?_
  refine S_arg (k := 1) hx hb C.2.2.2.2.2.2.1 C.2.2.2.2.2.2.2.1 hbA hB.2.2 hl (by omega) (by omega) dL_law_2107 dL_law_2108 dL_law_2109 dL_law_2110 dL_law_2111 (by decide) ?_
  refine R_call (rest := [.int r]) [.int r, .int r] (R_runV (n := 1) (As := [.int (xs (n + 1))]) ⟨hx, hb, hml, hown, ht⟩ (fun _ h9 => h9) hK hZ hA hB (c_X12_seed l g P σ1 (xs (n + 1)) H.size h2) (R_recv hK hB (by decide) (cell_8 rfl) rfl) tw1319 tw1316 tw1317 tw1318 tw5 ⟨by decide, by decide, by decide⟩ rfl rfl ⟨Nat.le_of_ble_eq_true rfl, Nat.le_of_ble_eq_true rfl⟩ rfl hl.1 rfl (Nat.le_of_ble_eq_true rfl) dL_law_2112 ⟨by show cells + 0 ≤ 600000; omega, by show slots + 0 ≤ 7302250; omega⟩) hB hA rfl (fun H locs hB => ?_)
  refine lv_icmp_eq (tgt := 2235) hx hb dL_law_2115 (by decide) (fun _ => ?_) (fun c9 => absurd rfl c9)
  refine W.widen (k := cells + 161) (n := slots + 322) (by omega) (by omega) ?_
  exact next P σ2 H locs ls hI2 hB hl
set_option maxHeartbeats 4000000 in
set_option maxRecDepth 100000 in
theorem law_39 {p : Program} {l : Launch} {e : Env} {s : State} {m : MethodId} {below : List Frame} {meth : Method} {c : Code} {b L : Nat} {xs : Nat → Int32} {g : tG} {A : Nat → Prop} (C : LC p s m meth c b L xs) (hK : tK g s) (hZ : tZ g A s s.heap) (hA : ∀ q, s.heap.size ≤ q → A q) (hbA : ¬ A b) {n : Nat} (hn : n + 6 ≤ L) (hL : L ≤ 3072) {σ : Hp} (hI : Inv σ) {P : Nat → Nat} {H : Heap} {locs : List Loc} {ls : Array Slot} {cells slots : Nat} (hB : tB g P σ A s.heap H locs) (hl : lv_has ls 4 [(0, .ref b), (1, .ref (gL g 0)), (2, .ref (gL g 40)), (3, .int (nI n))]) (hc : cells + 161 ≤ 600000) (hs : slots + 322 ≤ 7302250) {Q : State → Prop} (next : ∀ (P : Nat → Nat) (σ2 : Hp) (H : Heap) (locs : List Loc) (ls : Array Slot), Inv σ2 → tB g P σ2 A s.heap H locs → lv_has ls 4 [(0, .ref b), (1, .ref (gL g 0)), (2, .ref (gL g 40)), (3, .int (nI n))] → W p l e room_1 s m #[Value.ref b] below meth c H locs (cells + 161) (slots + 322) Q (F0 m 2235 ls [])) : W p l e room_1 s m #[Value.ref b] below meth c H locs cells slots Q (F0 m 2120 ls []) := by
  obtain ⟨hx, hb, hr, hml, hown, ht, hX, hbl, hlocks, hgv⟩ := id C
  obtain ⟨r, σ1, σ2, h1, h2, hI2⟩ := op_act σ hI (xs (n + 1)) (xs (n + 2)) (xs (n + 3))
  refine lv_aload_n hx hb dL_law_2120 rfl (lv_at hl 1 rfl) ?_
  refine S_arg (k := 1) hx hb C.2.2.2.2.2.2.1 C.2.2.2.2.2.2.2.1 hbA hB.2.2 hl (by omega) (by omega) dL_law_2121 dL_law_2122 dL_law_2123 dL_law_2124 dL_law_2125 (by decide) ?_
  refine S_arg (k := 2) hx hb C.2.2.2.2.2.2.1 C.2.2.2.2.2.2.2.1 hbA hB.2.2 hl (by omega) (by omega) dL_law_2126 dL_law_2127 dL_law_2128 dL_law_2129 dL_law_2130 (by decide) ?_
  refine S_arg (k := 3) hx hb C.2.2.2.2.2.2.1 C.2.2.2.2.2.2.2.1 hbA hB.2.2 hl (by omega) (by omega) dL_law_2131 dL_law_2132 dL_law_2133 dL_law_2134 dL_law_2135 (by decide) ?_
  refine R_call (rest := []) [.int r] (R_runV (n := 3) (As := [.int (xs (n + 1)), .int (xs (n + 2)), .int (xs (n + 3))]) ⟨hx, hb, hml, hown, ht⟩ (fun _ h9 => h9) hK hZ hA hB (c_X11_act l g P σ (xs (n + 1)) (xs (n + 2)) (xs (n + 3)) H.size h1) (R_recv hK hB (by decide) (cell_0 rfl) rfl) tw825 tw822 tw823 tw824 tw1 ⟨by decide, by decide, by decide⟩ rfl rfl ⟨Nat.le_of_ble_eq_true rfl, Nat.le_of_ble_eq_true rfl⟩ rfl hl.1 rfl (Nat.le_of_ble_eq_true rfl) dL_law_2136 ⟨by show cells + 0 ≤ 600000; omega, by show slots + 0 ≤ 7302250; omega⟩) hB hA rfl (fun H locs hB => ?_)
  refine lv_aload_n hx hb dL_law_2139 rfl (lv_at hl 2 rfl) ?_
  refine S_arg (k := 1) hx hb C.2.2.2.2.2.2.1 C.2.2.2.2.2.2.2.1 hbA hB.2.2 hl (by omega) (by omega) dL_law_2140 dL_law_2141 dL_law_2142 dL_law_2143 dL_law_2144 (by decide) ?_
  refine S_arg (k := 2) hx hb C.2.2.2.2.2.2.1 C.2.2.2.2.2.2.2.1 hbA hB.2.2 hl (by omega) (by omega) dL_law_2145 dL_law_2146 dL_law_2147 dL_law_2148 dL_law_2149 (by decide) ?_
  refine S_arg (k := 3) hx hb C.2.2.2.2.2.2.1 C.2.2.2.2.2.2.2.1 hbA hB.2.2 hl (by omega) (by omega) dL_law_2150 dL_law_2151 dL_law_2152 dL_law_2153 dL_law_2154 (by decide) ?_
  refine R_call (rest := [.int r]) [.int r, .int r] (R_runV (n := 3) (As := [.int (xs (n + 1)), .int (xs (n + 2)), .int (xs (n + 3))]) ⟨hx, hb, hml, hown, ht⟩ (fun _ h9 => h9) hK hZ hA hB (c_X12_act l g P σ1 (xs (n + 1)) (xs (n + 2)) (xs (n + 3)) H.size h2) (R_recv hK hB (by decide) (cell_8 rfl) rfl) tw1323 tw1320 tw1321 tw1322 tw5 ⟨by decide, by decide, by decide⟩ rfl rfl ⟨Nat.le_of_ble_eq_true rfl, Nat.le_of_ble_eq_true rfl⟩ rfl hl.1 rfl (Nat.le_of_ble_eq_true rfl) dL_law_2155 ⟨by show cells + 0 ≤ 600000; omega, by show slots + 0 ≤ 7302250; omega⟩) hB hA rfl (fun H locs hB => ?_)
  refine lv_icmp_eq (tgt := 2235) hx hb dL_law_2158 (by decide) (fun _ => ?_) (fun c9 => absurd rfl c9)
  refine W.widen (k := cells + 161) (n := slots + 322) (by omega) (by omega) ?_
  exact next P σ2 H locs ls hI2 hB hl
set_option maxHeartbeats 4000000 in
set_option maxRecDepth 100000 in
theorem law_40 {p : Program} {l : Launch} {e : Env} {s : State} {m : MethodId} {below : List Frame} {meth : Method} {c : Code} {b L : Nat} {xs : Nat → Int32} {g : tG} {A : Nat → Prop} (C : LC p s m meth c b L xs) (hK : tK g s) (hZ : tZ g A s s.heap) (hA : ∀ q, s.heap.size ≤ q → A q) (hbA : ¬ A b) {n : Nat} (hn : n + 6 ≤ L) (hL : L ≤ 3072) {σ : Hp} (hI : Inv σ) {P : Nat → Nat} {H : Heap} {locs : List Loc} {ls : Array Slot} {cells slots : Nat} (hB : tB g P σ A s.heap H locs) (hl : lv_has ls 4 [(0, .ref b), (1, .ref (gL g 0)), (2, .ref (gL g 40)), (3, .int (nI n))]) (hc : cells + 161 ≤ 600000) (hs : slots + 322 ≤ 7302250) {Q : State → Prop} (next : ∀ (P : Nat → Nat) (σ2 : Hp) (H : Heap) (locs : List Loc) (ls : Array Slot), Inv σ2 → tB g P σ2 A s.heap H locs → lv_has ls 4 [(0, .ref b), (1, .ref (gL g 0)), (2, .ref (gL g 40)), (3, .int (nI n))] → W p l e room_1 s m #[Value.ref b] below meth c H locs (cells + 161) (slots + 322) Q (F0 m 2235 ls [])) : W p l e room_1 s m #[Value.ref b] below meth c H locs cells slots Q (F0 m 2163 ls []) := by
  obtain ⟨hx, hb, hr, hml, hown, ht, hX, hbl, hlocks, hgv⟩ := id C
  obtain ⟨r, σ1, σ2, h1, h2, hI2⟩ := op_trace σ hI (xs (n + 1))
  refine lv_aload_n hx hb dL_law_2163 rfl (lv_at hl 1 rfl) ?_
  refine S_arg (k := 1) hx hb C.2.2.2.2.2.2.1 C.2.2.2.2.2.2.2.1 hbA hB.2.2 hl (by omega) (by omega) dL_law_2164 dL_law_2165 dL_law_2166 dL_law_2167 dL_law_2168 (by decide) ?_
  refine R_call (rest := []) [.int r] (R_runV (n := 1) (As := [.int (xs (n + 1))]) ⟨hx, hb, hml, hown, ht⟩ (fun _ h9 => h9) hK hZ hA hB (c_X11_trace l g P σ (xs (n + 1)) H.size h1) (R_recv hK hB (by decide) (cell_0 rfl) rfl) tw897 tw894 tw895 tw896 tw1 ⟨by decide, by decide, by decide⟩ rfl rfl ⟨Nat.le_of_ble_eq_true rfl, Nat.le_of_ble_eq_true rfl⟩ rfl hl.1 rfl (Nat.le_of_ble_eq_true rfl) dL_law_2169 ⟨by show cells + 0 ≤ 600000; omega, by show slots + 0 ≤ 7302250; omega⟩) hB hA rfl (fun H locs hB => ?_)
  refine lv_aload_n hx hb dL_law_2172 rfl (lv_at hl 2 rfl) ?_
  refine S_arg (k := 1) hx hb C.2.2.2.2.2.2.1 C.2.2.2.2.2.2.2.1 hbA hB.2.2 hl (by omega) (by omega) dL_law_2173 dL_law_2174 dL_law_2175 dL_law_2176 dL_law_2177 (by decide) ?_
  refine R_call (rest := [.int r]) [.int r, .int r] (R_runV (n := 1) (As := [.int (xs (n + 1))]) ⟨hx, hb, hml, hown, ht⟩ (fun _ h9 => h9) hK hZ hA hB (c_X12_trace l g P σ1 (xs (n + 1)) H.size h2) (R_recv hK hB (by decide) (cell_8 rfl) rfl) tw1343 tw1340 tw1341 tw1342 tw5 ⟨by decide, by decide, by decide⟩ rfl rfl ⟨Nat.le_of_ble_eq_true rfl, Nat.le_of_ble_eq_true rfl⟩ rfl hl.1 rfl (Nat.le_of_ble_eq_true rfl) dL_law_2178 ⟨by show cells + 0 ≤ 600000; omega, by show slots + 0 ≤ 7302250; omega⟩) hB hA rfl (fun H locs hB => ?_)
  refine lv_icmp_eq (tgt := 2235) hx hb dL_law_2181 (by decide) (fun _ => ?_) (fun c9 => absurd rfl c9)
  refine W.widen (k := cells + 161) (n := slots + 322) (by omega) (by omega) ?_
  exact next P σ2 H locs ls hI2 hB hl
set_option maxHeartbeats 4000000 in
set_option maxRecDepth 100000 in
theorem law_41 {p : Program} {l : Launch} {e : Env} {s : State} {m : MethodId} {below : List Frame} {meth : Method} {c : Code} {b L : Nat} {xs : Nat → Int32} {g : tG} {A : Nat → Prop} (C : LC p s m meth c b L xs) (hK : tK g s) (hZ : tZ g A s s.heap) (hA : ∀ q, s.heap.size ≤ q → A q) (hbA : ¬ A b) {n : Nat} (hn : n + 6 ≤ L) (hL : L ≤ 3072) {σ : Hp} (hI : Inv σ) {P : Nat → Nat} {H : Heap} {locs : List Loc} {ls : Array Slot} {cells slots : Nat} (hB : tB g P σ A s.heap H locs) (hl : lv_has ls 4 [(0, .ref b), (1, .ref (gL g 0)), (2, .ref (gL g 40)), (3, .int (nI n))]) (hc : cells + 161 ≤ 600000) (hs : slots + 322 ≤ 7302250) {Q : State → Prop} (next : ∀ (P : Nat → Nat) (σ2 : Hp) (H : Heap) (locs : List Loc) (ls : Array Slot), Inv σ2 → tB g P σ2 A s.heap H locs → lv_has ls 4 [(0, .ref b), (1, .ref (gL g 0)), (2, .ref (gL g 40)), (3, .int (nI n))] → W p l e room_1 s m #[Value.ref b] below meth c H locs (cells + 161) (slots + 322) Q (F0 m 2235 ls [])) : W p l e room_1 s m #[Value.ref b] below meth c H locs cells slots Q (F0 m 2186 ls []) := by
  obtain ⟨hx, hb, hr, hml, hown, ht, hX, hbl, hlocks, hgv⟩ := id C
  obtain ⟨r, σ1, σ2, h1, h2, hI2⟩ := op_image σ hI
  refine lv_aload_n hx hb dL_law_2186 rfl (lv_at hl 1 rfl) ?_
  refine R_call (rest := []) [.int r] (R_runV (n := 0) (As := []) ⟨hx, hb, hml, hown, ht⟩ (fun _ h9 => h9) hK hZ hA hB (c_X11_image l g P σ H.size h1) (R_recv hK hB (by decide) (cell_0 rfl) rfl) tw901 tw898 tw899 tw900 tw1 ⟨by decide, by decide, by decide⟩ rfl rfl ⟨Nat.le_of_ble_eq_true rfl, Nat.le_of_ble_eq_true rfl⟩ rfl hl.1 rfl (Nat.le_of_ble_eq_true rfl) dL_law_2187 ⟨by show cells + 0 ≤ 600000; omega, by show slots + 0 ≤ 7302250; omega⟩) hB hA rfl (fun H locs hB => ?_)
  refine lv_aload_n hx hb dL_law_2190 rfl (lv_at hl 2 rfl) ?_
  refine R_call (rest := [.int r]) [.int r, .int r] (R_runV (n := 0) (As := []) ⟨hx, hb, hml, hown, ht⟩ (fun _ h9 => h9) hK hZ hA hB (c_X12_image l g P σ1 H.size h2) (R_recv hK hB (by decide) (cell_8 rfl) rfl) tw1347 tw1344 tw1345 tw1346 tw5 ⟨by decide, by decide, by decide⟩ rfl rfl ⟨Nat.le_of_ble_eq_true rfl, Nat.le_of_ble_eq_true rfl⟩ rfl hl.1 rfl (Nat.le_of_ble_eq_true rfl) dL_law_2191 ⟨by show cells + 0 ≤ 600000; omega, by show slots + 0 ≤ 7302250; omega⟩) hB hA rfl (fun H locs hB => ?_)
  refine lv_icmp_eq (tgt := 2235) hx hb dL_law_2194 (by decide) (fun _ => ?_) (fun c9 => absurd rfl c9)
  refine W.widen (k := cells + 161) (n := slots + 322) (by omega) (by omega) ?_
  exact next P σ2 H locs ls hI2 hB hl
set_option maxHeartbeats 4000000 in
set_option maxRecDepth 100000 in
theorem law_42 {p : Program} {l : Launch} {e : Env} {s : State} {m : MethodId} {below : List Frame} {meth : Method} {c : Code} {b L : Nat} {xs : Nat → Int32} {g : tG} {A : Nat → Prop} (C : LC p s m meth c b L xs) (hK : tK g s) (hZ : tZ g A s s.heap) (hA : ∀ q, s.heap.size ≤ q → A q) (hbA : ¬ A b) {n : Nat} (hn : n + 6 ≤ L) (hL : L ≤ 3072) {σ : Hp} (hI : Inv σ) {P : Nat → Nat} {H : Heap} {locs : List Loc} {ls : Array Slot} {cells slots : Nat} (hB : tB g P σ A s.heap H locs) (hl : lv_has ls 4 [(0, .ref b), (1, .ref (gL g 0)), (2, .ref (gL g 40)), (3, .int (nI n))]) (hc : cells + 161 ≤ 600000) (hs : slots + 322 ≤ 7302250) {Q : State → Prop} (next : ∀ (P : Nat → Nat) (σ2 : Hp) (H : Heap) (locs : List Loc) (ls : Array Slot), Inv σ2 → tB g P σ2 A s.heap H locs → lv_has ls 4 [(0, .ref b), (1, .ref (gL g 0)), (2, .ref (gL g 40)), (3, .int (nI n))] → W p l e room_1 s m #[Value.ref b] below meth c H locs (cells + 161) (slots + 322) Q (F0 m 2235 ls [])) : W p l e room_1 s m #[Value.ref b] below meth c H locs cells slots Q (F0 m 2199 ls []) := by
  obtain ⟨hx, hb, hr, hml, hown, ht, hX, hbl, hlocks, hgv⟩ := id C
  obtain ⟨r, σ1, σ2, h1, h2, hI2⟩ := op_restore σ hI
  refine lv_aload_n hx hb dL_law_2199 rfl (lv_at hl 1 rfl) ?_
  refine R_call (rest := []) [.int r] (R_runV (n := 0) (As := []) ⟨hx, hb, hml, hown, ht⟩ (fun _ h9 => h9) hK hZ hA hB (c_X11_restore l g P σ H.size h1) (R_recv hK hB (by decide) (cell_0 rfl) rfl) tw905 tw902 tw903 tw904 tw1 ⟨by decide, by decide, by decide⟩ rfl rfl ⟨Nat.le_of_ble_eq_true rfl, Nat.le_of_ble_eq_true rfl⟩ rfl hl.1 rfl (Nat.le_of_ble_eq_true rfl) dL_law_2200 ⟨by show cells + 0 ≤ 600000; omega, by show slots + 0 ≤ 7302250; omega⟩) hB hA rfl (fun H locs hB => ?_)
  refine lv_aload_n hx hb dL_law_2203 rfl (lv_at hl 2 rfl) ?_
  refine R_call (rest := [.int r]) [.int r, .int r] (R_runV (n := 0) (As := []) ⟨hx, hb, hml, hown, ht⟩ (fun _ h9 => h9) hK hZ hA hB (c_X12_restore l g P σ1 H.size h2) (R_recv hK hB (by decide) (cell_8 rfl) rfl) tw1351 tw1348 tw1349 tw1350 tw5 ⟨by decide, by decide, by decide⟩ rfl rfl ⟨Nat.le_of_ble_eq_true rfl, Nat.le_of_ble_eq_true rfl⟩ rfl hl.1 rfl (Nat.le_of_ble_eq_true rfl) dL_law_2204 ⟨by show cells + 0 ≤ 600000; omega, by show slots + 0 ≤ 7302250; omega⟩) hB hA rfl (fun H locs hB => ?_)
  refine lv_icmp_eq (tgt := 2235) hx hb dL_law_2207 (by decide) (fun _ => ?_) (fun c9 => absurd rfl c9)
  refine W.widen (k := cells + 161) (n := slots + 322) (by omega) (by omega) ?_
  exact next P σ2 H locs ls hI2 hB hl
set_option maxHeartbeats 4000000 in
set_option maxRecDepth 100000 in
theorem law_43 {p : Program} {l : Launch} {e : Env} {s : State} {m : MethodId} {below : List Frame} {meth : Method} {c : Code} {b L : Nat} {xs : Nat → Int32} {g : tG} {A : Nat → Prop} (C : LC p s m meth c b L xs) (hK : tK g s) (hZ : tZ g A s s.heap) (hA : ∀ q, s.heap.size ≤ q → A q) (hbA : ¬ A b) {n : Nat} (hn : n + 6 ≤ L) (hL : L ≤ 3072) {σ : Hp} (hI : Inv σ) {P : Nat → Nat} {H : Heap} {locs : List Loc} {ls : Array Slot} {cells slots : Nat} (hB : tB g P σ A s.heap H locs) (hl : lv_has ls 4 [(0, .ref b), (1, .ref (gL g 0)), (2, .ref (gL g 40)), (3, .int (nI n))]) (hc : cells + 161 ≤ 600000) (hs : slots + 322 ≤ 7302250) {Q : State → Prop} (next : ∀ (P : Nat → Nat) (σ2 : Hp) (H : Heap) (locs : List Loc) (ls : Array Slot), Inv σ2 → tB g P σ2 A s.heap H locs → lv_has ls 4 [(0, .ref b), (1, .ref (gL g 0)), (2, .ref (gL g 40)), (3, .int (nI n))] → W p l e room_1 s m #[Value.ref b] below meth c H locs (cells + 161) (slots + 322) Q (F0 m 2235 ls [])) : W p l e room_1 s m #[Value.ref b] below meth c H locs cells slots Q (F0 m 2212 ls []) := by
  obtain ⟨hx, hb, hr, hml, hown, ht, hX, hbl, hlocks, hgv⟩ := id C
  obtain ⟨r, σ1, σ2, h1, h2, hI2⟩ := op_status σ hI (xs (n + 1))
  refine lv_aload_n hx hb dL_law_2212 rfl (lv_at hl 1 rfl) ?_
  refine S_arg (k := 1) hx hb C.2.2.2.2.2.2.1 C.2.2.2.2.2.2.2.1 hbA hB.2.2 hl (by omega) (by omega) dL_law_2213 dL_law_2214 dL_law_2215 dL_law_2216 dL_law_2217 (by decide) ?_
  refine R_call (rest := []) [.int r] (R_runV (n := 1) (As := [.int (xs (n + 1))]) ⟨hx, hb, hml, hown, ht⟩ (fun _ h9 => h9) hK hZ hA hB (c_X11_status l g P σ (xs (n + 1)) H.size h1) (R_recv hK hB (by decide) (cell_0 rfl) rfl) tw909 tw906 tw907 tw908 tw1 ⟨by decide, by decide, by decide⟩ rfl rfl ⟨Nat.le_of_ble_eq_true rfl, Nat.le_of_ble_eq_true rfl⟩ rfl hl.1 rfl (Nat.le_of_ble_eq_true rfl) dL_law_2218 ⟨by show cells + 0 ≤ 600000; omega, by show slots + 0 ≤ 7302250; omega⟩) hB hA rfl (fun H locs hB => ?_)
  refine lv_aload_n hx hb dL_law_2221 rfl (lv_at hl 2 rfl) ?_
  refine S_arg (k := 1) hx hb C.2.2.2.2.2.2.1 C.2.2.2.2.2.2.2.1 hbA hB.2.2 hl (by omega) (by omega) dL_law_2222 dL_law_2223 dL_law_2224 dL_law_2225 dL_law_2226 (by decide) ?_
  refine R_call (rest := [.int r]) [.int r, .int r] (R_runV (n := 1) (As := [.int (xs (n + 1))]) ⟨hx, hb, hml, hown, ht⟩ (fun _ h9 => h9) hK hZ hA hB (c_X12_status l g P σ1 (xs (n + 1)) H.size h2) (R_recv hK hB (by decide) (cell_8 rfl) rfl) tw1355 tw1352 tw1353 tw1354 tw5 ⟨by decide, by decide, by decide⟩ rfl rfl ⟨Nat.le_of_ble_eq_true rfl, Nat.le_of_ble_eq_true rfl⟩ rfl hl.1 rfl (Nat.le_of_ble_eq_true rfl) dL_law_2227 ⟨by show cells + 0 ≤ 600000; omega, by show slots + 0 ≤ 7302250; omega⟩) hB hA rfl (fun H locs hB => ?_)
  refine lv_icmp_eq (tgt := 2235) hx hb dL_law_2230 (by decide) (fun _ => ?_) (fun c9 => absurd rfl c9)
  refine W.widen (k := cells + 161) (n := slots + 322) (by omega) (by omega) ?_
  exact next P σ2 H locs ls hI2 hB hl
