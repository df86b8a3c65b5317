def f_X2_init (j0 : Nat) (a1 : Int32) (a2 : Int32) (σ : Hp) : Option (Unit × Hp) := ck (isLaw σ j0 = true) (ck (isLaw (sI σ (100 + j0) 0 a1) j0 = true) (some ((), (sI (sI σ (100 + j0) 0 a1) (100 + j0) 1 a2))))
set_option maxHeartbeats 4000000 in
set_option maxRecDepth 100000 in
theorem c_X2_init (l : Launch) (g : tG) (P : Nat → Nat) (σ : Hp) (j0 : Nat) (a1 : Int32) (a2 : Int32) (sz : Nat) {r : Unit} {τ : Hp} (h : f_X2_init j0 a1 a2 σ = some (r, τ)) : Met l yX2_init (Cond.code yX2_init cX2_init 3 none :: tblG) ({ frames := 1, cells := 0, slots := 0, locals := 20 }) (va_Pc [.ref (P j0), .int a1, .int a2] (tPre g P σ sz)) (tQ none (tPost g P τ (va_A (wC g P σ) sz)) (va_A (wC g P σ) sz)) 0 0 (va_A (wC g P σ) sz) := by
  refine T_start (B := fun A => tPost g P τ A) (by decide) (Nat.le_of_ble_eq_true rfl) ?_
  intro p e s m args below meth c ls0 A hx hb hml hr hown hlocks ht hnm hK hZ hA hB0 hl0
  suffices hmain : ∀ (H : Heap) (locs : List Loc) (ls : Array Slot), tB g P σ A s.heap H locs → lv_has ls 3 [(0, .ref (P j0)), (1, .int a1), (2, .int a2)] → WQ p l e { frames := 1, cells := 0, slots := 0, locals := 20 } s m args below meth c g P A none τ H locs (F0 m 0 ls []) from hmain _ _ ls0 hB0 hl0
  intro H locs ls hB hl
  unfold f_X2_init at h
  refine lv_aload_n hx hb dX2_init_0 rfl (lv_at hl 0 rfl) ?_
  refine W.objInit hx hb hown (ht _ tw376) (ht _ tw27) (ht _ tw28) rfl (by rw [hml]; exact hl.1) rfl dX2_init_1 (Nat.le_of_ble_eq_true rfl) (Nat.le_of_ble_eq_true rfl) ?_
  refine W.eq (g2 := F0 m 4 ls []) rfl ?_
  refine lv_aload_n hx hb dX2_init_4 rfl (lv_at hl 0 rfl) ?_
  refine lv_iload_n hx hb dX2_init_5 rfl (lv_at hl 1 rfl) ?_
  replace h := ck_eq h; obtain ⟨q_1, h⟩ := h
  refine R_putFP0 hx hb ht hown hK hB q_1 (ht _ tw377) hnm dX2_init_6 (fun H locs hB => ?_)
  refine lv_aload_n hx hb dX2_init_9 rfl (lv_at hl 0 rfl) ?_
  refine lv_iload_n hx hb dX2_init_10 rfl (lv_at hl 2 rfl) ?_
  replace h := ck_eq h; obtain ⟨q_2, h⟩ := h
  refine R_putFP1 hx hb ht hown hK hB q_2 (ht _ tw383) hnm dX2_init_11 (fun H locs hB => ?_)
  obtain ⟨rfl, rfl⟩ := Prod.mk.inj (Option.some.inj h)
  exact W.vret hx hb hr (R_end hB) hB.2.2.2.2 dX2_init_14
def f_X6_init (j0 : Nat) (a1 : Int32) (a2 : Int32) (σ : Hp) : Option (Unit × Hp) := b2 (f_X2_init j0 a1 a2 σ) (fun r_1 s_2 => some ((), s_2))
set_option maxHeartbeats 4000000 in
set_option maxRecDepth 100000 in
theorem c_X6_init (l : Launch) (g : tG) (P : Nat → Nat) (σ : Hp) (j0 : Nat) (a1 : Int32) (a2 : Int32) (sz : Nat) {r : Unit} {τ : Hp} (h : f_X6_init j0 a1 a2 σ = some (r, τ)) : Met l yX6_init (Cond.code yX6_init cX6_init 3 none :: tblG) ({ frames := 2, cells := 0, slots := 0, locals := 42 }) (va_Pc [.ref (P j0), .int a1, .int a2] (tPre g P σ sz)) (tQ none (tPost g P τ (va_A (wC g P σ) sz)) (va_A (wC g P σ) sz)) 0 0 (va_A (wC g P σ) sz) := by
  refine T_start (B := fun A => tPost g P τ A) (by decide) (Nat.le_of_ble_eq_true rfl) ?_
  intro p e s m args below meth c ls0 A hx hb hml hr hown hlocks ht hnm hK hZ hA hB0 hl0
  suffices hmain : ∀ (H : Heap) (locs : List Loc) (ls : Array Slot), tB g P σ A s.heap H locs → lv_has ls 3 [(0, .ref (P j0)), (1, .int a1), (2, .int a2)] → WQ p l e { frames := 2, cells := 0, slots := 0, locals := 42 } s m args below meth c g P A none τ H locs (F0 m 0 ls []) from hmain _ _ ls0 hB0 hl0
  intro H locs ls hB hl
  unfold f_X6_init at h
  refine lv_aload_n hx hb dX6_init_0 rfl (lv_at hl 0 rfl) ?_
  refine lv_iload_n hx hb dX6_init_1 rfl (lv_at hl 1 rfl) ?_
  refine lv_iload_n hx hb dX6_init_2 rfl (lv_at hl 2 rfl) ?_
  replace h := b2_eq h; obtain ⟨r_1, s_2, hc_3, h⟩ := h
  refine R_call (rest := []) [] (R_runI (n := 2) (As := [.int a1, .int a2]) ⟨hx, hb, hml, hown, ht⟩ (fun _ h9 => h9) hK hZ hA hB (c_X2_init l g P σ j0 a1 a2 H.size hc_3) tw375 tw400 tw374 tw10 rfl ⟨by decide, by decide, by decide⟩ rfl rfl ⟨Nat.le_of_ble_eq_true rfl, Nat.le_of_ble_eq_true rfl⟩ rfl hl.1 rfl (Nat.le_of_ble_eq_true rfl) dX6_init_3 ⟨Nat.zero_le _, Nat.zero_le _⟩) hB hA rfl (fun H locs hB => ?_)
  obtain ⟨rfl, rfl⟩ := Prod.mk.inj (Option.some.inj h)
  exact W.vret hx hb hr (R_end hB) hB.2.2.2.2 dX6_init_6
def f_X8_init (j0 : Nat) (a1 : Int32) (a2 : Int32) (σ : Hp) : Option (Unit × Hp) := b2 (f_X2_init j0 a1 a2 σ) (fun r_1 s_2 => some ((), s_2))
set_option maxHeartbeats 4000000 in
set_option maxRecDepth 100000 in
theorem c_X8_init (l : Launch) (g : tG) (P : Nat → Nat) (σ : Hp) (j0 : Nat) (a1 : Int32) (a2 : Int32) (sz : Nat) {r : Unit} {τ : Hp} (h : f_X8_init j0 a1 a2 σ = some (r, τ)) : Met l yX8_init (Cond.code yX8_init cX8_init 3 none :: tblG) ({ frames := 2, cells := 0, slots := 0, locals := 42 }) (va_Pc [.ref (P j0), .int a1, .int a2] (tPre g P σ sz)) (tQ none (tPost g P τ (va_A (wC g P σ) sz)) (va_A (wC g P σ) sz)) 0 0 (va_A (wC g P σ) sz) := by
  refine T_start (B := fun A => tPost g P τ A) (by decide) (Nat.le_of_ble_eq_true rfl) ?_
  intro p e s m args below meth c ls0 A hx hb hml hr hown hlocks ht hnm hK hZ hA hB0 hl0
  suffices hmain : ∀ (H : Heap) (locs : List Loc) (ls : Array Slot), tB g P σ A s.heap H locs → lv_has ls 3 [(0, .ref (P j0)), (1, .int a1), (2, .int a2)] → WQ p l e { frames := 2, cells := 0, slots := 0, locals := 42 } s m args below meth c g P A none τ H locs (F0 m 0 ls []) from hmain _ _ ls0 hB0 hl0
  intro H locs ls hB hl
  unfold f_X8_init at h
  refine lv_aload_n hx hb dX8_init_0 rfl (lv_at hl 0 rfl) ?_
  refine lv_iload_n hx hb dX8_init_1 rfl (lv_at hl 1 rfl) ?_
  refine lv_iload_n hx hb dX8_init_2 rfl (lv_at hl 2 rfl) ?_
  replace h := b2_eq h; obtain ⟨r_1, s_2, hc_3, h⟩ := h
  refine R_call (rest := []) [] (R_runI (n := 2) (As := [.int a1, .int a2]) ⟨hx, hb, hml, hown, ht⟩ (fun _ h9 => h9) hK hZ hA hB (c_X2_init l g P σ j0 a1 a2 H.size hc_3) tw375 tw373 tw374 tw10 rfl ⟨by decide, by decide, by decide⟩ rfl rfl ⟨Nat.le_of_ble_eq_true rfl, Nat.le_of_ble_eq_true rfl⟩ rfl hl.1 rfl (Nat.le_of_ble_eq_true rfl) dX8_init_3 ⟨Nat.zero_le _, Nat.zero_le _⟩) hB hA rfl (fun H locs hB => ?_)
  obtain ⟨rfl, rfl⟩ := Prod.mk.inj (Option.some.inj h)
  exact W.vret hx hb hr (R_end hB) hB.2.2.2.2 dX8_init_6
def f_X3_init (j0 : Nat) (a1 : Int32) (a2 : Int32) (σ : Hp) : Option (Unit × Hp) := b2 (f_X8_init j0 a1 a2 σ) (fun r_1 s_2 => some ((), s_2))
set_option maxHeartbeats 4000000 in
set_option maxRecDepth 100000 in
theorem c_X3_init (l : Launch) (g : tG) (P : Nat → Nat) (σ : Hp) (j0 : Nat) (a1 : Int32) (a2 : Int32) (sz : Nat) {r : Unit} {τ : Hp} (h : f_X3_init j0 a1 a2 σ = some (r, τ)) : Met l yX3_init (Cond.code yX3_init cX3_init 3 none :: tblG) ({ frames := 3, cells := 0, slots := 0, locals := 64 }) (va_Pc [.ref (P j0), .int a1, .int a2] (tPre g P σ sz)) (tQ none (tPost g P τ (va_A (wC g P σ) sz)) (va_A (wC g P σ) sz)) 0 0 (va_A (wC g P σ) sz) := by
  refine T_start (B := fun A => tPost g P τ A) (by decide) (Nat.le_of_ble_eq_true rfl) ?_
  intro p e s m args below meth c ls0 A hx hb hml hr hown hlocks ht hnm hK hZ hA hB0 hl0
  suffices hmain : ∀ (H : Heap) (locs : List Loc) (ls : Array Slot), tB g P σ A s.heap H locs → lv_has ls 3 [(0, .ref (P j0)), (1, .int a1), (2, .int a2)] → WQ p l e { frames := 3, cells := 0, slots := 0, locals := 64 } s m args below meth c g P A none τ H locs (F0 m 0 ls []) from hmain _ _ ls0 hB0 hl0
  intro H locs ls hB hl
  unfold f_X3_init at h
  refine lv_aload_n hx hb dX3_init_0 rfl (lv_at hl 0 rfl) ?_
  refine lv_iload_n hx hb dX3_init_1 rfl (lv_at hl 1 rfl) ?_
  refine lv_iload_n hx hb dX3_init_2 rfl (lv_at hl 2 rfl) ?_
  replace h := b2_eq h; obtain ⟨r_1, s_2, hc_3, h⟩ := h
  refine R_call (rest := []) [] (R_runI (n := 2) (As := [.int a1, .int a2]) ⟨hx, hb, hml, hown, ht⟩ (fun _ h9 => h9) hK hZ hA hB (c_X8_init l g P σ j0 a1 a2 H.size hc_3) tw372 tw408 tw371 tw11 rfl ⟨by decide, by decide, by decide⟩ rfl rfl ⟨Nat.le_of_ble_eq_true rfl, Nat.le_of_ble_eq_true rfl⟩ rfl hl.1 rfl (Nat.le_of_ble_eq_true rfl) dX3_init_3 ⟨Nat.zero_le _, Nat.zero_le _⟩) hB hA rfl (fun H locs hB => ?_)
  obtain ⟨rfl, rfl⟩ := Prod.mk.inj (Option.some.inj h)
  exact W.vret hx hb hr (R_end hB) hB.2.2.2.2 dX3_init_6
def f_X9_init (j0 : Nat) (a1 : Int32) (a2 : Int32) (σ : Hp) : Option (Unit × Hp) := b2 (f_X2_init j0 a1 a2 σ) (fun r_1 s_2 => some ((), s_2))
set_option maxHeartbeats 4000000 in
set_option maxRecDepth 100000 in
theorem c_X9_init (l : Launch) (g : tG) (P : Nat → Nat) (σ : Hp) (j0 : Nat) (a1 : Int32) (a2 : Int32) (sz : Nat) {r : Unit} {τ : Hp} (h : f_X9_init j0 a1 a2 σ = some (r, τ)) : Met l yX9_init (Cond.code yX9_init cX9_init 3 none :: tblG) ({ frames := 2, cells := 0, slots := 0, locals := 42 }) (va_Pc [.ref (P j0), .int a1, .int a2] (tPre g P σ sz)) (tQ none (tPost g P τ (va_A (wC g P σ) sz)) (va_A (wC g P σ) sz)) 0 0 (va_A (wC g P σ) sz) := by
  refine T_start (B := fun A => tPost g P τ A) (by decide) (Nat.le_of_ble_eq_true rfl) ?_
  intro p e s m args below meth c ls0 A hx hb hml hr hown hlocks ht hnm hK hZ hA hB0 hl0
  suffices hmain : ∀ (H : Heap) (locs : List Loc) (ls : Array Slot), tB g P σ A s.heap H locs → lv_has ls 3 [(0, .ref (P j0)), (1, .int a1), (2, .int a2)] → WQ p l e { frames := 2, cells := 0, slots := 0, locals := 42 } s m args below meth c g P A none τ H locs (F0 m 0 ls []) from hmain _ _ ls0 hB0 hl0
  intro H locs ls hB hl
  unfold f_X9_init at h
  refine lv_aload_n hx hb dX9_init_0 rfl (lv_at hl 0 rfl) ?_
  refine lv_iload_n hx hb dX9_init_1 rfl (lv_at hl 1 rfl) ?_
  refine lv_iload_n hx hb dX9_init_2 rfl (lv_at hl 2 rfl) ?_
  replace h := b2_eq h; obtain ⟨r_1, s_2, hc_3, h⟩ := h
  refine R_call (rest := []) [] (R_runI (n := 2) (As := [.int a1, .int a2]) ⟨hx, hb, hml, hown, ht⟩ (fun _ h9 => h9) hK hZ hA hB (c_X2_init l g P σ j0 a1 a2 H.size hc_3) tw375 tw416 tw374 tw10 rfl ⟨by decide, by decide, by decide⟩ rfl rfl ⟨Nat.le_of_ble_eq_true rfl, Nat.le_of_ble_eq_true rfl⟩ rfl hl.1 rfl (Nat.le_of_ble_eq_true rfl) dX9_init_3 ⟨Nat.zero_le _, Nat.zero_le _⟩) hB hA rfl (fun H locs hB => ?_)
  obtain ⟨rfl, rfl⟩ := Prod.mk.inj (Option.some.inj h)
  exact W.vret hx hb hr (R_end hB) hB.2.2.2.2 dX9_init_6
def f_X10_init (j0 : Nat) (a1 : Int32) (a2 : Int32) (σ : Hp) : Option (Unit × Hp) := b2 (f_X6_init j0 a1 a2 σ) (fun r_1 s_2 => some ((), s_2))
set_option maxHeartbeats 4000000 in
set_option maxRecDepth 100000 in
theorem c_X10_init (l : Launch) (g : tG) (P : Nat → Nat) (σ : Hp) (j0 : Nat) (a1 : Int32) (a2 : Int32) (sz : Nat) {r : Unit} {τ : Hp} (h : f_X10_init j0 a1 a2 σ = some (r, τ)) : Met l yX10_init (Cond.code yX10_init cX10_init 3 none :: tblG) ({ frames := 3, cells := 0, slots := 0, locals := 64 }) (va_Pc [.ref (P j0), .int a1, .int a2] (tPre g P σ sz)) (tQ none (tPost g P τ (va_A (wC g P σ) sz)) (va_A (wC g P σ) sz)) 0 0 (va_A (wC g P σ) sz) := by
  refine T_start (B := fun A => tPost g P τ A) (by decide) (Nat.le_of_ble_eq_true rfl) ?_
  intro p e s m args below meth c ls0 A hx hb hml hr hown hlocks ht hnm hK hZ hA hB0 hl0
  suffices hmain : ∀ (H : Heap) (locs : List Loc) (ls : Array Slot), tB g P σ A s.heap H locs → lv_has ls 3 [(0, .ref (P j0)), (1, .int a1), (2, .int a2)] → WQ p l e { frames := 3, cells := 0, slots := 0, locals := 64 } s m args below meth c g P A none τ H locs (F0 m 0 ls []) from hmain _ _ ls0 hB0 hl0
  intro H locs ls hB hl
  unfold f_X10_init at h
  refine lv_aload_n hx hb dX10_init_0 rfl (lv_at hl 0 rfl) ?_
  refine lv_iload_n hx hb dX10_init_1 rfl (lv_at hl 1 rfl) ?_
  refine lv_iload_n hx hb dX10_init_2 rfl (lv_at hl 2 rfl) ?_
  replace h := b2_eq h; obtain ⟨r_1, s_2, hc_3, h⟩ := h
  refine R_call (rest := []) [] (R_runI (n := 2) (As := [.int a1, .int a2]) ⟨hx, hb, hml, hown, ht⟩ (fun _ h9 => h9) hK hZ hA hB (c_X6_init l g P σ j0 a1 a2 H.size hc_3) tw399 tw424 tw398 tw12 rfl ⟨by decide, by decide, by decide⟩ rfl rfl ⟨Nat.le_of_ble_eq_true rfl, Nat.le_of_ble_eq_true rfl⟩ rfl hl.1 rfl (Nat.le_of_ble_eq_true rfl) dX10_init_3 ⟨Nat.zero_le _, Nat.zero_le _⟩) hB hA rfl (fun H locs hB => ?_)
  obtain ⟨rfl, rfl⟩ := Prod.mk.inj (Option.some.inj h)
  exact W.vret hx hb hr (R_end hB) hB.2.2.2.2 dX10_init_6
def f_X0_init (j0 : Nat) (a1 : Int32) (a2 : Int32) (σ : Hp) : Option (Unit × Hp) := b2 (f_X6_init j0 a1 a2 σ) (fun r_1 s_2 => some ((), s_2))
set_option maxHeartbeats 4000000 in
set_option maxRecDepth 100000 in
theorem c_X0_init (l : Launch) (g : tG) (P : Nat → Nat) (σ : Hp) (j0 : Nat) (a1 : Int32) (a2 : Int32) (sz : Nat) {r : Unit} {τ : Hp} (h : f_X0_init j0 a1 a2 σ = some (r, τ)) : Met l yX0_init (Cond.code yX0_init cX0_init 3 none :: tblG) ({ frames := 3, cells := 0, slots := 0, locals := 64 }) (va_Pc [.ref (P j0), .int a1, .int a2] (tPre g P σ sz)) (tQ none (tPost g P τ (va_A (wC g P σ) sz)) (va_A (wC g P σ) sz)) 0 0 (va_A (wC g P σ) sz) := by
  refine T_start (B := fun A => tPost g P τ A) (by decide) (Nat.le_of_ble_eq_true rfl) ?_
  intro p e s m args below meth c ls0 A hx hb hml hr hown hlocks ht hnm hK hZ hA hB0 hl0
  suffices hmain : ∀ (H : Heap) (locs : List Loc) (ls : Array Slot), tB g P σ A s.heap H locs → lv_has ls 3 [(0, .ref (P j0)), (1, .int a1), (2, .int a2)] → WQ p l e { frames := 3, cells := 0, slots := 0, locals := 64 } s m args below meth c g P A none τ H locs (F0 m 0 ls []) from hmain _ _ ls0 hB0 hl0
  intro H locs ls hB hl
  unfold f_X0_init at h
  refine lv_aload_n hx hb dX0_init_0 rfl (lv_at hl 0 rfl) ?_
  refine lv_iload_n hx hb dX0_init_1 rfl (lv_at hl 1 rfl) ?_
  refine lv_iload_n hx hb dX0_init_2 rfl (lv_at hl 2 rfl) ?_
  replace h := b2_eq h; obtain ⟨r_1, s_2, hc_3, h⟩ := h
  refine R_call (rest := []) [] (R_runI (n := 2) (As := [.int a1, .int a2]) ⟨hx, hb, hml, hown, ht⟩ (fun _ h9 => h9) hK hZ hA hB (c_X6_init l g P σ j0 a1 a2 H.size hc_3) tw399 tw432 tw398 tw12 rfl ⟨by decide, by decide, by decide⟩ rfl rfl ⟨Nat.le_of_ble_eq_true rfl, Nat.le_of_ble_eq_true rfl⟩ rfl hl.1 rfl (Nat.le_of_ble_eq_true rfl) dX0_init_3 ⟨Nat.zero_le _, Nat.zero_le _⟩) hB hA rfl (fun H locs hB => ?_)
  obtain ⟨rfl, rfl⟩ := Prod.mk.inj (Option.some.inj h)
  exact W.vret hx hb hr (R_end hB) hB.2.2.2.2 dX0_init_6
def f_X7_newLaw (a0 : Int32) (a1 : Int32) (a2 : Int32) (σ : Hp) : Option (Nat × Hp) := if a0 = 1 then ck (okRefs σ = true) (b2 (f_X8_init (hN σ) a1 a2 (addH σ 7)) (fun r_3 s_4 => some ((hN σ), s_4))) else (if a0 = 2 then ck (okRefs σ = true) (b2 (f_X6_init (hN σ) a1 a2 (addH σ 5)) (fun r_8 s_9 => some ((hN σ), s_9))) else (if a0 = 3 then ck (okRefs σ = true) (b2 (f_X3_init (hN σ) a1 a2 (addH σ 2)) (fun r_13 s_14 => some ((hN σ), s_14))) else (if a0 = 4 then ck (okRefs σ = true) (b2 (f_X9_init (hN σ) a1 a2 (addH σ 8)) (fun r_18 s_19 => some ((hN σ), s_19))) else (if a0 = 5 then ck (okRefs σ = true) (b2 (f_X10_init (hN σ) a1 a2 (addH σ 9)) (fun r_23 s_24 => some ((hN σ), s_24))) else (if a0 = 6 then ck (okRefs σ = true) (b2 (f_X0_init (hN σ) a1 a2 (addH σ 0)) (fun r_28 s_29 => some ((hN σ), s_29))) else (ck (okRefs σ = true) (b2 (f_X2_init (hN σ) a1 a2 (addH σ 1)) (fun r_32 s_33 => some ((hN σ), s_33)))))))))
set_option maxHeartbeats 4000000 in
set_option maxRecDepth 100000 in
theorem c_X7_newLaw (l : Launch) (g : tG) (P : Nat → Nat) (σ : Hp) (a0 : Int32) (a1 : Int32) (a2 : Int32) (sz : Nat) {r : Nat} {τ : Hp} (h : f_X7_newLaw a0 a1 a2 σ = some (r, τ)) : Met l yX7_newLaw (Cond.code yX7_newLaw cX7_newLaw 3 (some (.object "TurnedAbout$Law")) :: tblG) ({ frames := 4, cells := 1, slots := 2, locals := 86 }) (va_Pc [.int a0, .int a1, .int a2] (tPre g P σ sz)) (tQL r (fun P1 t => tPost g P1 τ (va_A (wC g P σ) sz) t) (va_A (wC g P σ) sz)) 1 2 (va_A (wC g P σ) sz) := by
  refine T_startQ (Qf := fun A => tQL r (fun P1 t => tPost g P1 τ A t) A) (by decide) (Nat.le_of_ble_eq_true rfl) ?_
  intro p e s m args below meth c ls0 A hx hb hml hr hown hlocks ht hnm hK hZ hA hB0 hl0
  suffices hmain : ∀ (H : Heap) (locs : List Loc) (ls : Array Slot), tB g P σ A s.heap H locs → lv_has ls 3 [(0, .int a0), (1, .int a1), (2, .int a2)] → W p l e { frames := 4, cells := 1, slots := 2, locals := 86 } s m args below meth c H locs 0 0 (MQ below (tQL r (fun P1 t => tPost g P1 τ A t) A) args s 1 2 A) (F0 m 0 ls []) from hmain _ _ ls0 hB0 hl0
  intro H locs ls hB hl
  unfold f_X7_newLaw at h
  refine lv_iload_n hx hb dX7_newLaw_0 rfl (lv_at hl 0 rfl) ?_
  by_cases c_1 : a0 = 1
  · replace h := itp h c_1
    refine lv_tableIn (tgt := 40) hx hb dX7_newLaw_1 (by rw [c_1]; decide) (by rw [c_1]; decide) (by rw [c_1]; rfl) (by decide) ?_
    replace h := ck_eq h; obtain ⟨q_2, h⟩ := h
    refine R_newP (ci := 7) hx hb ht ui_X8 tyX8 tyX8_ok hown (ht _ tw368) (ht _ tw369) (ht _ tw11) hK hB hA q_2 rfl (fun j hj => by rcases (show j = 0 ∨ j = 1 by omega) with rfl | rfl <;> rfl) (Nat.le_of_ble_eq_true rfl) (Nat.le_of_ble_eq_true rfl) dX7_newLaw_40 (fun P H hB => ?_)
    refine lv_dup hx hb dX7_newLaw_43 rfl ?_
    refine lv_iload_n hx hb dX7_newLaw_44 rfl (lv_at hl 1 rfl) ?_
    refine lv_iload_n hx hb dX7_newLaw_45 rfl (lv_at hl 2 rfl) ?_
    replace h := b2_eq h; obtain ⟨r_3, s_4, hc_5, h⟩ := h
    refine R_call (rest := [.ref (P (hN σ))]) [.ref (P (hN σ))] (R_runI (n := 2) (As := [.int a1, .int a2]) ⟨hx, hb, hml, hown, ht⟩ (fun _ h9 => h9) hK hZ hA hB (c_X8_init l g P (addH σ 7) (hN σ) a1 a2 H.size hc_5) tw372 tw370 tw371 tw11 rfl ⟨by decide, by decide, by decide⟩ rfl rfl ⟨Nat.le_of_ble_eq_true rfl, Nat.le_of_ble_eq_true rfl⟩ rfl hl.1 rfl (Nat.le_of_ble_eq_true rfl) dX7_newLaw_46 ⟨Nat.le_of_ble_eq_true rfl, Nat.le_of_ble_eq_true rfl⟩) hB hA rfl (fun H locs hB => ?_)
    obtain ⟨rfl, rfl⟩ := Prod.mk.inj (Option.some.inj h)
    exact W.aret hx hb hr (Or.inl ⟨_, rfl⟩) (Or.inr ⟨_, rfl⟩) (R_endL hB) hB.2.2.2.2 dX7_newLaw_49
  · replace h := itn h c_1
    by_cases c_6 : a0 = 2
    · replace h := itp h c_6
      refine lv_tableIn (tgt := 50) hx hb dX7_newLaw_1 (by rw [c_6]; decide) (by rw [c_6]; decide) (by rw [c_6]; rfl) (by decide) ?_
      replace h := ck_eq h; obtain ⟨q_7, h⟩ := h
      refine R_newP (ci := 5) hx hb ht ui_X6 tyX6 tyX6_ok hown (ht _ tw395) (ht _ tw396) (ht _ tw12) hK hB hA q_7 rfl (fun j hj => by rcases (show j = 0 ∨ j = 1 by omega) with rfl | rfl <;> rfl) (Nat.le_of_ble_eq_true rfl) (Nat.le_of_ble_eq_true rfl) dX7_newLaw_50 (fun P H hB => ?_)
      refine lv_dup hx hb dX7_newLaw_53 rfl ?_
      refine lv_iload_n hx hb dX7_newLaw_54 rfl (lv_at hl 1 rfl) ?_
      refine lv_iload_n hx hb dX7_newLaw_55 rfl (lv_at hl 2 rfl) ?_
      replace h := b2_eq h; obtain ⟨r_8, s_9, hc_10, h⟩ := h
      refine R_call (rest := [.ref (P (hN σ))]) [.ref (P (hN σ))] (R_runI (n := 2) (As := [.int a1, .int a2]) ⟨hx, hb, hml, hown, ht⟩ (fun _ h9 => h9) hK hZ hA hB (c_X6_init l g P (addH σ 5) (hN σ) a1 a2 H.size hc_10) tw399 tw397 tw398 tw12 rfl ⟨by decide, by decide, by decide⟩ rfl rfl ⟨Nat.le_of_ble_eq_true rfl, Nat.le_of_ble_eq_true rfl⟩ rfl hl.1 rfl (Nat.le_of_ble_eq_true rfl) dX7_newLaw_56 ⟨Nat.le_of_ble_eq_true rfl, Nat.le_of_ble_eq_true rfl⟩) hB hA rfl (fun H locs hB => ?_)
      obtain ⟨rfl, rfl⟩ := Prod.mk.inj (Option.some.inj h)
      exact W.aret hx hb hr (Or.inl ⟨_, rfl⟩) (Or.inr ⟨_, rfl⟩) (R_endL hB) hB.2.2.2.2 dX7_newLaw_59
    · replace h := itn h c_6
      by_cases c_11 : a0 = 3
      · replace h := itp h c_11
        refine lv_tableIn (tgt := 60) hx hb dX7_newLaw_1 (by rw [c_11]; decide) (by rw [c_11]; decide) (by rw [c_11]; rfl) (by decide) ?_
        replace h := ck_eq h; obtain ⟨q_12, h⟩ := h
        refine R_newP (ci := 2) hx hb ht ui_X3 tyX3 tyX3_ok hown (ht _ tw403) (ht _ tw404) (ht _ tw13) hK hB hA q_12 rfl (fun j hj => by rcases (show j = 0 ∨ j = 1 by omega) with rfl | rfl <;> rfl) (Nat.le_of_ble_eq_true rfl) (Nat.le_of_ble_eq_true rfl) dX7_newLaw_60 (fun P H hB => ?_)
        refine lv_dup hx hb dX7_newLaw_63 rfl ?_
        refine lv_iload_n hx hb dX7_newLaw_64 rfl (lv_at hl 1 rfl) ?_
        refine lv_iload_n hx hb dX7_newLaw_65 rfl (lv_at hl 2 rfl) ?_
        replace h := b2_eq h; obtain ⟨r_13, s_14, hc_15, h⟩ := h
        refine R_call (rest := [.ref (P (hN σ))]) [.ref (P (hN σ))] (R_runI (n := 2) (As := [.int a1, .int a2]) ⟨hx, hb, hml, hown, ht⟩ (fun _ h9 => h9) hK hZ hA hB (c_X3_init l g P (addH σ 2) (hN σ) a1 a2 H.size hc_15) tw407 tw405 tw406 tw13 rfl ⟨by decide, by decide, by decide⟩ rfl rfl ⟨Nat.le_of_ble_eq_true rfl, Nat.le_of_ble_eq_true rfl⟩ rfl hl.1 rfl (Nat.le_of_ble_eq_true rfl) dX7_newLaw_66 ⟨Nat.le_of_ble_eq_true rfl, Nat.le_of_ble_eq_true rfl⟩) hB hA rfl (fun H locs hB => ?_)
        obtain ⟨rfl, rfl⟩ := Prod.mk.inj (Option.some.inj h)
        exact W.aret hx hb hr (Or.inl ⟨_, rfl⟩) (Or.inr ⟨_, rfl⟩) (R_endL hB) hB.2.2.2.2 dX7_newLaw_69
      · replace h := itn h c_11
        by_cases c_16 : a0 = 4
        · replace h := itp h c_16
          refine lv_tableIn (tgt := 70) hx hb dX7_newLaw_1 (by rw [c_16]; decide) (by rw [c_16]; decide) (by rw [c_16]; rfl) (by decide) ?_
          replace h := ck_eq h; obtain ⟨q_17, h⟩ := h
          refine R_newP (ci := 8) hx hb ht ui_X9 tyX9 tyX9_ok hown (ht _ tw411) (ht _ tw412) (ht _ tw14) hK hB hA q_17 rfl (fun j hj => by rcases (show j = 0 ∨ j = 1 by omega) with rfl | rfl <;> rfl) (Nat.le_of_ble_eq_true rfl) (Nat.le_of_ble_eq_true rfl) dX7_newLaw_70 (fun P H hB => ?_)
          refine lv_dup hx hb dX7_newLaw_73 rfl ?_
          refine lv_iload_n hx hb dX7_newLaw_74 rfl (lv_at hl 1 rfl) ?_
          refine lv_iload_n hx hb dX7_newLaw_75 rfl (lv_at hl 2 rfl) ?_
          replace h := b2_eq h; obtain ⟨r_18, s_19, hc_20, h⟩ := h
          refine R_call (rest := [.ref (P (hN σ))]) [.ref (P (hN σ))] (R_runI (n := 2) (As := [.int a1, .int a2]) ⟨hx, hb, hml, hown, ht⟩ (fun _ h9 => h9) hK hZ hA hB (c_X9_init l g P (addH σ 8) (hN σ) a1 a2 H.size hc_20) tw415 tw413 tw414 tw14 rfl ⟨by decide, by decide, by decide⟩ rfl rfl ⟨Nat.le_of_ble_eq_true rfl, Nat.le_of_ble_eq_true rfl⟩ rfl hl.1 rfl (Nat.le_of_ble_eq_true rfl) dX7_newLaw_76 ⟨Nat.le_of_ble_eq_true rfl, Nat.le_of_ble_eq_true rfl⟩) hB hA rfl (fun H locs hB => ?_)
          obtain ⟨rfl, rfl⟩ := Prod.mk.inj (Option.some.inj h)
          exact W.aret hx hb hr (Or.inl ⟨_, rfl⟩) (Or.inr ⟨_, rfl⟩) (R_endL hB) hB.2.2.2.2 dX7_newLaw_79
        · replace h := itn h c_16
          by_cases c_21 : a0 = 5
          · replace h := itp h c_21
            refine lv_tableIn (tgt := 80) hx hb dX7_newLaw_1 (by rw [c_21]; decide) (by rw [c_21]; decide) (by rw [c_21]; rfl) (by decide) ?_
            replace h := ck_eq h; obtain ⟨q_22, h⟩ := h
            refine R_newP (ci := 9) hx hb ht ui_X10 tyX10 tyX10_ok hown (ht _ tw419) (ht _ tw420) (ht _ tw15) hK hB hA q_22 rfl (fun j hj => by rcases (show j = 0 ∨ j = 1 by omega) with rfl | rfl <;> rfl) (Nat.le_of_ble_eq_true rfl) (Nat.le_of_ble_eq_true rfl) dX7_newLaw_80 (fun P H hB => ?_)
            refine lv_dup hx hb dX7_newLaw_83 rfl ?_
            refine lv_iload_n hx hb dX7_newLaw_84 rfl (lv_at hl 1 rfl) ?_
            refine lv_iload_n hx hb dX7_newLaw_85 rfl (lv_at hl 2 rfl) ?_
            replace h := b2_eq h; obtain ⟨r_23, s_24, hc_25, h⟩ := h
            refine R_call (rest := [.ref (P (hN σ))]) [.ref (P (hN σ))] (R_runI (n := 2) (As := [.int a1, .int a2]) ⟨hx, hb, hml, hown, ht⟩ (fun _ h9 => h9) hK hZ hA hB (c_X10_init l g P (addH σ 9) (hN σ) a1 a2 H.size hc_25) tw423 tw421 tw422 tw15 rfl ⟨by decide, by decide, by decide⟩ rfl rfl ⟨Nat.le_of_ble_eq_true rfl, Nat.le_of_ble_eq_true rfl⟩ rfl hl.1 rfl (Nat.le_of_ble_eq_true rfl) dX7_newLaw_86 ⟨Nat.le_of_ble_eq_true rfl, Nat.le_of_ble_eq_true rfl⟩) hB hA rfl (fun H locs hB => ?_)
            obtain ⟨rfl, rfl⟩ := Prod.mk.inj (Option.some.inj h)
            exact W.aret hx hb hr (Or.inl ⟨_, rfl⟩) (Or.inr ⟨_, rfl⟩) (R_endL hB) hB.2.2.2.2 dX7_newLaw_89
          · replace h := itn h c_21
            by_cases c_26 : a0 = 6
            · replace h := itp h c_26
              refine lv_tableIn (tgt := 90) hx hb dX7_newLaw_1 (by rw [c_26]; decide) (by rw [c_26]; decide) (by rw [c_26]; rfl) (by decide) ?_
              replace h := ck_eq h; obtain ⟨q_27, h⟩ := h
              refine R_newP (ci := 0) hx hb ht ui_X0 tyX0 tyX0_ok hown (ht _ tw427) (ht _ tw428) (ht _ tw16) hK hB hA q_27 rfl (fun j hj => by rcases (show j = 0 ∨ j = 1 by omega) with rfl | rfl <;> rfl) (Nat.le_of_ble_eq_true rfl) (Nat.le_of_ble_eq_true rfl) dX7_newLaw_90 (fun P H hB => ?_)
              refine lv_dup hx hb dX7_newLaw_93 rfl ?_
              refine lv_iload_n hx hb dX7_newLaw_94 rfl (lv_at hl 1 rfl) ?_
              refine lv_iload_n hx hb dX7_newLaw_95 rfl (lv_at hl 2 rfl) ?_
              replace h := b2_eq h; obtain ⟨r_28, s_29, hc_30, h⟩ := h
              refine R_call (rest := [.ref (P (hN σ))]) [.ref (P (hN σ))] (R_runI (n := 2) (As := [.int a1, .int a2]) ⟨hx, hb, hml, hown, ht⟩ (fun _ h9 => h9) hK hZ hA hB (c_X0_init l g P (addH σ 0) (hN σ) a1 a2 H.size hc_30) tw431 tw429 tw430 tw16 rfl ⟨by decide, by decide, by decide⟩ rfl rfl ⟨Nat.le_of_ble_eq_true rfl, Nat.le_of_ble_eq_true rfl⟩ rfl hl.1 rfl (Nat.le_of_ble_eq_true rfl) dX7_newLaw_96 ⟨Nat.le_of_ble_eq_true rfl, Nat.le_of_ble_eq_true rfl⟩) hB hA rfl (fun H locs hB => ?_)
              obtain ⟨rfl, rfl⟩ := Prod.mk.inj (Option.some.inj h)
              exact W.aret hx hb hr (Or.inl ⟨_, rfl⟩) (Or.inr ⟨_, rfl⟩) (R_endL hB) hB.2.2.2.2 dX7_newLaw_99
            · replace h := itn h c_26
              refine lv_tableOut (tgt := 100) hx hb dX7_newLaw_1 (sw_out (lo := 1) (hi := 6) (by decide) (by decide) (fun k h1 h2 => by rcases (show k = 1 ∨ k = 2 ∨ k = 3 ∨ k = 4 ∨ k = 5 ∨ k = 6 by omega) with rfl | rfl | rfl | rfl | rfl | rfl <;> assumption)) (by decide) ?_
              replace h := ck_eq h; obtain ⟨q_31, h⟩ := h
              refine R_newP (ci := 1) hx hb ht ui_X2 tyX2 tyX2_ok hown (ht _ tw35) (ht _ tw435) (ht _ tw10) hK hB hA q_31 rfl (fun j hj => by rcases (show j = 0 ∨ j = 1 by omega) with rfl | rfl <;> rfl) (Nat.le_of_ble_eq_true rfl) (Nat.le_of_ble_eq_true rfl) dX7_newLaw_100 (fun P H hB => ?_)
              refine lv_dup hx hb dX7_newLaw_103 rfl ?_
              refine lv_iload_n hx hb dX7_newLaw_104 rfl (lv_at hl 1 rfl) ?_
              refine lv_iload_n hx hb dX7_newLaw_105 rfl (lv_at hl 2 rfl) ?_
              replace h := b2_eq h; obtain ⟨r_32, s_33, hc_34, h⟩ := h
              refine R_call (rest := [.ref (P (hN σ))]) [.ref (P (hN σ))] (R_runI (n := 2) (As := [.int a1, .int a2]) ⟨hx, hb, hml, hown, ht⟩ (fun _ h9 => h9) hK hZ hA hB (c_X2_init l g P (addH σ 1) (hN σ) a1 a2 H.size hc_34) tw375 tw436 tw374 tw10 rfl ⟨by decide, by decide, by decide⟩ rfl rfl ⟨Nat.le_of_ble_eq_true rfl, Nat.le_of_ble_eq_true rfl⟩ rfl hl.1 rfl (Nat.le_of_ble_eq_true rfl) dX7_newLaw_106 ⟨Nat.le_of_ble_eq_true rfl, Nat.le_of_ble_eq_true rfl⟩) hB hA rfl (fun H locs hB => ?_)
              obtain ⟨rfl, rfl⟩ := Prod.mk.inj (Option.some.inj h)
              exact W.aret hx hb hr (Or.inl ⟨_, rfl⟩) (Or.inr ⟨_, rfl⟩) (R_endL hB) hB.2.2.2.2 dX7_newLaw_109
def f_X7_addLaw (k0 : Nat) (a1 : Int32) (a2 : Int32) (σ : Hp) : Option (Int32 × Hp) := if (hI σ k0 2) < 0 then some ((-1 : Int32), σ) else if (hI σ k0 2) < (6 : Int32) then b2 (f_X7_newLaw a1 (hI σ k0 2) a2 σ) (fun r_3 s_4 => ck (inb (hI σ k0 2) 6 = true) (ck (okLaw s_4 (some r_3) = true) (some ((hI σ k0 2), (sI (sR s_4 (k0 + 3) (hI σ k0 2).toNatClampNeg (some r_3)) k0 2 ((hI (sR s_4 (k0 + 3) (hI σ k0 2).toNatClampNeg (some r_3)) k0 2) + (1 : Int32))))))) else some ((-1 : Int32), σ)
set_option maxHeartbeats 4000000 in
set_option maxRecDepth 100000 in
theorem c_X7_addLaw (l : Launch) (g : tG) (P : Nat → Nat) (σ : Hp) (k0 : Nat) (a1 : Int32) (a2 : Int32) (hk_k0 : ky k0 = 1) (sz : Nat) {r : Int32} {τ : Hp} (h : f_X7_addLaw k0 a1 a2 σ = some (r, τ)) : Met l yX7_addLaw (Cond.code yX7_addLaw cX7_addLaw 4 (some .int) :: tblG) ({ frames := 5, cells := 1, slots := 2, locals := 108 }) (va_Pc [.ref (gL g k0), .int a1, .int a2] (tPre g P σ sz)) (tQ (some (.int r)) (tPN g τ (va_A (wC g P σ) sz)) (va_A (wC g P σ) sz)) 1 2 (va_A (wC g P σ) sz) := by
  refine T_startQ (Qf := fun A => tQ (some (.int r)) (tPN g τ A) A) (by decide) (Nat.le_of_ble_eq_true rfl) ?_
  intro p e s m args below meth c ls0 A hx hb hml hr hown hlocks ht hnm hK hZ hA hB0 hl0
  suffices hmain : ∀ (H : Heap) (locs : List Loc) (ls : Array Slot), tB g P σ A s.heap H locs → lv_has ls 4 [(0, .ref (gL g k0)), (1, .int a1), (2, .int a2)] → WN p l e { frames := 5, cells := 1, slots := 2, locals := 108 } s m args below meth c g A (some (.int r)) τ 1 2 H locs 0 0 (F0 m 0 ls []) from hmain _ _ ls0 hB0 hl0
  intro H locs ls hB hl
  unfold f_X7_addLaw at h
  refine lv_aload_n hx hb dX7_addLaw_0 rfl (lv_at hl 0 rfl) ?_
  refine R_get (v := .int (hI σ k0 2)) hx hb ht ui_X7 hown hK hB (ky_in _ (by rw [hk_k0]; decide)) (cell_1 hk_k0) rfl 2 (by decide) (ht _ tw49) (fun _ h9 => h9) rfl dX7_addLaw_1 ?_
  refine lv_if_lt (tgt := 19) hx hb dX7_addLaw_4 (by decide) (fun c_1 => ?_) (fun c_1 => ?_)
  · replace h := itp h c_1
    refine lv_iconst (v := -1) hx hb dX7_addLaw_19 (by decide) ?_
    obtain ⟨rfl, rfl⟩ := Prod.mk.inj (Option.some.inj h)
    refine W.widen (k := 1) (n := 2) (Nat.le_of_ble_eq_true rfl) (Nat.le_of_ble_eq_true rfl) ?_
    exact W.iret hx hb hr (R_endN hB) hB.2.2.2.2 dX7_addLaw_20
  · replace h := itn h c_1
    refine lv_aload_n hx hb dX7_addLaw_7 rfl (lv_at hl 0 rfl) ?_
    refine R_get (v := .int (hI σ k0 2)) hx hb ht ui_X7 hown hK hB (ky_in _ (by rw [hk_k0]; decide)) (cell_1 hk_k0) rfl 2 (by decide) (ht _ tw49) (fun _ h9 => h9) rfl dX7_addLaw_8 ?_
    refine lv_aload_n hx hb dX7_addLaw_11 rfl (lv_at hl 0 rfl) ?_
    refine R_get (v := .ref (gL g (k0 + 3))) hx hb ht ui_X7 hown hK hB (ky_in _ (by rw [hk_k0]; decide)) (cell_1 hk_k0) rfl 4 (by decide) (ht _ tw55) (fun _ h9 => h9) rfl dX7_addLaw_12 ?_
    refine R_alenR hx hb (v := (6 : Int32)) hK hB (ky_s3 hk_k0) (by rw [(ln_s3 hk_k0)]; rfl) dX7_addLaw_15 ?_
    refine lv_icmp_lt (tgt := 21) hx hb dX7_addLaw_16 (by decide) (fun c_2 => ?_) (fun c_2 => ?_)
    · replace h := itp h c_2
      refine lv_aload_n hx hb dX7_addLaw_21 rfl (lv_at hl 0 rfl) ?_
      refine R_get (v := .int (hI σ k0 2)) hx hb ht ui_X7 hown hK hB (ky_in _ (by rw [hk_k0]; decide)) (cell_1 hk_k0) rfl 2 (by decide) (ht _ tw49) (fun _ h9 => h9) rfl dX7_addLaw_22 ?_
      refine lv_istore_n (lv' := [(3, .int (hI σ k0 2)), (0, .ref (gL g k0)), (1, .int a1), (2, .int a2)]) hx hb dX7_addLaw_25 rfl hl (by decide) rfl (fun ls hl => ?_)
      refine lv_aload_n hx hb dX7_addLaw_26 rfl (lv_at hl 1 rfl) ?_
      refine R_get (v := .ref (gL g (k0 + 3))) hx hb ht ui_X7 hown hK hB (ky_in _ (by rw [hk_k0]; decide)) (cell_1 hk_k0) rfl 4 (by decide) (ht _ tw55) (fun _ h9 => h9) rfl dX7_addLaw_27 ?_
      refine lv_iload_n hx hb dX7_addLaw_30 rfl (lv_at hl 0 rfl) ?_
      refine lv_iload_n hx hb dX7_addLaw_31 rfl (lv_at hl 2 rfl) ?_
      refine lv_iload_n hx hb dX7_addLaw_32 rfl (lv_at hl 0 rfl) ?_
      refine lv_iload_n hx hb dX7_addLaw_33 rfl (lv_at hl 3 rfl) ?_
      replace h := b2_eq h; obtain ⟨r_3, s_4, hc_5, h⟩ := h
      refine R_callL (rest := [.int (hI σ k0 2), .ref (gL g (k0 + 3))]) (R_runSQ (n := 3) (As := [.int a1, .int (hI σ k0 2), .int a2]) ⟨hx, hb, hml, hown, ht⟩ (fun _ h9 => h9) hK hZ hA hB (c_X7_newLaw l g P σ a1 (hI σ k0 2) a2 H.size hc_5) tw367 tw365 tw366 tw2 ⟨by decide, by decide, by decide⟩ rfl rfl ⟨Nat.le_of_ble_eq_true rfl, Nat.le_of_ble_eq_true rfl⟩ rfl hl.1 rfl (Nat.le_of_ble_eq_true rfl) dX7_addLaw_34 ⟨Nat.le_of_ble_eq_true rfl, Nat.le_of_ble_eq_true rfl⟩) hB hA (fun P H locs hB => ?_)
      replace h := ck_eq h; obtain ⟨q_6, h⟩ := h
      replace h := ck_eq h; obtain ⟨q_7, h⟩ := h
      refine R_aast (v := (some r_3)) hx hb hK hB (ky_s3 hk_k0) (by rw [(ln_s3 hk_k0)]; exact inb_eq q_6) q_7 dX7_addLaw_37 (fun H locs hB => ?_)
      refine lv_aload_n hx hb dX7_addLaw_38 rfl (lv_at hl 1 rfl) ?_
      refine lv_dup hx hb dX7_addLaw_39 rfl ?_
      refine R_get (v := .int (hI (sR s_4 (k0 + 3) (hI σ k0 2).toNatClampNeg (some r_3)) k0 2)) hx hb ht ui_X7 hown hK hB (ky_in _ (by rw [hk_k0]; decide)) (cell_1 hk_k0) rfl 2 (by decide) (ht _ tw49) (fun _ h9 => h9) rfl dX7_addLaw_40 ?_
      refine lv_iconst (v := 1) hx hb dX7_addLaw_43 (by decide) ?_
      refine lv_iadd hx hb dX7_addLaw_44 ?_
      refine R_putI (v := ((hI (sR s_4 (k0 + 3) (hI σ k0 2).toNatClampNeg (some r_3)) k0 2) + (1 : Int32))) (ty := .int) hx hb ht ui_X7 tyX7 tyX7_ok nmX7 hown hK hB (ky_in _ (by rw [hk_k0]; decide)) (cell_1 hk_k0) rfl 2 (by decide) (ht _ tw49) (fun _ h9 => h9) rfl (by decide +kernel) rfl rfl (Nat.le_of_ble_eq_true rfl) (st1_2 hk_k0) dX7_addLaw_45 (fun H locs hB => ?_)
      refine lv_iload_n hx hb dX7_addLaw_48 rfl (lv_at hl 0 rfl) ?_
      obtain ⟨rfl, rfl⟩ := Prod.mk.inj (Option.some.inj h)
      exact W.iret hx hb hr (R_endN hB) hB.2.2.2.2 dX7_addLaw_49
    · replace h := itn h c_2
      refine lv_iconst (v := -1) hx hb dX7_addLaw_19 (by decide) ?_
      obtain ⟨rfl, rfl⟩ := Prod.mk.inj (Option.some.inj h)
      refine W.widen (k := 1) (n := 2) (Nat.le_of_ble_eq_true rfl) (Nat.le_of_ble_eq_true rfl) ?_
      exact W.iret hx hb hr (R_endN hB) hB.2.2.2.2 dX7_addLaw_20
def f_X4_readLaw (σ : Hp) : Option (Int32 × Hp) := b2 (f_X4_readWord 1 σ) (fun r_1 s_2 => if r_1 = 0 then some ((0 : Int32), s_2) else b2 (f_X7_lawsFull 2 s_2) (fun r_5 s_6 => if r_5 = 0 then b2 (f_X4_readNumber (0 : Int32) (6 : Int32) s_6) (fun r_9 s_10 => if r_9 = 0 then some ((0 : Int32), s_10) else b2 (f_X4_readNumber (0 : Int32) (9 : Int32) s_10) (fun r_13 s_14 => if r_13 = 0 then some ((0 : Int32), s_14) else b2 (f_X7_addLaw 2 (hI s_10 31 3) (hI s_14 31 3) s_14) (fun r_17 s_18 => some ((1 : Int32), s_18)))) else b2 (f_X4_failAt (hI σ 31 2) s_6) (fun r_20 s_21 => ck (isB r_20 = true) (some (r_20, s_21)))))
set_option maxHeartbeats 4000000 in
set_option maxRecDepth 100000 in
theorem c_X4_readLaw (l : Launch) (g : tG) (P : Nat → Nat) (σ : Hp) (sz : Nat) {r : Int32} {τ : Hp} (h : f_X4_readLaw σ = some (r, τ)) : Met l yX4_readLaw (Cond.code yX4_readLaw cX4_readLaw 3 (some .boolean) :: tblG) ({ frames := 6, cells := 1, slots := 2, locals := 131 }) (va_Pc [.ref (gL g 31)] (tPre g P σ sz)) (tQ (some (.int r)) (tPN g τ (va_A (wC g P σ) sz)) (va_A (wC g P σ) sz)) 1 2 (va_A (wC g P σ) sz) := by
  refine T_startQ (Qf := fun A => tQ (some (.int r)) (tPN g τ A) A) (by decide) (Nat.le_of_ble_eq_true rfl) ?_
  intro p e s m args below meth c ls0 A hx hb hml hr hown hlocks ht hnm hK hZ hA hB0 hl0
  suffices hmain : ∀ (H : Heap) (locs : List Loc) (ls : Array Slot), tB g P σ A s.heap H locs → lv_has ls 3 [(0, .ref (gL g 31))] → WN p l e { frames := 6, cells := 1, slots := 2, locals := 131 } s m args below meth c g A (some (.int r)) τ 1 2 H locs 0 0 (F0 m 0 ls []) from hmain _ _ ls0 hB0 hl0
  intro H locs ls hB hl
  unfold f_X4_readLaw at h
  refine lv_aload_n hx hb dX4_readLaw_0 rfl (lv_at hl 0 rfl) ?_
  refine R_get (v := .int (hI σ 31 2)) hx hb ht ui_X4 hown hK hB (by decide) (cell_7 rfl) rfl 2 (by decide) (ht _ tw112) (fun _ h9 => h9) rfl dX4_readLaw_1 ?_
  refine lv_istore_n (lv' := [(1, .int (hI σ 31 2)), (0, .ref (gL g 31))]) hx hb dX4_readLaw_4 rfl hl (by decide) rfl (fun ls hl => ?_)
  refine lv_aload_n hx hb dX4_readLaw_5 rfl (lv_at hl 1 rfl) ?_
  refine va_ldcS hx hb hown (hK.2.2.1 1 (by decide)) dX4_readLaw_6 ?_
  replace h := b2_eq h; obtain ⟨r_1, s_2, hc_3, h⟩ := h
  refine R_call (rest := []) [.int r_1] (R_runV (n := 1) (As := [.ref (gK g 1)]) ⟨hx, hb, hml, hown, ht⟩ (fun _ h9 => h9) hK hZ hA hB (c_X4_readWord l g P σ 1 (by decide) H.size hc_3) (R_recv hK hB (by decide) (cell_7 rfl) rfl) tw505 tw502 tw504 pw6 tw4 ⟨by decide, by decide, by decide⟩ rfl rfl ⟨Nat.le_of_ble_eq_true rfl, Nat.le_of_ble_eq_true rfl⟩ rfl hl.1 rfl (Nat.le_of_ble_eq_true rfl) dX4_readLaw_8 ⟨Nat.le_of_ble_eq_true rfl, Nat.le_of_ble_eq_true rfl⟩) hB hA rfl (fun H locs hB => ?_)
  refine lv_if_ne (tgt := 16) hx hb dX4_readLaw_11 (by decide) (fun c_4 => ?_) (fun c_4 => ?_)
  · replace h := itn h c_4
    refine lv_aload_n hx hb dX4_readLaw_16 rfl (lv_at hl 1 rfl) ?_
    refine R_get (v := .ref (gL g 2)) hx hb ht ui_X4 hown hK hB (by decide) (cell_7 rfl) rfl 0 (by decide) (ht _ tw109) (fun _ h9 => h9) rfl dX4_readLaw_17 ?_
    replace h := b2_eq h; obtain ⟨r_5, s_6, hc_7, h⟩ := h
    refine R_call (rest := []) [.int r_5] (R_runV (n := 0) (As := []) ⟨hx, hb, hml, hown, ht⟩ (fun _ h9 => h9) hK hZ hA hB (c_X7_lawsFull l g P s_2 2 rfl H.size hc_7) (R_recv hK hB (by decide) (cell_1 rfl) rfl) tw360 tw574 tw358 tw359 tw2 ⟨by decide, by decide, by decide⟩ rfl rfl ⟨Nat.le_of_ble_eq_true rfl, Nat.le_of_ble_eq_true rfl⟩ rfl hl.1 rfl (Nat.le_of_ble_eq_true rfl) dX4_readLaw_20 ⟨Nat.le_of_ble_eq_true rfl, Nat.le_of_ble_eq_true rfl⟩) hB hA rfl (fun H locs hB => ?_)
    refine lv_if_eq (tgt := 32) hx hb dX4_readLaw_23 (by decide) (fun c_8 => ?_) (fun c_8 => ?_)
    · replace h := itp h c_8
      refine lv_aload_n hx hb dX4_readLaw_32 rfl (lv_at hl 1 rfl) ?_
      refine lv_iconst (v := 0) hx hb dX4_readLaw_33 (by decide) ?_
      refine lv_bipush (v := 6) hx hb dX4_readLaw_34 (by decide) ?_
      replace h := b2_eq h; obtain ⟨r_9, s_10, hc_11, h⟩ := h
      refine R_call (rest := []) [.int r_9] (R_runV (n := 2) (As := [.int (0 : Int32), .int (6 : Int32)]) ⟨hx, hb, hml, hown, ht⟩ (fun _ h9 => h9) hK hZ hA hB (c_X4_readNumber l g P s_6 (0 : Int32) (6 : Int32) H.size hc_11) (R_recv hK hB (by decide) (cell_7 rfl) rfl) tw565 tw562 tw564 pw9 tw4 ⟨by decide, by decide, by decide⟩ rfl rfl ⟨Nat.le_of_ble_eq_true rfl, Nat.le_of_ble_eq_true rfl⟩ rfl hl.1 rfl (Nat.le_of_ble_eq_true rfl) dX4_readLaw_36 ⟨Nat.le_of_ble_eq_true rfl, Nat.le_of_ble_eq_true rfl⟩) hB hA rfl (fun H locs hB => ?_)
      refine lv_if_ne (tgt := 44) hx hb dX4_readLaw_39 (by decide) (fun c_12 => ?_) (fun c_12 => ?_)
      · replace h := itn h c_12
        refine lv_aload_n hx hb dX4_readLaw_44 rfl (lv_at hl 1 rfl) ?_
        refine R_get (v := .int (hI s_10 31 3)) hx hb ht ui_X4 hown hK hB (by decide) (cell_7 rfl) rfl 3 (by decide) (ht _ tw113) (fun _ h9 => h9) rfl dX4_readLaw_45 ?_
        refine lv_istore_n (lv' := [(2, .int (hI s_10 31 3)), (1, .int (hI σ 31 2)), (0, .ref (gL g 31))]) hx hb dX4_readLaw_48 rfl hl (by decide) rfl (fun ls hl => ?_)
        refine lv_aload_n hx hb dX4_readLaw_49 rfl (lv_at hl 2 rfl) ?_
        refine lv_iconst (v := 0) hx hb dX4_readLaw_50 (by decide) ?_
        refine lv_bipush (v := 9) hx hb dX4_readLaw_51 (by decide) ?_
        replace h := b2_eq h; obtain ⟨r_13, s_14, hc_15, h⟩ := h
        refine R_call (rest := []) [.int r_13] (R_runV (n := 2) (As := [.int (0 : Int32), .int (9 : Int32)]) ⟨hx, hb, hml, hown, ht⟩ (fun _ h9 => h9) hK hZ hA hB (c_X4_readNumber l g P s_10 (0 : Int32) (9 : Int32) H.size hc_15) (R_recv hK hB (by decide) (cell_7 rfl) rfl) tw565 tw562 tw564 pw9 tw4 ⟨by decide, by decide, by decide⟩ rfl rfl ⟨Nat.le_of_ble_eq_true rfl, Nat.le_of_ble_eq_true rfl⟩ rfl hl.1 rfl (Nat.le_of_ble_eq_true rfl) dX4_readLaw_53 ⟨Nat.le_of_ble_eq_true rfl, Nat.le_of_ble_eq_true rfl⟩) hB hA rfl (fun H locs hB => ?_)
        refine lv_if_ne (tgt := 61) hx hb dX4_readLaw_56 (by decide) (fun c_16 => ?_) (fun c_16 => ?_)
        · replace h := itn h c_16
          refine lv_aload_n hx hb dX4_readLaw_61 rfl (lv_at hl 2 rfl) ?_
          refine R_get (v := .ref (gL g 2)) hx hb ht ui_X4 hown hK hB (by decide) (cell_7 rfl) rfl 0 (by decide) (ht _ tw109) (fun _ h9 => h9) rfl dX4_readLaw_62 ?_
          refine lv_iload_n hx hb dX4_readLaw_65 rfl (lv_at hl 0 rfl) ?_
          refine lv_aload_n hx hb dX4_readLaw_66 rfl (lv_at hl 2 rfl) ?_
          refine R_get (v := .int (hI s_14 31 3)) hx hb ht ui_X4 hown hK hB (by decide) (cell_7 rfl) rfl 3 (by decide) (ht _ tw113) (fun _ h9 => h9) rfl dX4_readLaw_67 ?_
          replace h := b2_eq h; obtain ⟨r_17, s_18, hc_19, h⟩ := h
          refine R_callN (rest := []) [.int r_17] (R_runV (n := 2) (As := [.int (hI s_10 31 3), .int (hI s_14 31 3)]) ⟨hx, hb, hml, hown, ht⟩ (fun _ h9 => h9) hK hZ hA hB (c_X7_addLaw l g P s_14 2 (hI s_10 31 3) (hI s_14 31 3) rfl H.size hc_19) (R_recv hK hB (by decide) (cell_1 rfl) rfl) tw364 tw575 tw362 tw363 tw2 ⟨by decide, by decide, by decide⟩ rfl rfl ⟨Nat.le_of_ble_eq_true rfl, Nat.le_of_ble_eq_true rfl⟩ rfl hl.1 rfl (Nat.le_of_ble_eq_true rfl) dX4_readLaw_70 ⟨Nat.le_of_ble_eq_true rfl, Nat.le_of_ble_eq_true rfl⟩) hB hA rfl (fun P H locs hB => ?_)
          refine lv_pop hx hb dX4_readLaw_73 rfl ?_
          refine lv_iconst (v := 1) hx hb dX4_readLaw_74 (by decide) ?_
          obtain ⟨rfl, rfl⟩ := Prod.mk.inj (Option.some.inj h)
          exact W.zret hx hb hr rfl (R_endN hB) hB.2.2.2.2 dX4_readLaw_75
        · replace h := itp h c_16
          refine lv_iconst (v := 0) hx hb dX4_readLaw_59 (by decide) ?_
          obtain ⟨rfl, rfl⟩ := Prod.mk.inj (Option.some.inj h)
          refine W.widen (k := 1) (n := 2) (Nat.le_of_ble_eq_true rfl) (Nat.le_of_ble_eq_true rfl) ?_
          exact W.zret hx hb hr rfl (R_endN hB) hB.2.2.2.2 dX4_readLaw_60
      · replace h := itp h c_12
        refine lv_iconst (v := 0) hx hb dX4_readLaw_42 (by decide) ?_
        obtain ⟨rfl, rfl⟩ := Prod.mk.inj (Option.some.inj h)
        refine W.widen (k := 1) (n := 2) (Nat.le_of_ble_eq_true rfl) (Nat.le_of_ble_eq_true rfl) ?_
        exact W.zret hx hb hr rfl (R_endN hB) hB.2.2.2.2 dX4_readLaw_43
    · replace h := itn h c_8
      refine lv_aload_n hx hb dX4_readLaw_26 rfl (lv_at hl 1 rfl) ?_
      refine lv_iload_n hx hb dX4_readLaw_27 rfl (lv_at hl 0 rfl) ?_
      replace h := b2_eq h; obtain ⟨r_20, s_21, hc_22, h⟩ := h
      refine R_call (rest := []) [.int r_20] (R_runV (n := 1) (As := [.int (hI σ 31 2)]) ⟨hx, hb, hml, hown, ht⟩ (fun _ h9 => h9) hK hZ hA hB (c_X4_failAt l g P s_6 (hI σ 31 2) H.size hc_22) (R_recv hK hB (by decide) (cell_7 rfl) rfl) tw561 tw558 tw560 pw8 tw4 ⟨by decide, by decide, by decide⟩ rfl rfl ⟨Nat.le_of_ble_eq_true rfl, Nat.le_of_ble_eq_true rfl⟩ rfl hl.1 rfl (Nat.le_of_ble_eq_true rfl) dX4_readLaw_28 ⟨Nat.le_of_ble_eq_true rfl, Nat.le_of_ble_eq_true rfl⟩) hB hA rfl (fun H locs hB => ?_)
      replace h := ck_eq h; obtain ⟨q_23, h⟩ := h
      obtain ⟨rfl, rfl⟩ := Prod.mk.inj (Option.some.inj h)
      refine W.widen (k := 1) (n := 2) (Nat.le_of_ble_eq_true rfl) (Nat.le_of_ble_eq_true rfl) ?_
      exact W.zret hx hb hr (isB_eq q_23) (R_endN hB) hB.2.2.2.2 dX4_readLaw_31
  · replace h := itp h c_4
    refine lv_iconst (v := 0) hx hb dX4_readLaw_14 (by decide) ?_
    obtain ⟨rfl, rfl⟩ := Prod.mk.inj (Option.some.inj h)
    refine W.widen (k := 1) (n := 2) (Nat.le_of_ble_eq_true rfl) (Nat.le_of_ble_eq_true rfl) ?_
    exact W.zret hx hb hr rfl (R_endN hB) hB.2.2.2.2 dX4_readLaw_15
def f_X4_readItem (σ : Hp) : Option (Int32 × Hp) := nn (hR σ 31 1) (fun y_1 => ck (ky y_1 = 6) (b2 (f_X5_letterAt y_1 (hI σ 31 2) σ) (fun r_4 s_5 => if r_4 = 98 then b2 (f_X4_readBase s_5) (fun r_8 s_9 => ck (isB r_8 = true) (some (r_8, s_9))) else (if r_4 = 103 then b2 (f_X4_readGo s_5) (fun r_13 s_14 => ck (isB r_13 = true) (some (r_13, s_14))) else (if r_4 = 108 then b2 (f_X4_readLaw s_5) (fun r_18 s_19 => ck (isB r_18 = true) (some (r_18, s_19))) else (if r_4 = 118 then b2 (f_X4_readValue s_5) (fun r_23 s_24 => ck (isB r_23 = true) (some (r_23, s_24))) else (if r_4 = 119 then b2 (f_X4_readWrite s_5) (fun r_28 s_29 => ck (isB r_28 = true) (some (r_28, s_29))) else (b2 (f_X4_failAt (hI s_5 31 2) s_5) (fun r_32 s_33 => ck (isB r_32 = true) (some (r_32, s_33)))))))))))
set_option maxHeartbeats 4000000 in
set_option maxRecDepth 100000 in
theorem c_X4_readItem (l : Launch) (g : tG) (P : Nat → Nat) (σ : Hp) (sz : Nat) {r : Int32} {τ : Hp} (h : f_X4_readItem σ = some (r, τ)) : Met l yX4_readItem (Cond.code yX4_readItem cX4_readItem 1 (some .boolean) :: tblG) ({ frames := 7, cells := 1, slots := 2, locals := 153 }) (va_Pc [.ref (gL g 31)] (tPre g P σ sz)) (tQ (some (.int r)) (tPN g τ (va_A (wC g P σ) sz)) (va_A (wC g P σ) sz)) 1 2 (va_A (wC g P σ) sz) := by
  refine T_startQ (Qf := fun A => tQ (some (.int r)) (tPN g τ A) A) (by decide) (Nat.le_of_ble_eq_true rfl) ?_
  intro p e s m args below meth c ls0 A hx hb hml hr hown hlocks ht hnm hK hZ hA hB0 hl0
  suffices hmain : ∀ (H : Heap) (locs : List Loc) (ls : Array Slot), tB g P σ A s.heap H locs → lv_has ls 1 [(0, .ref (gL g 31))] → WN p l e { frames := 7, cells := 1, slots := 2, locals := 153 } s m args below meth c g A (some (.int r)) τ 1 2 H locs 0 0 (F0 m 0 ls []) from hmain _ _ ls0 hB0 hl0
  intro H locs ls hB hl
  unfold f_X4_readItem at h
  refine lv_aload_n hx hb dX4_readItem_0 rfl (lv_at hl 0 rfl) ?_
  refine R_get (v := va_rf (Option.map (gL g) (hR σ 31 1))) hx hb ht ui_X4 hown hK hB (by decide) (cell_7 rfl) rfl 1 (by decide) (ht _ tw111) (fun _ h9 => h9) rfl dX4_readItem_1 ?_
  replace h := nn_eq h; obtain ⟨y_1, hy_2, h⟩ := h
  replace h := ck_eq h; obtain ⟨q_3, h⟩ := h
  refine W.stk (v' := .ref (gL g y_1)) (by rw [hy_2]; rfl) ?_
  refine lv_aload_n hx hb dX4_readItem_4 rfl (lv_at hl 0 rfl) ?_
  refine R_get (v := .int (hI σ 31 2)) hx hb ht ui_X4 hown hK hB (by decide) (cell_7 rfl) rfl 2 (by decide) (ht _ tw112) (fun _ h9 => h9) rfl dX4_readItem_5 ?_
  replace h := b2_eq h; obtain ⟨r_4, s_5, hc_6, h⟩ := h
  refine R_call (rest := []) [.int r_4] (R_runV (n := 1) (As := [.int (hI σ 31 2)]) ⟨hx, hb, hml, hown, ht⟩ (fun _ h9 => h9) hK hZ hA hB (c_X5_letterAt l g P σ y_1 (hI σ 31 2) q_3 H.size hc_6) (R_recv hK hB (ky_in _ (by rw [q_3]; decide)) (cell_6 q_3) rfl) tw495 tw492 tw493 tw494 tw3 ⟨by decide, by decide, by decide⟩ rfl rfl ⟨Nat.le_of_ble_eq_true rfl, Nat.le_of_ble_eq_true rfl⟩ rfl hl.1 rfl (Nat.le_of_ble_eq_true rfl) dX4_readItem_8 ⟨Nat.le_of_ble_eq_true rfl, Nat.le_of_ble_eq_true rfl⟩) hB hA rfl (fun H locs hB => ?_)
  by_cases c_7 : r_4 = 98
  · replace h := itp h c_7
    refine lv_lookup (tgt := 60) hx hb dX4_readItem_11 (by decide) (by first | (rw [c_7]; done) | (rw [c_7]; rfl)) (by decide) ?_
    refine lv_aload_n hx hb dX4_readItem_60 rfl (lv_at hl 0 rfl) ?_
    replace h := b2_eq h; obtain ⟨r_8, s_9, hc_10, h⟩ := h
    refine R_call (rest := []) [.int r_8] (R_runV (n := 0) (As := []) ⟨hx, hb, hml, hown, ht⟩ (fun _ h9 => h9) hK hZ hA hB (c_X4_readBase l g P s_5 H.size hc_10) (R_recv hK hB (by decide) (cell_7 rfl) rfl) tw500 tw497 tw499 pw5 tw4 ⟨by decide, by decide, by decide⟩ rfl rfl ⟨Nat.le_of_ble_eq_true rfl, Nat.le_of_ble_eq_true rfl⟩ rfl hl.1 rfl (Nat.le_of_ble_eq_true rfl) dX4_readItem_61 ⟨Nat.le_of_ble_eq_true rfl, Nat.le_of_ble_eq_true rfl⟩) hB hA rfl (fun H locs hB => ?_)
    replace h := ck_eq h; obtain ⟨q_11, h⟩ := h
    obtain ⟨rfl, rfl⟩ := Prod.mk.inj (Option.some.inj h)
    refine W.widen (k := 1) (n := 2) (Nat.le_of_ble_eq_true rfl) (Nat.le_of_ble_eq_true rfl) ?_
    exact W.zret hx hb hr (isB_eq q_11) (R_endN hB) hB.2.2.2.2 dX4_readItem_64
  · replace h := itn h c_7
    by_cases c_12 : r_4 = 103
    · replace h := itp h c_12
      refine lv_lookup (tgt := 80) hx hb dX4_readItem_11 (by decide) (by first | (rw [c_12]; done) | (rw [c_12]; rfl)) (by decide) ?_
      refine lv_aload_n hx hb dX4_readItem_80 rfl (lv_at hl 0 rfl) ?_
      replace h := b2_eq h; obtain ⟨r_13, s_14, hc_15, h⟩ := h
      refine R_call (rest := []) [.int r_13] (R_runV (n := 0) (As := []) ⟨hx, hb, hml, hown, ht⟩ (fun _ h9 => h9) hK hZ hA hB (c_X4_readGo l g P s_5 H.size hc_15) (R_recv hK hB (by decide) (cell_7 rfl) rfl) tw601 tw598 tw600 pw13 tw4 ⟨by decide, by decide, by decide⟩ rfl rfl ⟨Nat.le_of_ble_eq_true rfl, Nat.le_of_ble_eq_true rfl⟩ rfl hl.1 rfl (Nat.le_of_ble_eq_true rfl) dX4_readItem_81 ⟨Nat.le_of_ble_eq_true rfl, Nat.le_of_ble_eq_true rfl⟩) hB hA rfl (fun H locs hB => ?_)
      replace h := ck_eq h; obtain ⟨q_16, h⟩ := h
      obtain ⟨rfl, rfl⟩ := Prod.mk.inj (Option.some.inj h)
      refine W.widen (k := 1) (n := 2) (Nat.le_of_ble_eq_true rfl) (Nat.le_of_ble_eq_true rfl) ?_
      exact W.zret hx hb hr (isB_eq q_16) (R_endN hB) hB.2.2.2.2 dX4_readItem_84
    · replace h := itn h c_12
      by_cases c_17 : r_4 = 108
      · replace h := itp h c_17
        refine lv_lookup (tgt := 65) hx hb dX4_readItem_11 (by decide) (by first | (rw [c_17]; done) | (rw [c_17]; rfl)) (by decide) ?_
        refine lv_aload_n hx hb dX4_readItem_65 rfl (lv_at hl 0 rfl) ?_
        replace h := b2_eq h; obtain ⟨r_18, s_19, hc_20, h⟩ := h
        refine R_callN (rest := []) [.int r_18] (R_runV (n := 0) (As := []) ⟨hx, hb, hml, hown, ht⟩ (fun _ h9 => h9) hK hZ hA hB (c_X4_readLaw l g P s_5 H.size hc_20) (R_recv hK hB (by decide) (cell_7 rfl) rfl) tw572 tw569 tw571 pw10 tw4 ⟨by decide, by decide, by decide⟩ rfl rfl ⟨Nat.le_of_ble_eq_true rfl, Nat.le_of_ble_eq_true rfl⟩ rfl hl.1 rfl (Nat.le_of_ble_eq_true rfl) dX4_readItem_66 ⟨Nat.le_of_ble_eq_true rfl, Nat.le_of_ble_eq_true rfl⟩) hB hA rfl (fun P H locs hB => ?_)
        replace h := ck_eq h; obtain ⟨q_21, h⟩ := h
        obtain ⟨rfl, rfl⟩ := Prod.mk.inj (Option.some.inj h)
        exact W.zret hx hb hr (isB_eq q_21) (R_endN hB) hB.2.2.2.2 dX4_readItem_69
      · replace h := itn h c_17
        by_cases c_22 : r_4 = 118
        · replace h := itp h c_22
          refine lv_lookup (tgt := 70) hx hb dX4_readItem_11 (by decide) (by first | (rw [c_22]; done) | (rw [c_22]; rfl)) (by decide) ?_
          refine lv_aload_n hx hb dX4_readItem_70 rfl (lv_at hl 0 rfl) ?_
          replace h := b2_eq h; obtain ⟨r_23, s_24, hc_25, h⟩ := h
          refine R_call (rest := []) [.int r_23] (R_runV (n := 0) (As := []) ⟨hx, hb, hml, hown, ht⟩ (fun _ h9 => h9) hK hZ hA hB (c_X4_readValue l g P s_5 H.size hc_25) (R_recv hK hB (by decide) (cell_7 rfl) rfl) tw579 tw576 tw578 pw11 tw4 ⟨by decide, by decide, by decide⟩ rfl rfl ⟨Nat.le_of_ble_eq_true rfl, Nat.le_of_ble_eq_true rfl⟩ rfl hl.1 rfl (Nat.le_of_ble_eq_true rfl) dX4_readItem_71 ⟨Nat.le_of_ble_eq_true rfl, Nat.le_of_ble_eq_true rfl⟩) hB hA rfl (fun H locs hB => ?_)
          replace h := ck_eq h; obtain ⟨q_26, h⟩ := h
          obtain ⟨rfl, rfl⟩ := Prod.mk.inj (Option.some.inj h)
          refine W.widen (k := 1) (n := 2) (Nat.le_of_ble_eq_true rfl) (Nat.le_of_ble_eq_true rfl) ?_
          exact W.zret hx hb hr (isB_eq q_26) (R_endN hB) hB.2.2.2.2 dX4_readItem_74
        · replace h := itn h c_22
          by_cases c_27 : r_4 = 119
          · replace h := itp h c_27
            refine lv_lookup (tgt := 75) hx hb dX4_readItem_11 (by decide) (by first | (rw [c_27]; done) | (rw [c_27]; rfl)) (by decide) ?_
            refine lv_aload_n hx hb dX4_readItem_75 rfl (lv_at hl 0 rfl) ?_
            replace h := b2_eq h; obtain ⟨r_28, s_29, hc_30, h⟩ := h
            refine R_call (rest := []) [.int r_28] (R_runV (n := 0) (As := []) ⟨hx, hb, hml, hown, ht⟩ (fun _ h9 => h9) hK hZ hA hB (c_X4_readWrite l g P s_5 H.size hc_30) (R_recv hK hB (by decide) (cell_7 rfl) rfl) tw587 tw584 tw586 pw12 tw4 ⟨by decide, by decide, by decide⟩ rfl rfl ⟨Nat.le_of_ble_eq_true rfl, Nat.le_of_ble_eq_true rfl⟩ rfl hl.1 rfl (Nat.le_of_ble_eq_true rfl) dX4_readItem_76 ⟨Nat.le_of_ble_eq_true rfl, Nat.le_of_ble_eq_true rfl⟩) hB hA rfl (fun H locs hB => ?_)
            replace h := ck_eq h; obtain ⟨q_31, h⟩ := h
            obtain ⟨rfl, rfl⟩ := Prod.mk.inj (Option.some.inj h)
            refine W.widen (k := 1) (n := 2) (Nat.le_of_ble_eq_true rfl) (Nat.le_of_ble_eq_true rfl) ?_
            exact W.zret hx hb hr (isB_eq q_31) (R_endN hB) hB.2.2.2.2 dX4_readItem_79
          · replace h := itn h c_27
            refine lv_lookup (tgt := 85) hx hb dX4_readItem_11 (by decide) (lk_def _ _ (by intro q hq; simp only [List.mem_cons, List.not_mem_nil, or_false] at hq; rcases hq with rfl | rfl | rfl | rfl | rfl <;> first | exact ti_ne c_7 | exact ti_ne c_12 | exact ti_ne c_17 | exact ti_ne c_22 | exact ti_ne c_27)) (by decide) ?_
            refine lv_aload_n hx hb dX4_readItem_85 rfl (lv_at hl 0 rfl) ?_
            refine lv_aload_n hx hb dX4_readItem_86 rfl (lv_at hl 0 rfl) ?_
            refine R_get (v := .int (hI s_5 31 2)) hx hb ht ui_X4 hown hK hB (by decide) (cell_7 rfl) rfl 2 (by decide) (ht _ tw112) (fun _ h9 => h9) rfl dX4_readItem_87 ?_
            replace h := b2_eq h; obtain ⟨r_32, s_33, hc_34, h⟩ := h
            refine R_call (rest := []) [.int r_32] (R_runV (n := 1) (As := [.int (hI s_5 31 2)]) ⟨hx, hb, hml, hown, ht⟩ (fun _ h9 => h9) hK hZ hA hB (c_X4_failAt l g P s_5 (hI s_5 31 2) H.size hc_34) (R_recv hK hB (by decide) (cell_7 rfl) rfl) tw561 tw558 tw560 pw8 tw4 ⟨by decide, by decide, by decide⟩ rfl rfl ⟨Nat.le_of_ble_eq_true rfl, Nat.le_of_ble_eq_true rfl⟩ rfl hl.1 rfl (Nat.le_of_ble_eq_true rfl) dX4_readItem_90 ⟨Nat.le_of_ble_eq_true rfl, Nat.le_of_ble_eq_true rfl⟩) hB hA rfl (fun H locs hB => ?_)
            replace h := ck_eq h; obtain ⟨q_35, h⟩ := h
            obtain ⟨rfl, rfl⟩ := Prod.mk.inj (Option.some.inj h)
            refine W.widen (k := 1) (n := 2) (Nat.le_of_ble_eq_true rfl) (Nat.le_of_ble_eq_true rfl) ?_
            exact W.zret hx hb hr (isB_eq q_35) (R_endN hB) hB.2.2.2.2 dX4_readItem_93
def f_X4_read_t25 (x3 : Int32) (σ1 : Hp) : Option ((Int32 × Hp) ⊕ (Int32 × Hp)) := if (160 : Int32) < x3 then ex (some (x3, σ1)) else b2 (f_X4_readItem σ1) (fun r_5 s_6 => if r_5 = 0 then ex (some (x3, s_6)) else nn (hR s_6 31 1) (fun y_9 => ck (ky y_9 = 6) (if (hI s_6 y_9 2) ≤ (hI s_6 31 2) then ex (some ((x3 + 1), s_6)) else b2 (f_X4_readSign (59 : Int32) s_6) (fun r_13 s_14 => if r_13 = 0 then ex (some ((x3 + 1), s_14)) else some (.inl ((x3 + 1), s_14))))))
def f_X4_read_s25 (v : (Int32 × Hp)) : Option ((Int32 × Hp) ⊕ (Int32 × Hp)) := f_X4_read_t25 v.1 v.2
def f_X4_read (k1 : Nat) (k2 : Nat) (σ : Hp) : Option (Int32 × Hp) := b2 (f_X7_takeOver 2 k2 σ) (fun r_1 s_2 => iter (f_X4_read_s25) fuel ((0 : Int32), (sI (sI (sR s_2 31 1 (some k1)) 31 2 (0 : Int32)) 31 5 (-1 : Int32))))
set_option maxHeartbeats 4000000 in
set_option maxRecDepth 100000 in
theorem c_X4_read (l : Launch) (g : tG) (P : Nat → Nat) (σ : Hp) (k1 : Nat) (k2 : Nat) (hk_k1 : ky k1 = 6) (hk_k2 : ky k2 = 1) (sz : Nat) {r : Int32} {τ : Hp} (h : f_X4_read k1 k2 σ = some (r, τ)) : Met l yX4_read (Cond.code yX4_read cX4_read 4 (some .int) :: tblG) ({ frames := 8, cells := 161, slots := 322, locals := 173 }) (va_Pc [.ref (gL g 31), .ref (gL g k1), .ref (gL g k2)] (tPre g P σ sz)) (tQ (some (.int r)) (tPN g τ (va_A (wC g P σ) sz)) (va_A (wC g P σ) sz)) 161 322 (va_A (wC g P σ) sz) := by
  refine T_startQ (Qf := fun A => tQ (some (.int r)) (tPN g τ A) A) (by decide) (Nat.le_of_ble_eq_true rfl) ?_
  intro p e s m args below meth c ls0 A hx hb hml hr hown hlocks ht hnm hK hZ hA hB0 hl0
  have hL_25 : ∀ (n : Nat) (P : Nat → Nat) (x3 : Int32) (σ1 : Hp) (hrd : rd_I x3) (H : Heap) (locs : List Loc) (ls : Array Slot), iter (f_X4_read_s25) n (x3, σ1) = some (r, τ) → tB g P σ1 A s.heap H locs → lv_has ls 4 [(0, .ref (gL g 31)), (3, .int x3)] → WN p l e { frames := 8, cells := 161, slots := 322, locals := 173 } s m args below meth c g A (some (.int r)) τ 161 322 H locs x3.toNatClampNeg (2 * x3.toNatClampNeg) (F0 m 25 ls []) := by
    intro n
    induction n with
    | zero =>
      intro P x3 σ1 hrd H locs ls h hB hl
      exact (iter_0 h).elim
    | succ n ih1 =>
      intro P x3 σ1 hrd H locs ls h hB hl
      replace h := iter_eq h; obtain ⟨z1, hh1, hx1⟩ := h
      have h : f_X4_read_t25 x3 σ1 = some z1 := hh1
      clear hh1
      unfold f_X4_read_t25 at h
      refine lv_iload_n hx hb dX4_read_25 rfl (lv_at hl 1 rfl) ?_
      refine lv_sipush (v := 160) hx hb dX4_read_26 (by decide) ?_
      refine lv_icmp_gt (tgt := 67) hx hb dX4_read_29 (by decide) (fun c_4 => ?_) (fun c_4 => ?_)
      · replace h := itp h c_4
        replace h := ex_eq h; obtain ⟨b1, h, hz1⟩ := h
        subst hz1
        have hz1 := (itk_inr hx1).symm
        subst hz1
        refine lv_iload_n hx hb dX4_read_67 rfl (lv_at hl 1 rfl) ?_
        obtain ⟨rfl, rfl⟩ := Prod.mk.inj (Option.some.inj h)
        refine W.widen (k := 161) (n := 322) (rd_a hrd).1 (rd_a hrd).2 ?_
        exact W.iret hx hb hr (R_endN hB) hB.2.2.2.2 dX4_read_68
      · replace h := itn h c_4
        refine lv_aload_n hx hb dX4_read_32 rfl (lv_at hl 0 rfl) ?_
        replace h := b2_eq h; obtain ⟨r_5, s_6, hc_7, h⟩ := h
        refine R_callN (rest := []) [.int r_5] (R_runV (n := 0) (As := []) ⟨hx, hb, hml, hown, ht⟩ (fun _ h9 => h9) hK hZ hA hB (c_X4_readItem l g P σ1 H.size hc_7) (R_recv hK hB (by decide) (cell_7 rfl) rfl) tw491 tw488 tw490 pw4 tw4 ⟨by decide, by decide, by decide⟩ rfl rfl ⟨Nat.le_of_ble_eq_true rfl, Nat.le_of_ble_eq_true rfl⟩ rfl hl.1 rfl (Nat.le_of_ble_eq_true rfl) dX4_read_33 ⟨(rd_b hrd c_4).1, (rd_b hrd c_4).2.1⟩) hB hA rfl (fun P H locs hB => ?_)
        refine lv_if_eq (tgt := 67) hx hb dX4_read_36 (by decide) (fun c_8 => ?_) (fun c_8 => ?_)
        · replace h := itp h c_8
          replace h := ex_eq h; obtain ⟨b1, h, hz1⟩ := h
          subst hz1
          have hz1 := (itk_inr hx1).symm
          subst hz1
          refine lv_iload_n hx hb dX4_read_67 rfl (lv_at hl 1 rfl) ?_
          obtain ⟨rfl, rfl⟩ := Prod.mk.inj (Option.some.inj h)
          refine W.widen (k := 161) (n := 322) (rd_b hrd c_4).1 (rd_b hrd c_4).2.1 ?_
          exact W.iret hx hb hr (R_endN hB) hB.2.2.2.2 dX4_read_68
        · replace h := itn h c_8
          refine lv_iinc (v := x3 + 1) (lv' := [(3, .int (x3 + 1)), (0, .ref (gL g 31))]) hx hb dX4_read_39 hl (k := 1) rfl rfl (by decide) rfl (fun ls hl => ?_)
          refine lv_aload_n hx hb dX4_read_42 rfl (lv_at hl 1 rfl) ?_
          refine R_get (v := .int (hI s_6 31 2)) hx hb ht ui_X4 hown hK hB (by decide) (cell_7 rfl) rfl 2 (by decide) (ht _ tw112) (fun _ h9 => h9) rfl dX4_read_43 ?_
          refine lv_aload_n hx hb dX4_read_46 rfl (lv_at hl 1 rfl) ?_
          refine R_get (v := va_rf (Option.map (gL g) (hR s_6 31 1))) hx hb ht ui_X4 hown hK hB (by decide) (cell_7 rfl) rfl 1 (by decide) (ht _ tw111) (fun _ h9 => h9) rfl dX4_read_47 ?_
          replace h := nn_eq h; obtain ⟨y_9, hy_10, h⟩ := h
          replace h := ck_eq h; obtain ⟨q_11, h⟩ := h
          refine W.stk (v' := .ref (gL g y_9)) (by rw [hy_10]; rfl) ?_
          refine R_get (v := .int (hI s_6 y_9 2)) hx hb ht ui_X5 hown hK hB (ky_in _ (by rw [q_11]; decide)) (cell_6 q_11) rfl 2 (by decide) (ht _ tw88) (fun _ h9 => h9) rfl dX4_read_50 ?_
          refine lv_icmp_ge (tgt := 65) hx hb dX4_read_53 (by decide) (fun c_12 => ?_) (fun c_12 => ?_)
          · replace h := itp h c_12
            replace h := ex_eq h; obtain ⟨b1, h, hz1⟩ := h
            subst hz1
            have hz1 := (itk_inr hx1).symm
            subst hz1
            refine lv_iload_n hx hb dX4_read_65 rfl (lv_at hl 0 rfl) ?_
            obtain ⟨rfl, rfl⟩ := Prod.mk.inj (Option.some.inj h)
            refine W.widen (k := 161) (n := 322) (rd_b hrd c_4).1 (rd_b hrd c_4).2.1 ?_
            exact W.iret hx hb hr (R_endN hB) hB.2.2.2.2 dX4_read_66
          · replace h := itn h c_12
            refine lv_aload_n hx hb dX4_read_56 rfl (lv_at hl 1 rfl) ?_
            refine lv_bipush (v := 59) hx hb dX4_read_57 (by decide) ?_
            replace h := b2_eq h; obtain ⟨r_13, s_14, hc_15, h⟩ := h
            refine R_call (rest := []) [.int r_13] (R_runV (n := 1) (As := [.int (59 : Int32)]) ⟨hx, hb, hml, hown, ht⟩ (fun _ h9 => h9) hK hZ hA hB (c_X4_readSign l g P s_6 (59 : Int32) H.size hc_15) (R_recv hK hB (by decide) (cell_7 rfl) rfl) tw557 tw554 tw556 pw7 tw4 ⟨by decide, by decide, by decide⟩ rfl rfl ⟨Nat.le_of_ble_eq_true rfl, Nat.le_of_ble_eq_true rfl⟩ rfl hl.1 rfl (Nat.le_of_ble_eq_true rfl) dX4_read_59 ⟨(rd_b hrd c_4).1, (rd_b hrd c_4).2.1⟩) hB hA rfl (fun H locs hB => ?_)
            refine lv_if_ne (tgt := 25) hx hb dX4_read_62 (by decide) (fun c_16 => ?_) (fun c_16 => ?_)
            · replace h := itn h c_16
              obtain rfl := Option.some.inj h
              refine W.cs (rd_b hrd c_4).2.2.1 (rd_b hrd c_4).2.2.2.1 ?_
              exact ih1 P (x3 + 1) s_14 (rd_b hrd c_4).2.2.2.2 H locs ls hx1 hB (lv_sub hl [1, 0] rfl)
            · replace h := itp h c_16
              replace h := ex_eq h; obtain ⟨b1, h, hz1⟩ := h
              subst hz1
              have hz1 := (itk_inr hx1).symm
              subst hz1
              refine lv_iload_n hx hb dX4_read_65 rfl (lv_at hl 0 rfl) ?_
              obtain ⟨rfl, rfl⟩ := Prod.mk.inj (Option.some.inj h)
              refine W.widen (k := 161) (n := 322) (rd_b hrd c_4).1 (rd_b hrd c_4).2.1 ?_
              exact W.iret hx hb hr (R_endN hB) hB.2.2.2.2 dX4_read_66
  suffices hmain : ∀ (H : Heap) (locs : List Loc) (ls : Array Slot), tB g P σ A s.heap H locs → lv_has ls 4 [(0, .ref (gL g 31)), (1, .ref (gL g k1)), (2, .ref (gL g k2))] → WN p l e { frames := 8, cells := 161, slots := 322, locals := 173 } s m args below meth c g A (some (.int r)) τ 161 322 H locs 0 0 (F0 m 0 ls []) from hmain _ _ ls0 hB0 hl0
  intro H locs ls hB hl
  unfold f_X4_read at h
  refine lv_aload_n hx hb dX4_read_0 rfl (lv_at hl 0 rfl) ?_
  refine R_get (v := .ref (gL g 2)) hx hb ht ui_X4 hown hK hB (by decide) (cell_7 rfl) rfl 0 (by decide) (ht _ tw109) (fun _ h9 => h9) rfl dX4_read_1 ?_
  refine lv_aload_n hx hb dX4_read_4 rfl (lv_at hl 2 rfl) ?_
  replace h := b2_eq h; obtain ⟨r_1, s_2, hc_3, h⟩ := h
  refine R_call (rest := []) [] (R_runV (n := 1) (As := [.ref (gL g k2)]) ⟨hx, hb, hml, hown, ht⟩ (fun _ h9 => h9) hK hZ hA hB (c_X7_takeOver l g P σ 2 k2 rfl hk_k2 H.size hc_3) (R_recv hK hB (by decide) (cell_1 rfl) rfl) tw487 tw484 tw485 tw486 tw2 ⟨by decide, by decide, by decide⟩ rfl rfl ⟨Nat.le_of_ble_eq_true rfl, Nat.le_of_ble_eq_true rfl⟩ rfl hl.1 rfl (Nat.le_of_ble_eq_true rfl) dX4_read_5 ⟨Nat.le_of_ble_eq_true rfl, Nat.le_of_ble_eq_true rfl⟩) hB hA rfl (fun H locs hB => ?_)
  refine lv_aload_n hx hb dX4_read_8 rfl (lv_at hl 0 rfl) ?_
  refine lv_aload_n hx hb dX4_read_9 rfl (lv_at hl 1 rfl) ?_
  refine R_putR (v := (some k1)) (nm := "TurnedAbout$Shelf") hx hb ht ui_X4 tyX4 tyX4_ok nmX4 hown hK hB (by decide) (cell_7 rfl) rfl 1 (by decide) (ht _ tw111) (fun _ h9 => h9) rfl (by decide +kernel) (Nat.le_of_ble_eq_true rfl) (st7_1R rfl) dX4_read_10 (fun H locs hB => ?_)
  refine lv_aload_n hx hb dX4_read_13 rfl (lv_at hl 0 rfl) ?_
  refine lv_iconst (v := 0) hx hb dX4_read_14 (by decide) ?_
  refine R_putI (v := (0 : Int32)) (ty := .int) hx hb ht ui_X4 tyX4 tyX4_ok nmX4 hown hK hB (by decide) (cell_7 rfl) rfl 2 (by decide) (ht _ tw112) (fun _ h9 => h9) rfl (by decide +kernel) rfl rfl (Nat.le_of_ble_eq_true rfl) (st7_2 rfl) dX4_read_15 (fun H locs hB => ?_)
  refine lv_aload_n hx hb dX4_read_18 rfl (lv_at hl 0 rfl) ?_
  refine lv_iconst (v := -1) hx hb dX4_read_19 (by decide) ?_
  refine R_putI (v := (-1 : Int32)) (ty := .int) hx hb ht ui_X4 tyX4 tyX4_ok nmX4 hown hK hB (by decide) (cell_7 rfl) rfl 5 (by decide) (ht _ tw115) (fun _ h9 => h9) rfl (by decide +kernel) rfl rfl (Nat.le_of_ble_eq_true rfl) (st7_5 rfl) dX4_read_20 (fun H locs hB => ?_)
  refine lv_iconst (v := 0) hx hb dX4_read_23 (by decide) ?_
  refine lv_istore_n (lv' := [(3, .int (0 : Int32)), (0, .ref (gL g 31)), (1, .ref (gL g k1)), (2, .ref (gL g k2))]) hx hb dX4_read_24 rfl hl (by decide) rfl (fun ls hl => ?_)
  refine W.cs (cells' := (0 : Int32).toNatClampNeg) (slots' := 2 * (0 : Int32).toNatClampNeg) (by decide) (by decide) ?_
  exact hL_25 fuel P (0 : Int32) (sI (sI (sR s_2 31 1 (some k1)) 31 2 (0 : Int32)) 31 5 (-1 : Int32)) (by decide) H locs ls h hB (lv_sub hl [1, 0] rfl)
def f_X11_law_b10 (σ1 : Hp) : Option (Int32 × Hp) := b2 (f_X11_refuse (-1 : Int32) σ1) (fun r_2 s_3 => some (r_2, s_3))
def f_X11_law_b26 (σ1 : Hp) : Option (Int32 × Hp) := b2 (f_X11_refuse (-6 : Int32) σ1) (fun r_7 s_8 => some (r_7, s_8))
def f_X11_law (a1 : Int32) (a2 : Int32) (σ : Hp) : Option (Int32 × Hp) := if a1 < 0 then f_X11_law_b10 σ else if a1 ≤ (6 : Int32) then if a2 < 0 then f_X11_law_b26 σ else if a2 ≤ (9 : Int32) then b2 (f_X7_lawsFull 1 σ) (fun r_11 s_12 => if r_11 = 0 then b2 (f_X7_addLaw 1 a1 a2 s_12) (fun r_15 s_16 => some (r_15, s_16)) else b2 (f_X11_refuse (-7 : Int32) s_12) (fun r_18 s_19 => some (r_18, s_19))) else f_X11_law_b26 σ else f_X11_law_b10 σ
set_option maxHeartbeats 4000000 in
set_option maxRecDepth 100000 in
theorem c_X11_law (l : Launch) (g : tG) (P : Nat → Nat) (σ : Hp) (a1 : Int32) (a2 : Int32) (sz : Nat) {r : Int32} {τ : Hp} (h : f_X11_law a1 a2 σ = some (r, τ)) : Met l yX11_law (Cond.code yX11_law cX11_law 3 (some .int) :: tblG) ({ frames := 6, cells := 1, slots := 2, locals := 131 }) (va_Pc [.ref (gL g 0), .int a1, .int a2] (tPre g P σ sz)) (tQ (some (.int r)) (tPN g τ (va_A (wC g P σ) sz)) (va_A (wC g P σ) sz)) 1 2 (va_A (wC g P σ) sz) := by
  refine T_startQ (Qf := fun A => tQ (some (.int r)) (tPN g τ A) A) (by decide) (Nat.le_of_ble_eq_true rfl) ?_
  intro p e s m args below meth c ls0 A hx hb hml hr hown hlocks ht hnm hK hZ hA hB0 hl0
  have hb_10 : ∀ (P : Nat → Nat) (σ1 : Hp) (H : Heap) (locs : List Loc) (ls : Array Slot), f_X11_law_b10 σ1 = some (r, τ) → tB g P σ1 A s.heap H locs → lv_has ls 3 [(0, .ref (gL g 0))] → WN p l e { frames := 6, cells := 1, slots := 2, locals := 131 } s m args below meth c g A (some (.int r)) τ 1 2 H locs 0 0 (F0 m 10 ls []) := by
    intro P σ1 H locs ls h hB hl
    unfold f_X11_law_b10 at h
    refine lv_aload_n hx hb dX11_law_10 rfl (lv_at hl 0 rfl) ?_
    refine lv_iconst (v := -1) hx hb dX11_law_11 (by decide) ?_
    replace h := b2_eq h; obtain ⟨r_2, s_3, hc_4, h⟩ := h
    refine R_call (rest := []) [.int r_2] (R_runV (n := 1) (As := [.int (-1 : Int32)]) ⟨hx, hb, hml, hown, ht⟩ (fun _ h9 => h9) hK hZ hA hB (c_X11_refuse l g P σ1 (-1 : Int32) H.size hc_4) (R_recv hK hB (by decide) (cell_0 rfl) rfl) tw178 tw175 tw177 pw1 tw1 ⟨by decide, by decide, by decide⟩ rfl rfl ⟨Nat.le_of_ble_eq_true rfl, Nat.le_of_ble_eq_true rfl⟩ rfl hl.1 rfl (Nat.le_of_ble_eq_true rfl) dX11_law_12 ⟨Nat.le_of_ble_eq_true rfl, Nat.le_of_ble_eq_true rfl⟩) hB hA rfl (fun H locs hB => ?_)
    obtain ⟨rfl, rfl⟩ := Prod.mk.inj (Option.some.inj h)
    refine W.widen (k := 1) (n := 2) (Nat.le_of_ble_eq_true rfl) (Nat.le_of_ble_eq_true rfl) ?_
    exact W.iret hx hb hr (R_endN hB) hB.2.2.2.2 dX11_law_15
  have hb_26 : ∀ (P : Nat → Nat) (σ1 : Hp) (H : Heap) (locs : List Loc) (ls : Array Slot), f_X11_law_b26 σ1 = some (r, τ) → tB g P σ1 A s.heap H locs → lv_has ls 3 [(0, .ref (gL g 0))] → WN p l e { frames := 6, cells := 1, slots := 2, locals := 131 } s m args below meth c g A (some (.int r)) τ 1 2 H locs 0 0 (F0 m 26 ls []) := by
    intro P σ1 H locs ls h hB hl
    unfold f_X11_law_b26 at h
    refine lv_aload_n hx hb dX11_law_26 rfl (lv_at hl 0 rfl) ?_
    refine lv_bipush (v := -6) hx hb dX11_law_27 (by decide) ?_
    replace h := b2_eq h; obtain ⟨r_7, s_8, hc_9, h⟩ := h
    refine R_call (rest := []) [.int r_7] (R_runV (n := 1) (As := [.int (-6 : Int32)]) ⟨hx, hb, hml, hown, ht⟩ (fun _ h9 => h9) hK hZ hA hB (c_X11_refuse l g P σ1 (-6 : Int32) H.size hc_9) (R_recv hK hB (by decide) (cell_0 rfl) rfl) tw178 tw175 tw177 pw1 tw1 ⟨by decide, by decide, by decide⟩ rfl rfl ⟨Nat.le_of_ble_eq_true rfl, Nat.le_of_ble_eq_true rfl⟩ rfl hl.1 rfl (Nat.le_of_ble_eq_true rfl) dX11_law_29 ⟨Nat.le_of_ble_eq_true rfl, Nat.le_of_ble_eq_true rfl⟩) hB hA rfl (fun H locs hB => ?_)
    obtain ⟨rfl, rfl⟩ := Prod.mk.inj (Option.some.inj h)
    refine W.widen (k := 1) (n := 2) (Nat.le_of_ble_eq_true rfl) (Nat.le_of_ble_eq_true rfl) ?_
    exact W.iret hx hb hr (R_endN hB) hB.2.2.2.2 dX11_law_32
  suffices hmain : ∀ (H : Heap) (locs : List Loc) (ls : Array Slot), tB g P σ A s.heap H locs → lv_has ls 3 [(0, .ref (gL g 0)), (1, .int a1), (2, .int a2)] → WN p l e { frames := 6, cells := 1, slots := 2, locals := 131 } s m args below meth c g A (some (.int r)) τ 1 2 H locs 0 0 (F0 m 0 ls []) from hmain _ _ ls0 hB0 hl0
  intro H locs ls hB hl
  unfold f_X11_law at h
  refine lv_iload_n hx hb dX11_law_0 rfl (lv_at hl 1 rfl) ?_
  refine lv_if_lt (tgt := 10) hx hb dX11_law_1 (by decide) (fun c_1 => ?_) (fun c_1 => ?_)
  · replace h := itp h c_1
    exact hb_10 P σ H locs ls h hB (lv_sub hl [0] rfl)
  · replace h := itn h c_1
    refine lv_iload_n hx hb dX11_law_4 rfl (lv_at hl 1 rfl) ?_
    refine lv_bipush (v := 6) hx hb dX11_law_5 (by decide) ?_
    refine lv_icmp_le (tgt := 16) hx hb dX11_law_7 (by decide) (fun c_5 => ?_) (fun c_5 => ?_)
    · replace h := itp h c_5
      refine lv_iload_n hx hb dX11_law_16 rfl (lv_at hl 2 rfl) ?_
      refine lv_if_lt (tgt := 26) hx hb dX11_law_17 (by decide) (fun c_6 => ?_) (fun c_6 => ?_)
      · replace h := itp h c_6
        exact hb_26 P σ H locs ls h hB (lv_sub hl [0] rfl)
      · replace h := itn h c_6
        refine lv_iload_n hx hb dX11_law_20 rfl (lv_at hl 2 rfl) ?_
        refine lv_bipush (v := 9) hx hb dX11_law_21 (by decide) ?_
        refine lv_icmp_le (tgt := 33) hx hb dX11_law_23 (by decide) (fun c_10 => ?_) (fun c_10 => ?_)
        · replace h := itp h c_10
          refine lv_aload_n hx hb dX11_law_33 rfl (lv_at hl 0 rfl) ?_
          refine R_get (v := .ref (gL g 1)) hx hb ht ui_X11 hown hK hB (by decide) (cell_0 rfl) rfl 0 (by decide) (ht _ tw130) (fun _ h9 => h9) rfl dX11_law_34 ?_
          replace h := b2_eq h; obtain ⟨r_11, s_12, hc_13, h⟩ := h
          refine R_call (rest := []) [.int r_11] (R_runV (n := 0) (As := []) ⟨hx, hb, hml, hown, ht⟩ (fun _ h9 => h9) hK hZ hA hB (c_X7_lawsFull l g P σ 1 rfl H.size hc_13) (R_recv hK hB (by decide) (cell_1 rfl) rfl) tw360 tw357 tw358 tw359 tw2 ⟨by decide, by decide, by decide⟩ rfl rfl ⟨Nat.le_of_ble_eq_true rfl, Nat.le_of_ble_eq_true rfl⟩ rfl hl.1 rfl (Nat.le_of_ble_eq_true rfl) dX11_law_37 ⟨Nat.le_of_ble_eq_true rfl, Nat.le_of_ble_eq_true rfl⟩) hB hA rfl (fun H locs hB => ?_)
          refine lv_if_eq (tgt := 50) hx hb dX11_law_40 (by decide) (fun c_14 => ?_) (fun c_14 => ?_)
          · replace h := itp h c_14
            refine lv_aload_n hx hb dX11_law_50 rfl (lv_at hl 0 rfl) ?_
            refine R_get (v := .ref (gL g 1)) hx hb ht ui_X11 hown hK hB (by decide) (cell_0 rfl) rfl 0 (by decide) (ht _ tw130) (fun _ h9 => h9) rfl dX11_law_51 ?_
            refine lv_iload_n hx hb dX11_law_54 rfl (lv_at hl 1 rfl) ?_
            refine lv_iload_n hx hb dX11_law_55 rfl (lv_at hl 2 rfl) ?_
            replace h := b2_eq h; obtain ⟨r_15, s_16, hc_17, h⟩ := h
            refine R_callN (rest := []) [.int r_15] (R_runV (n := 2) (As := [.int a1, .int a2]) ⟨hx, hb, hml, hown, ht⟩ (fun _ h9 => h9) hK hZ hA hB (c_X7_addLaw l g P s_12 1 a1 a2 rfl H.size hc_17) (R_recv hK hB (by decide) (cell_1 rfl) rfl) tw364 tw361 tw362 tw363 tw2 ⟨by decide, by decide, by decide⟩ rfl rfl ⟨Nat.le_of_ble_eq_true rfl, Nat.le_of_ble_eq_true rfl⟩ rfl hl.1 rfl (Nat.le_of_ble_eq_true rfl) dX11_law_56 ⟨Nat.le_of_ble_eq_true rfl, Nat.le_of_ble_eq_true rfl⟩) hB hA rfl (fun P H locs hB => ?_)
            obtain ⟨rfl, rfl⟩ := Prod.mk.inj (Option.some.inj h)
            exact W.iret hx hb hr (R_endN hB) hB.2.2.2.2 dX11_law_59
          · replace h := itn h c_14
            refine lv_aload_n hx hb dX11_law_43 rfl (lv_at hl 0 rfl) ?_
            refine lv_bipush (v := -7) hx hb dX11_law_44 (by decide) ?_
            replace h := b2_eq h; obtain ⟨r_18, s_19, hc_20, h⟩ := h
            refine R_call (rest := []) [.int r_18] (R_runV (n := 1) (As := [.int (-7 : Int32)]) ⟨hx, hb, hml, hown, ht⟩ (fun _ h9 => h9) hK hZ hA hB (c_X11_refuse l g P s_12 (-7 : Int32) H.size hc_20) (R_recv hK hB (by decide) (cell_0 rfl) rfl) tw178 tw175 tw177 pw1 tw1 ⟨by decide, by decide, by decide⟩ rfl rfl ⟨Nat.le_of_ble_eq_true rfl, Nat.le_of_ble_eq_true rfl⟩ rfl hl.1 rfl (Nat.le_of_ble_eq_true rfl) dX11_law_46 ⟨Nat.le_of_ble_eq_true rfl, Nat.le_of_ble_eq_true rfl⟩) hB hA rfl (fun H locs hB => ?_)
            obtain ⟨rfl, rfl⟩ := Prod.mk.inj (Option.some.inj h)
            refine W.widen (k := 1) (n := 2) (Nat.le_of_ble_eq_true rfl) (Nat.le_of_ble_eq_true rfl) ?_
            exact W.iret hx hb hr (R_endN hB) hB.2.2.2.2 dX11_law_49
        · replace h := itn h c_10
          exact hb_26 P σ H locs ls h hB (lv_sub hl [0] rfl)
    · replace h := itn h c_5
      exact hb_10 P σ H locs ls h hB (lv_sub hl [0] rfl)
def f_X11_text (a1 : Int32) (σ : Hp) : Option (Int32 × Hp) := b2 (f_X11_shelfAt a1 σ) (fun r_1 s_2 => cs r_1 (b2 (f_X11_refuse (-1 : Int32) s_2) (fun r_6 s_7 => some (r_6, s_7))) (fun y_4 => ck (ky y_4 = 6) (b2 (f_X5_refusalOfRow y_4 s_2) (fun r_9 s_10 => if r_9 = 0 then b2 (f_X4_read y_4 1 s_10) (fun r_13 s_14 => if (hI (sI s_14 0 7 (hI s_14 31 5)) 0 7) = (-1 : Int32) then b2 (f_X7_takeOver 1 2 (sI s_14 0 7 (hI s_14 31 5))) (fun r_17 s_18 => some (r_13, s_18)) else b2 (f_X11_refuse (-6 : Int32) (sI s_14 0 7 (hI s_14 31 5))) (fun r_20 s_21 => some (r_20, s_21))) else b2 (f_X11_refuse r_9 s_10) (fun r_23 s_24 => some (r_23, s_24))))))
set_option maxHeartbeats 4000000 in
set_option maxRecDepth 100000 in
theorem c_X11_text (l : Launch) (g : tG) (P : Nat → Nat) (σ : Hp) (a1 : Int32) (sz : Nat) {r : Int32} {τ : Hp} (h : f_X11_text a1 σ = some (r, τ)) : Met l yX11_text (Cond.code yX11_text cX11_text 5 (some .int) :: tblG) ({ frames := 9, cells := 161, slots := 322, locals := 196 }) (va_Pc [.ref (gL g 0), .int a1] (tPre g P σ sz)) (tQ (some (.int r)) (tPN g τ (va_A (wC g P σ) sz)) (va_A (wC g P σ) sz)) 161 322 (va_A (wC g P σ) sz) := by
  refine T_startQ (Qf := fun A => tQ (some (.int r)) (tPN g τ A) A) (by decide) (Nat.le_of_ble_eq_true rfl) ?_
  intro p e s m args below meth c ls0 A hx hb hml hr hown hlocks ht hnm hK hZ hA hB0 hl0
  suffices hmain : ∀ (H : Heap) (locs : List Loc) (ls : Array Slot), tB g P σ A s.heap H locs → lv_has ls 5 [(0, .ref (gL g 0)), (1, .int a1)] → WN p l e { frames := 9, cells := 161, slots := 322, locals := 196 } s m args below meth c g A (some (.int r)) τ 161 322 H locs 0 0 (F0 m 0 ls []) from hmain _ _ ls0 hB0 hl0
  intro H locs ls hB hl
  unfold f_X11_text at h
  refine lv_aload_n hx hb dX11_text_0 rfl (lv_at hl 0 rfl) ?_
  refine lv_iload_n hx hb dX11_text_1 rfl (lv_at hl 1 rfl) ?_
  replace h := b2_eq h; obtain ⟨r_1, s_2, hc_3, h⟩ := h
  refine R_call (rest := []) [va_rf (Option.map (gL g) r_1)] (R_runV (n := 1) (As := [.int a1]) ⟨hx, hb, hml, hown, ht⟩ (fun _ h9 => h9) hK hZ hA hB (c_X11_shelfAt l g P σ a1 H.size hc_3) (R_recv hK hB (by decide) (cell_0 rfl) rfl) tw174 tw171 tw173 pw0 tw1 ⟨by decide, by decide, by decide⟩ rfl rfl ⟨Nat.le_of_ble_eq_true rfl, Nat.le_of_ble_eq_true rfl⟩ rfl hl.1 rfl (Nat.le_of_ble_eq_true rfl) dX11_text_2 ⟨Nat.le_of_ble_eq_true rfl, Nat.le_of_ble_eq_true rfl⟩) hB hA rfl (fun H locs hB => ?_)
  refine lv_astore_nR (lv' := [(2, va_rf (Option.map (gL g) r_1)), (0, .ref (gL g 0)), (1, .int a1)]) hx hb dX11_text_5 rfl hl (by decide) rfl (fun ls hl => ?_)
  refine lv_aload_nR hx hb dX11_text_6 rfl (lv_at hl 0 rfl) ?_
  rcases r_1 with _ | y_4
  · replace h := cs_n h
    have hl : lv_has ls 5 [(2, .null), (0, .ref (gL g 0)), (1, .int a1)] := hl
    refine lv_ifnonnullN hx hb dX11_text_7 ?_
    refine lv_aload_n hx hb dX11_text_10 rfl (lv_at hl 1 rfl) ?_
    refine lv_iconst (v := -1) hx hb dX11_text_11 (by decide) ?_
    replace h := b2_eq h; obtain ⟨r_6, s_7, hc_8, h⟩ := h
    refine R_call (rest := []) [.int r_6] (R_runV (n := 1) (As := [.int (-1 : Int32)]) ⟨hx, hb, hml, hown, ht⟩ (fun _ h9 => h9) hK hZ hA hB (c_X11_refuse l g P s_2 (-1 : Int32) H.size hc_8) (R_recv hK hB (by decide) (cell_0 rfl) rfl) tw178 tw175 tw177 pw1 tw1 ⟨by decide, by decide, by decide⟩ rfl rfl ⟨Nat.le_of_ble_eq_true rfl, Nat.le_of_ble_eq_true rfl⟩ rfl hl.1 rfl (Nat.le_of_ble_eq_true rfl) dX11_text_12 ⟨Nat.le_of_ble_eq_true rfl, Nat.le_of_ble_eq_true rfl⟩) hB hA rfl (fun H locs hB => ?_)
    obtain ⟨rfl, rfl⟩ := Prod.mk.inj (Option.some.inj h)
    refine W.widen (k := 161) (n := 322) (Nat.le_of_ble_eq_true rfl) (Nat.le_of_ble_eq_true rfl) ?_
    exact W.iret hx hb hr (R_endN hB) hB.2.2.2.2 dX11_text_15
  · replace h := cs_s h
    replace h := ck_eq h; obtain ⟨q_5, h⟩ := h
    have hl : lv_has ls 5 [(2, .ref (gL g y_4)), (0, .ref (gL g 0)), (1, .int a1)] := hl
    refine lv_ifnonnull (tgt := 16) hx hb dX11_text_7 (by decide) ?_
    refine lv_aload_n hx hb dX11_text_16 rfl (lv_at hl 0 rfl) ?_
    replace h := b2_eq h; obtain ⟨r_9, s_10, hc_11, h⟩ := h
    refine R_call (rest := []) [.int r_9] (R_runV (n := 0) (As := []) ⟨hx, hb, hml, hown, ht⟩ (fun _ h9 => h9) hK hZ hA hB (c_X5_refusalOfRow l g P s_2 y_4 q_5 H.size hc_11) (R_recv hK hB (ky_in _ (by rw [q_5]; decide)) (cell_6 q_5) rfl) tw193 tw190 tw191 tw192 tw3 ⟨by decide, by decide, by decide⟩ rfl rfl ⟨Nat.le_of_ble_eq_true rfl, Nat.le_of_ble_eq_true rfl⟩ rfl hl.1 rfl (Nat.le_of_ble_eq_true rfl) dX11_text_17 ⟨Nat.le_of_ble_eq_true rfl, Nat.le_of_ble_eq_true rfl⟩) hB hA rfl (fun H locs hB => ?_)
    refine lv_istore_n (lv' := [(3, .int r_9), (2, .ref (gL g y_4)), (0, .ref (gL g 0)), (1, .int a1)]) hx hb dX11_text_20 rfl hl (by decide) rfl (fun ls hl => ?_)
    refine lv_iload_n hx hb dX11_text_21 rfl (lv_at hl 0 rfl) ?_
    refine lv_if_eq (tgt := 31) hx hb dX11_text_22 (by decide) (fun c_12 => ?_) (fun c_12 => ?_)
    · replace h := itp h c_12
      refine lv_aload_n hx hb dX11_text_31 rfl (lv_at hl 2 rfl) ?_
      refine R_get (v := .ref (gL g 31)) hx hb ht ui_X11 hown hK hB (by decide) (cell_0 rfl) rfl 5 (by decide) (ht _ tw135) (fun _ h9 => h9) rfl dX11_text_32 ?_
      refine lv_aload_n hx hb dX11_text_35 rfl (lv_at hl 1 rfl) ?_
      refine lv_aload_n hx hb dX11_text_36 rfl (lv_at hl 2 rfl) ?_
      refine R_get (v := .ref (gL g 1)) hx hb ht ui_X11 hown hK hB (by decide) (cell_0 rfl) rfl 0 (by decide) (ht _ tw130) (fun _ h9 => h9) rfl dX11_text_37 ?_
      replace h := b2_eq h; obtain ⟨r_13, s_14, hc_15, h⟩ := h
      refine R_callN (rest := []) [.int r_13] (R_runV (n := 2) (As := [.ref (gL g y_4), .ref (gL g 1)]) ⟨hx, hb, hml, hown, ht⟩ (fun _ h9 => h9) hK hZ hA hB (c_X4_read l g P s_10 y_4 1 q_5 rfl H.size hc_15) (R_recv hK hB (by decide) (cell_7 rfl) rfl) tw483 tw480 tw481 tw482 tw4 ⟨by decide, by decide, by decide⟩ rfl rfl ⟨Nat.le_of_ble_eq_true rfl, Nat.le_of_ble_eq_true rfl⟩ rfl hl.1 rfl (Nat.le_of_ble_eq_true rfl) dX11_text_40 ⟨Nat.le_of_ble_eq_true rfl, Nat.le_of_ble_eq_true rfl⟩) hB hA rfl (fun P H locs hB => ?_)
      refine lv_istore (lv' := [(4, .int r_13), (3, .int r_9), (2, .ref (gL g y_4)), (0, .ref (gL g 0)), (1, .int a1)]) hx hb dX11_text_43 hl (by decide) rfl (fun ls hl => ?_)
      refine lv_aload_n hx hb dX11_text_45 rfl (lv_at hl 3 rfl) ?_
      refine lv_aload_n hx hb dX11_text_46 rfl (lv_at hl 3 rfl) ?_
      refine R_get (v := .ref (gL g 31)) hx hb ht ui_X11 hown hK hB (by decide) (cell_0 rfl) rfl 5 (by decide) (ht _ tw135) (fun _ h9 => h9) rfl dX11_text_47 ?_
      refine R_get (v := .int (hI s_14 31 5)) hx hb ht ui_X4 hown hK hB (by decide) (cell_7 rfl) rfl 5 (by decide) (ht _ tw116) (fun _ h9 => h9) rfl dX11_text_50 ?_
      refine R_putIk (v := (hI s_14 31 5)) (ty := .int) hx hb ht ui_X11 tyX11 tyX11_ok nmX11 hown hK hB (by decide) (cell_0 rfl) rfl 6 (by decide) (ht _ tw136) (fun _ h9 => h9) rfl (by decide +kernel) rfl rfl (Nat.le_of_ble_eq_true rfl) (st0_6 rfl) dX11_text_53 (fun H locs hB => ?_)
      refine lv_aload_n hx hb dX11_text_56 rfl (lv_at hl 3 rfl) ?_
      refine R_get (v := .int (hI (sI s_14 0 7 (hI s_14 31 5)) 0 7)) hx hb ht ui_X11 hown hK hB (by decide) (cell_0 rfl) rfl 6 (by decide) (ht _ tw136) (fun _ h9 => h9) rfl dX11_text_57 ?_
      refine lv_iconst (v := -1) hx hb dX11_text_60 (by decide) ?_
      refine lv_icmp_eq (tgt := 71) hx hb dX11_text_61 (by decide) (fun c_16 => ?_) (fun c_16 => ?_)
      · replace h := itp h c_16
        refine lv_aload_n hx hb dX11_text_71 rfl (lv_at hl 3 rfl) ?_
        refine R_get (v := .ref (gL g 1)) hx hb ht ui_X11 hown hK hB (by decide) (cell_0 rfl) rfl 0 (by decide) (ht _ tw130) (fun _ h9 => h9) rfl dX11_text_72 ?_
        refine lv_aload_n hx hb dX11_text_75 rfl (lv_at hl 3 rfl) ?_
        refine R_get (v := .ref (gL g 31)) hx hb ht ui_X11 hown hK hB (by decide) (cell_0 rfl) rfl 5 (by decide) (ht _ tw135) (fun _ h9 => h9) rfl dX11_text_76 ?_
        refine R_get (v := .ref (gL g 2)) hx hb ht ui_X4 hown hK hB (by decide) (cell_7 rfl) rfl 0 (by decide) (ht _ tw110) (fun _ h9 => h9) rfl dX11_text_79 ?_
        replace h := b2_eq h; obtain ⟨r_17, s_18, hc_19, h⟩ := h
        refine R_call (rest := []) [] (R_runV (n := 1) (As := [.ref (gL g 2)]) ⟨hx, hb, hml, hown, ht⟩ (fun _ h9 => h9) hK hZ hA hB (c_X7_takeOver l g P (sI s_14 0 7 (hI s_14 31 5)) 1 2 rfl rfl H.size hc_19) (R_recv hK hB (by decide) (cell_1 rfl) rfl) tw487 tw610 tw485 tw486 tw2 ⟨by decide, by decide, by decide⟩ rfl rfl ⟨Nat.le_of_ble_eq_true rfl, Nat.le_of_ble_eq_true rfl⟩ rfl hl.1 rfl (Nat.le_of_ble_eq_true rfl) dX11_text_82 ⟨Nat.le_of_ble_eq_true rfl, Nat.le_of_ble_eq_true rfl⟩) hB hA rfl (fun H locs hB => ?_)
        refine lv_iload hx hb dX11_text_85 (lv_at hl 0 rfl) ?_
        obtain ⟨rfl, rfl⟩ := Prod.mk.inj (Option.some.inj h)
        exact W.iret hx hb hr (R_endN hB) hB.2.2.2.2 dX11_text_87
      · replace h := itn h c_16
        refine lv_aload_n hx hb dX11_text_64 rfl (lv_at hl 3 rfl) ?_
        refine lv_bipush (v := -6) hx hb dX11_text_65 (by decide) ?_
        replace h := b2_eq h; obtain ⟨r_20, s_21, hc_22, h⟩ := h
        refine R_call (rest := []) [.int r_20] (R_runV (n := 1) (As := [.int (-6 : Int32)]) ⟨hx, hb, hml, hown, ht⟩ (fun _ h9 => h9) hK hZ hA hB (c_X11_refuse l g P (sI s_14 0 7 (hI s_14 31 5)) (-6 : Int32) H.size hc_22) (R_recv hK hB (by decide) (cell_0 rfl) rfl) tw178 tw175 tw177 pw1 tw1 ⟨by decide, by decide, by decide⟩ rfl rfl ⟨Nat.le_of_ble_eq_true rfl, Nat.le_of_ble_eq_true rfl⟩ rfl hl.1 rfl (Nat.le_of_ble_eq_true rfl) dX11_text_67 ⟨Nat.le_of_ble_eq_true rfl, Nat.le_of_ble_eq_true rfl⟩) hB hA rfl (fun H locs hB => ?_)
        obtain ⟨rfl, rfl⟩ := Prod.mk.inj (Option.some.inj h)
        exact W.iret hx hb hr (R_endN hB) hB.2.2.2.2 dX11_text_70
    · replace h := itn h c_12
      refine lv_aload_n hx hb dX11_text_25 rfl (lv_at hl 2 rfl) ?_
      refine lv_iload_n hx hb dX11_text_26 rfl (lv_at hl 0 rfl) ?_
      replace h := b2_eq h; obtain ⟨r_23, s_24, hc_25, h⟩ := h
      refine R_call (rest := []) [.int r_23] (R_runV (n := 1) (As := [.int r_9]) ⟨hx, hb, hml, hown, ht⟩ (fun _ h9 => h9) hK hZ hA hB (c_X11_refuse l g P s_10 r_9 H.size hc_25) (R_recv hK hB (by decide) (cell_0 rfl) rfl) tw178 tw175 tw177 pw1 tw1 ⟨by decide, by decide, by decide⟩ rfl rfl ⟨Nat.le_of_ble_eq_true rfl, Nat.le_of_ble_eq_true rfl⟩ rfl hl.1 rfl (Nat.le_of_ble_eq_true rfl) dX11_text_27 ⟨Nat.le_of_ble_eq_true rfl, Nat.le_of_ble_eq_true rfl⟩) hB hA rfl (fun H locs hB => ?_)
      obtain ⟨rfl, rfl⟩ := Prod.mk.inj (Option.some.inj h)
      refine W.widen (k := 161) (n := 322) (Nat.le_of_ble_eq_true rfl) (Nat.le_of_ble_eq_true rfl) ?_
      exact W.iret hx hb hr (R_endN hB) hB.2.2.2.2 dX11_text_30
