def f_X2_kindNumber (j0 : Nat) (σ : Hp) : Option (Int32 × Hp) := some ((0 : Int32), σ)
set_option maxHeartbeats 4000000 in
set_option maxRecDepth 100000 in
theorem c_X2_kindNumber (l : Launch) (g : tG) (P : Nat → Nat) (σ : Hp) (j0 : Nat) (sz : Nat) {r : Int32} {τ : Hp} (h : f_X2_kindNumber j0 σ = some (r, τ)) : Met l yX2_kindNumber (Cond.code yX2_kindNumber cX2_kindNumber 1 (some .int) :: tblG) ({ frames := 0, cells := 0, slots := 0, locals := 0 }) (va_Pc [.ref (P j0)] (tPre g P σ sz)) (tQ (some (.int r)) (tPost g P τ (va_A (wC g P σ) sz)) (va_A (wC g P σ) sz)) 0 0 (va_A (wC g P σ) sz) := by
  refine T_start (B := fun A => tPost g P τ A) (by decide) (Nat.le_of_ble_eq_true rfl) ?_
  intro p e s m args below meth c ls0 A hx hb hml hr hown hlocks ht hnm hK hZ hA hB0 hl0
  suffices hmain : ∀ (H : Heap) (locs : List Loc) (ls : Array Slot), tB g P σ A s.heap H locs → lv_has ls 1 [(0, .ref (P j0))] → WQ p l e { frames := 0, cells := 0, slots := 0, locals := 0 } s m args below meth c g P A (some (.int r)) τ H locs (F0 m 0 ls []) from hmain _ _ ls0 hB0 hl0
  intro H locs ls hB hl
  unfold f_X2_kindNumber at h
  refine lv_iconst (v := 0) hx hb dX2_kindNumber_0 (by decide) ?_
  obtain ⟨rfl, rfl⟩ := Prod.mk.inj (Option.some.inj h)
  exact W.iret hx hb hr (R_end hB) hB.2.2.2.2 dX2_kindNumber_1
def f_X6_kindNumber (j0 : Nat) (σ : Hp) : Option (Int32 × Hp) := some ((2 : Int32), σ)
set_option maxHeartbeats 4000000 in
set_option maxRecDepth 100000 in
theorem c_X6_kindNumber (l : Launch) (g : tG) (P : Nat → Nat) (σ : Hp) (j0 : Nat) (sz : Nat) {r : Int32} {τ : Hp} (h : f_X6_kindNumber j0 σ = some (r, τ)) : Met l yX6_kindNumber (Cond.code yX6_kindNumber cX6_kindNumber 1 (some .int) :: tblG) ({ frames := 0, cells := 0, slots := 0, locals := 0 }) (va_Pc [.ref (P j0)] (tPre g P σ sz)) (tQ (some (.int r)) (tPost g P τ (va_A (wC g P σ) sz)) (va_A (wC g P σ) sz)) 0 0 (va_A (wC g P σ) sz) := by
  refine T_start (B := fun A => tPost g P τ A) (by decide) (Nat.le_of_ble_eq_true rfl) ?_
  intro p e s m args below meth c ls0 A hx hb hml hr hown hlocks ht hnm hK hZ hA hB0 hl0
  suffices hmain : ∀ (H : Heap) (locs : List Loc) (ls : Array Slot), tB g P σ A s.heap H locs → lv_has ls 1 [(0, .ref (P j0))] → WQ p l e { frames := 0, cells := 0, slots := 0, locals := 0 } s m args below meth c g P A (some (.int r)) τ H locs (F0 m 0 ls []) from hmain _ _ ls0 hB0 hl0
  intro H locs ls hB hl
  unfold f_X6_kindNumber at h
  refine lv_iconst (v := 2) hx hb dX6_kindNumber_0 (by decide) ?_
  obtain ⟨rfl, rfl⟩ := Prod.mk.inj (Option.some.inj h)
  exact W.iret hx hb hr (R_end hB) hB.2.2.2.2 dX6_kindNumber_1
def f_X8_kindNumber (j0 : Nat) (σ : Hp) : Option (Int32 × Hp) := some ((1 : Int32), σ)
set_option maxHeartbeats 4000000 in
set_option maxRecDepth 100000 in
theorem c_X8_kindNumber (l : Launch) (g : tG) (P : Nat → Nat) (σ : Hp) (j0 : Nat) (sz : Nat) {r : Int32} {τ : Hp} (h : f_X8_kindNumber j0 σ = some (r, τ)) : Met l yX8_kindNumber (Cond.code yX8_kindNumber cX8_kindNumber 1 (some .int) :: tblG) ({ frames := 0, cells := 0, slots := 0, locals := 0 }) (va_Pc [.ref (P j0)] (tPre g P σ sz)) (tQ (some (.int r)) (tPost g P τ (va_A (wC g P σ) sz)) (va_A (wC g P σ) sz)) 0 0 (va_A (wC g P σ) sz) := by
  refine T_start (B := fun A => tPost g P τ A) (by decide) (Nat.le_of_ble_eq_true rfl) ?_
  intro p e s m args below meth c ls0 A hx hb hml hr hown hlocks ht hnm hK hZ hA hB0 hl0
  suffices hmain : ∀ (H : Heap) (locs : List Loc) (ls : Array Slot), tB g P σ A s.heap H locs → lv_has ls 1 [(0, .ref (P j0))] → WQ p l e { frames := 0, cells := 0, slots := 0, locals := 0 } s m args below meth c g P A (some (.int r)) τ H locs (F0 m 0 ls []) from hmain _ _ ls0 hB0 hl0
  intro H locs ls hB hl
  unfold f_X8_kindNumber at h
  refine lv_iconst (v := 1) hx hb dX8_kindNumber_0 (by decide) ?_
  obtain ⟨rfl, rfl⟩ := Prod.mk.inj (Option.some.inj h)
  exact W.iret hx hb hr (R_end hB) hB.2.2.2.2 dX8_kindNumber_1
def f_X3_kindNumber (j0 : Nat) (σ : Hp) : Option (Int32 × Hp) := some ((3 : Int32), σ)
set_option maxHeartbeats 4000000 in
set_option maxRecDepth 100000 in
theorem c_X3_kindNumber (l : Launch) (g : tG) (P : Nat → Nat) (σ : Hp) (j0 : Nat) (sz : Nat) {r : Int32} {τ : Hp} (h : f_X3_kindNumber j0 σ = some (r, τ)) : Met l yX3_kindNumber (Cond.code yX3_kindNumber cX3_kindNumber 1 (some .int) :: tblG) ({ frames := 0, cells := 0, slots := 0, locals := 0 }) (va_Pc [.ref (P j0)] (tPre g P σ sz)) (tQ (some (.int r)) (tPost g P τ (va_A (wC g P σ) sz)) (va_A (wC g P σ) sz)) 0 0 (va_A (wC g P σ) sz) := by
  refine T_start (B := fun A => tPost g P τ A) (by decide) (Nat.le_of_ble_eq_true rfl) ?_
  intro p e s m args below meth c ls0 A hx hb hml hr hown hlocks ht hnm hK hZ hA hB0 hl0
  suffices hmain : ∀ (H : Heap) (locs : List Loc) (ls : Array Slot), tB g P σ A s.heap H locs → lv_has ls 1 [(0, .ref (P j0))] → WQ p l e { frames := 0, cells := 0, slots := 0, locals := 0 } s m args below meth c g P A (some (.int r)) τ H locs (F0 m 0 ls []) from hmain _ _ ls0 hB0 hl0
  intro H locs ls hB hl
  unfold f_X3_kindNumber at h
  refine lv_iconst (v := 3) hx hb dX3_kindNumber_0 (by decide) ?_
  obtain ⟨rfl, rfl⟩ := Prod.mk.inj (Option.some.inj h)
  exact W.iret hx hb hr (R_end hB) hB.2.2.2.2 dX3_kindNumber_1
def f_X9_kindNumber (j0 : Nat) (σ : Hp) : Option (Int32 × Hp) := some ((4 : Int32), σ)
set_option maxHeartbeats 4000000 in
set_option maxRecDepth 100000 in
theorem c_X9_kindNumber (l : Launch) (g : tG) (P : Nat → Nat) (σ : Hp) (j0 : Nat) (sz : Nat) {r : Int32} {τ : Hp} (h : f_X9_kindNumber j0 σ = some (r, τ)) : Met l yX9_kindNumber (Cond.code yX9_kindNumber cX9_kindNumber 1 (some .int) :: tblG) ({ frames := 0, cells := 0, slots := 0, locals := 0 }) (va_Pc [.ref (P j0)] (tPre g P σ sz)) (tQ (some (.int r)) (tPost g P τ (va_A (wC g P σ) sz)) (va_A (wC g P σ) sz)) 0 0 (va_A (wC g P σ) sz) := by
  refine T_start (B := fun A => tPost g P τ A) (by decide) (Nat.le_of_ble_eq_true rfl) ?_
  intro p e s m args below meth c ls0 A hx hb hml hr hown hlocks ht hnm hK hZ hA hB0 hl0
  suffices hmain : ∀ (H : Heap) (locs : List Loc) (ls : Array Slot), tB g P σ A s.heap H locs → lv_has ls 1 [(0, .ref (P j0))] → WQ p l e { frames := 0, cells := 0, slots := 0, locals := 0 } s m args below meth c g P A (some (.int r)) τ H locs (F0 m 0 ls []) from hmain _ _ ls0 hB0 hl0
  intro H locs ls hB hl
  unfold f_X9_kindNumber at h
  refine lv_iconst (v := 4) hx hb dX9_kindNumber_0 (by decide) ?_
  obtain ⟨rfl, rfl⟩ := Prod.mk.inj (Option.some.inj h)
  exact W.iret hx hb hr (R_end hB) hB.2.2.2.2 dX9_kindNumber_1
def f_X10_kindNumber (j0 : Nat) (σ : Hp) : Option (Int32 × Hp) := some ((5 : Int32), σ)
set_option maxHeartbeats 4000000 in
set_option maxRecDepth 100000 in
theorem c_X10_kindNumber (l : Launch) (g : tG) (P : Nat → Nat) (σ : Hp) (j0 : Nat) (sz : Nat) {r : Int32} {τ : Hp} (h : f_X10_kindNumber j0 σ = some (r, τ)) : Met l yX10_kindNumber (Cond.code yX10_kindNumber cX10_kindNumber 1 (some .int) :: tblG) ({ frames := 0, cells := 0, slots := 0, locals := 0 }) (va_Pc [.ref (P j0)] (tPre g P σ sz)) (tQ (some (.int r)) (tPost g P τ (va_A (wC g P σ) sz)) (va_A (wC g P σ) sz)) 0 0 (va_A (wC g P σ) sz) := by
  refine T_start (B := fun A => tPost g P τ A) (by decide) (Nat.le_of_ble_eq_true rfl) ?_
  intro p e s m args below meth c ls0 A hx hb hml hr hown hlocks ht hnm hK hZ hA hB0 hl0
  suffices hmain : ∀ (H : Heap) (locs : List Loc) (ls : Array Slot), tB g P σ A s.heap H locs → lv_has ls 1 [(0, .ref (P j0))] → WQ p l e { frames := 0, cells := 0, slots := 0, locals := 0 } s m args below meth c g P A (some (.int r)) τ H locs (F0 m 0 ls []) from hmain _ _ ls0 hB0 hl0
  intro H locs ls hB hl
  unfold f_X10_kindNumber at h
  refine lv_iconst (v := 5) hx hb dX10_kindNumber_0 (by decide) ?_
  obtain ⟨rfl, rfl⟩ := Prod.mk.inj (Option.some.inj h)
  exact W.iret hx hb hr (R_end hB) hB.2.2.2.2 dX10_kindNumber_1
def f_X0_kindNumber (j0 : Nat) (σ : Hp) : Option (Int32 × Hp) := some ((6 : Int32), σ)
set_option maxHeartbeats 4000000 in
set_option maxRecDepth 100000 in
theorem c_X0_kindNumber (l : Launch) (g : tG) (P : Nat → Nat) (σ : Hp) (j0 : Nat) (sz : Nat) {r : Int32} {τ : Hp} (h : f_X0_kindNumber j0 σ = some (r, τ)) : Met l yX0_kindNumber (Cond.code yX0_kindNumber cX0_kindNumber 1 (some .int) :: tblG) ({ frames := 0, cells := 0, slots := 0, locals := 0 }) (va_Pc [.ref (P j0)] (tPre g P σ sz)) (tQ (some (.int r)) (tPost g P τ (va_A (wC g P σ) sz)) (va_A (wC g P σ) sz)) 0 0 (va_A (wC g P σ) sz) := by
  refine T_start (B := fun A => tPost g P τ A) (by decide) (Nat.le_of_ble_eq_true rfl) ?_
  intro p e s m args below meth c ls0 A hx hb hml hr hown hlocks ht hnm hK hZ hA hB0 hl0
  suffices hmain : ∀ (H : Heap) (locs : List Loc) (ls : Array Slot), tB g P σ A s.heap H locs → lv_has ls 1 [(0, .ref (P j0))] → WQ p l e { frames := 0, cells := 0, slots := 0, locals := 0 } s m args below meth c g P A (some (.int r)) τ H locs (F0 m 0 ls []) from hmain _ _ ls0 hB0 hl0
  intro H locs ls hB hl
  unfold f_X0_kindNumber at h
  refine lv_bipush (v := 6) hx hb dX0_kindNumber_0 (by decide) ?_
  obtain ⟨rfl, rfl⟩ := Prod.mk.inj (Option.some.inj h)
  exact W.iret hx hb hr (R_end hB) hB.2.2.2.2 dX0_kindNumber_2
def f_X2_isUnder (j0 : Nat) (a1 : Int32) (σ : Hp) : Option (Int32 × Hp) := if a1 = 0 then some ((1 : Int32), σ) else some ((0 : Int32), σ)
set_option maxHeartbeats 4000000 in
set_option maxRecDepth 100000 in
theorem c_X2_isUnder (l : Launch) (g : tG) (P : Nat → Nat) (σ : Hp) (j0 : Nat) (a1 : Int32) (sz : Nat) {r : Int32} {τ : Hp} (h : f_X2_isUnder j0 a1 σ = some (r, τ)) : Met l yX2_isUnder (Cond.code yX2_isUnder cX2_isUnder 2 (some .boolean) :: tblG) ({ frames := 0, cells := 0, slots := 0, locals := 0 }) (va_Pc [.ref (P j0), .int a1] (tPre g P σ sz)) (tQ (some (.int r)) (tPost g P τ (va_A (wC g P σ) sz)) (va_A (wC g P σ) sz)) 0 0 (va_A (wC g P σ) sz) := by
  refine T_start (B := fun A => tPost g P τ A) (by decide) (Nat.le_of_ble_eq_true rfl) ?_
  intro p e s m args below meth c ls0 A hx hb hml hr hown hlocks ht hnm hK hZ hA hB0 hl0
  suffices hmain : ∀ (H : Heap) (locs : List Loc) (ls : Array Slot), tB g P σ A s.heap H locs → lv_has ls 2 [(0, .ref (P j0)), (1, .int a1)] → WQ p l e { frames := 0, cells := 0, slots := 0, locals := 0 } s m args below meth c g P A (some (.int r)) τ H locs (F0 m 0 ls []) from hmain _ _ ls0 hB0 hl0
  intro H locs ls hB hl
  unfold f_X2_isUnder at h
  refine lv_iload_n hx hb dX2_isUnder_0 rfl (lv_at hl 1 rfl) ?_
  refine lv_if_ne (tgt := 8) hx hb dX2_isUnder_1 (by decide) (fun c_1 => ?_) (fun c_1 => ?_)
  · replace h := itn h c_1
    refine lv_iconst (v := 0) hx hb dX2_isUnder_8 (by decide) ?_
    obtain ⟨rfl, rfl⟩ := Prod.mk.inj (Option.some.inj h)
    exact W.zret hx hb hr rfl (R_end hB) hB.2.2.2.2 dX2_isUnder_9
  · replace h := itp h c_1
    refine lv_iconst (v := 1) hx hb dX2_isUnder_4 (by decide) ?_
    refine lv_goto (tgt := 9) hx hb dX2_isUnder_5 (by decide) ?_
    obtain ⟨rfl, rfl⟩ := Prod.mk.inj (Option.some.inj h)
    exact W.zret hx hb hr rfl (R_end hB) hB.2.2.2.2 dX2_isUnder_9
def f_X6_isUnder_b13 (σ1 : Hp) : Option (Int32 × Hp) := some ((1 : Int32), σ1)
def f_X6_isUnder (j0 : Nat) (a1 : Int32) (σ : Hp) : Option (Int32 × Hp) := if a1 = (2 : Int32) then f_X6_isUnder_b13 σ else ck (isLaw σ j0 = true) (b2 (f_X2_isUnder j0 a1 σ) (fun r_2 s_3 => if r_2 = 0 then some ((0 : Int32), s_3) else f_X6_isUnder_b13 s_3))
set_option maxHeartbeats 4000000 in
set_option maxRecDepth 100000 in
theorem c_X6_isUnder (l : Launch) (g : tG) (P : Nat → Nat) (σ : Hp) (j0 : Nat) (a1 : Int32) (sz : Nat) {r : Int32} {τ : Hp} (h : f_X6_isUnder j0 a1 σ = some (r, τ)) : Met l yX6_isUnder (Cond.code yX6_isUnder cX6_isUnder 2 (some .boolean) :: tblG) ({ frames := 1, cells := 0, slots := 0, locals := 21 }) (va_Pc [.ref (P j0), .int a1] (tPre g P σ sz)) (tQ (some (.int r)) (tPost g P τ (va_A (wC g P σ) sz)) (va_A (wC g P σ) sz)) 0 0 (va_A (wC g P σ) sz) := by
  refine T_start (B := fun A => tPost g P τ A) (by decide) (Nat.le_of_ble_eq_true rfl) ?_
  intro p e s m args below meth c ls0 A hx hb hml hr hown hlocks ht hnm hK hZ hA hB0 hl0
  have hb_13 : ∀ (σ1 : Hp) (H : Heap) (locs : List Loc) (ls : Array Slot), f_X6_isUnder_b13 σ1 = some (r, τ) → tB g P σ1 A s.heap H locs → lv_has ls 2 [] → WQ p l e { frames := 1, cells := 0, slots := 0, locals := 21 } s m args below meth c g P A (some (.int r)) τ H locs (F0 m 13 ls []) := by
    intro σ1 H locs ls h hB hl
    unfold f_X6_isUnder_b13 at h
    refine lv_iconst (v := 1) hx hb dX6_isUnder_13 (by decide) ?_
    refine lv_goto (tgt := 18) hx hb dX6_isUnder_14 (by decide) ?_
    obtain ⟨rfl, rfl⟩ := Prod.mk.inj (Option.some.inj h)
    exact W.zret hx hb hr rfl (R_end hB) hB.2.2.2.2 dX6_isUnder_18
  suffices hmain : ∀ (H : Heap) (locs : List Loc) (ls : Array Slot), tB g P σ A s.heap H locs → lv_has ls 2 [(0, .ref (P j0)), (1, .int a1)] → WQ p l e { frames := 1, cells := 0, slots := 0, locals := 21 } s m args below meth c g P A (some (.int r)) τ H locs (F0 m 0 ls []) from hmain _ _ ls0 hB0 hl0
  intro H locs ls hB hl
  unfold f_X6_isUnder at h
  refine lv_iload_n hx hb dX6_isUnder_0 rfl (lv_at hl 1 rfl) ?_
  refine lv_iconst (v := 2) hx hb dX6_isUnder_1 (by decide) ?_
  refine lv_icmp_eq (tgt := 13) hx hb dX6_isUnder_2 (by decide) (fun c_1 => ?_) (fun c_1 => ?_)
  · replace h := itp h c_1
    exact hb_13 σ H locs ls h hB (lv_sub hl [] rfl)
  · replace h := itn h c_1
    refine lv_aload_n hx hb dX6_isUnder_5 rfl (lv_at hl 0 rfl) ?_
    refine lv_iload_n hx hb dX6_isUnder_6 rfl (lv_at hl 1 rfl) ?_
    replace h := ck_eq h; obtain ⟨q_5, h⟩ := h
    replace h := b2_eq h; obtain ⟨r_2, s_3, hc_4, h⟩ := h
    obtain ⟨rc, hrc⟩ := isLaw_cl q_5
    refine R_call (rest := []) [.int r_2] (R_runSU (n := 1) (As := [.int a1]) ⟨hx, hb, hml, hown, ht⟩ (fun _ h9 => h9) hK hZ hA hB (c_X2_isUnder l g P σ j0 a1 H.size hc_4) (isLaw_eq q_5).1 hrc tw275 tw252 tw244 tw253 tw242 tw10 ⟨by decide, by decide⟩ rfl rfl ⟨Nat.le_of_ble_eq_true rfl, Nat.le_of_ble_eq_true rfl⟩ rfl hl.1 rfl (Nat.le_of_ble_eq_true rfl) dX6_isUnder_7 ⟨Nat.zero_le _, Nat.zero_le _⟩) hB hA rfl (fun H locs hB => ?_)
    refine lv_if_eq (tgt := 17) hx hb dX6_isUnder_10 (by decide) (fun c_6 => ?_) (fun c_6 => ?_)
    · replace h := itp h c_6
      refine lv_iconst (v := 0) hx hb dX6_isUnder_17 (by decide) ?_
      obtain ⟨rfl, rfl⟩ := Prod.mk.inj (Option.some.inj h)
      exact W.zret hx hb hr rfl (R_end hB) hB.2.2.2.2 dX6_isUnder_18
    · replace h := itn h c_6
      exact hb_13 s_3 H locs ls h hB (lv_sub hl [] rfl)
def f_X8_isUnder_b13 (σ1 : Hp) : Option (Int32 × Hp) := some ((1 : Int32), σ1)
def f_X8_isUnder (j0 : Nat) (a1 : Int32) (σ : Hp) : Option (Int32 × Hp) := if a1 = (1 : Int32) then f_X8_isUnder_b13 σ else ck (isLaw σ j0 = true) (b2 (f_X2_isUnder j0 a1 σ) (fun r_2 s_3 => if r_2 = 0 then some ((0 : Int32), s_3) else f_X8_isUnder_b13 s_3))
set_option maxHeartbeats 4000000 in
set_option maxRecDepth 100000 in
theorem c_X8_isUnder (l : Launch) (g : tG) (P : Nat → Nat) (σ : Hp) (j0 : Nat) (a1 : Int32) (sz : Nat) {r : Int32} {τ : Hp} (h : f_X8_isUnder j0 a1 σ = some (r, τ)) : Met l yX8_isUnder (Cond.code yX8_isUnder cX8_isUnder 2 (some .boolean) :: tblG) ({ frames := 1, cells := 0, slots := 0, locals := 21 }) (va_Pc [.ref (P j0), .int a1] (tPre g P σ sz)) (tQ (some (.int r)) (tPost g P τ (va_A (wC g P σ) sz)) (va_A (wC g P σ) sz)) 0 0 (va_A (wC g P σ) sz) := by
  refine T_start (B := fun A => tPost g P τ A) (by decide) (Nat.le_of_ble_eq_true rfl) ?_
  intro p e s m args below meth c ls0 A hx hb hml hr hown hlocks ht hnm hK hZ hA hB0 hl0
  have hb_13 : ∀ (σ1 : Hp) (H : Heap) (locs : List Loc) (ls : Array Slot), f_X8_isUnder_b13 σ1 = some (r, τ) → tB g P σ1 A s.heap H locs → lv_has ls 2 [] → WQ p l e { frames := 1, cells := 0, slots := 0, locals := 21 } s m args below meth c g P A (some (.int r)) τ H locs (F0 m 13 ls []) := by
    intro σ1 H locs ls h hB hl
    unfold f_X8_isUnder_b13 at h
    refine lv_iconst (v := 1) hx hb dX8_isUnder_13 (by decide) ?_
    refine lv_goto (tgt := 18) hx hb dX8_isUnder_14 (by decide) ?_
    obtain ⟨rfl, rfl⟩ := Prod.mk.inj (Option.some.inj h)
    exact W.zret hx hb hr rfl (R_end hB) hB.2.2.2.2 dX8_isUnder_18
  suffices hmain : ∀ (H : Heap) (locs : List Loc) (ls : Array Slot), tB g P σ A s.heap H locs → lv_has ls 2 [(0, .ref (P j0)), (1, .int a1)] → WQ p l e { frames := 1, cells := 0, slots := 0, locals := 21 } s m args below meth c g P A (some (.int r)) τ H locs (F0 m 0 ls []) from hmain _ _ ls0 hB0 hl0
  intro H locs ls hB hl
  unfold f_X8_isUnder at h
  refine lv_iload_n hx hb dX8_isUnder_0 rfl (lv_at hl 1 rfl) ?_
  refine lv_iconst (v := 1) hx hb dX8_isUnder_1 (by decide) ?_
  refine lv_icmp_eq (tgt := 13) hx hb dX8_isUnder_2 (by decide) (fun c_1 => ?_) (fun c_1 => ?_)
  · replace h := itp h c_1
    exact hb_13 σ H locs ls h hB (lv_sub hl [] rfl)
  · replace h := itn h c_1
    refine lv_aload_n hx hb dX8_isUnder_5 rfl (lv_at hl 0 rfl) ?_
    refine lv_iload_n hx hb dX8_isUnder_6 rfl (lv_at hl 1 rfl) ?_
    replace h := ck_eq h; obtain ⟨q_5, h⟩ := h
    replace h := b2_eq h; obtain ⟨r_2, s_3, hc_4, h⟩ := h
    obtain ⟨rc, hrc⟩ := isLaw_cl q_5
    refine R_call (rest := []) [.int r_2] (R_runSU (n := 1) (As := [.int a1]) ⟨hx, hb, hml, hown, ht⟩ (fun _ h9 => h9) hK hZ hA hB (c_X2_isUnder l g P σ j0 a1 H.size hc_4) (isLaw_eq q_5).1 hrc tw275 tw261 tw244 tw262 tw242 tw10 ⟨by decide, by decide⟩ rfl rfl ⟨Nat.le_of_ble_eq_true rfl, Nat.le_of_ble_eq_true rfl⟩ rfl hl.1 rfl (Nat.le_of_ble_eq_true rfl) dX8_isUnder_7 ⟨Nat.zero_le _, Nat.zero_le _⟩) hB hA rfl (fun H locs hB => ?_)
    refine lv_if_eq (tgt := 17) hx hb dX8_isUnder_10 (by decide) (fun c_6 => ?_) (fun c_6 => ?_)
    · replace h := itp h c_6
      refine lv_iconst (v := 0) hx hb dX8_isUnder_17 (by decide) ?_
      obtain ⟨rfl, rfl⟩ := Prod.mk.inj (Option.some.inj h)
      exact W.zret hx hb hr rfl (R_end hB) hB.2.2.2.2 dX8_isUnder_18
    · replace h := itn h c_6
      exact hb_13 s_3 H locs ls h hB (lv_sub hl [] rfl)
def f_X3_isUnder_b13 (σ1 : Hp) : Option (Int32 × Hp) := some ((1 : Int32), σ1)
def f_X3_isUnder (j0 : Nat) (a1 : Int32) (σ : Hp) : Option (Int32 × Hp) := if a1 = (3 : Int32) then f_X3_isUnder_b13 σ else ck (isLaw σ j0 = true) (b2 (f_X8_isUnder j0 a1 σ) (fun r_2 s_3 => if r_2 = 0 then some ((0 : Int32), s_3) else f_X3_isUnder_b13 s_3))
set_option maxHeartbeats 4000000 in
set_option maxRecDepth 100000 in
theorem c_X3_isUnder (l : Launch) (g : tG) (P : Nat → Nat) (σ : Hp) (j0 : Nat) (a1 : Int32) (sz : Nat) {r : Int32} {τ : Hp} (h : f_X3_isUnder j0 a1 σ = some (r, τ)) : Met l yX3_isUnder (Cond.code yX3_isUnder cX3_isUnder 2 (some .boolean) :: tblG) ({ frames := 2, cells := 0, slots := 0, locals := 42 }) (va_Pc [.ref (P j0), .int a1] (tPre g P σ sz)) (tQ (some (.int r)) (tPost g P τ (va_A (wC g P σ) sz)) (va_A (wC g P σ) sz)) 0 0 (va_A (wC g P σ) sz) := by
  refine T_start (B := fun A => tPost g P τ A) (by decide) (Nat.le_of_ble_eq_true rfl) ?_
  intro p e s m args below meth c ls0 A hx hb hml hr hown hlocks ht hnm hK hZ hA hB0 hl0
  have hb_13 : ∀ (σ1 : Hp) (H : Heap) (locs : List Loc) (ls : Array Slot), f_X3_isUnder_b13 σ1 = some (r, τ) → tB g P σ1 A s.heap H locs → lv_has ls 2 [] → WQ p l e { frames := 2, cells := 0, slots := 0, locals := 42 } s m args below meth c g P A (some (.int r)) τ H locs (F0 m 13 ls []) := by
    intro σ1 H locs ls h hB hl
    unfold f_X3_isUnder_b13 at h
    refine lv_iconst (v := 1) hx hb dX3_isUnder_13 (by decide) ?_
    refine lv_goto (tgt := 18) hx hb dX3_isUnder_14 (by decide) ?_
    obtain ⟨rfl, rfl⟩ := Prod.mk.inj (Option.some.inj h)
    exact W.zret hx hb hr rfl (R_end hB) hB.2.2.2.2 dX3_isUnder_18
  suffices hmain : ∀ (H : Heap) (locs : List Loc) (ls : Array Slot), tB g P σ A s.heap H locs → lv_has ls 2 [(0, .ref (P j0)), (1, .int a1)] → WQ p l e { frames := 2, cells := 0, slots := 0, locals := 42 } s m args below meth c g P A (some (.int r)) τ H locs (F0 m 0 ls []) from hmain _ _ ls0 hB0 hl0
  intro H locs ls hB hl
  unfold f_X3_isUnder at h
  refine lv_iload_n hx hb dX3_isUnder_0 rfl (lv_at hl 1 rfl) ?_
  refine lv_iconst (v := 3) hx hb dX3_isUnder_1 (by decide) ?_
  refine lv_icmp_eq (tgt := 13) hx hb dX3_isUnder_2 (by decide) (fun c_1 => ?_) (fun c_1 => ?_)
  · replace h := itp h c_1
    exact hb_13 σ H locs ls h hB (lv_sub hl [] rfl)
  · replace h := itn h c_1
    refine lv_aload_n hx hb dX3_isUnder_5 rfl (lv_at hl 0 rfl) ?_
    refine lv_iload_n hx hb dX3_isUnder_6 rfl (lv_at hl 1 rfl) ?_
    replace h := ck_eq h; obtain ⟨q_5, h⟩ := h
    replace h := b2_eq h; obtain ⟨r_2, s_3, hc_4, h⟩ := h
    obtain ⟨rc, hrc⟩ := isLaw_cl q_5
    refine R_call (rest := []) [.int r_2] (R_runSU (n := 1) (As := [.int a1]) ⟨hx, hb, hml, hown, ht⟩ (fun _ h9 => h9) hK hZ hA hB (c_X8_isUnder l g P σ j0 a1 H.size hc_4) (isLaw_eq q_5).1 hrc tw260 tw257 tw1358 tw258 tw259 tw11 ⟨by decide, by decide⟩ rfl rfl ⟨Nat.le_of_ble_eq_true rfl, Nat.le_of_ble_eq_true rfl⟩ rfl hl.1 rfl (Nat.le_of_ble_eq_true rfl) dX3_isUnder_7 ⟨Nat.zero_le _, Nat.zero_le _⟩) hB hA rfl (fun H locs hB => ?_)
    refine lv_if_eq (tgt := 17) hx hb dX3_isUnder_10 (by decide) (fun c_6 => ?_) (fun c_6 => ?_)
    · replace h := itp h c_6
      refine lv_iconst (v := 0) hx hb dX3_isUnder_17 (by decide) ?_
      obtain ⟨rfl, rfl⟩ := Prod.mk.inj (Option.some.inj h)
      exact W.zret hx hb hr rfl (R_end hB) hB.2.2.2.2 dX3_isUnder_18
    · replace h := itn h c_6
      exact hb_13 s_3 H locs ls h hB (lv_sub hl [] rfl)
def f_X9_isUnder_b13 (σ1 : Hp) : Option (Int32 × Hp) := some ((1 : Int32), σ1)
def f_X9_isUnder (j0 : Nat) (a1 : Int32) (σ : Hp) : Option (Int32 × Hp) := if a1 = (4 : Int32) then f_X9_isUnder_b13 σ else ck (isLaw σ j0 = true) (b2 (f_X2_isUnder j0 a1 σ) (fun r_2 s_3 => if r_2 = 0 then some ((0 : Int32), s_3) else f_X9_isUnder_b13 s_3))
set_option maxHeartbeats 4000000 in
set_option maxRecDepth 100000 in
theorem c_X9_isUnder (l : Launch) (g : tG) (P : Nat → Nat) (σ : Hp) (j0 : Nat) (a1 : Int32) (sz : Nat) {r : Int32} {τ : Hp} (h : f_X9_isUnder j0 a1 σ = some (r, τ)) : Met l yX9_isUnder (Cond.code yX9_isUnder cX9_isUnder 2 (some .boolean) :: tblG) ({ frames := 1, cells := 0, slots := 0, locals := 21 }) (va_Pc [.ref (P j0), .int a1] (tPre g P σ sz)) (tQ (some (.int r)) (tPost g P τ (va_A (wC g P σ) sz)) (va_A (wC g P σ) sz)) 0 0 (va_A (wC g P σ) sz) := by
  refine T_start (B := fun A => tPost g P τ A) (by decide) (Nat.le_of_ble_eq_true rfl) ?_
  intro p e s m args below meth c ls0 A hx hb hml hr hown hlocks ht hnm hK hZ hA hB0 hl0
  have hb_13 : ∀ (σ1 : Hp) (H : Heap) (locs : List Loc) (ls : Array Slot), f_X9_isUnder_b13 σ1 = some (r, τ) → tB g P σ1 A s.heap H locs → lv_has ls 2 [] → WQ p l e { frames := 1, cells := 0, slots := 0, locals := 21 } s m args below meth c g P A (some (.int r)) τ H locs (F0 m 13 ls []) := by
    intro σ1 H locs ls h hB hl
    unfold f_X9_isUnder_b13 at h
    refine lv_iconst (v := 1) hx hb dX9_isUnder_13 (by decide) ?_
    refine lv_goto (tgt := 18) hx hb dX9_isUnder_14 (by decide) ?_
    obtain ⟨rfl, rfl⟩ := Prod.mk.inj (Option.some.inj h)
    exact W.zret hx hb hr rfl (R_end hB) hB.2.2.2.2 dX9_isUnder_18
  suffices hmain : ∀ (H : Heap) (locs : List Loc) (ls : Array Slot), tB g P σ A s.heap H locs → lv_has ls 2 [(0, .ref (P j0)), (1, .int a1)] → WQ p l e { frames := 1, cells := 0, slots := 0, locals := 21 } s m args below meth c g P A (some (.int r)) τ H locs (F0 m 0 ls []) from hmain _ _ ls0 hB0 hl0
  intro H locs ls hB hl
  unfold f_X9_isUnder at h
  refine lv_iload_n hx hb dX9_isUnder_0 rfl (lv_at hl 1 rfl) ?_
  refine lv_iconst (v := 4) hx hb dX9_isUnder_1 (by decide) ?_
  refine lv_icmp_eq (tgt := 13) hx hb dX9_isUnder_2 (by decide) (fun c_1 => ?_) (fun c_1 => ?_)
  · replace h := itp h c_1
    exact hb_13 σ H locs ls h hB (lv_sub hl [] rfl)
  · replace h := itn h c_1
    refine lv_aload_n hx hb dX9_isUnder_5 rfl (lv_at hl 0 rfl) ?_
    refine lv_iload_n hx hb dX9_isUnder_6 rfl (lv_at hl 1 rfl) ?_
    replace h := ck_eq h; obtain ⟨q_5, h⟩ := h
    replace h := b2_eq h; obtain ⟨r_2, s_3, hc_4, h⟩ := h
    obtain ⟨rc, hrc⟩ := isLaw_cl q_5
    refine R_call (rest := []) [.int r_2] (R_runSU (n := 1) (As := [.int a1]) ⟨hx, hb, hml, hown, ht⟩ (fun _ h9 => h9) hK hZ hA hB (c_X2_isUnder l g P σ j0 a1 H.size hc_4) (isLaw_eq q_5).1 hrc tw275 tw268 tw244 tw269 tw242 tw10 ⟨by decide, by decide⟩ rfl rfl ⟨Nat.le_of_ble_eq_true rfl, Nat.le_of_ble_eq_true rfl⟩ rfl hl.1 rfl (Nat.le_of_ble_eq_true rfl) dX9_isUnder_7 ⟨Nat.zero_le _, Nat.zero_le _⟩) hB hA rfl (fun H locs hB => ?_)
    refine lv_if_eq (tgt := 17) hx hb dX9_isUnder_10 (by decide) (fun c_6 => ?_) (fun c_6 => ?_)
    · replace h := itp h c_6
      refine lv_iconst (v := 0) hx hb dX9_isUnder_17 (by decide) ?_
      obtain ⟨rfl, rfl⟩ := Prod.mk.inj (Option.some.inj h)
      exact W.zret hx hb hr rfl (R_end hB) hB.2.2.2.2 dX9_isUnder_18
    · replace h := itn h c_6
      exact hb_13 s_3 H locs ls h hB (lv_sub hl [] rfl)
def f_X10_isUnder_b13 (σ1 : Hp) : Option (Int32 × Hp) := some ((1 : Int32), σ1)
def f_X10_isUnder (j0 : Nat) (a1 : Int32) (σ : Hp) : Option (Int32 × Hp) := if a1 = (5 : Int32) then f_X10_isUnder_b13 σ else ck (isLaw σ j0 = true) (b2 (f_X6_isUnder j0 a1 σ) (fun r_2 s_3 => if r_2 = 0 then some ((0 : Int32), s_3) else f_X10_isUnder_b13 s_3))
set_option maxHeartbeats 4000000 in
set_option maxRecDepth 100000 in
theorem c_X10_isUnder (l : Launch) (g : tG) (P : Nat → Nat) (σ : Hp) (j0 : Nat) (a1 : Int32) (sz : Nat) {r : Int32} {τ : Hp} (h : f_X10_isUnder j0 a1 σ = some (r, τ)) : Met l yX10_isUnder (Cond.code yX10_isUnder cX10_isUnder 2 (some .boolean) :: tblG) ({ frames := 2, cells := 0, slots := 0, locals := 42 }) (va_Pc [.ref (P j0), .int a1] (tPre g P σ sz)) (tQ (some (.int r)) (tPost g P τ (va_A (wC g P σ) sz)) (va_A (wC g P σ) sz)) 0 0 (va_A (wC g P σ) sz) := by
  refine T_start (B := fun A => tPost g P τ A) (by decide) (Nat.le_of_ble_eq_true rfl) ?_
  intro p e s m args below meth c ls0 A hx hb hml hr hown hlocks ht hnm hK hZ hA hB0 hl0
  have hb_13 : ∀ (σ1 : Hp) (H : Heap) (locs : List Loc) (ls : Array Slot), f_X10_isUnder_b13 σ1 = some (r, τ) → tB g P σ1 A s.heap H locs → lv_has ls 2 [] → WQ p l e { frames := 2, cells := 0, slots := 0, locals := 42 } s m args below meth c g P A (some (.int r)) τ H locs (F0 m 13 ls []) := by
    intro σ1 H locs ls h hB hl
    unfold f_X10_isUnder_b13 at h
    refine lv_iconst (v := 1) hx hb dX10_isUnder_13 (by decide) ?_
    refine lv_goto (tgt := 18) hx hb dX10_isUnder_14 (by decide) ?_
    obtain ⟨rfl, rfl⟩ := Prod.mk.inj (Option.some.inj h)
    exact W.zret hx hb hr rfl (R_end hB) hB.2.2.2.2 dX10_isUnder_18
  suffices hmain : ∀ (H : Heap) (locs : List Loc) (ls : Array Slot), tB g P σ A s.heap H locs → lv_has ls 2 [(0, .ref (P j0)), (1, .int a1)] → WQ p l e { frames := 2, cells := 0, slots := 0, locals := 42 } s m args below meth c g P A (some (.int r)) τ H locs (F0 m 0 ls []) from hmain _ _ ls0 hB0 hl0
  intro H locs ls hB hl
  unfold f_X10_isUnder at h
  refine lv_iload_n hx hb dX10_isUnder_0 rfl (lv_at hl 1 rfl) ?_
  refine lv_iconst (v := 5) hx hb dX10_isUnder_1 (by decide) ?_
  refine lv_icmp_eq (tgt := 13) hx hb dX10_isUnder_2 (by decide) (fun c_1 => ?_) (fun c_1 => ?_)
  · replace h := itp h c_1
    exact hb_13 σ H locs ls h hB (lv_sub hl [] rfl)
  · replace h := itn h c_1
    refine lv_aload_n hx hb dX10_isUnder_5 rfl (lv_at hl 0 rfl) ?_
    refine lv_iload_n hx hb dX10_isUnder_6 rfl (lv_at hl 1 rfl) ?_
    replace h := ck_eq h; obtain ⟨q_5, h⟩ := h
    replace h := b2_eq h; obtain ⟨r_2, s_3, hc_4, h⟩ := h
    obtain ⟨rc, hrc⟩ := isLaw_cl q_5
    refine R_call (rest := []) [.int r_2] (R_runSU (n := 1) (As := [.int a1]) ⟨hx, hb, hml, hown, ht⟩ (fun _ h9 => h9) hK hZ hA hB (c_X6_isUnder l g P σ j0 a1 H.size hc_4) (isLaw_eq q_5).1 hrc tw251 tw273 tw1357 tw274 tw250 tw12 ⟨by decide, by decide⟩ rfl rfl ⟨Nat.le_of_ble_eq_true rfl, Nat.le_of_ble_eq_true rfl⟩ rfl hl.1 rfl (Nat.le_of_ble_eq_true rfl) dX10_isUnder_7 ⟨Nat.zero_le _, Nat.zero_le _⟩) hB hA rfl (fun H locs hB => ?_)
    refine lv_if_eq (tgt := 17) hx hb dX10_isUnder_10 (by decide) (fun c_6 => ?_) (fun c_6 => ?_)
    · replace h := itp h c_6
      refine lv_iconst (v := 0) hx hb dX10_isUnder_17 (by decide) ?_
      obtain ⟨rfl, rfl⟩ := Prod.mk.inj (Option.some.inj h)
      exact W.zret hx hb hr rfl (R_end hB) hB.2.2.2.2 dX10_isUnder_18
    · replace h := itn h c_6
      exact hb_13 s_3 H locs ls h hB (lv_sub hl [] rfl)
def f_X0_isUnder_b14 (σ1 : Hp) : Option (Int32 × Hp) := some ((1 : Int32), σ1)
def f_X0_isUnder (j0 : Nat) (a1 : Int32) (σ : Hp) : Option (Int32 × Hp) := if a1 = (6 : Int32) then f_X0_isUnder_b14 σ else ck (isLaw σ j0 = true) (b2 (f_X6_isUnder j0 a1 σ) (fun r_2 s_3 => if r_2 = 0 then some ((0 : Int32), s_3) else f_X0_isUnder_b14 s_3))
set_option maxHeartbeats 4000000 in
set_option maxRecDepth 100000 in
theorem c_X0_isUnder (l : Launch) (g : tG) (P : Nat → Nat) (σ : Hp) (j0 : Nat) (a1 : Int32) (sz : Nat) {r : Int32} {τ : Hp} (h : f_X0_isUnder j0 a1 σ = some (r, τ)) : Met l yX0_isUnder (Cond.code yX0_isUnder cX0_isUnder 2 (some .boolean) :: tblG) ({ frames := 2, cells := 0, slots := 0, locals := 42 }) (va_Pc [.ref (P j0), .int a1] (tPre g P σ sz)) (tQ (some (.int r)) (tPost g P τ (va_A (wC g P σ) sz)) (va_A (wC g P σ) sz)) 0 0 (va_A (wC g P σ) sz) := by
  refine T_start (B := fun A => tPost g P τ A) (by decide) (Nat.le_of_ble_eq_true rfl) ?_
  intro p e s m args below meth c ls0 A hx hb hml hr hown hlocks ht hnm hK hZ hA hB0 hl0
  have hb_14 : ∀ (σ1 : Hp) (H : Heap) (locs : List Loc) (ls : Array Slot), f_X0_isUnder_b14 σ1 = some (r, τ) → tB g P σ1 A s.heap H locs → lv_has ls 2 [] → WQ p l e { frames := 2, cells := 0, slots := 0, locals := 42 } s m args below meth c g P A (some (.int r)) τ H locs (F0 m 14 ls []) := by
    intro σ1 H locs ls h hB hl
    unfold f_X0_isUnder_b14 at h
    refine lv_iconst (v := 1) hx hb dX0_isUnder_14 (by decide) ?_
    refine lv_goto (tgt := 19) hx hb dX0_isUnder_15 (by decide) ?_
    obtain ⟨rfl, rfl⟩ := Prod.mk.inj (Option.some.inj h)
    exact W.zret hx hb hr rfl (R_end hB) hB.2.2.2.2 dX0_isUnder_19
  suffices hmain : ∀ (H : Heap) (locs : List Loc) (ls : Array Slot), tB g P σ A s.heap H locs → lv_has ls 2 [(0, .ref (P j0)), (1, .int a1)] → WQ p l e { frames := 2, cells := 0, slots := 0, locals := 42 } s m args below meth c g P A (some (.int r)) τ H locs (F0 m 0 ls []) from hmain _ _ ls0 hB0 hl0
  intro H locs ls hB hl
  unfold f_X0_isUnder at h
  refine lv_iload_n hx hb dX0_isUnder_0 rfl (lv_at hl 1 rfl) ?_
  refine lv_bipush (v := 6) hx hb dX0_isUnder_1 (by decide) ?_
  refine lv_icmp_eq (tgt := 14) hx hb dX0_isUnder_3 (by decide) (fun c_1 => ?_) (fun c_1 => ?_)
  · replace h := itp h c_1
    exact hb_14 σ H locs ls h hB (lv_sub hl [] rfl)
  · replace h := itn h c_1
    refine lv_aload_n hx hb dX0_isUnder_6 rfl (lv_at hl 0 rfl) ?_
    refine lv_iload_n hx hb dX0_isUnder_7 rfl (lv_at hl 1 rfl) ?_
    replace h := ck_eq h; obtain ⟨q_5, h⟩ := h
    replace h := b2_eq h; obtain ⟨r_2, s_3, hc_4, h⟩ := h
    obtain ⟨rc, hrc⟩ := isLaw_cl q_5
    refine R_call (rest := []) [.int r_2] (R_runSU (n := 1) (As := [.int a1]) ⟨hx, hb, hml, hown, ht⟩ (fun _ h9 => h9) hK hZ hA hB (c_X6_isUnder l g P σ j0 a1 H.size hc_4) (isLaw_eq q_5).1 hrc tw251 tw248 tw1357 tw249 tw250 tw12 ⟨by decide, by decide⟩ rfl rfl ⟨Nat.le_of_ble_eq_true rfl, Nat.le_of_ble_eq_true rfl⟩ rfl hl.1 rfl (Nat.le_of_ble_eq_true rfl) dX0_isUnder_8 ⟨Nat.zero_le _, Nat.zero_le _⟩) hB hA rfl (fun H locs hB => ?_)
    refine lv_if_eq (tgt := 18) hx hb dX0_isUnder_11 (by decide) (fun c_6 => ?_) (fun c_6 => ?_)
    · replace h := itp h c_6
      refine lv_iconst (v := 0) hx hb dX0_isUnder_18 (by decide) ?_
      obtain ⟨rfl, rfl⟩ := Prod.mk.inj (Option.some.inj h)
      exact W.zret hx hb hr rfl (R_end hB) hB.2.2.2.2 dX0_isUnder_19
    · replace h := itn h c_6
      exact hb_14 s_3 H locs ls h hB (lv_sub hl [] rfl)
def v_kindNumber (j0 : Nat) (σ : Hp) : Option (Int32 × Hp) := if hC σ j0 = 0 then f_X0_kindNumber j0 σ else if hC σ j0 = 1 then f_X2_kindNumber j0 σ else if hC σ j0 = 2 then f_X3_kindNumber j0 σ else if hC σ j0 = 5 then f_X6_kindNumber j0 σ else if hC σ j0 = 7 then f_X8_kindNumber j0 σ else if hC σ j0 = 8 then f_X9_kindNumber j0 σ else if hC σ j0 = 9 then f_X10_kindNumber j0 σ else none
set_option maxHeartbeats 4000000 in
set_option maxRecDepth 100000 in
theorem dv_kindNumber {p : Program} {l : Launch} {e : Env} {R : Room} {s : State} {m : MethodId} {args : Array Value} {below : List Frame} {meth : Method} {c : Code} {H : Heap} {locs : List Loc} {cells slots : Nat} {cc : ByteArray} {pc : Nat} {ls : Array Slot} {rest : List Value} {g : tG} {P : Nat → Nat} {σ : Hp} {A : Nat → Prop} {own : String} {index nL : Nat} {st0 : List Value} (S : CallFix p m c cc nL s args tblG own) (hK : tK g s) (hZ : tZ g A s s.heap) (hA : ∀ q, s.heap.size ≤ q → A q) (hB : tB g P σ A s.heap H locs) {j0 : Nat} (hj : isLaw σ j0 = true) (hl : Cond.methodLink own index ⟨"TurnedAbout$Law", "kindNumber", "()I"⟩ ∈ tblG) {r : Int32} {τ : Hp} (hc : v_kindNumber j0 σ = some (r, τ)) (hRf : 1 ≤ R.frames) (hRl : 20 ≤ R.locals) (hsize : ls.size = nL) (hst : st0 = [].reverse ++ .ref (P j0) :: rest) (hW : (rest.map fun v => v.category).sum ≤ 8) (hdg : decode cc pc = .ok (.invokevirtual index, 3)) (hfc : cells ≤ R.cells) (hfs : slots ≤ R.slots) : va_Run p l e R s m args below meth c H locs cells slots 0 0 (F0 m pc ls st0) rest (tQ (some (.int r)) (tPost g P τ (va_A (wC g P σ) H.size)) (va_A (wC g P σ) H.size) (Value.ref (P j0) :: []).toArray) (va_A (wC g P σ) H.size) := by
  unfold v_kindNumber at hc
  rcases (isLaw_eq hj).2 with q | q | q | q | q | q | q <;> rw [q] at hc
  · exact R_runU (C := RX0) (owner := "TurnedAbout$Law") (x := ⟨"TurnedAbout$Law", "kindNumber", "()I"⟩) (n := 0) (As := []) S (fun _ h9 => h9) hK hZ hA hB (c_X0_kindNumber l g P σ j0 H.size hc) (R_recvP hK hB (isLaw_eq hj).1 (r := (RX0, TX0, 2)) (by rw [q]; rfl)) tw459 hl tw456 tw454 tw475 tw458 tw457 tw16 ⟨by decide, by decide, by decide⟩ rfl rfl ⟨Nat.le_trans (Nat.le_of_ble_eq_true rfl) hRf, Nat.le_trans (Nat.le_of_ble_eq_true rfl) hRl⟩ rfl hsize hst hW hdg ⟨hfc, hfs⟩
  · exact R_runU (C := RX2) (owner := "TurnedAbout$Law") (x := ⟨"TurnedAbout$Law", "kindNumber", "()I"⟩) (n := 0) (As := []) S (fun _ h9 => h9) hK hZ hA hB (c_X2_kindNumber l g P σ j0 H.size hc) (R_recvP hK hB (isLaw_eq hj).1 (r := (RX2, TX2, 2)) (by rw [q]; rfl)) tw475 hl tw456 tw454 tw475 tw454 tw455 tw10 ⟨by decide, by decide, by decide⟩ rfl rfl ⟨Nat.le_trans (Nat.le_of_ble_eq_true rfl) hRf, Nat.le_trans (Nat.le_of_ble_eq_true rfl) hRl⟩ rfl hsize hst hW hdg ⟨hfc, hfs⟩
  · exact R_runU (C := RX3) (owner := "TurnedAbout$Law") (x := ⟨"TurnedAbout$Law", "kindNumber", "()I"⟩) (n := 0) (As := []) S (fun _ h9 => h9) hK hZ hA hB (c_X3_kindNumber l g P σ j0 H.size hc) (R_recvP hK hB (isLaw_eq hj).1 (r := (RX3, TX3, 2)) (by rw [q]; rfl)) tw462 hl tw456 tw454 tw475 tw461 tw460 tw13 ⟨by decide, by decide, by decide⟩ rfl rfl ⟨Nat.le_trans (Nat.le_of_ble_eq_true rfl) hRf, Nat.le_trans (Nat.le_of_ble_eq_true rfl) hRl⟩ rfl hsize hst hW hdg ⟨hfc, hfs⟩
  · exact R_runU (C := RX6) (owner := "TurnedAbout$Law") (x := ⟨"TurnedAbout$Law", "kindNumber", "()I"⟩) (n := 0) (As := []) S (fun _ h9 => h9) hK hZ hA hB (c_X6_kindNumber l g P σ j0 H.size hc) (R_recvP hK hB (isLaw_eq hj).1 (r := (RX6, TX6, 2)) (by rw [q]; rfl)) tw465 hl tw456 tw454 tw475 tw464 tw463 tw12 ⟨by decide, by decide, by decide⟩ rfl rfl ⟨Nat.le_trans (Nat.le_of_ble_eq_true rfl) hRf, Nat.le_trans (Nat.le_of_ble_eq_true rfl) hRl⟩ rfl hsize hst hW hdg ⟨hfc, hfs⟩
  · exact R_runU (C := RX8) (owner := "TurnedAbout$Law") (x := ⟨"TurnedAbout$Law", "kindNumber", "()I"⟩) (n := 0) (As := []) S (fun _ h9 => h9) hK hZ hA hB (c_X8_kindNumber l g P σ j0 H.size hc) (R_recvP hK hB (isLaw_eq hj).1 (r := (RX8, TX8, 2)) (by rw [q]; rfl)) tw468 hl tw456 tw454 tw475 tw467 tw466 tw11 ⟨by decide, by decide, by decide⟩ rfl rfl ⟨Nat.le_trans (Nat.le_of_ble_eq_true rfl) hRf, Nat.le_trans (Nat.le_of_ble_eq_true rfl) hRl⟩ rfl hsize hst hW hdg ⟨hfc, hfs⟩
  · exact R_runU (C := RX9) (owner := "TurnedAbout$Law") (x := ⟨"TurnedAbout$Law", "kindNumber", "()I"⟩) (n := 0) (As := []) S (fun _ h9 => h9) hK hZ hA hB (c_X9_kindNumber l g P σ j0 H.size hc) (R_recvP hK hB (isLaw_eq hj).1 (r := (RX9, TX9, 2)) (by rw [q]; rfl)) tw471 hl tw456 tw454 tw475 tw470 tw469 tw14 ⟨by decide, by decide, by decide⟩ rfl rfl ⟨Nat.le_trans (Nat.le_of_ble_eq_true rfl) hRf, Nat.le_trans (Nat.le_of_ble_eq_true rfl) hRl⟩ rfl hsize hst hW hdg ⟨hfc, hfs⟩
  · exact R_runU (C := RX10) (owner := "TurnedAbout$Law") (x := ⟨"TurnedAbout$Law", "kindNumber", "()I"⟩) (n := 0) (As := []) S (fun _ h9 => h9) hK hZ hA hB (c_X10_kindNumber l g P σ j0 H.size hc) (R_recvP hK hB (isLaw_eq hj).1 (r := (RX10, TX10, 2)) (by rw [q]; rfl)) tw474 hl tw456 tw454 tw475 tw473 tw472 tw15 ⟨by decide, by decide, by decide⟩ rfl rfl ⟨Nat.le_trans (Nat.le_of_ble_eq_true rfl) hRf, Nat.le_trans (Nat.le_of_ble_eq_true rfl) hRl⟩ rfl hsize hst hW hdg ⟨hfc, hfs⟩
def v_isUnder (j0 : Nat) (a1 : Int32) (σ : Hp) : Option (Int32 × Hp) := if hC σ j0 = 0 then f_X0_isUnder j0 a1 σ else if hC σ j0 = 1 then f_X2_isUnder j0 a1 σ else if hC σ j0 = 2 then f_X3_isUnder j0 a1 σ else if hC σ j0 = 5 then f_X6_isUnder j0 a1 σ else if hC σ j0 = 7 then f_X8_isUnder j0 a1 σ else if hC σ j0 = 8 then f_X9_isUnder j0 a1 σ else if hC σ j0 = 9 then f_X10_isUnder j0 a1 σ else none
set_option maxHeartbeats 4000000 in
set_option maxRecDepth 100000 in
theorem dv_isUnder {p : Program} {l : Launch} {e : Env} {R : Room} {s : State} {m : MethodId} {args : Array Value} {below : List Frame} {meth : Method} {c : Code} {H : Heap} {locs : List Loc} {cells slots : Nat} {cc : ByteArray} {pc : Nat} {ls : Array Slot} {rest : List Value} {g : tG} {P : Nat → Nat} {σ : Hp} {A : Nat → Prop} {own : String} {index nL : Nat} {st0 : List Value} (S : CallFix p m c cc nL s args tblG own) (hK : tK g s) (hZ : tZ g A s s.heap) (hA : ∀ q, s.heap.size ≤ q → A q) (hB : tB g P σ A s.heap H locs) {j0 : Nat} {a1 : Int32} (hj : isLaw σ j0 = true) (hl : Cond.methodLink own index ⟨"TurnedAbout$Law", "isUnder", "(I)Z"⟩ ∈ tblG) {r : Int32} {τ : Hp} (hc : v_isUnder j0 a1 σ = some (r, τ)) (hRf : 3 ≤ R.frames) (hRl : 63 ≤ R.locals) (hsize : ls.size = nL) (hst : st0 = [.int a1].reverse ++ .ref (P j0) :: rest) (hW : (rest.map fun v => v.category).sum ≤ 8) (hdg : decode cc pc = .ok (.invokevirtual index, 3)) (hfc : cells ≤ R.cells) (hfs : slots ≤ R.slots) : va_Run p l e R s m args below meth c H locs cells slots 0 0 (F0 m pc ls st0) rest (tQ (some (.int r)) (tPost g P τ (va_A (wC g P σ) H.size)) (va_A (wC g P σ) H.size) (Value.ref (P j0) :: [.int a1]).toArray) (va_A (wC g P σ) H.size) := by
  unfold v_isUnder at hc
  rcases (isLaw_eq hj).2 with q | q | q | q | q | q | q <;> rw [q] at hc
  · exact R_runU (C := RX0) (owner := "TurnedAbout$Law") (x := ⟨"TurnedAbout$Law", "isUnder", "(I)Z"⟩) (n := 1) (As := [.int a1]) S (fun _ h9 => h9) hK hZ hA hB (c_X0_isUnder l g P σ j0 a1 H.size hc) (R_recvP hK hB (isLaw_eq hj).1 (r := (RX0, TX0, 2)) (by rw [q]; rfl)) tw247 hl tw244 tw242 tw275 tw246 tw245 tw16 ⟨by decide, by decide, by decide⟩ rfl rfl ⟨Nat.le_trans (Nat.le_of_ble_eq_true rfl) hRf, Nat.le_trans (Nat.le_of_ble_eq_true rfl) hRl⟩ rfl hsize hst hW hdg ⟨hfc, hfs⟩
  · exact R_runU (C := RX2) (owner := "TurnedAbout$Law") (x := ⟨"TurnedAbout$Law", "isUnder", "(I)Z"⟩) (n := 1) (As := [.int a1]) S (fun _ h9 => h9) hK hZ hA hB (c_X2_isUnder l g P σ j0 a1 H.size hc) (R_recvP hK hB (isLaw_eq hj).1 (r := (RX2, TX2, 2)) (by rw [q]; rfl)) tw275 hl tw244 tw242 tw275 tw242 tw243 tw10 ⟨by decide, by decide, by decide⟩ rfl rfl ⟨Nat.le_trans (Nat.le_of_ble_eq_true rfl) hRf, Nat.le_trans (Nat.le_of_ble_eq_true rfl) hRl⟩ rfl hsize hst hW hdg ⟨hfc, hfs⟩
  · exact R_runU (C := RX3) (owner := "TurnedAbout$Law") (x := ⟨"TurnedAbout$Law", "isUnder", "(I)Z"⟩) (n := 1) (As := [.int a1]) S (fun _ h9 => h9) hK hZ hA hB (c_X3_isUnder l g P σ j0 a1 H.size hc) (R_recvP hK hB (isLaw_eq hj).1 (r := (RX3, TX3, 2)) (by rw [q]; rfl)) tw256 hl tw244 tw242 tw275 tw255 tw254 tw13 ⟨by decide, by decide, by decide⟩ rfl rfl ⟨Nat.le_trans (Nat.le_of_ble_eq_true rfl) hRf, Nat.le_trans (Nat.le_of_ble_eq_true rfl) hRl⟩ rfl hsize hst hW hdg ⟨hfc, hfs⟩
  · exact R_runU (C := RX6) (owner := "TurnedAbout$Law") (x := ⟨"TurnedAbout$Law", "isUnder", "(I)Z"⟩) (n := 1) (As := [.int a1]) S (fun _ h9 => h9) hK hZ hA hB (c_X6_isUnder l g P σ j0 a1 H.size hc) (R_recvP hK hB (isLaw_eq hj).1 (r := (RX6, TX6, 2)) (by rw [q]; rfl)) tw251 hl tw244 tw242 tw275 tw250 tw263 tw12 ⟨by decide, by decide, by decide⟩ rfl rfl ⟨Nat.le_trans (Nat.le_of_ble_eq_true rfl) hRf, Nat.le_trans (Nat.le_of_ble_eq_true rfl) hRl⟩ rfl hsize hst hW hdg ⟨hfc, hfs⟩
  · exact R_runU (C := RX8) (owner := "TurnedAbout$Law") (x := ⟨"TurnedAbout$Law", "isUnder", "(I)Z"⟩) (n := 1) (As := [.int a1]) S (fun _ h9 => h9) hK hZ hA hB (c_X8_isUnder l g P σ j0 a1 H.size hc) (R_recvP hK hB (isLaw_eq hj).1 (r := (RX8, TX8, 2)) (by rw [q]; rfl)) tw260 hl tw244 tw242 tw275 tw259 tw264 tw11 ⟨by decide, by decide, by decide⟩ rfl rfl ⟨Nat.le_trans (Nat.le_of_ble_eq_true rfl) hRf, Nat.le_trans (Nat.le_of_ble_eq_true rfl) hRl⟩ rfl hsize hst hW hdg ⟨hfc, hfs⟩
  · exact R_runU (C := RX9) (owner := "TurnedAbout$Law") (x := ⟨"TurnedAbout$Law", "isUnder", "(I)Z"⟩) (n := 1) (As := [.int a1]) S (fun _ h9 => h9) hK hZ hA hB (c_X9_isUnder l g P σ j0 a1 H.size hc) (R_recvP hK hB (isLaw_eq hj).1 (r := (RX9, TX9, 2)) (by rw [q]; rfl)) tw267 hl tw244 tw242 tw275 tw266 tw265 tw14 ⟨by decide, by decide, by decide⟩ rfl rfl ⟨Nat.le_trans (Nat.le_of_ble_eq_true rfl) hRf, Nat.le_trans (Nat.le_of_ble_eq_true rfl) hRl⟩ rfl hsize hst hW hdg ⟨hfc, hfs⟩
  · exact R_runU (C := RX10) (owner := "TurnedAbout$Law") (x := ⟨"TurnedAbout$Law", "isUnder", "(I)Z"⟩) (n := 1) (As := [.int a1]) S (fun _ h9 => h9) hK hZ hA hB (c_X10_isUnder l g P σ j0 a1 H.size hc) (R_recvP hK hB (isLaw_eq hj).1 (r := (RX10, TX10, 2)) (by rw [q]; rfl)) tw272 hl tw244 tw242 tw275 tw271 tw270 tw15 ⟨by decide, by decide, by decide⟩ rfl rfl ⟨Nat.le_trans (Nat.le_of_ble_eq_true rfl) hRf, Nat.le_trans (Nat.le_of_ble_eq_true rfl) hRl⟩ rfl hsize hst hW hdg ⟨hfc, hfs⟩
def f_X2_reckon (j0 : Nat) (a1 : Int64) (k3 : Nat) (σ : Hp) : Option (Int64 × Hp) := b2 (f_X1_turnedOf a1 (hI σ k3 0) σ) (fun r_1 s_2 => ck (isLaw s_2 j0 = true) (some (((a1 + r_1) + (hI s_2 (100 + j0) 1).toInt64), s_2)))
set_option maxHeartbeats 4000000 in
set_option maxRecDepth 100000 in
theorem c_X2_reckon (l : Launch) (g : tG) (P : Nat → Nat) (σ : Hp) (j0 : Nat) (a1 : Int64) (k3 : Nat) (hk_k3 : ky k3 = 1) (sz : Nat) {r : Int64} {τ : Hp} (h : f_X2_reckon j0 a1 k3 σ = some (r, τ)) : Met l yX2_reckon (Cond.code yX2_reckon cX2_reckon 4 (some .long) :: tblG) ({ frames := 1, cells := 0, slots := 0, locals := 27 }) (va_Pc [.ref (P j0), .long a1, .ref (gL g k3)] (tPre g P σ sz)) (tQ (some (.long r)) (tPost g P τ (va_A (wC g P σ) sz)) (va_A (wC g P σ) sz)) 0 0 (va_A (wC g P σ) sz) := by
  refine T_start (B := fun A => tPost g P τ A) (by decide) (Nat.le_of_ble_eq_true rfl) ?_
  intro p e s m args below meth c ls0 A hx hb hml hr hown hlocks ht hnm hK hZ hA hB0 hl0
  suffices hmain : ∀ (H : Heap) (locs : List Loc) (ls : Array Slot), tB g P σ A s.heap H locs → lv_has ls 4 [(0, .ref (P j0)), (1, .long a1), (3, .ref (gL g k3))] → WQ p l e { frames := 1, cells := 0, slots := 0, locals := 27 } s m args below meth c g P A (some (.long r)) τ H locs (F0 m 0 ls []) from hmain _ _ ls0 hB0 hl0
  intro H locs ls hB hl
  unfold f_X2_reckon at h
  refine lv_lload_n hx hb dX2_reckon_0 rfl (lv_at hl 1 rfl) ?_
  refine lv_lload_n hx hb dX2_reckon_1 rfl (lv_at hl 1 rfl) ?_
  refine lv_aload_n hx hb dX2_reckon_2 rfl (lv_at hl 2 rfl) ?_
  refine R_get (v := .int (hI σ k3 0)) hx hb ht ui_X7 hown hK hB (ky_in _ (by rw [hk_k3]; decide)) (cell_1 hk_k3) rfl 0 (by decide) (ht _ tw43) (fun _ h9 => h9) rfl dX2_reckon_3 ?_
  replace h := b2_eq h; obtain ⟨r_1, s_2, hc_3, h⟩ := h
  refine R_call (rest := [.long a1]) [.long r_1, .long a1] (R_runS (n := 2) (As := [.long a1, .int (hI σ k3 0)]) ⟨hx, hb, hml, hown, ht⟩ (fun _ h9 => h9) hK hZ hA hB (c_X1_turnedOf l g P σ a1 (hI σ k3 0) H.size hc_3) tw319 tw337 tw318 tw8 ⟨by decide, by decide, by decide⟩ rfl rfl ⟨Nat.le_of_ble_eq_true rfl, Nat.le_of_ble_eq_true rfl⟩ rfl hl.1 rfl (Nat.le_of_ble_eq_true rfl) dX2_reckon_6 ⟨Nat.zero_le _, Nat.zero_le _⟩) hB hA rfl (fun H locs hB => ?_)
  refine lv_ladd hx hb dX2_reckon_9 ?_
  refine lv_aload_n hx hb dX2_reckon_10 rfl (lv_at hl 0 rfl) ?_
  replace h := ck_eq h; obtain ⟨q_4, h⟩ := h
  refine R_getP1 hx hb ht hown hK hB q_4 (ht _ tw383) (fun _ h9 => h9) dX2_reckon_11 ?_
  refine lv_i2l (v := (hI s_2 (100 + j0) 1).toInt64) hx hb dX2_reckon_14 rfl ?_
  refine lv_ladd hx hb dX2_reckon_15 ?_
  obtain ⟨rfl, rfl⟩ := Prod.mk.inj (Option.some.inj h)
  exact W.lret hx hb hr (R_end hB) hB.2.2.2.2 dX2_reckon_16
def f_X6_reckon (j0 : Nat) (a1 : Int64) (k3 : Nat) (σ : Hp) : Option (Int64 × Hp) := b2 (f_X1_together a1 (hI σ k3 0) (2 : Int32) σ) (fun r_1 s_2 => some (r_1, s_2))
set_option maxHeartbeats 4000000 in
set_option maxRecDepth 100000 in
theorem c_X6_reckon (l : Launch) (g : tG) (P : Nat → Nat) (σ : Hp) (j0 : Nat) (a1 : Int64) (k3 : Nat) (hk_k3 : ky k3 = 1) (sz : Nat) {r : Int64} {τ : Hp} (h : f_X6_reckon j0 a1 k3 σ = some (r, τ)) : Met l yX6_reckon (Cond.code yX6_reckon cX6_reckon 4 (some .long) :: tblG) ({ frames := 1, cells := 0, slots := 0, locals := 33 }) (va_Pc [.ref (P j0), .long a1, .ref (gL g k3)] (tPre g P σ sz)) (tQ (some (.long r)) (tPost g P τ (va_A (wC g P σ) sz)) (va_A (wC g P σ) sz)) 0 0 (va_A (wC g P σ) sz) := by
  refine T_start (B := fun A => tPost g P τ A) (by decide) (Nat.le_of_ble_eq_true rfl) ?_
  intro p e s m args below meth c ls0 A hx hb hml hr hown hlocks ht hnm hK hZ hA hB0 hl0
  suffices hmain : ∀ (H : Heap) (locs : List Loc) (ls : Array Slot), tB g P σ A s.heap H locs → lv_has ls 4 [(0, .ref (P j0)), (1, .long a1), (3, .ref (gL g k3))] → WQ p l e { frames := 1, cells := 0, slots := 0, locals := 33 } s m args below meth c g P A (some (.long r)) τ H locs (F0 m 0 ls []) from hmain _ _ ls0 hB0 hl0
  intro H locs ls hB hl
  unfold f_X6_reckon at h
  refine lv_lload_n hx hb dX6_reckon_0 rfl (lv_at hl 1 rfl) ?_
  refine lv_aload_n hx hb dX6_reckon_1 rfl (lv_at hl 2 rfl) ?_
  refine R_get (v := .int (hI σ k3 0)) hx hb ht ui_X7 hown hK hB (ky_in _ (by rw [hk_k3]; decide)) (cell_1 hk_k3) rfl 0 (by decide) (ht _ tw41) (fun _ h9 => h9) rfl dX6_reckon_2 ?_
  refine lv_iconst (v := 2) hx hb dX6_reckon_5 (by decide) ?_
  replace h := b2_eq h; obtain ⟨r_1, s_2, hc_3, h⟩ := h
  refine R_call (rest := []) [.long r_1] (R_runS (n := 3) (As := [.long a1, .int (hI σ k3 0), .int (2 : Int32)]) ⟨hx, hb, hml, hown, ht⟩ (fun _ h9 => h9) hK hZ hA hB (c_X1_together l g P σ a1 (hI σ k3 0) (2 : Int32) H.size hc_3) tw301 tw313 tw300 tw8 ⟨by decide, by decide, by decide⟩ rfl rfl ⟨Nat.le_of_ble_eq_true rfl, Nat.le_of_ble_eq_true rfl⟩ rfl hl.1 rfl (Nat.le_of_ble_eq_true rfl) dX6_reckon_6 ⟨Nat.zero_le _, Nat.zero_le _⟩) hB hA rfl (fun H locs hB => ?_)
  obtain ⟨rfl, rfl⟩ := Prod.mk.inj (Option.some.inj h)
  exact W.lret hx hb hr (R_end hB) hB.2.2.2.2 dX6_reckon_9
def f_X8_reckon (j0 : Nat) (a1 : Int64) (k3 : Nat) (σ : Hp) : Option (Int64 × Hp) := b2 (f_X1_turnedOf a1 (hI σ k3 0) σ) (fun r_1 s_2 => some ((if 0 < (a1 - r_1) then (a1 - r_1) else -(a1 - r_1)), s_2))
set_option maxHeartbeats 4000000 in
set_option maxRecDepth 100000 in
theorem c_X8_reckon (l : Launch) (g : tG) (P : Nat → Nat) (σ : Hp) (j0 : Nat) (a1 : Int64) (k3 : Nat) (hk_k3 : ky k3 = 1) (sz : Nat) {r : Int64} {τ : Hp} (h : f_X8_reckon j0 a1 k3 σ = some (r, τ)) : Met l yX8_reckon (Cond.code yX8_reckon cX8_reckon 4 (some .long) :: tblG) ({ frames := 1, cells := 0, slots := 0, locals := 27 }) (va_Pc [.ref (P j0), .long a1, .ref (gL g k3)] (tPre g P σ sz)) (tQ (some (.long r)) (tPost g P τ (va_A (wC g P σ) sz)) (va_A (wC g P σ) sz)) 0 0 (va_A (wC g P σ) sz) := by
  refine T_start (B := fun A => tPost g P τ A) (by decide) (Nat.le_of_ble_eq_true rfl) ?_
  intro p e s m args below meth c ls0 A hx hb hml hr hown hlocks ht hnm hK hZ hA hB0 hl0
  suffices hmain : ∀ (H : Heap) (locs : List Loc) (ls : Array Slot), tB g P σ A s.heap H locs → lv_has ls 4 [(0, .ref (P j0)), (1, .long a1), (3, .ref (gL g k3))] → WQ p l e { frames := 1, cells := 0, slots := 0, locals := 27 } s m args below meth c g P A (some (.long r)) τ H locs (F0 m 0 ls []) from hmain _ _ ls0 hB0 hl0
  intro H locs ls hB hl
  unfold f_X8_reckon at h
  refine lv_lload_n hx hb dX8_reckon_0 rfl (lv_at hl 1 rfl) ?_
  refine lv_lload_n hx hb dX8_reckon_1 rfl (lv_at hl 1 rfl) ?_
  refine lv_aload_n hx hb dX8_reckon_2 rfl (lv_at hl 2 rfl) ?_
  refine R_get (v := .int (hI σ k3 0)) hx hb ht ui_X7 hown hK hB (ky_in _ (by rw [hk_k3]; decide)) (cell_1 hk_k3) rfl 0 (by decide) (ht _ tw44) (fun _ h9 => h9) rfl dX8_reckon_3 ?_
  replace h := b2_eq h; obtain ⟨r_1, s_2, hc_3, h⟩ := h
  refine R_call (rest := [.long a1]) [.long r_1, .long a1] (R_runS (n := 2) (As := [.long a1, .int (hI σ k3 0)]) ⟨hx, hb, hml, hown, ht⟩ (fun _ h9 => h9) hK hZ hA hB (c_X1_turnedOf l g P σ a1 (hI σ k3 0) H.size hc_3) tw319 tw317 tw318 tw8 ⟨by decide, by decide, by decide⟩ rfl rfl ⟨Nat.le_of_ble_eq_true rfl, Nat.le_of_ble_eq_true rfl⟩ rfl hl.1 rfl (Nat.le_of_ble_eq_true rfl) dX8_reckon_6 ⟨Nat.zero_le _, Nat.zero_le _⟩) hB hA rfl (fun H locs hB => ?_)
  refine lv_lsub hx hb dX8_reckon_9 ?_
  refine va_mabs_long hx hb (by rw [hml]; exact hl.1.symm) hown (ht _ tw320) (ht _ tw321) (ht _ tw9) (ht _ tw322) (Nat.le_of_ble_eq_true rfl) (Nat.le_of_ble_eq_true rfl) (Nat.zero_le _) (Nat.zero_le _) dX8_reckon_10 ?_
  obtain ⟨rfl, rfl⟩ := Prod.mk.inj (Option.some.inj h)
  exact W.lret hx hb hr (R_end hB) hB.2.2.2.2 dX8_reckon_13
def f_X3_reckon (j0 : Nat) (a1 : Int64) (k3 : Nat) (σ : Hp) : Option (Int64 × Hp) := b2 (f_X1_spread a1 (hI σ k3 0) σ) (fun r_1 s_2 => some (r_1, s_2))
set_option maxHeartbeats 4000000 in
set_option maxRecDepth 100000 in
theorem c_X3_reckon (l : Launch) (g : tG) (P : Nat → Nat) (σ : Hp) (j0 : Nat) (a1 : Int64) (k3 : Nat) (hk_k3 : ky k3 = 1) (sz : Nat) {r : Int64} {τ : Hp} (h : f_X3_reckon j0 a1 k3 σ = some (r, τ)) : Met l yX3_reckon (Cond.code yX3_reckon cX3_reckon 4 (some .long) :: tblG) ({ frames := 1, cells := 0, slots := 0, locals := 37 }) (va_Pc [.ref (P j0), .long a1, .ref (gL g k3)] (tPre g P σ sz)) (tQ (some (.long r)) (tPost g P τ (va_A (wC g P σ) sz)) (va_A (wC g P σ) sz)) 0 0 (va_A (wC g P σ) sz) := by
  refine T_start (B := fun A => tPost g P τ A) (by decide) (Nat.le_of_ble_eq_true rfl) ?_
  intro p e s m args below meth c ls0 A hx hb hml hr hown hlocks ht hnm hK hZ hA hB0 hl0
  suffices hmain : ∀ (H : Heap) (locs : List Loc) (ls : Array Slot), tB g P σ A s.heap H locs → lv_has ls 4 [(0, .ref (P j0)), (1, .long a1), (3, .ref (gL g k3))] → WQ p l e { frames := 1, cells := 0, slots := 0, locals := 37 } s m args below meth c g P A (some (.long r)) τ H locs (F0 m 0 ls []) from hmain _ _ ls0 hB0 hl0
  intro H locs ls hB hl
  unfold f_X3_reckon at h
  refine lv_lload_n hx hb dX3_reckon_0 rfl (lv_at hl 1 rfl) ?_
  refine lv_aload_n hx hb dX3_reckon_1 rfl (lv_at hl 2 rfl) ?_
  refine R_get (v := .int (hI σ k3 0)) hx hb ht ui_X7 hown hK hB (ky_in _ (by rw [hk_k3]; decide)) (cell_1 hk_k3) rfl 0 (by decide) (ht _ tw40) (fun _ h9 => h9) rfl dX3_reckon_2 ?_
  replace h := b2_eq h; obtain ⟨r_1, s_2, hc_3, h⟩ := h
  refine R_call (rest := []) [.long r_1] (R_runS (n := 2) (As := [.long a1, .int (hI σ k3 0)]) ⟨hx, hb, hml, hown, ht⟩ (fun _ h9 => h9) hK hZ hA hB (c_X1_spread l g P σ a1 (hI σ k3 0) H.size hc_3) tw307 tw305 tw306 tw8 ⟨by decide, by decide, by decide⟩ rfl rfl ⟨Nat.le_of_ble_eq_true rfl, Nat.le_of_ble_eq_true rfl⟩ rfl hl.1 rfl (Nat.le_of_ble_eq_true rfl) dX3_reckon_5 ⟨Nat.zero_le _, Nat.zero_le _⟩) hB hA rfl (fun H locs hB => ?_)
  obtain ⟨rfl, rfl⟩ := Prod.mk.inj (Option.some.inj h)
  exact W.lret hx hb hr (R_end hB) hB.2.2.2.2 dX3_reckon_8
def f_X9_reckon (j0 : Nat) (a1 : Int64) (k3 : Nat) (σ : Hp) : Option (Int64 × Hp) := b2 (f_X1_multiplied a1 (hI σ k3 0) σ) (fun r_1 s_2 => ck (isLaw s_2 j0 = true) (some ((r_1 + (hI s_2 (100 + j0) 1).toInt64), s_2)))
set_option maxHeartbeats 4000000 in
set_option maxRecDepth 100000 in
theorem c_X9_reckon (l : Launch) (g : tG) (P : Nat → Nat) (σ : Hp) (j0 : Nat) (a1 : Int64) (k3 : Nat) (hk_k3 : ky k3 = 1) (sz : Nat) {r : Int64} {τ : Hp} (h : f_X9_reckon j0 a1 k3 σ = some (r, τ)) : Met l yX9_reckon (Cond.code yX9_reckon cX9_reckon 4 (some .long) :: tblG) ({ frames := 1, cells := 0, slots := 0, locals := 27 }) (va_Pc [.ref (P j0), .long a1, .ref (gL g k3)] (tPre g P σ sz)) (tQ (some (.long r)) (tPost g P τ (va_A (wC g P σ) sz)) (va_A (wC g P σ) sz)) 0 0 (va_A (wC g P σ) sz) := by
  refine T_start (B := fun A => tPost g P τ A) (by decide) (Nat.le_of_ble_eq_true rfl) ?_
  intro p e s m args below meth c ls0 A hx hb hml hr hown hlocks ht hnm hK hZ hA hB0 hl0
  suffices hmain : ∀ (H : Heap) (locs : List Loc) (ls : Array Slot), tB g P σ A s.heap H locs → lv_has ls 4 [(0, .ref (P j0)), (1, .long a1), (3, .ref (gL g k3))] → WQ p l e { frames := 1, cells := 0, slots := 0, locals := 27 } s m args below meth c g P A (some (.long r)) τ H locs (F0 m 0 ls []) from hmain _ _ ls0 hB0 hl0
  intro H locs ls hB hl
  unfold f_X9_reckon at h
  refine lv_lload_n hx hb dX9_reckon_0 rfl (lv_at hl 1 rfl) ?_
  refine lv_aload_n hx hb dX9_reckon_1 rfl (lv_at hl 2 rfl) ?_
  refine R_get (v := .int (hI σ k3 0)) hx hb ht ui_X7 hown hK hB (ky_in _ (by rw [hk_k3]; decide)) (cell_1 hk_k3) rfl 0 (by decide) (ht _ tw42) (fun _ h9 => h9) rfl dX9_reckon_2 ?_
  replace h := b2_eq h; obtain ⟨r_1, s_2, hc_3, h⟩ := h
  refine R_call (rest := []) [.long r_1] (R_runS (n := 2) (As := [.long a1, .int (hI σ k3 0)]) ⟨hx, hb, hml, hown, ht⟩ (fun _ h9 => h9) hK hZ hA hB (c_X1_multiplied l g P σ a1 (hI σ k3 0) H.size hc_3) tw328 tw326 tw327 tw8 ⟨by decide, by decide, by decide⟩ rfl rfl ⟨Nat.le_of_ble_eq_true rfl, Nat.le_of_ble_eq_true rfl⟩ rfl hl.1 rfl (Nat.le_of_ble_eq_true rfl) dX9_reckon_5 ⟨Nat.zero_le _, Nat.zero_le _⟩) hB hA rfl (fun H locs hB => ?_)
  refine lv_aload_n hx hb dX9_reckon_8 rfl (lv_at hl 0 rfl) ?_
  replace h := ck_eq h; obtain ⟨q_4, h⟩ := h
  refine R_getP1 hx hb ht hown hK hB q_4 (ht _ tw384) (u_same (ht _ tw385)) dX9_reckon_9 ?_
  refine lv_i2l (v := (hI s_2 (100 + j0) 1).toInt64) hx hb dX9_reckon_12 rfl ?_
  refine lv_ladd hx hb dX9_reckon_13 ?_
  obtain ⟨rfl, rfl⟩ := Prod.mk.inj (Option.some.inj h)
  exact W.lret hx hb hr (R_end hB) hB.2.2.2.2 dX9_reckon_14
def f_X10_reckon_t41 (x0 : Nat) (x3 : Nat) (x4 : Int32) (x5 : Int64) (x7 : Int64) (x9 : Int32) (σ1 : Hp) : Option ((Int64 × Int64 × Int32 × Hp) ⊕ (Int64 × Hp)) := if (64 : Int32) ≤ x9 then ex (some (x5, σ1)) else if (lg_cmp x7 (0 : Int64)) ≤ 0 then ex (some (x5, σ1)) else ck (isLaw σ1 x0 = true) (ck (¬ x4.toInt64 = 0) (b2 (f_X7_valueOf x3 (hI σ1 (100 + x0) 0) ((x7 - x7 / x4.toInt64 * x4.toInt64).toInt32) σ1) (fun r_15 s_16 => some (.inl ((x5 + r_15.toInt64), (x7 / x4.toInt64), (x9 + 1), s_16)))))
def f_X10_reckon_s41 (x0 : Nat) (x3 : Nat) (x4 : Int32) (v : (Int64 × Int64 × Int32 × Hp)) : Option ((Int64 × Int64 × Int32 × Hp) ⊕ (Int64 × Hp)) := f_X10_reckon_t41 x0 x3 x4 v.1 v.2.1 v.2.2.1 v.2.2.2
def f_X10_reckon (j0 : Nat) (a1 : Int64) (k3 : Nat) (σ : Hp) : Option (Int64 × Hp) := if (2 : Int32) ≤ (hI σ k3 0) then ck (isLaw σ j0 = true) (ck (¬ ((hI σ k3 0).toInt64) = 0) (b2 (f_X7_valueOf k3 (hI σ (100 + j0) 0) ((a1 - a1 / (hI σ k3 0).toInt64 * (hI σ k3 0).toInt64).toInt32) σ) (fun r_8 s_9 => iter (f_X10_reckon_s41 j0 k3 (hI σ k3 0)) fuel (r_8.toInt64, (a1 / (hI σ k3 0).toInt64), (1 : Int32), s_9)))) else some ((0 : Int64), σ)
set_option maxHeartbeats 4000000 in
set_option maxRecDepth 100000 in
theorem c_X10_reckon (l : Launch) (g : tG) (P : Nat → Nat) (σ : Hp) (j0 : Nat) (a1 : Int64) (k3 : Nat) (hk_k3 : ky k3 = 1) (sz : Nat) {r : Int64} {τ : Hp} (h : f_X10_reckon j0 a1 k3 σ = some (r, τ)) : Met l yX10_reckon (Cond.code yX10_reckon cX10_reckon 10 (some .long) :: tblG) ({ frames := 1, cells := 0, slots := 0, locals := 23 }) (va_Pc [.ref (P j0), .long a1, .ref (gL g k3)] (tPre g P σ sz)) (tQ (some (.long r)) (tPost g P τ (va_A (wC g P σ) sz)) (va_A (wC g P σ) sz)) 0 0 (va_A (wC g P σ) sz) := by
  refine T_start (B := fun A => tPost g P τ A) (by decide) (Nat.le_of_ble_eq_true rfl) ?_
  intro p e s m args below meth c ls0 A hx hb hml hr hown hlocks ht hnm hK hZ hA hB0 hl0
  have hL_41 : ∀ (x0 : Nat) (x3 : Nat) (x4 : Int32) (hk_x3 : ky x3 = 1) (n : Nat) (x5 : Int64) (x7 : Int64) (x9 : Int32) (σ1 : Hp) (H : Heap) (locs : List Loc) (ls : Array Slot), iter (f_X10_reckon_s41 x0 x3 x4) n (x5, x7, x9, σ1) = some (r, τ) → tB g P σ1 A s.heap H locs → lv_has ls 10 [(0, .ref (P x0)), (3, .ref (gL g x3)), (4, .int x4), (5, .long x5), (7, .long x7), (9, .int x9)] → WQ p l e { frames := 1, cells := 0, slots := 0, locals := 23 } s m args below meth c g P A (some (.long r)) τ H locs (F0 m 41 ls []) := by
    intro x0 x3 x4 hk_x3 n
    induction n with
    | zero =>
      intro x5 x7 x9 σ1 H locs ls h hB hl
      exact (iter_0 h).elim
    | succ n ih1 =>
      intro x5 x7 x9 σ1 H locs ls h hB hl
      replace h := iter_eq h; obtain ⟨z1, hh1, hx1⟩ := h
      have h : f_X10_reckon_t41 x0 x3 x4 x5 x7 x9 σ1 = some z1 := hh1
      clear hh1
      unfold f_X10_reckon_t41 at h
      refine lv_iload hx hb dX10_reckon_41 (lv_at hl 5 rfl) ?_
      refine lv_bipush (v := 64) hx hb dX10_reckon_43 (by decide) ?_
      refine lv_icmp_ge (tgt := 90) hx hb dX10_reckon_45 (by decide) (fun c_11 => ?_) (fun c_11 => ?_)
      · replace h := itp h c_11
        replace h := ex_eq h; obtain ⟨b1, h, hz1⟩ := h
        subst hz1
        have hz1 := (itk_inr hx1).symm
        subst hz1
        refine lv_lload hx hb dX10_reckon_90 (lv_at hl 3 rfl) ?_
        obtain ⟨rfl, rfl⟩ := Prod.mk.inj (Option.some.inj h)
        exact W.lret hx hb hr (R_end hB) hB.2.2.2.2 dX10_reckon_92
      · replace h := itn h c_11
        refine lv_lload hx hb dX10_reckon_48 (lv_at hl 4 rfl) ?_
        refine lv_lconst (v := 0) hx hb dX10_reckon_50 (by decide) ?_
        refine W.lcmp hx hb dX10_reckon_51 ?_
        refine lv_if_le (tgt := 90) hx hb dX10_reckon_52 (by decide) (fun c_12 => ?_) (fun c_12 => ?_)
        · replace h := itp h c_12
          replace h := ex_eq h; obtain ⟨b1, h, hz1⟩ := h
          subst hz1
          have hz1 := (itk_inr hx1).symm
          subst hz1
          refine lv_lload hx hb dX10_reckon_90 (lv_at hl 3 rfl) ?_
          obtain ⟨rfl, rfl⟩ := Prod.mk.inj (Option.some.inj h)
          exact W.lret hx hb hr (R_end hB) hB.2.2.2.2 dX10_reckon_92
        · replace h := itn h c_12
          refine lv_lload hx hb dX10_reckon_55 (lv_at hl 3 rfl) ?_
          refine lv_aload_n hx hb dX10_reckon_57 rfl (lv_at hl 1 rfl) ?_
          refine lv_aload_n hx hb dX10_reckon_58 rfl (lv_at hl 0 rfl) ?_
          replace h := ck_eq h; obtain ⟨q_13, h⟩ := h
          refine R_getP0 hx hb ht hown hK hB q_13 (ht _ tw378) (u_same (ht _ tw379)) dX10_reckon_59 ?_
          refine lv_lload hx hb dX10_reckon_62 (lv_at hl 4 rfl) ?_
          refine lv_iload hx hb dX10_reckon_64 (lv_at hl 2 rfl) ?_
          refine lv_i2l (v := x4.toInt64) hx hb dX10_reckon_66 rfl ?_
          replace h := ck_eq h; obtain ⟨q_14, h⟩ := h
          refine lv_lrem hx hb dX10_reckon_67 q_14 ?_
          refine lv_l2i (v := (x7 - x7 / x4.toInt64 * x4.toInt64).toInt32) hx hb dX10_reckon_68 rfl ?_
          replace h := b2_eq h; obtain ⟨r_15, s_16, hc_17, h⟩ := h
          refine R_call (rest := [.long x5]) [.int r_15, .long x5] (R_runV (n := 2) (As := [.int (hI σ1 (100 + x0) 0), .int ((x7 - x7 / x4.toInt64 * x4.toInt64).toInt32)]) ⟨hx, hb, hml, hown, ht⟩ (fun _ h9 => h9) hK hZ hA hB (c_X7_valueOf l g P σ1 x3 (hI σ1 (100 + x0) 0) ((x7 - x7 / x4.toInt64 * x4.toInt64).toInt32) hk_x3 H.size hc_17) (R_recv hK hB (ky_in _ (by rw [hk_x3]; decide)) (cell_1 hk_x3) rfl) tw335 tw332 tw333 tw334 tw2 ⟨by decide, by decide, by decide⟩ rfl rfl ⟨Nat.le_of_ble_eq_true rfl, Nat.le_of_ble_eq_true rfl⟩ rfl hl.1 rfl (Nat.le_of_ble_eq_true rfl) dX10_reckon_69 ⟨Nat.zero_le _, Nat.zero_le _⟩) hB hA rfl (fun H locs hB => ?_)
          refine lv_i2l (v := r_15.toInt64) hx hb dX10_reckon_72 rfl ?_
          refine lv_ladd hx hb dX10_reckon_73 ?_
          refine lv_lstore (lv' := [(5, .long (x5 + r_15.toInt64)), (0, .ref (P x0)), (3, .ref (gL g x3)), (4, .int x4), (7, .long x7), (9, .int x9)]) hx hb dX10_reckon_74 hl (by decide) rfl (fun ls hl => ?_)
          refine lv_lload hx hb dX10_reckon_76 (lv_at hl 4 rfl) ?_
          refine lv_iload hx hb dX10_reckon_78 (lv_at hl 3 rfl) ?_
          refine lv_i2l (v := x4.toInt64) hx hb dX10_reckon_80 rfl ?_
          refine lv_ldiv hx hb dX10_reckon_81 q_14 ?_
          refine lv_lstore (lv' := [(7, .long (x7 / x4.toInt64)), (5, .long (x5 + r_15.toInt64)), (0, .ref (P x0)), (3, .ref (gL g x3)), (4, .int x4), (9, .int x9)]) hx hb dX10_reckon_82 hl (by decide) rfl (fun ls hl => ?_)
          refine lv_iinc (v := x9 + 1) (lv' := [(9, .int (x9 + 1)), (7, .long (x7 / x4.toInt64)), (5, .long (x5 + r_15.toInt64)), (0, .ref (P x0)), (3, .ref (gL g x3)), (4, .int x4)]) hx hb dX10_reckon_84 hl (k := 5) rfl rfl (by decide) rfl (fun ls hl => ?_)
          refine lv_goto (tgt := 41) hx hb dX10_reckon_87 (by decide) ?_
          obtain rfl := Option.some.inj h
          exact ih1 (x5 + r_15.toInt64) (x7 / x4.toInt64) (x9 + 1) s_16 H locs ls hx1 hB (lv_sub hl [3, 4, 5, 2, 1, 0] rfl)
  suffices hmain : ∀ (H : Heap) (locs : List Loc) (ls : Array Slot), tB g P σ A s.heap H locs → lv_has ls 10 [(0, .ref (P j0)), (1, .long a1), (3, .ref (gL g k3))] → WQ p l e { frames := 1, cells := 0, slots := 0, locals := 23 } s m args below meth c g P A (some (.long r)) τ H locs (F0 m 0 ls []) from hmain _ _ ls0 hB0 hl0
  intro H locs ls hB hl
  unfold f_X10_reckon at h
  refine lv_aload_n hx hb dX10_reckon_0 rfl (lv_at hl 2 rfl) ?_
  refine R_get (v := .int (hI σ k3 0)) hx hb ht ui_X7 hown hK hB (ky_in _ (by rw [hk_k3]; decide)) (cell_1 hk_k3) rfl 0 (by decide) (ht _ tw38) (fun _ h9 => h9) rfl dX10_reckon_1 ?_
  refine lv_istore (lv' := [(4, .int (hI σ k3 0)), (0, .ref (P j0)), (1, .long a1), (3, .ref (gL g k3))]) hx hb dX10_reckon_4 hl (by decide) rfl (fun ls hl => ?_)
  refine lv_iload hx hb dX10_reckon_6 (lv_at hl 0 rfl) ?_
  refine lv_iconst (v := 2) hx hb dX10_reckon_8 (by decide) ?_
  refine lv_icmp_ge (tgt := 14) hx hb dX10_reckon_9 (by decide) (fun c_5 => ?_) (fun c_5 => ?_)
  · replace h := itp h c_5
    refine lv_aload_n hx hb dX10_reckon_14 rfl (lv_at hl 3 rfl) ?_
    refine lv_aload_n hx hb dX10_reckon_15 rfl (lv_at hl 1 rfl) ?_
    replace h := ck_eq h; obtain ⟨q_6, h⟩ := h
    refine R_getP0 hx hb ht hown hK hB q_6 (ht _ tw378) (u_same (ht _ tw379)) dX10_reckon_16 ?_
    refine lv_lload_n hx hb dX10_reckon_19 rfl (lv_at hl 2 rfl) ?_
    refine lv_iload hx hb dX10_reckon_20 (lv_at hl 0 rfl) ?_
    refine lv_i2l (v := (hI σ k3 0).toInt64) hx hb dX10_reckon_22 rfl ?_
    replace h := ck_eq h; obtain ⟨q_7, h⟩ := h
    refine lv_lrem hx hb dX10_reckon_23 q_7 ?_
    refine lv_l2i (v := (a1 - a1 / (hI σ k3 0).toInt64 * (hI σ k3 0).toInt64).toInt32) hx hb dX10_reckon_24 rfl ?_
    replace h := b2_eq h; obtain ⟨r_8, s_9, hc_10, h⟩ := h
    refine R_call (rest := []) [.int r_8] (R_runV (n := 2) (As := [.int (hI σ (100 + j0) 0), .int ((a1 - a1 / (hI σ k3 0).toInt64 * (hI σ k3 0).toInt64).toInt32)]) ⟨hx, hb, hml, hown, ht⟩ (fun _ h9 => h9) hK hZ hA hB (c_X7_valueOf l g P σ k3 (hI σ (100 + j0) 0) ((a1 - a1 / (hI σ k3 0).toInt64 * (hI σ k3 0).toInt64).toInt32) hk_k3 H.size hc_10) (R_recv hK hB (ky_in _ (by rw [hk_k3]; decide)) (cell_1 hk_k3) rfl) tw335 tw332 tw333 tw334 tw2 ⟨by decide, by decide, by decide⟩ rfl rfl ⟨Nat.le_of_ble_eq_true rfl, Nat.le_of_ble_eq_true rfl⟩ rfl hl.1 rfl (Nat.le_of_ble_eq_true rfl) dX10_reckon_25 ⟨Nat.zero_le _, Nat.zero_le _⟩) hB hA rfl (fun H locs hB => ?_)
    refine lv_i2l (v := r_8.toInt64) hx hb dX10_reckon_28 rfl ?_
    refine lv_lstore (lv' := [(5, .long r_8.toInt64), (4, .int (hI σ k3 0)), (0, .ref (P j0)), (1, .long a1), (3, .ref (gL g k3))]) hx hb dX10_reckon_29 hl (by decide) rfl (fun ls hl => ?_)
    refine lv_lload_n hx hb dX10_reckon_31 rfl (lv_at hl 3 rfl) ?_
    refine lv_iload hx hb dX10_reckon_32 (lv_at hl 1 rfl) ?_
    refine lv_i2l (v := (hI σ k3 0).toInt64) hx hb dX10_reckon_34 rfl ?_
    refine lv_ldiv hx hb dX10_reckon_35 q_7 ?_
    refine lv_lstore (lv' := [(7, .long (a1 / (hI σ k3 0).toInt64)), (5, .long r_8.toInt64), (4, .int (hI σ k3 0)), (0, .ref (P j0)), (1, .long a1), (3, .ref (gL g k3))]) hx hb dX10_reckon_36 hl (by decide) rfl (fun ls hl => ?_)
    refine lv_iconst (v := 1) hx hb dX10_reckon_38 (by decide) ?_
    refine lv_istore (lv' := [(9, .int (1 : Int32)), (7, .long (a1 / (hI σ k3 0).toInt64)), (5, .long r_8.toInt64), (4, .int (hI σ k3 0)), (0, .ref (P j0)), (1, .long a1), (3, .ref (gL g k3))]) hx hb dX10_reckon_39 hl (by decide) rfl (fun ls hl => ?_)
    exact hL_41 j0 k3 (hI σ k3 0) hk_k3 fuel r_8.toInt64 (a1 / (hI σ k3 0).toInt64) (1 : Int32) s_9 H locs ls h hB (lv_sub hl [4, 6, 3, 2, 1, 0] rfl)
  · replace h := itn h c_5
    refine lv_lconst (v := 0) hx hb dX10_reckon_12 (by decide) ?_
    obtain ⟨rfl, rfl⟩ := Prod.mk.inj (Option.some.inj h)
    exact W.lret hx hb hr (R_end hB) hB.2.2.2.2 dX10_reckon_13
def f_X0_reckon (j0 : Nat) (a1 : Int64) (k3 : Nat) (σ : Hp) : Option (Int64 × Hp) := b2 (f_X1_together a1 (hI σ k3 0) (3 : Int32) σ) (fun r_1 s_2 => some (r_1, s_2))
set_option maxHeartbeats 4000000 in
set_option maxRecDepth 100000 in
theorem c_X0_reckon (l : Launch) (g : tG) (P : Nat → Nat) (σ : Hp) (j0 : Nat) (a1 : Int64) (k3 : Nat) (hk_k3 : ky k3 = 1) (sz : Nat) {r : Int64} {τ : Hp} (h : f_X0_reckon j0 a1 k3 σ = some (r, τ)) : Met l yX0_reckon (Cond.code yX0_reckon cX0_reckon 4 (some .long) :: tblG) ({ frames := 1, cells := 0, slots := 0, locals := 33 }) (va_Pc [.ref (P j0), .long a1, .ref (gL g k3)] (tPre g P σ sz)) (tQ (some (.long r)) (tPost g P τ (va_A (wC g P σ) sz)) (va_A (wC g P σ) sz)) 0 0 (va_A (wC g P σ) sz) := by
  refine T_start (B := fun A => tPost g P τ A) (by decide) (Nat.le_of_ble_eq_true rfl) ?_
  intro p e s m args below meth c ls0 A hx hb hml hr hown hlocks ht hnm hK hZ hA hB0 hl0
  suffices hmain : ∀ (H : Heap) (locs : List Loc) (ls : Array Slot), tB g P σ A s.heap H locs → lv_has ls 4 [(0, .ref (P j0)), (1, .long a1), (3, .ref (gL g k3))] → WQ p l e { frames := 1, cells := 0, slots := 0, locals := 33 } s m args below meth c g P A (some (.long r)) τ H locs (F0 m 0 ls []) from hmain _ _ ls0 hB0 hl0
  intro H locs ls hB hl
  unfold f_X0_reckon at h
  refine lv_lload_n hx hb dX0_reckon_0 rfl (lv_at hl 1 rfl) ?_
  refine lv_aload_n hx hb dX0_reckon_1 rfl (lv_at hl 2 rfl) ?_
  refine R_get (v := .int (hI σ k3 0)) hx hb ht ui_X7 hown hK hB (ky_in _ (by rw [hk_k3]; decide)) (cell_1 hk_k3) rfl 0 (by decide) (ht _ tw39) (fun _ h9 => h9) rfl dX0_reckon_2 ?_
  refine lv_iconst (v := 3) hx hb dX0_reckon_5 (by decide) ?_
  replace h := b2_eq h; obtain ⟨r_1, s_2, hc_3, h⟩ := h
  refine R_call (rest := []) [.long r_1] (R_runS (n := 3) (As := [.long a1, .int (hI σ k3 0), .int (3 : Int32)]) ⟨hx, hb, hml, hown, ht⟩ (fun _ h9 => h9) hK hZ hA hB (c_X1_together l g P σ a1 (hI σ k3 0) (3 : Int32) H.size hc_3) tw301 tw299 tw300 tw8 ⟨by decide, by decide, by decide⟩ rfl rfl ⟨Nat.le_of_ble_eq_true rfl, Nat.le_of_ble_eq_true rfl⟩ rfl hl.1 rfl (Nat.le_of_ble_eq_true rfl) dX0_reckon_6 ⟨Nat.zero_le _, Nat.zero_le _⟩) hB hA rfl (fun H locs hB => ?_)
  obtain ⟨rfl, rfl⟩ := Prod.mk.inj (Option.some.inj h)
  exact W.lret hx hb hr (R_end hB) hB.2.2.2.2 dX0_reckon_9
def v_reckon (j0 : Nat) (a1 : Int64) (k3 : Nat) (σ : Hp) : Option (Int64 × Hp) := if hC σ j0 = 0 then f_X0_reckon j0 a1 k3 σ else if hC σ j0 = 1 then f_X2_reckon j0 a1 k3 σ else if hC σ j0 = 2 then f_X3_reckon j0 a1 k3 σ else if hC σ j0 = 5 then f_X6_reckon j0 a1 k3 σ else if hC σ j0 = 7 then f_X8_reckon j0 a1 k3 σ else if hC σ j0 = 8 then f_X9_reckon j0 a1 k3 σ else if hC σ j0 = 9 then f_X10_reckon j0 a1 k3 σ else none
set_option maxHeartbeats 4000000 in
set_option maxRecDepth 100000 in
theorem dv_reckon {p : Program} {l : Launch} {e : Env} {R : Room} {s : State} {m : MethodId} {args : Array Value} {below : List Frame} {meth : Method} {c : Code} {H : Heap} {locs : List Loc} {cells slots : Nat} {cc : ByteArray} {pc : Nat} {ls : Array Slot} {rest : List Value} {g : tG} {P : Nat → Nat} {σ : Hp} {A : Nat → Prop} {own : String} {index nL : Nat} {st0 : List Value} (S : CallFix p m c cc nL s args tblG own) (hK : tK g s) (hZ : tZ g A s s.heap) (hA : ∀ q, s.heap.size ≤ q → A q) (hB : tB g P σ A s.heap H locs) {j0 : Nat} {a1 : Int64} {k3 : Nat} (hj : isLaw σ j0 = true) (hk_k3 : ky k3 = 1) (hl : Cond.methodLink own index ⟨"TurnedAbout$Law", "reckon", "(JLTurnedAbout$State;)J"⟩ ∈ tblG) {r : Int64} {τ : Hp} (hc : v_reckon j0 a1 k3 σ = some (r, τ)) (hRf : 2 ≤ R.frames) (hRl : 60 ≤ R.locals) (hsize : ls.size = nL) (hst : st0 = [.long a1, .ref (gL g k3)].reverse ++ .ref (P j0) :: rest) (hW : (rest.map fun v => v.category).sum ≤ 8) (hdg : decode cc pc = .ok (.invokevirtual index, 3)) (hfc : cells ≤ R.cells) (hfs : slots ≤ R.slots) : va_Run p l e R s m args below meth c H locs cells slots 0 0 (F0 m pc ls st0) rest (tQ (some (.long r)) (tPost g P τ (va_A (wC g P σ) H.size)) (va_A (wC g P σ) H.size) (Value.ref (P j0) :: [.long a1, .ref (gL g k3)]).toArray) (va_A (wC g P σ) H.size) := by
  unfold v_reckon at hc
  rcases (isLaw_eq hj).2 with q | q | q | q | q | q | q <;> rw [q] at hc
  · exact R_runU (C := RX0) (owner := "TurnedAbout$Law") (x := ⟨"TurnedAbout$Law", "reckon", "(JLTurnedAbout$State;)J"⟩) (n := 2) (As := [.long a1, .ref (gL g k3)]) S (fun _ h9 => h9) hK hZ hA hB (c_X0_reckon l g P σ j0 a1 k3 hk_k3 H.size hc) (R_recvP hK hB (isLaw_eq hj).1 (r := (RX0, TX0, 2)) (by rw [q]; rfl)) tw298 hl tw295 tw293 tw336 tw297 tw296 tw16 ⟨by decide, by decide, by decide⟩ rfl rfl ⟨Nat.le_trans (Nat.le_of_ble_eq_true rfl) hRf, Nat.le_trans (Nat.le_of_ble_eq_true rfl) hRl⟩ rfl hsize hst hW hdg ⟨hfc, hfs⟩
  · exact R_runU (C := RX2) (owner := "TurnedAbout$Law") (x := ⟨"TurnedAbout$Law", "reckon", "(JLTurnedAbout$State;)J"⟩) (n := 2) (As := [.long a1, .ref (gL g k3)]) S (fun _ h9 => h9) hK hZ hA hB (c_X2_reckon l g P σ j0 a1 k3 hk_k3 H.size hc) (R_recvP hK hB (isLaw_eq hj).1 (r := (RX2, TX2, 2)) (by rw [q]; rfl)) tw336 hl tw295 tw293 tw336 tw293 tw294 tw10 ⟨by decide, by decide, by decide⟩ rfl rfl ⟨Nat.le_trans (Nat.le_of_ble_eq_true rfl) hRf, Nat.le_trans (Nat.le_of_ble_eq_true rfl) hRl⟩ rfl hsize hst hW hdg ⟨hfc, hfs⟩
  · exact R_runU (C := RX3) (owner := "TurnedAbout$Law") (x := ⟨"TurnedAbout$Law", "reckon", "(JLTurnedAbout$State;)J"⟩) (n := 2) (As := [.long a1, .ref (gL g k3)]) S (fun _ h9 => h9) hK hZ hA hB (c_X3_reckon l g P σ j0 a1 k3 hk_k3 H.size hc) (R_recvP hK hB (isLaw_eq hj).1 (r := (RX3, TX3, 2)) (by rw [q]; rfl)) tw304 hl tw295 tw293 tw336 tw303 tw302 tw13 ⟨by decide, by decide, by decide⟩ rfl rfl ⟨Nat.le_trans (Nat.le_of_ble_eq_true rfl) hRf, Nat.le_trans (Nat.le_of_ble_eq_true rfl) hRl⟩ rfl hsize hst hW hdg ⟨hfc, hfs⟩
  · exact R_runU (C := RX6) (owner := "TurnedAbout$Law") (x := ⟨"TurnedAbout$Law", "reckon", "(JLTurnedAbout$State;)J"⟩) (n := 2) (As := [.long a1, .ref (gL g k3)]) S (fun _ h9 => h9) hK hZ hA hB (c_X6_reckon l g P σ j0 a1 k3 hk_k3 H.size hc) (R_recvP hK hB (isLaw_eq hj).1 (r := (RX6, TX6, 2)) (by rw [q]; rfl)) tw312 hl tw295 tw293 tw336 tw311 tw310 tw12 ⟨by decide, by decide, by decide⟩ rfl rfl ⟨Nat.le_trans (Nat.le_of_ble_eq_true rfl) hRf, Nat.le_trans (Nat.le_of_ble_eq_true rfl) hRl⟩ rfl hsize hst hW hdg ⟨hfc, hfs⟩
  · exact R_runU (C := RX8) (owner := "TurnedAbout$Law") (x := ⟨"TurnedAbout$Law", "reckon", "(JLTurnedAbout$State;)J"⟩) (n := 2) (As := [.long a1, .ref (gL g k3)]) S (fun _ h9 => h9) hK hZ hA hB (c_X8_reckon l g P σ j0 a1 k3 hk_k3 H.size hc) (R_recvP hK hB (isLaw_eq hj).1 (r := (RX8, TX8, 2)) (by rw [q]; rfl)) tw316 hl tw295 tw293 tw336 tw315 tw314 tw11 ⟨by decide, by decide, by decide⟩ rfl rfl ⟨Nat.le_trans (Nat.le_of_ble_eq_true rfl) hRf, Nat.le_trans (Nat.le_of_ble_eq_true rfl) hRl⟩ rfl hsize hst hW hdg ⟨hfc, hfs⟩
  · exact R_runU (C := RX9) (owner := "TurnedAbout$Law") (x := ⟨"TurnedAbout$Law", "reckon", "(JLTurnedAbout$State;)J"⟩) (n := 2) (As := [.long a1, .ref (gL g k3)]) S (fun _ h9 => h9) hK hZ hA hB (c_X9_reckon l g P σ j0 a1 k3 hk_k3 H.size hc) (R_recvP hK hB (isLaw_eq hj).1 (r := (RX9, TX9, 2)) (by rw [q]; rfl)) tw325 hl tw295 tw293 tw336 tw324 tw323 tw14 ⟨by decide, by decide, by decide⟩ rfl rfl ⟨Nat.le_trans (Nat.le_of_ble_eq_true rfl) hRf, Nat.le_trans (Nat.le_of_ble_eq_true rfl) hRl⟩ rfl hsize hst hW hdg ⟨hfc, hfs⟩
  · exact R_runU (C := RX10) (owner := "TurnedAbout$Law") (x := ⟨"TurnedAbout$Law", "reckon", "(JLTurnedAbout$State;)J"⟩) (n := 2) (As := [.long a1, .ref (gL g k3)]) S (fun _ h9 => h9) hK hZ hA hB (c_X10_reckon l g P σ j0 a1 k3 hk_k3 H.size hc) (R_recvP hK hB (isLaw_eq hj).1 (r := (RX10, TX10, 2)) (by rw [q]; rfl)) tw331 hl tw295 tw293 tw336 tw330 tw329 tw15 ⟨by decide, by decide, by decide⟩ rfl rfl ⟨Nat.le_trans (Nat.le_of_ble_eq_true rfl) hRf, Nat.le_trans (Nat.le_of_ble_eq_true rfl) hRl⟩ rfl hsize hst hW hdg ⟨hfc, hfs⟩
def f_X2_onward (j0 : Nat) (a1 : Int64) (k3 : Nat) (σ : Hp) : Option (Int64 × Hp) := ck (isLaw σ j0 = true) (b2 (v_reckon j0 a1 k3 σ) (fun r_2 s_3 => if (lg_cmp r_2 (999999999999999 : Int64)) ≤ 0 then some (r_2, s_3) else some ((-1 : Int64), s_3)))
set_option maxHeartbeats 4000000 in
set_option maxRecDepth 100000 in
theorem c_X2_onward (l : Launch) (g : tG) (P : Nat → Nat) (σ : Hp) (j0 : Nat) (a1 : Int64) (k3 : Nat) (hk_k3 : ky k3 = 1) (sz : Nat) {r : Int64} {τ : Hp} (h : f_X2_onward j0 a1 k3 σ = some (r, τ)) : Met l yX2_onward (Cond.code yX2_onward cX2_onward 6 (some .long) :: tblG) ({ frames := 2, cells := 0, slots := 0, locals := 60 }) (va_Pc [.ref (P j0), .long a1, .ref (gL g k3)] (tPre g P σ sz)) (tQ (some (.long r)) (tPost g P τ (va_A (wC g P σ) sz)) (va_A (wC g P σ) sz)) 0 0 (va_A (wC g P σ) sz) := by
  refine T_start (B := fun A => tPost g P τ A) (by decide) (Nat.le_of_ble_eq_true rfl) ?_
  intro p e s m args below meth c ls0 A hx hb hml hr hown hlocks ht hnm hK hZ hA hB0 hl0
  suffices hmain : ∀ (H : Heap) (locs : List Loc) (ls : Array Slot), tB g P σ A s.heap H locs → lv_has ls 6 [(0, .ref (P j0)), (1, .long a1), (3, .ref (gL g k3))] → WQ p l e { frames := 2, cells := 0, slots := 0, locals := 60 } s m args below meth c g P A (some (.long r)) τ H locs (F0 m 0 ls []) from hmain _ _ ls0 hB0 hl0
  intro H locs ls hB hl
  unfold f_X2_onward at h
  refine lv_aload_n hx hb dX2_onward_0 rfl (lv_at hl 0 rfl) ?_
  refine lv_lload_n hx hb dX2_onward_1 rfl (lv_at hl 1 rfl) ?_
  refine lv_aload_n hx hb dX2_onward_2 rfl (lv_at hl 2 rfl) ?_
  replace h := ck_eq h; obtain ⟨q_1, h⟩ := h
  replace h := b2_eq h; obtain ⟨r_2, s_3, hc_4, h⟩ := h
  refine R_call (rest := []) [.long r_2] (dv_reckon ⟨hx, hb, hml, hown, ht⟩ hK hZ hA hB q_1 hk_k3 tw292 hc_4 (Nat.le_of_ble_eq_true rfl) (Nat.le_of_ble_eq_true rfl) hl.1 rfl (Nat.le_of_ble_eq_true rfl) dX2_onward_3 (Nat.zero_le _) (Nat.zero_le _)) hB hA rfl (fun H locs hB => ?_)
  refine lv_lstore (lv' := [(4, .long r_2), (0, .ref (P j0)), (1, .long a1), (3, .ref (gL g k3))]) hx hb dX2_onward_6 hl (by decide) rfl (fun ls hl => ?_)
  refine lv_lload hx hb dX2_onward_8 (lv_at hl 0 rfl) ?_
  refine lv_ldc2 (v := 999999999999999) hx hb hown (ht _ tw338) dX2_onward_10 ?_
  refine W.lcmp hx hb dX2_onward_13 ?_
  refine lv_if_le (tgt := 23) hx hb dX2_onward_14 (by decide) (fun c_5 => ?_) (fun c_5 => ?_)
  · replace h := itp h c_5
    refine lv_lload hx hb dX2_onward_23 (lv_at hl 0 rfl) ?_
    obtain ⟨rfl, rfl⟩ := Prod.mk.inj (Option.some.inj h)
    exact W.lret hx hb hr (R_end hB) hB.2.2.2.2 dX2_onward_25
  · replace h := itn h c_5
    refine lv_ldc2 (v := -1) hx hb hown (ht _ tw339) dX2_onward_17 ?_
    refine lv_goto (tgt := 25) hx hb dX2_onward_20 (by decide) ?_
    obtain ⟨rfl, rfl⟩ := Prod.mk.inj (Option.some.inj h)
    exact W.lret hx hb hr (R_end hB) hB.2.2.2.2 dX2_onward_25
def v_onward (j0 : Nat) (a1 : Int64) (k3 : Nat) (σ : Hp) : Option (Int64 × Hp) := if hC σ j0 = 0 then f_X2_onward j0 a1 k3 σ else if hC σ j0 = 1 then f_X2_onward j0 a1 k3 σ else if hC σ j0 = 2 then f_X2_onward j0 a1 k3 σ else if hC σ j0 = 5 then f_X2_onward j0 a1 k3 σ else if hC σ j0 = 7 then f_X2_onward j0 a1 k3 σ else if hC σ j0 = 8 then f_X2_onward j0 a1 k3 σ else if hC σ j0 = 9 then f_X2_onward j0 a1 k3 σ else none
set_option maxHeartbeats 4000000 in
set_option maxRecDepth 100000 in
theorem dv_onward {p : Program} {l : Launch} {e : Env} {R : Room} {s : State} {m : MethodId} {args : Array Value} {below : List Frame} {meth : Method} {c : Code} {H : Heap} {locs : List Loc} {cells slots : Nat} {cc : ByteArray} {pc : Nat} {ls : Array Slot} {rest : List Value} {g : tG} {P : Nat → Nat} {σ : Hp} {A : Nat → Prop} {own : String} {index nL : Nat} {st0 : List Value} (S : CallFix p m c cc nL s args tblG own) (hK : tK g s) (hZ : tZ g A s s.heap) (hA : ∀ q, s.heap.size ≤ q → A q) (hB : tB g P σ A s.heap H locs) {j0 : Nat} {a1 : Int64} {k3 : Nat} (hj : isLaw σ j0 = true) (hk_k3 : ky k3 = 1) (hl : Cond.methodLink own index ⟨"TurnedAbout$Law", "onward", "(JLTurnedAbout$State;)J"⟩ ∈ tblG) {r : Int64} {τ : Hp} (hc : v_onward j0 a1 k3 σ = some (r, τ)) (hRf : 3 ≤ R.frames) (hRl : 85 ≤ R.locals) (hsize : ls.size = nL) (hst : st0 = [.long a1, .ref (gL g k3)].reverse ++ .ref (P j0) :: rest) (hW : (rest.map fun v => v.category).sum ≤ 8) (hdg : decode cc pc = .ok (.invokevirtual index, 3)) (hfc : cells ≤ R.cells) (hfs : slots ≤ R.slots) : va_Run p l e R s m args below meth c H locs cells slots 0 0 (F0 m pc ls st0) rest (tQ (some (.long r)) (tPost g P τ (va_A (wC g P σ) H.size)) (va_A (wC g P σ) H.size) (Value.ref (P j0) :: [.long a1, .ref (gL g k3)]).toArray) (va_A (wC g P σ) H.size) := by
  unfold v_onward at hc
  rcases (isLaw_eq hj).2 with q | q | q | q | q | q | q <;> rw [q] at hc
  · exact R_runU (C := RX0) (owner := "TurnedAbout$Law") (x := ⟨"TurnedAbout$Law", "onward", "(JLTurnedAbout$State;)J"⟩) (n := 2) (As := [.long a1, .ref (gL g k3)]) S (fun _ h9 => h9) hK hZ hA hB (c_X2_onward l g P σ j0 a1 k3 hk_k3 H.size hc) (R_recvP hK hB (isLaw_eq hj).1 (r := (RX0, TX0, 2)) (by rw [q]; rfl)) tw291 hl tw284 tw282 tw291 tw282 tw285 tw10 ⟨by decide, by decide, by decide⟩ rfl rfl ⟨Nat.le_trans (Nat.le_of_ble_eq_true rfl) hRf, Nat.le_trans (Nat.le_of_ble_eq_true rfl) hRl⟩ rfl hsize hst hW hdg ⟨hfc, hfs⟩
  · exact R_runU (C := RX2) (owner := "TurnedAbout$Law") (x := ⟨"TurnedAbout$Law", "onward", "(JLTurnedAbout$State;)J"⟩) (n := 2) (As := [.long a1, .ref (gL g k3)]) S (fun _ h9 => h9) hK hZ hA hB (c_X2_onward l g P σ j0 a1 k3 hk_k3 H.size hc) (R_recvP hK hB (isLaw_eq hj).1 (r := (RX2, TX2, 2)) (by rw [q]; rfl)) tw291 hl tw284 tw282 tw291 tw282 tw283 tw10 ⟨by decide, by decide, by decide⟩ rfl rfl ⟨Nat.le_trans (Nat.le_of_ble_eq_true rfl) hRf, Nat.le_trans (Nat.le_of_ble_eq_true rfl) hRl⟩ rfl hsize hst hW hdg ⟨hfc, hfs⟩
  · exact R_runU (C := RX3) (owner := "TurnedAbout$Law") (x := ⟨"TurnedAbout$Law", "onward", "(JLTurnedAbout$State;)J"⟩) (n := 2) (As := [.long a1, .ref (gL g k3)]) S (fun _ h9 => h9) hK hZ hA hB (c_X2_onward l g P σ j0 a1 k3 hk_k3 H.size hc) (R_recvP hK hB (isLaw_eq hj).1 (r := (RX3, TX3, 2)) (by rw [q]; rfl)) tw291 hl tw284 tw282 tw291 tw282 tw286 tw10 ⟨by decide, by decide, by decide⟩ rfl rfl ⟨Nat.le_trans (Nat.le_of_ble_eq_true rfl) hRf, Nat.le_trans (Nat.le_of_ble_eq_true rfl) hRl⟩ rfl hsize hst hW hdg ⟨hfc, hfs⟩
  · exact R_runU (C := RX6) (owner := "TurnedAbout$Law") (x := ⟨"TurnedAbout$Law", "onward", "(JLTurnedAbout$State;)J"⟩) (n := 2) (As := [.long a1, .ref (gL g k3)]) S (fun _ h9 => h9) hK hZ hA hB (c_X2_onward l g P σ j0 a1 k3 hk_k3 H.size hc) (R_recvP hK hB (isLaw_eq hj).1 (r := (RX6, TX6, 2)) (by rw [q]; rfl)) tw291 hl tw284 tw282 tw291 tw282 tw287 tw10 ⟨by decide, by decide, by decide⟩ rfl rfl ⟨Nat.le_trans (Nat.le_of_ble_eq_true rfl) hRf, Nat.le_trans (Nat.le_of_ble_eq_true rfl) hRl⟩ rfl hsize hst hW hdg ⟨hfc, hfs⟩
  · exact R_runU (C := RX8) (owner := "TurnedAbout$Law") (x := ⟨"TurnedAbout$Law", "onward", "(JLTurnedAbout$State;)J"⟩) (n := 2) (As := [.long a1, .ref (gL g k3)]) S (fun _ h9 => h9) hK hZ hA hB (c_X2_onward l g P σ j0 a1 k3 hk_k3 H.size hc) (R_recvP hK hB (isLaw_eq hj).1 (r := (RX8, TX8, 2)) (by rw [q]; rfl)) tw291 hl tw284 tw282 tw291 tw282 tw288 tw10 ⟨by decide, by decide, by decide⟩ rfl rfl ⟨Nat.le_trans (Nat.le_of_ble_eq_true rfl) hRf, Nat.le_trans (Nat.le_of_ble_eq_true rfl) hRl⟩ rfl hsize hst hW hdg ⟨hfc, hfs⟩
  · exact R_runU (C := RX9) (owner := "TurnedAbout$Law") (x := ⟨"TurnedAbout$Law", "onward", "(JLTurnedAbout$State;)J"⟩) (n := 2) (As := [.long a1, .ref (gL g k3)]) S (fun _ h9 => h9) hK hZ hA hB (c_X2_onward l g P σ j0 a1 k3 hk_k3 H.size hc) (R_recvP hK hB (isLaw_eq hj).1 (r := (RX9, TX9, 2)) (by rw [q]; rfl)) tw291 hl tw284 tw282 tw291 tw282 tw289 tw10 ⟨by decide, by decide, by decide⟩ rfl rfl ⟨Nat.le_trans (Nat.le_of_ble_eq_true rfl) hRf, Nat.le_trans (Nat.le_of_ble_eq_true rfl) hRl⟩ rfl hsize hst hW hdg ⟨hfc, hfs⟩
  · exact R_runU (C := RX10) (owner := "TurnedAbout$Law") (x := ⟨"TurnedAbout$Law", "onward", "(JLTurnedAbout$State;)J"⟩) (n := 2) (As := [.long a1, .ref (gL g k3)]) S (fun _ h9 => h9) hK hZ hA hB (c_X2_onward l g P σ j0 a1 k3 hk_k3 H.size hc) (R_recvP hK hB (isLaw_eq hj).1 (r := (RX10, TX10, 2)) (by rw [q]; rfl)) tw291 hl tw284 tw282 tw291 tw282 tw290 tw10 ⟨by decide, by decide, by decide⟩ rfl rfl ⟨Nat.le_trans (Nat.le_of_ble_eq_true rfl) hRf, Nat.le_trans (Nat.le_of_ble_eq_true rfl) hRl⟩ rfl hsize hst hW hdg ⟨hfc, hfs⟩
def f_X2_turns_b20 (x0 : Nat) (x1 : Int32) (σ1 : Hp) : Option (Int32 × Hp) := ck (isLaw σ1 x0 = true) (some ((x1 + (hI σ1 (100 + x0) 0)), σ1))
def f_X2_turns (j0 : Nat) (a1 : Int32) (k2 : Nat) (σ : Hp) : Option (Int32 × Hp) := ck (inb (0 : Int32) (ln k2) = true) (if (Int32.ofNat (ln k2)) ≤ ((hI σ k2 (0 : Int32).toNatClampNeg) + (1 : Int32)) then f_X2_turns_b20 j0 a1 (sI σ k2 (0 : Int32).toNatClampNeg ((hI σ k2 (0 : Int32).toNatClampNeg) + (1 : Int32))) else ck (inb (hI (sI σ k2 (0 : Int32).toNatClampNeg ((hI σ k2 (0 : Int32).toNatClampNeg) + (1 : Int32))) k2 (0 : Int32).toNatClampNeg) (ln k2) = true) (f_X2_turns_b20 j0 a1 (sI (sI σ k2 (0 : Int32).toNatClampNeg ((hI σ k2 (0 : Int32).toNatClampNeg) + (1 : Int32))) k2 (hI (sI σ k2 (0 : Int32).toNatClampNeg ((hI σ k2 (0 : Int32).toNatClampNeg) + (1 : Int32))) k2 (0 : Int32).toNatClampNeg).toNatClampNeg (10 : Int32))))
set_option maxHeartbeats 4000000 in
set_option maxRecDepth 100000 in
theorem c_X2_turns (l : Launch) (g : tG) (P : Nat → Nat) (σ : Hp) (j0 : Nat) (a1 : Int32) (k2 : Nat) (hk_k2 : ky k2 = 3) (sz : Nat) {r : Int32} {τ : Hp} (h : f_X2_turns j0 a1 k2 σ = some (r, τ)) : Met l yX2_turns (Cond.code yX2_turns cX2_turns 3 (some .int) :: tblG) ({ frames := 0, cells := 0, slots := 0, locals := 0 }) (va_Pc [.ref (P j0), .int a1, .ref (gL g k2)] (tPre g P σ sz)) (tQ (some (.int r)) (tPost g P τ (va_A (wC g P σ) sz)) (va_A (wC g P σ) sz)) 0 0 (va_A (wC g P σ) sz) := by
  refine T_start (B := fun A => tPost g P τ A) (by decide) (Nat.le_of_ble_eq_true rfl) ?_
  intro p e s m args below meth c ls0 A hx hb hml hr hown hlocks ht hnm hK hZ hA hB0 hl0
  have hb_20 : ∀ (x0 : Nat) (x1 : Int32) (σ1 : Hp) (H : Heap) (locs : List Loc) (ls : Array Slot), f_X2_turns_b20 x0 x1 σ1 = some (r, τ) → tB g P σ1 A s.heap H locs → lv_has ls 3 [(0, .ref (P x0)), (1, .int x1)] → WQ p l e { frames := 0, cells := 0, slots := 0, locals := 0 } s m args below meth c g P A (some (.int r)) τ H locs (F0 m 20 ls []) := by
    intro x0 x1 σ1 H locs ls h hB hl
    unfold f_X2_turns_b20 at h
    refine lv_iload_n hx hb dX2_turns_20 rfl (lv_at hl 1 rfl) ?_
    refine lv_aload_n hx hb dX2_turns_21 rfl (lv_at hl 0 rfl) ?_
    replace h := ck_eq h; obtain ⟨q_3, h⟩ := h
    refine R_getP0 hx hb ht hown hK hB q_3 (ht _ tw377) (fun _ h9 => h9) dX2_turns_22 ?_
    refine lv_iadd hx hb dX2_turns_25 ?_
    obtain ⟨rfl, rfl⟩ := Prod.mk.inj (Option.some.inj h)
    exact W.iret hx hb hr (R_end hB) hB.2.2.2.2 dX2_turns_26
  suffices hmain : ∀ (H : Heap) (locs : List Loc) (ls : Array Slot), tB g P σ A s.heap H locs → lv_has ls 3 [(0, .ref (P j0)), (1, .int a1), (2, .ref (gL g k2))] → WQ p l e { frames := 0, cells := 0, slots := 0, locals := 0 } s m args below meth c g P A (some (.int r)) τ H locs (F0 m 0 ls []) from hmain _ _ ls0 hB0 hl0
  intro H locs ls hB hl
  unfold f_X2_turns at h
  refine lv_aload_n hx hb dX2_turns_0 rfl (lv_at hl 2 rfl) ?_
  refine lv_iconst (v := 0) hx hb dX2_turns_1 (by decide) ?_
  refine lv_dup2_11 hx hb dX2_turns_2 rfl rfl ?_
  replace h := ck_eq h; obtain ⟨q_1, h⟩ := h
  refine R_iald hx hb hK hB hk_k2 (inb_eq q_1) dX2_turns_3 ?_
  refine lv_iconst (v := 1) hx hb dX2_turns_4 (by decide) ?_
  refine lv_iadd hx hb dX2_turns_5 ?_
  refine lv_dup_x2 hx hb dX2_turns_6 rfl rfl rfl ?_
  refine R_iast hx hb hK hB hk_k2 (inb_eq q_1) dX2_turns_7 (fun H locs hB => ?_)
  refine lv_aload_n hx hb dX2_turns_8 rfl (lv_at hl 2 rfl) ?_
  refine R_alenI hx hb (v := Int32.ofNat (ln k2)) hK hB hk_k2 rfl dX2_turns_9 ?_
  refine lv_icmp_ge (tgt := 20) hx hb dX2_turns_10 (by decide) (fun c_2 => ?_) (fun c_2 => ?_)
  · replace h := itp h c_2
    exact hb_20 j0 a1 (sI σ k2 (0 : Int32).toNatClampNeg ((hI σ k2 (0 : Int32).toNatClampNeg) + (1 : Int32))) H locs ls h hB (lv_sub hl [0, 1] rfl)
  · replace h := itn h c_2
    refine lv_aload_n hx hb dX2_turns_13 rfl (lv_at hl 2 rfl) ?_
    refine lv_aload_n hx hb dX2_turns_14 rfl (lv_at hl 2 rfl) ?_
    refine lv_iconst (v := 0) hx hb dX2_turns_15 (by decide) ?_
    refine R_iald hx hb hK hB hk_k2 (inb_eq q_1) dX2_turns_16 ?_
    refine lv_bipush (v := 10) hx hb dX2_turns_17 (by decide) ?_
    replace h := ck_eq h; obtain ⟨q_4, h⟩ := h
    refine R_iast hx hb hK hB hk_k2 (inb_eq q_4) dX2_turns_19 (fun H locs hB => ?_)
    exact hb_20 j0 a1 (sI (sI σ k2 (0 : Int32).toNatClampNeg ((hI σ k2 (0 : Int32).toNatClampNeg) + (1 : Int32))) k2 (hI (sI σ k2 (0 : Int32).toNatClampNeg ((hI σ k2 (0 : Int32).toNatClampNeg) + (1 : Int32))) k2 (0 : Int32).toNatClampNeg).toNatClampNeg (10 : Int32)) H locs ls h hB (lv_sub hl [0, 1] rfl)
def f_X8_turns_b20 (x0 : Nat) (x1 : Int32) (x2 : Nat) (σ1 : Hp) : Option (Int32 × Hp) := ck (isLaw σ1 x0 = true) (b2 (f_X2_turns x0 x1 x2 σ1) (fun r_3 s_4 => ck (isLaw s_4 x0 = true) (some ((r_3 + (hI s_4 (100 + x0) 1)), s_4))))
def f_X8_turns (j0 : Nat) (a1 : Int32) (k2 : Nat) (σ : Hp) : Option (Int32 × Hp) := ck (inb (0 : Int32) (ln k2) = true) (if (Int32.ofNat (ln k2)) ≤ ((hI σ k2 (0 : Int32).toNatClampNeg) + (1 : Int32)) then f_X8_turns_b20 j0 a1 k2 (sI σ k2 (0 : Int32).toNatClampNeg ((hI σ k2 (0 : Int32).toNatClampNeg) + (1 : Int32))) else ck (inb (hI (sI σ k2 (0 : Int32).toNatClampNeg ((hI σ k2 (0 : Int32).toNatClampNeg) + (1 : Int32))) k2 (0 : Int32).toNatClampNeg) (ln k2) = true) (f_X8_turns_b20 j0 a1 k2 (sI (sI σ k2 (0 : Int32).toNatClampNeg ((hI σ k2 (0 : Int32).toNatClampNeg) + (1 : Int32))) k2 (hI (sI σ k2 (0 : Int32).toNatClampNeg ((hI σ k2 (0 : Int32).toNatClampNeg) + (1 : Int32))) k2 (0 : Int32).toNatClampNeg).toNatClampNeg (20 : Int32))))
set_option maxHeartbeats 4000000 in
set_option maxRecDepth 100000 in
theorem c_X8_turns (l : Launch) (g : tG) (P : Nat → Nat) (σ : Hp) (j0 : Nat) (a1 : Int32) (k2 : Nat) (hk_k2 : ky k2 = 3) (sz : Nat) {r : Int32} {τ : Hp} (h : f_X8_turns j0 a1 k2 σ = some (r, τ)) : Met l yX8_turns (Cond.code yX8_turns cX8_turns 3 (some .int) :: tblG) ({ frames := 1, cells := 0, slots := 0, locals := 22 }) (va_Pc [.ref (P j0), .int a1, .ref (gL g k2)] (tPre g P σ sz)) (tQ (some (.int r)) (tPost g P τ (va_A (wC g P σ) sz)) (va_A (wC g P σ) sz)) 0 0 (va_A (wC g P σ) sz) := by
  refine T_start (B := fun A => tPost g P τ A) (by decide) (Nat.le_of_ble_eq_true rfl) ?_
  intro p e s m args below meth c ls0 A hx hb hml hr hown hlocks ht hnm hK hZ hA hB0 hl0
  have hb_20 : ∀ (x0 : Nat) (x1 : Int32) (x2 : Nat) (σ1 : Hp) (hk_x2 : ky x2 = 3) (H : Heap) (locs : List Loc) (ls : Array Slot), f_X8_turns_b20 x0 x1 x2 σ1 = some (r, τ) → tB g P σ1 A s.heap H locs → lv_has ls 3 [(0, .ref (P x0)), (1, .int x1), (2, .ref (gL g x2))] → WQ p l e { frames := 1, cells := 0, slots := 0, locals := 22 } s m args below meth c g P A (some (.int r)) τ H locs (F0 m 20 ls []) := by
    intro x0 x1 x2 σ1 hk_x2 H locs ls h hB hl
    unfold f_X8_turns_b20 at h
    refine lv_aload_n hx hb dX8_turns_20 rfl (lv_at hl 0 rfl) ?_
    refine lv_iload_n hx hb dX8_turns_21 rfl (lv_at hl 1 rfl) ?_
    refine lv_aload_n hx hb dX8_turns_22 rfl (lv_at hl 2 rfl) ?_
    replace h := ck_eq h; obtain ⟨q_6, h⟩ := h
    replace h := b2_eq h; obtain ⟨r_3, s_4, hc_5, h⟩ := h
    obtain ⟨rc, hrc⟩ := isLaw_cl q_6
    refine R_call (rest := []) [.int r_3] (R_runSU (n := 2) (As := [.int x1, .ref (gL g x2)]) ⟨hx, hb, hml, hown, ht⟩ (fun _ h9 => h9) hK hZ hA hB (c_X2_turns l g P σ1 x0 x1 x2 hk_x2 H.size hc_5) (isLaw_eq q_6).1 hrc tw850 tw842 tw832 tw262 tw830 tw10 ⟨by decide, by decide⟩ rfl rfl ⟨Nat.le_of_ble_eq_true rfl, Nat.le_of_ble_eq_true rfl⟩ rfl hl.1 rfl (Nat.le_of_ble_eq_true rfl) dX8_turns_23 ⟨Nat.zero_le _, Nat.zero_le _⟩) hB hA rfl (fun H locs hB => ?_)
    refine lv_aload_n hx hb dX8_turns_26 rfl (lv_at hl 0 rfl) ?_
    replace h := ck_eq h; obtain ⟨q_7, h⟩ := h
    refine R_getP1 hx hb ht hown hK hB q_7 (ht _ tw386) (u_same (ht _ tw387)) dX8_turns_27 ?_
    refine lv_iadd hx hb dX8_turns_30 ?_
    obtain ⟨rfl, rfl⟩ := Prod.mk.inj (Option.some.inj h)
    exact W.iret hx hb hr (R_end hB) hB.2.2.2.2 dX8_turns_31
  suffices hmain : ∀ (H : Heap) (locs : List Loc) (ls : Array Slot), tB g P σ A s.heap H locs → lv_has ls 3 [(0, .ref (P j0)), (1, .int a1), (2, .ref (gL g k2))] → WQ p l e { frames := 1, cells := 0, slots := 0, locals := 22 } s m args below meth c g P A (some (.int r)) τ H locs (F0 m 0 ls []) from hmain _ _ ls0 hB0 hl0
  intro H locs ls hB hl
  unfold f_X8_turns at h
  refine lv_aload_n hx hb dX8_turns_0 rfl (lv_at hl 2 rfl) ?_
  refine lv_iconst (v := 0) hx hb dX8_turns_1 (by decide) ?_
  refine lv_dup2_11 hx hb dX8_turns_2 rfl rfl ?_
  replace h := ck_eq h; obtain ⟨q_1, h⟩ := h
  refine R_iald hx hb hK hB hk_k2 (inb_eq q_1) dX8_turns_3 ?_
  refine lv_iconst (v := 1) hx hb dX8_turns_4 (by decide) ?_
  refine lv_iadd hx hb dX8_turns_5 ?_
  refine lv_dup_x2 hx hb dX8_turns_6 rfl rfl rfl ?_
  refine R_iast hx hb hK hB hk_k2 (inb_eq q_1) dX8_turns_7 (fun H locs hB => ?_)
  refine lv_aload_n hx hb dX8_turns_8 rfl (lv_at hl 2 rfl) ?_
  refine R_alenI hx hb (v := Int32.ofNat (ln k2)) hK hB hk_k2 rfl dX8_turns_9 ?_
  refine lv_icmp_ge (tgt := 20) hx hb dX8_turns_10 (by decide) (fun c_2 => ?_) (fun c_2 => ?_)
  · replace h := itp h c_2
    exact hb_20 j0 a1 k2 (sI σ k2 (0 : Int32).toNatClampNeg ((hI σ k2 (0 : Int32).toNatClampNeg) + (1 : Int32))) hk_k2 H locs ls h hB (lv_sub hl [0, 1, 2] rfl)
  · replace h := itn h c_2
    refine lv_aload_n hx hb dX8_turns_13 rfl (lv_at hl 2 rfl) ?_
    refine lv_aload_n hx hb dX8_turns_14 rfl (lv_at hl 2 rfl) ?_
    refine lv_iconst (v := 0) hx hb dX8_turns_15 (by decide) ?_
    refine R_iald hx hb hK hB hk_k2 (inb_eq q_1) dX8_turns_16 ?_
    refine lv_bipush (v := 20) hx hb dX8_turns_17 (by decide) ?_
    replace h := ck_eq h; obtain ⟨q_8, h⟩ := h
    refine R_iast hx hb hK hB hk_k2 (inb_eq q_8) dX8_turns_19 (fun H locs hB => ?_)
    exact hb_20 j0 a1 k2 (sI (sI σ k2 (0 : Int32).toNatClampNeg ((hI σ k2 (0 : Int32).toNatClampNeg) + (1 : Int32))) k2 (hI (sI σ k2 (0 : Int32).toNatClampNeg ((hI σ k2 (0 : Int32).toNatClampNeg) + (1 : Int32))) k2 (0 : Int32).toNatClampNeg).toNatClampNeg (20 : Int32)) hk_k2 H locs ls h hB (lv_sub hl [0, 1, 2] rfl)
def f_X9_turns_b20 (x0 : Nat) (x1 : Int32) (x2 : Nat) (σ1 : Hp) : Option (Int32 × Hp) := ck (isLaw σ1 x0 = true) (b2 (f_X2_turns x0 x1 x2 σ1) (fun r_3 s_4 => ck (isLaw s_4 x0 = true) (some ((r_3 - (hI s_4 (100 + x0) 0)), s_4))))
def f_X9_turns (j0 : Nat) (a1 : Int32) (k2 : Nat) (σ : Hp) : Option (Int32 × Hp) := ck (inb (0 : Int32) (ln k2) = true) (if (Int32.ofNat (ln k2)) ≤ ((hI σ k2 (0 : Int32).toNatClampNeg) + (1 : Int32)) then f_X9_turns_b20 j0 a1 k2 (sI σ k2 (0 : Int32).toNatClampNeg ((hI σ k2 (0 : Int32).toNatClampNeg) + (1 : Int32))) else ck (inb (hI (sI σ k2 (0 : Int32).toNatClampNeg ((hI σ k2 (0 : Int32).toNatClampNeg) + (1 : Int32))) k2 (0 : Int32).toNatClampNeg) (ln k2) = true) (f_X9_turns_b20 j0 a1 k2 (sI (sI σ k2 (0 : Int32).toNatClampNeg ((hI σ k2 (0 : Int32).toNatClampNeg) + (1 : Int32))) k2 (hI (sI σ k2 (0 : Int32).toNatClampNeg ((hI σ k2 (0 : Int32).toNatClampNeg) + (1 : Int32))) k2 (0 : Int32).toNatClampNeg).toNatClampNeg (51 : Int32))))
set_option maxHeartbeats 4000000 in
set_option maxRecDepth 100000 in
theorem c_X9_turns (l : Launch) (g : tG) (P : Nat → Nat) (σ : Hp) (j0 : Nat) (a1 : Int32) (k2 : Nat) (hk_k2 : ky k2 = 3) (sz : Nat) {r : Int32} {τ : Hp} (h : f_X9_turns j0 a1 k2 σ = some (r, τ)) : Met l yX9_turns (Cond.code yX9_turns cX9_turns 3 (some .int) :: tblG) ({ frames := 1, cells := 0, slots := 0, locals := 22 }) (va_Pc [.ref (P j0), .int a1, .ref (gL g k2)] (tPre g P σ sz)) (tQ (some (.int r)) (tPost g P τ (va_A (wC g P σ) sz)) (va_A (wC g P σ) sz)) 0 0 (va_A (wC g P σ) sz) := by
  refine T_start (B := fun A => tPost g P τ A) (by decide) (Nat.le_of_ble_eq_true rfl) ?_
  intro p e s m args below meth c ls0 A hx hb hml hr hown hlocks ht hnm hK hZ hA hB0 hl0
  have hb_20 : ∀ (x0 : Nat) (x1 : Int32) (x2 : Nat) (σ1 : Hp) (hk_x2 : ky x2 = 3) (H : Heap) (locs : List Loc) (ls : Array Slot), f_X9_turns_b20 x0 x1 x2 σ1 = some (r, τ) → tB g P σ1 A s.heap H locs → lv_has ls 3 [(0, .ref (P x0)), (1, .int x1), (2, .ref (gL g x2))] → WQ p l e { frames := 1, cells := 0, slots := 0, locals := 22 } s m args below meth c g P A (some (.int r)) τ H locs (F0 m 20 ls []) := by
    intro x0 x1 x2 σ1 hk_x2 H locs ls h hB hl
    unfold f_X9_turns_b20 at h
    refine lv_aload_n hx hb dX9_turns_20 rfl (lv_at hl 0 rfl) ?_
    refine lv_iload_n hx hb dX9_turns_21 rfl (lv_at hl 1 rfl) ?_
    refine lv_aload_n hx hb dX9_turns_22 rfl (lv_at hl 2 rfl) ?_
    replace h := ck_eq h; obtain ⟨q_6, h⟩ := h
    replace h := b2_eq h; obtain ⟨r_3, s_4, hc_5, h⟩ := h
    obtain ⟨rc, hrc⟩ := isLaw_cl q_6
    refine R_call (rest := []) [.int r_3] (R_runSU (n := 2) (As := [.int x1, .ref (gL g x2)]) ⟨hx, hb, hml, hown, ht⟩ (fun _ h9 => h9) hK hZ hA hB (c_X2_turns l g P σ1 x0 x1 x2 hk_x2 H.size hc_5) (isLaw_eq q_6).1 hrc tw850 tw848 tw832 tw269 tw830 tw10 ⟨by decide, by decide⟩ rfl rfl ⟨Nat.le_of_ble_eq_true rfl, Nat.le_of_ble_eq_true rfl⟩ rfl hl.1 rfl (Nat.le_of_ble_eq_true rfl) dX9_turns_23 ⟨Nat.zero_le _, Nat.zero_le _⟩) hB hA rfl (fun H locs hB => ?_)
    refine lv_aload_n hx hb dX9_turns_26 rfl (lv_at hl 0 rfl) ?_
    replace h := ck_eq h; obtain ⟨q_7, h⟩ := h
    refine R_getP0 hx hb ht hown hK hB q_7 (ht _ tw380) (u_same (ht _ tw381)) dX9_turns_27 ?_
    refine lv_isub hx hb dX9_turns_30 ?_
    obtain ⟨rfl, rfl⟩ := Prod.mk.inj (Option.some.inj h)
    exact W.iret hx hb hr (R_end hB) hB.2.2.2.2 dX9_turns_31
  suffices hmain : ∀ (H : Heap) (locs : List Loc) (ls : Array Slot), tB g P σ A s.heap H locs → lv_has ls 3 [(0, .ref (P j0)), (1, .int a1), (2, .ref (gL g k2))] → WQ p l e { frames := 1, cells := 0, slots := 0, locals := 22 } s m args below meth c g P A (some (.int r)) τ H locs (F0 m 0 ls []) from hmain _ _ ls0 hB0 hl0
  intro H locs ls hB hl
  unfold f_X9_turns at h
  refine lv_aload_n hx hb dX9_turns_0 rfl (lv_at hl 2 rfl) ?_
  refine lv_iconst (v := 0) hx hb dX9_turns_1 (by decide) ?_
  refine lv_dup2_11 hx hb dX9_turns_2 rfl rfl ?_
  replace h := ck_eq h; obtain ⟨q_1, h⟩ := h
  refine R_iald hx hb hK hB hk_k2 (inb_eq q_1) dX9_turns_3 ?_
  refine lv_iconst (v := 1) hx hb dX9_turns_4 (by decide) ?_
  refine lv_iadd hx hb dX9_turns_5 ?_
  refine lv_dup_x2 hx hb dX9_turns_6 rfl rfl rfl ?_
  refine R_iast hx hb hK hB hk_k2 (inb_eq q_1) dX9_turns_7 (fun H locs hB => ?_)
  refine lv_aload_n hx hb dX9_turns_8 rfl (lv_at hl 2 rfl) ?_
  refine R_alenI hx hb (v := Int32.ofNat (ln k2)) hK hB hk_k2 rfl dX9_turns_9 ?_
  refine lv_icmp_ge (tgt := 20) hx hb dX9_turns_10 (by decide) (fun c_2 => ?_) (fun c_2 => ?_)
  · replace h := itp h c_2
    exact hb_20 j0 a1 k2 (sI σ k2 (0 : Int32).toNatClampNeg ((hI σ k2 (0 : Int32).toNatClampNeg) + (1 : Int32))) hk_k2 H locs ls h hB (lv_sub hl [0, 1, 2] rfl)
  · replace h := itn h c_2
    refine lv_aload_n hx hb dX9_turns_13 rfl (lv_at hl 2 rfl) ?_
    refine lv_aload_n hx hb dX9_turns_14 rfl (lv_at hl 2 rfl) ?_
    refine lv_iconst (v := 0) hx hb dX9_turns_15 (by decide) ?_
    refine R_iald hx hb hK hB hk_k2 (inb_eq q_1) dX9_turns_16 ?_
    refine lv_bipush (v := 51) hx hb dX9_turns_17 (by decide) ?_
    replace h := ck_eq h; obtain ⟨q_8, h⟩ := h
    refine R_iast hx hb hK hB hk_k2 (inb_eq q_8) dX9_turns_19 (fun H locs hB => ?_)
    exact hb_20 j0 a1 k2 (sI (sI σ k2 (0 : Int32).toNatClampNeg ((hI σ k2 (0 : Int32).toNatClampNeg) + (1 : Int32))) k2 (hI (sI σ k2 (0 : Int32).toNatClampNeg ((hI σ k2 (0 : Int32).toNatClampNeg) + (1 : Int32))) k2 (0 : Int32).toNatClampNeg).toNatClampNeg (51 : Int32)) hk_k2 H locs ls h hB (lv_sub hl [0, 1, 2] rfl)
def f_X0_turns_b20 (x0 : Nat) (x1 : Int32) (x2 : Nat) (σ1 : Hp) : Option (Int32 × Hp) := ck (isLaw σ1 x0 = true) (b2 (f_X2_turns x0 x1 x2 σ1) (fun r_3 s_4 => some ((r_3 * (2 : Int32)), s_4)))
def f_X0_turns (j0 : Nat) (a1 : Int32) (k2 : Nat) (σ : Hp) : Option (Int32 × Hp) := ck (inb (0 : Int32) (ln k2) = true) (if (Int32.ofNat (ln k2)) ≤ ((hI σ k2 (0 : Int32).toNatClampNeg) + (1 : Int32)) then f_X0_turns_b20 j0 a1 k2 (sI σ k2 (0 : Int32).toNatClampNeg ((hI σ k2 (0 : Int32).toNatClampNeg) + (1 : Int32))) else ck (inb (hI (sI σ k2 (0 : Int32).toNatClampNeg ((hI σ k2 (0 : Int32).toNatClampNeg) + (1 : Int32))) k2 (0 : Int32).toNatClampNeg) (ln k2) = true) (f_X0_turns_b20 j0 a1 k2 (sI (sI σ k2 (0 : Int32).toNatClampNeg ((hI σ k2 (0 : Int32).toNatClampNeg) + (1 : Int32))) k2 (hI (sI σ k2 (0 : Int32).toNatClampNeg ((hI σ k2 (0 : Int32).toNatClampNeg) + (1 : Int32))) k2 (0 : Int32).toNatClampNeg).toNatClampNeg (70 : Int32))))
set_option maxHeartbeats 4000000 in
set_option maxRecDepth 100000 in
theorem c_X0_turns (l : Launch) (g : tG) (P : Nat → Nat) (σ : Hp) (j0 : Nat) (a1 : Int32) (k2 : Nat) (hk_k2 : ky k2 = 3) (sz : Nat) {r : Int32} {τ : Hp} (h : f_X0_turns j0 a1 k2 σ = some (r, τ)) : Met l yX0_turns (Cond.code yX0_turns cX0_turns 3 (some .int) :: tblG) ({ frames := 1, cells := 0, slots := 0, locals := 22 }) (va_Pc [.ref (P j0), .int a1, .ref (gL g k2)] (tPre g P σ sz)) (tQ (some (.int r)) (tPost g P τ (va_A (wC g P σ) sz)) (va_A (wC g P σ) sz)) 0 0 (va_A (wC g P σ) sz) := by
  refine T_start (B := fun A => tPost g P τ A) (by decide) (Nat.le_of_ble_eq_true rfl) ?_
  intro p e s m args below meth c ls0 A hx hb hml hr hown hlocks ht hnm hK hZ hA hB0 hl0
  have hb_20 : ∀ (x0 : Nat) (x1 : Int32) (x2 : Nat) (σ1 : Hp) (hk_x2 : ky x2 = 3) (H : Heap) (locs : List Loc) (ls : Array Slot), f_X0_turns_b20 x0 x1 x2 σ1 = some (r, τ) → tB g P σ1 A s.heap H locs → lv_has ls 3 [(0, .ref (P x0)), (1, .int x1), (2, .ref (gL g x2))] → WQ p l e { frames := 1, cells := 0, slots := 0, locals := 22 } s m args below meth c g P A (some (.int r)) τ H locs (F0 m 20 ls []) := by
    intro x0 x1 x2 σ1 hk_x2 H locs ls h hB hl
    unfold f_X0_turns_b20 at h
    refine lv_aload_n hx hb dX0_turns_20 rfl (lv_at hl 0 rfl) ?_
    refine lv_iload_n hx hb dX0_turns_21 rfl (lv_at hl 1 rfl) ?_
    refine lv_aload_n hx hb dX0_turns_22 rfl (lv_at hl 2 rfl) ?_
    replace h := ck_eq h; obtain ⟨q_6, h⟩ := h
    replace h := b2_eq h; obtain ⟨r_3, s_4, hc_5, h⟩ := h
    obtain ⟨rc, hrc⟩ := isLaw_cl q_6
    refine R_call (rest := []) [.int r_3] (R_runSU2 (n := 2) (x := ⟨"TurnedAbout$Square", "turns", "(I[I)I"⟩) (owner := "TurnedAbout$Law") (As := [.int x1, .ref (gL g x2)]) ⟨hx, hb, hml, hown, ht⟩ hK hZ hA hB (c_X2_turns l g P σ1 x0 x1 x2 hk_x2 H.size hc_5) (isLaw_eq q_6).1 hrc tw850 tw836 tw837 tw249 tw253 tw830 tw10 ⟨by decide, by decide⟩ rfl rfl ⟨Nat.le_of_ble_eq_true rfl, Nat.le_of_ble_eq_true rfl⟩ rfl hl.1 rfl (Nat.le_of_ble_eq_true rfl) dX0_turns_23 ⟨Nat.zero_le _, Nat.zero_le _⟩) hB hA rfl (fun H locs hB => ?_)
    refine lv_iconst (v := 2) hx hb dX0_turns_26 (by decide) ?_
    refine lv_imul hx hb dX0_turns_27 ?_
    obtain ⟨rfl, rfl⟩ := Prod.mk.inj (Option.some.inj h)
    exact W.iret hx hb hr (R_end hB) hB.2.2.2.2 dX0_turns_28
  suffices hmain : ∀ (H : Heap) (locs : List Loc) (ls : Array Slot), tB g P σ A s.heap H locs → lv_has ls 3 [(0, .ref (P j0)), (1, .int a1), (2, .ref (gL g k2))] → WQ p l e { frames := 1, cells := 0, slots := 0, locals := 22 } s m args below meth c g P A (some (.int r)) τ H locs (F0 m 0 ls []) from hmain _ _ ls0 hB0 hl0
  intro H locs ls hB hl
  unfold f_X0_turns at h
  refine lv_aload_n hx hb dX0_turns_0 rfl (lv_at hl 2 rfl) ?_
  refine lv_iconst (v := 0) hx hb dX0_turns_1 (by decide) ?_
  refine lv_dup2_11 hx hb dX0_turns_2 rfl rfl ?_
  replace h := ck_eq h; obtain ⟨q_1, h⟩ := h
  refine R_iald hx hb hK hB hk_k2 (inb_eq q_1) dX0_turns_3 ?_
  refine lv_iconst (v := 1) hx hb dX0_turns_4 (by decide) ?_
  refine lv_iadd hx hb dX0_turns_5 ?_
  refine lv_dup_x2 hx hb dX0_turns_6 rfl rfl rfl ?_
  refine R_iast hx hb hK hB hk_k2 (inb_eq q_1) dX0_turns_7 (fun H locs hB => ?_)
  refine lv_aload_n hx hb dX0_turns_8 rfl (lv_at hl 2 rfl) ?_
  refine R_alenI hx hb (v := Int32.ofNat (ln k2)) hK hB hk_k2 rfl dX0_turns_9 ?_
  refine lv_icmp_ge (tgt := 20) hx hb dX0_turns_10 (by decide) (fun c_2 => ?_) (fun c_2 => ?_)
  · replace h := itp h c_2
    exact hb_20 j0 a1 k2 (sI σ k2 (0 : Int32).toNatClampNeg ((hI σ k2 (0 : Int32).toNatClampNeg) + (1 : Int32))) hk_k2 H locs ls h hB (lv_sub hl [0, 1, 2] rfl)
  · replace h := itn h c_2
    refine lv_aload_n hx hb dX0_turns_13 rfl (lv_at hl 2 rfl) ?_
    refine lv_aload_n hx hb dX0_turns_14 rfl (lv_at hl 2 rfl) ?_
    refine lv_iconst (v := 0) hx hb dX0_turns_15 (by decide) ?_
    refine R_iald hx hb hK hB hk_k2 (inb_eq q_1) dX0_turns_16 ?_
    refine lv_bipush (v := 70) hx hb dX0_turns_17 (by decide) ?_
    replace h := ck_eq h; obtain ⟨q_7, h⟩ := h
    refine R_iast hx hb hK hB hk_k2 (inb_eq q_7) dX0_turns_19 (fun H locs hB => ?_)
    exact hb_20 j0 a1 k2 (sI (sI σ k2 (0 : Int32).toNatClampNeg ((hI σ k2 (0 : Int32).toNatClampNeg) + (1 : Int32))) k2 (hI (sI σ k2 (0 : Int32).toNatClampNeg ((hI σ k2 (0 : Int32).toNatClampNeg) + (1 : Int32))) k2 (0 : Int32).toNatClampNeg).toNatClampNeg (70 : Int32)) hk_k2 H locs ls h hB (lv_sub hl [0, 1, 2] rfl)
def v_turns (j0 : Nat) (a1 : Int32) (k2 : Nat) (σ : Hp) : Option (Int32 × Hp) := if hC σ j0 = 0 then f_X0_turns j0 a1 k2 σ else if hC σ j0 = 1 then f_X2_turns j0 a1 k2 σ else if hC σ j0 = 2 then f_X8_turns j0 a1 k2 σ else if hC σ j0 = 5 then f_X2_turns j0 a1 k2 σ else if hC σ j0 = 7 then f_X8_turns j0 a1 k2 σ else if hC σ j0 = 8 then f_X9_turns j0 a1 k2 σ else if hC σ j0 = 9 then f_X2_turns j0 a1 k2 σ else none
set_option maxHeartbeats 4000000 in
set_option maxRecDepth 100000 in
theorem dv_turns {p : Program} {l : Launch} {e : Env} {R : Room} {s : State} {m : MethodId} {args : Array Value} {below : List Frame} {meth : Method} {c : Code} {H : Heap} {locs : List Loc} {cells slots : Nat} {cc : ByteArray} {pc : Nat} {ls : Array Slot} {rest : List Value} {g : tG} {P : Nat → Nat} {σ : Hp} {A : Nat → Prop} {own : String} {index nL : Nat} {st0 : List Value} (S : CallFix p m c cc nL s args tblG own) (hK : tK g s) (hZ : tZ g A s s.heap) (hA : ∀ q, s.heap.size ≤ q → A q) (hB : tB g P σ A s.heap H locs) {j0 : Nat} {a1 : Int32} {k2 : Nat} (hj : isLaw σ j0 = true) (hk_k2 : ky k2 = 3) (hl : Cond.methodLink own index ⟨"TurnedAbout$Law", "turns", "(I[I)I"⟩ ∈ tblG) {r : Int32} {τ : Hp} (hc : v_turns j0 a1 k2 σ = some (r, τ)) (hRf : 2 ≤ R.frames) (hRl : 44 ≤ R.locals) (hsize : ls.size = nL) (hst : st0 = [.int a1, .ref (gL g k2)].reverse ++ .ref (P j0) :: rest) (hW : (rest.map fun v => v.category).sum ≤ 8) (hdg : decode cc pc = .ok (.invokevirtual index, 3)) (hfc : cells ≤ R.cells) (hfs : slots ≤ R.slots) : va_Run p l e R s m args below meth c H locs cells slots 0 0 (F0 m pc ls st0) rest (tQ (some (.int r)) (tPost g P τ (va_A (wC g P σ) H.size)) (va_A (wC g P σ) H.size) (Value.ref (P j0) :: [.int a1, .ref (gL g k2)]).toArray) (va_A (wC g P σ) H.size) := by
  unfold v_turns at hc
  rcases (isLaw_eq hj).2 with q | q | q | q | q | q | q <;> rw [q] at hc
  · exact R_runU (C := RX0) (owner := "TurnedAbout$Law") (x := ⟨"TurnedAbout$Law", "turns", "(I[I)I"⟩) (n := 2) (As := [.int a1, .ref (gL g k2)]) S (fun _ h9 => h9) hK hZ hA hB (c_X0_turns l g P σ j0 a1 k2 hk_k2 H.size hc) (R_recvP hK hB (isLaw_eq hj).1 (r := (RX0, TX0, 2)) (by rw [q]; rfl)) tw835 hl tw832 tw830 tw850 tw834 tw833 tw16 ⟨by decide, by decide, by decide⟩ rfl rfl ⟨Nat.le_trans (Nat.le_of_ble_eq_true rfl) hRf, Nat.le_trans (Nat.le_of_ble_eq_true rfl) hRl⟩ rfl hsize hst hW hdg ⟨hfc, hfs⟩
  · exact R_runU (C := RX2) (owner := "TurnedAbout$Law") (x := ⟨"TurnedAbout$Law", "turns", "(I[I)I"⟩) (n := 2) (As := [.int a1, .ref (gL g k2)]) S (fun _ h9 => h9) hK hZ hA hB (c_X2_turns l g P σ j0 a1 k2 hk_k2 H.size hc) (R_recvP hK hB (isLaw_eq hj).1 (r := (RX2, TX2, 2)) (by rw [q]; rfl)) tw850 hl tw832 tw830 tw850 tw830 tw831 tw10 ⟨by decide, by decide, by decide⟩ rfl rfl ⟨Nat.le_trans (Nat.le_of_ble_eq_true rfl) hRf, Nat.le_trans (Nat.le_of_ble_eq_true rfl) hRl⟩ rfl hsize hst hW hdg ⟨hfc, hfs⟩
  · exact R_runU (C := RX3) (owner := "TurnedAbout$Law") (x := ⟨"TurnedAbout$Law", "turns", "(I[I)I"⟩) (n := 2) (As := [.int a1, .ref (gL g k2)]) S (fun _ h9 => h9) hK hZ hA hB (c_X8_turns l g P σ j0 a1 k2 hk_k2 H.size hc) (R_recvP hK hB (isLaw_eq hj).1 (r := (RX3, TX3, 2)) (by rw [q]; rfl)) tw841 hl tw832 tw830 tw850 tw840 tw839 tw11 ⟨by decide, by decide, by decide⟩ rfl rfl ⟨Nat.le_trans (Nat.le_of_ble_eq_true rfl) hRf, Nat.le_trans (Nat.le_of_ble_eq_true rfl) hRl⟩ rfl hsize hst hW hdg ⟨hfc, hfs⟩
  · exact R_runU (C := RX6) (owner := "TurnedAbout$Law") (x := ⟨"TurnedAbout$Law", "turns", "(I[I)I"⟩) (n := 2) (As := [.int a1, .ref (gL g k2)]) S (fun _ h9 => h9) hK hZ hA hB (c_X2_turns l g P σ j0 a1 k2 hk_k2 H.size hc) (R_recvP hK hB (isLaw_eq hj).1 (r := (RX6, TX6, 2)) (by rw [q]; rfl)) tw850 hl tw832 tw830 tw850 tw830 tw843 tw10 ⟨by decide, by decide, by decide⟩ rfl rfl ⟨Nat.le_trans (Nat.le_of_ble_eq_true rfl) hRf, Nat.le_trans (Nat.le_of_ble_eq_true rfl) hRl⟩ rfl hsize hst hW hdg ⟨hfc, hfs⟩
  · exact R_runU (C := RX8) (owner := "TurnedAbout$Law") (x := ⟨"TurnedAbout$Law", "turns", "(I[I)I"⟩) (n := 2) (As := [.int a1, .ref (gL g k2)]) S (fun _ h9 => h9) hK hZ hA hB (c_X8_turns l g P σ j0 a1 k2 hk_k2 H.size hc) (R_recvP hK hB (isLaw_eq hj).1 (r := (RX8, TX8, 2)) (by rw [q]; rfl)) tw841 hl tw832 tw830 tw850 tw840 tw844 tw11 ⟨by decide, by decide, by decide⟩ rfl rfl ⟨Nat.le_trans (Nat.le_of_ble_eq_true rfl) hRf, Nat.le_trans (Nat.le_of_ble_eq_true rfl) hRl⟩ rfl hsize hst hW hdg ⟨hfc, hfs⟩
  · exact R_runU (C := RX9) (owner := "TurnedAbout$Law") (x := ⟨"TurnedAbout$Law", "turns", "(I[I)I"⟩) (n := 2) (As := [.int a1, .ref (gL g k2)]) S (fun _ h9 => h9) hK hZ hA hB (c_X9_turns l g P σ j0 a1 k2 hk_k2 H.size hc) (R_recvP hK hB (isLaw_eq hj).1 (r := (RX9, TX9, 2)) (by rw [q]; rfl)) tw847 hl tw832 tw830 tw850 tw846 tw845 tw14 ⟨by decide, by decide, by decide⟩ rfl rfl ⟨Nat.le_trans (Nat.le_of_ble_eq_true rfl) hRf, Nat.le_trans (Nat.le_of_ble_eq_true rfl) hRl⟩ rfl hsize hst hW hdg ⟨hfc, hfs⟩
  · exact R_runU (C := RX10) (owner := "TurnedAbout$Law") (x := ⟨"TurnedAbout$Law", "turns", "(I[I)I"⟩) (n := 2) (As := [.int a1, .ref (gL g k2)]) S (fun _ h9 => h9) hK hZ hA hB (c_X2_turns l g P σ j0 a1 k2 hk_k2 H.size hc) (R_recvP hK hB (isLaw_eq hj).1 (r := (RX10, TX10, 2)) (by rw [q]; rfl)) tw850 hl tw832 tw830 tw850 tw830 tw849 tw10 ⟨by decide, by decide, by decide⟩ rfl rfl ⟨Nat.le_trans (Nat.le_of_ble_eq_true rfl) hRf, Nat.le_trans (Nat.le_of_ble_eq_true rfl) hRl⟩ rfl hsize hst hW hdg ⟨hfc, hfs⟩
def f_X2_adds_b20 (x0 : Nat) (x1 : Int32) (x2 : Nat) (σ1 : Hp) : Option (Int32 × Hp) := ck (isLaw σ1 x0 = true) (b2 (v_turns x0 x1 x2 σ1) (fun r_4 s_5 => some ((r_4 * (2 : Int32)), s_5)))
def f_X2_adds (j0 : Nat) (a1 : Int32) (k2 : Nat) (σ : Hp) : Option (Int32 × Hp) := ck (inb (0 : Int32) (ln k2) = true) (if (Int32.ofNat (ln k2)) ≤ ((hI σ k2 (0 : Int32).toNatClampNeg) + (1 : Int32)) then f_X2_adds_b20 j0 a1 k2 (sI σ k2 (0 : Int32).toNatClampNeg ((hI σ k2 (0 : Int32).toNatClampNeg) + (1 : Int32))) else ck (inb (hI (sI σ k2 (0 : Int32).toNatClampNeg ((hI σ k2 (0 : Int32).toNatClampNeg) + (1 : Int32))) k2 (0 : Int32).toNatClampNeg) (ln k2) = true) (f_X2_adds_b20 j0 a1 k2 (sI (sI σ k2 (0 : Int32).toNatClampNeg ((hI σ k2 (0 : Int32).toNatClampNeg) + (1 : Int32))) k2 (hI (sI σ k2 (0 : Int32).toNatClampNeg ((hI σ k2 (0 : Int32).toNatClampNeg) + (1 : Int32))) k2 (0 : Int32).toNatClampNeg).toNatClampNeg (11 : Int32))))
set_option maxHeartbeats 4000000 in
set_option maxRecDepth 100000 in
theorem c_X2_adds (l : Launch) (g : tG) (P : Nat → Nat) (σ : Hp) (j0 : Nat) (a1 : Int32) (k2 : Nat) (hk_k2 : ky k2 = 3) (sz : Nat) {r : Int32} {τ : Hp} (h : f_X2_adds j0 a1 k2 σ = some (r, τ)) : Met l yX2_adds (Cond.code yX2_adds cX2_adds 3 (some .int) :: tblG) ({ frames := 2, cells := 0, slots := 0, locals := 44 }) (va_Pc [.ref (P j0), .int a1, .ref (gL g k2)] (tPre g P σ sz)) (tQ (some (.int r)) (tPost g P τ (va_A (wC g P σ) sz)) (va_A (wC g P σ) sz)) 0 0 (va_A (wC g P σ) sz) := by
  refine T_start (B := fun A => tPost g P τ A) (by decide) (Nat.le_of_ble_eq_true rfl) ?_
  intro p e s m args below meth c ls0 A hx hb hml hr hown hlocks ht hnm hK hZ hA hB0 hl0
  have hb_20 : ∀ (x0 : Nat) (x1 : Int32) (x2 : Nat) (σ1 : Hp) (hk_x2 : ky x2 = 3) (H : Heap) (locs : List Loc) (ls : Array Slot), f_X2_adds_b20 x0 x1 x2 σ1 = some (r, τ) → tB g P σ1 A s.heap H locs → lv_has ls 3 [(0, .ref (P x0)), (1, .int x1), (2, .ref (gL g x2))] → WQ p l e { frames := 2, cells := 0, slots := 0, locals := 44 } s m args below meth c g P A (some (.int r)) τ H locs (F0 m 20 ls []) := by
    intro x0 x1 x2 σ1 hk_x2 H locs ls h hB hl
    unfold f_X2_adds_b20 at h
    refine lv_aload_n hx hb dX2_adds_20 rfl (lv_at hl 0 rfl) ?_
    refine lv_iload_n hx hb dX2_adds_21 rfl (lv_at hl 1 rfl) ?_
    refine lv_aload_n hx hb dX2_adds_22 rfl (lv_at hl 2 rfl) ?_
    replace h := ck_eq h; obtain ⟨q_3, h⟩ := h
    replace h := b2_eq h; obtain ⟨r_4, s_5, hc_6, h⟩ := h
    refine R_call (rest := []) [.int r_4] (dv_turns ⟨hx, hb, hml, hown, ht⟩ hK hZ hA hB q_3 hk_x2 tw873 hc_6 (Nat.le_of_ble_eq_true rfl) (Nat.le_of_ble_eq_true rfl) hl.1 rfl (Nat.le_of_ble_eq_true rfl) dX2_adds_23 (Nat.zero_le _) (Nat.zero_le _)) hB hA rfl (fun H locs hB => ?_)
    refine lv_iconst (v := 2) hx hb dX2_adds_26 (by decide) ?_
    refine lv_imul hx hb dX2_adds_27 ?_
    obtain ⟨rfl, rfl⟩ := Prod.mk.inj (Option.some.inj h)
    exact W.iret hx hb hr (R_end hB) hB.2.2.2.2 dX2_adds_28
  suffices hmain : ∀ (H : Heap) (locs : List Loc) (ls : Array Slot), tB g P σ A s.heap H locs → lv_has ls 3 [(0, .ref (P j0)), (1, .int a1), (2, .ref (gL g k2))] → WQ p l e { frames := 2, cells := 0, slots := 0, locals := 44 } s m args below meth c g P A (some (.int r)) τ H locs (F0 m 0 ls []) from hmain _ _ ls0 hB0 hl0
  intro H locs ls hB hl
  unfold f_X2_adds at h
  refine lv_aload_n hx hb dX2_adds_0 rfl (lv_at hl 2 rfl) ?_
  refine lv_iconst (v := 0) hx hb dX2_adds_1 (by decide) ?_
  refine lv_dup2_11 hx hb dX2_adds_2 rfl rfl ?_
  replace h := ck_eq h; obtain ⟨q_1, h⟩ := h
  refine R_iald hx hb hK hB hk_k2 (inb_eq q_1) dX2_adds_3 ?_
  refine lv_iconst (v := 1) hx hb dX2_adds_4 (by decide) ?_
  refine lv_iadd hx hb dX2_adds_5 ?_
  refine lv_dup_x2 hx hb dX2_adds_6 rfl rfl rfl ?_
  refine R_iast hx hb hK hB hk_k2 (inb_eq q_1) dX2_adds_7 (fun H locs hB => ?_)
  refine lv_aload_n hx hb dX2_adds_8 rfl (lv_at hl 2 rfl) ?_
  refine R_alenI hx hb (v := Int32.ofNat (ln k2)) hK hB hk_k2 rfl dX2_adds_9 ?_
  refine lv_icmp_ge (tgt := 20) hx hb dX2_adds_10 (by decide) (fun c_2 => ?_) (fun c_2 => ?_)
  · replace h := itp h c_2
    exact hb_20 j0 a1 k2 (sI σ k2 (0 : Int32).toNatClampNeg ((hI σ k2 (0 : Int32).toNatClampNeg) + (1 : Int32))) hk_k2 H locs ls h hB (lv_sub hl [0, 1, 2] rfl)
  · replace h := itn h c_2
    refine lv_aload_n hx hb dX2_adds_13 rfl (lv_at hl 2 rfl) ?_
    refine lv_aload_n hx hb dX2_adds_14 rfl (lv_at hl 2 rfl) ?_
    refine lv_iconst (v := 0) hx hb dX2_adds_15 (by decide) ?_
    refine R_iald hx hb hK hB hk_k2 (inb_eq q_1) dX2_adds_16 ?_
    refine lv_bipush (v := 11) hx hb dX2_adds_17 (by decide) ?_
    replace h := ck_eq h; obtain ⟨q_7, h⟩ := h
    refine R_iast hx hb hK hB hk_k2 (inb_eq q_7) dX2_adds_19 (fun H locs hB => ?_)
    exact hb_20 j0 a1 k2 (sI (sI σ k2 (0 : Int32).toNatClampNeg ((hI σ k2 (0 : Int32).toNatClampNeg) + (1 : Int32))) k2 (hI (sI σ k2 (0 : Int32).toNatClampNeg ((hI σ k2 (0 : Int32).toNatClampNeg) + (1 : Int32))) k2 (0 : Int32).toNatClampNeg).toNatClampNeg (11 : Int32)) hk_k2 H locs ls h hB (lv_sub hl [0, 1, 2] rfl)
def f_X3_adds_b20 (x0 : Nat) (x1 : Int32) (x2 : Nat) (σ1 : Hp) : Option (Int32 × Hp) := ck (isLaw σ1 x0 = true) (b2 (f_X2_adds x0 (x1 + (1 : Int32)) x2 σ1) (fun r_3 s_4 => some (r_3, s_4)))
def f_X3_adds (j0 : Nat) (a1 : Int32) (k2 : Nat) (σ : Hp) : Option (Int32 × Hp) := ck (inb (0 : Int32) (ln k2) = true) (if (Int32.ofNat (ln k2)) ≤ ((hI σ k2 (0 : Int32).toNatClampNeg) + (1 : Int32)) then f_X3_adds_b20 j0 a1 k2 (sI σ k2 (0 : Int32).toNatClampNeg ((hI σ k2 (0 : Int32).toNatClampNeg) + (1 : Int32))) else ck (inb (hI (sI σ k2 (0 : Int32).toNatClampNeg ((hI σ k2 (0 : Int32).toNatClampNeg) + (1 : Int32))) k2 (0 : Int32).toNatClampNeg) (ln k2) = true) (f_X3_adds_b20 j0 a1 k2 (sI (sI σ k2 (0 : Int32).toNatClampNeg ((hI σ k2 (0 : Int32).toNatClampNeg) + (1 : Int32))) k2 (hI (sI σ k2 (0 : Int32).toNatClampNeg ((hI σ k2 (0 : Int32).toNatClampNeg) + (1 : Int32))) k2 (0 : Int32).toNatClampNeg).toNatClampNeg (40 : Int32))))
set_option maxHeartbeats 4000000 in
set_option maxRecDepth 100000 in
theorem c_X3_adds (l : Launch) (g : tG) (P : Nat → Nat) (σ : Hp) (j0 : Nat) (a1 : Int32) (k2 : Nat) (hk_k2 : ky k2 = 3) (sz : Nat) {r : Int32} {τ : Hp} (h : f_X3_adds j0 a1 k2 σ = some (r, τ)) : Met l yX3_adds (Cond.code yX3_adds cX3_adds 3 (some .int) :: tblG) ({ frames := 3, cells := 0, slots := 0, locals := 66 }) (va_Pc [.ref (P j0), .int a1, .ref (gL g k2)] (tPre g P σ sz)) (tQ (some (.int r)) (tPost g P τ (va_A (wC g P σ) sz)) (va_A (wC g P σ) sz)) 0 0 (va_A (wC g P σ) sz) := by
  refine T_start (B := fun A => tPost g P τ A) (by decide) (Nat.le_of_ble_eq_true rfl) ?_
  intro p e s m args below meth c ls0 A hx hb hml hr hown hlocks ht hnm hK hZ hA hB0 hl0
  have hb_20 : ∀ (x0 : Nat) (x1 : Int32) (x2 : Nat) (σ1 : Hp) (hk_x2 : ky x2 = 3) (H : Heap) (locs : List Loc) (ls : Array Slot), f_X3_adds_b20 x0 x1 x2 σ1 = some (r, τ) → tB g P σ1 A s.heap H locs → lv_has ls 3 [(0, .ref (P x0)), (1, .int x1), (2, .ref (gL g x2))] → WQ p l e { frames := 3, cells := 0, slots := 0, locals := 66 } s m args below meth c g P A (some (.int r)) τ H locs (F0 m 20 ls []) := by
    intro x0 x1 x2 σ1 hk_x2 H locs ls h hB hl
    unfold f_X3_adds_b20 at h
    refine lv_aload_n hx hb dX3_adds_20 rfl (lv_at hl 0 rfl) ?_
    refine lv_iload_n hx hb dX3_adds_21 rfl (lv_at hl 1 rfl) ?_
    refine lv_iconst (v := 1) hx hb dX3_adds_22 (by decide) ?_
    refine lv_iadd hx hb dX3_adds_23 ?_
    refine lv_aload_n hx hb dX3_adds_24 rfl (lv_at hl 2 rfl) ?_
    replace h := ck_eq h; obtain ⟨q_6, h⟩ := h
    replace h := b2_eq h; obtain ⟨r_3, s_4, hc_5, h⟩ := h
    obtain ⟨rc, hrc⟩ := isLaw_cl q_6
    refine R_call (rest := []) [.int r_3] (R_runSU2 (n := 2) (x := ⟨"TurnedAbout$Take", "adds", "(I[I)I"⟩) (owner := "TurnedAbout$Law") (As := [.int (x1 + (1 : Int32)), .ref (gL g x2)]) ⟨hx, hb, hml, hown, ht⟩ hK hZ hA hB (c_X2_adds l g P σ1 x0 (x1 + (1 : Int32)) x2 hk_x2 H.size hc_5) (isLaw_eq q_6).1 hrc tw872 tw865 tw866 tw258 tw262 tw852 tw10 ⟨by decide, by decide⟩ rfl rfl ⟨Nat.le_of_ble_eq_true rfl, Nat.le_of_ble_eq_true rfl⟩ rfl hl.1 rfl (Nat.le_of_ble_eq_true rfl) dX3_adds_25 ⟨Nat.zero_le _, Nat.zero_le _⟩) hB hA rfl (fun H locs hB => ?_)
    obtain ⟨rfl, rfl⟩ := Prod.mk.inj (Option.some.inj h)
    exact W.iret hx hb hr (R_end hB) hB.2.2.2.2 dX3_adds_28
  suffices hmain : ∀ (H : Heap) (locs : List Loc) (ls : Array Slot), tB g P σ A s.heap H locs → lv_has ls 3 [(0, .ref (P j0)), (1, .int a1), (2, .ref (gL g k2))] → WQ p l e { frames := 3, cells := 0, slots := 0, locals := 66 } s m args below meth c g P A (some (.int r)) τ H locs (F0 m 0 ls []) from hmain _ _ ls0 hB0 hl0
  intro H locs ls hB hl
  unfold f_X3_adds at h
  refine lv_aload_n hx hb dX3_adds_0 rfl (lv_at hl 2 rfl) ?_
  refine lv_iconst (v := 0) hx hb dX3_adds_1 (by decide) ?_
  refine lv_dup2_11 hx hb dX3_adds_2 rfl rfl ?_
  replace h := ck_eq h; obtain ⟨q_1, h⟩ := h
  refine R_iald hx hb hK hB hk_k2 (inb_eq q_1) dX3_adds_3 ?_
  refine lv_iconst (v := 1) hx hb dX3_adds_4 (by decide) ?_
  refine lv_iadd hx hb dX3_adds_5 ?_
  refine lv_dup_x2 hx hb dX3_adds_6 rfl rfl rfl ?_
  refine R_iast hx hb hK hB hk_k2 (inb_eq q_1) dX3_adds_7 (fun H locs hB => ?_)
  refine lv_aload_n hx hb dX3_adds_8 rfl (lv_at hl 2 rfl) ?_
  refine R_alenI hx hb (v := Int32.ofNat (ln k2)) hK hB hk_k2 rfl dX3_adds_9 ?_
  refine lv_icmp_ge (tgt := 20) hx hb dX3_adds_10 (by decide) (fun c_2 => ?_) (fun c_2 => ?_)
  · replace h := itp h c_2
    exact hb_20 j0 a1 k2 (sI σ k2 (0 : Int32).toNatClampNeg ((hI σ k2 (0 : Int32).toNatClampNeg) + (1 : Int32))) hk_k2 H locs ls h hB (lv_sub hl [0, 1, 2] rfl)
  · replace h := itn h c_2
    refine lv_aload_n hx hb dX3_adds_13 rfl (lv_at hl 2 rfl) ?_
    refine lv_aload_n hx hb dX3_adds_14 rfl (lv_at hl 2 rfl) ?_
    refine lv_iconst (v := 0) hx hb dX3_adds_15 (by decide) ?_
    refine R_iald hx hb hK hB hk_k2 (inb_eq q_1) dX3_adds_16 ?_
    refine lv_bipush (v := 40) hx hb dX3_adds_17 (by decide) ?_
    replace h := ck_eq h; obtain ⟨q_7, h⟩ := h
    refine R_iast hx hb hK hB hk_k2 (inb_eq q_7) dX3_adds_19 (fun H locs hB => ?_)
    exact hb_20 j0 a1 k2 (sI (sI σ k2 (0 : Int32).toNatClampNeg ((hI σ k2 (0 : Int32).toNatClampNeg) + (1 : Int32))) k2 (hI (sI σ k2 (0 : Int32).toNatClampNeg ((hI σ k2 (0 : Int32).toNatClampNeg) + (1 : Int32))) k2 (0 : Int32).toNatClampNeg).toNatClampNeg (40 : Int32)) hk_k2 H locs ls h hB (lv_sub hl [0, 1, 2] rfl)
def f_X6_adds_b20 (x0 : Nat) (x1 : Int32) (x2 : Nat) (σ1 : Hp) : Option (Int32 × Hp) := ck (isLaw σ1 x0 = true) (b2 (f_X2_adds x0 x1 x2 σ1) (fun r_3 s_4 => some ((r_3 * (3 : Int32)), s_4)))
def f_X6_adds (j0 : Nat) (a1 : Int32) (k2 : Nat) (σ : Hp) : Option (Int32 × Hp) := ck (inb (0 : Int32) (ln k2) = true) (if (Int32.ofNat (ln k2)) ≤ ((hI σ k2 (0 : Int32).toNatClampNeg) + (1 : Int32)) then f_X6_adds_b20 j0 a1 k2 (sI σ k2 (0 : Int32).toNatClampNeg ((hI σ k2 (0 : Int32).toNatClampNeg) + (1 : Int32))) else ck (inb (hI (sI σ k2 (0 : Int32).toNatClampNeg ((hI σ k2 (0 : Int32).toNatClampNeg) + (1 : Int32))) k2 (0 : Int32).toNatClampNeg) (ln k2) = true) (f_X6_adds_b20 j0 a1 k2 (sI (sI σ k2 (0 : Int32).toNatClampNeg ((hI σ k2 (0 : Int32).toNatClampNeg) + (1 : Int32))) k2 (hI (sI σ k2 (0 : Int32).toNatClampNeg ((hI σ k2 (0 : Int32).toNatClampNeg) + (1 : Int32))) k2 (0 : Int32).toNatClampNeg).toNatClampNeg (30 : Int32))))
set_option maxHeartbeats 4000000 in
set_option maxRecDepth 100000 in
theorem c_X6_adds (l : Launch) (g : tG) (P : Nat → Nat) (σ : Hp) (j0 : Nat) (a1 : Int32) (k2 : Nat) (hk_k2 : ky k2 = 3) (sz : Nat) {r : Int32} {τ : Hp} (h : f_X6_adds j0 a1 k2 σ = some (r, τ)) : Met l yX6_adds (Cond.code yX6_adds cX6_adds 3 (some .int) :: tblG) ({ frames := 3, cells := 0, slots := 0, locals := 66 }) (va_Pc [.ref (P j0), .int a1, .ref (gL g k2)] (tPre g P σ sz)) (tQ (some (.int r)) (tPost g P τ (va_A (wC g P σ) sz)) (va_A (wC g P σ) sz)) 0 0 (va_A (wC g P σ) sz) := by
  refine T_start (B := fun A => tPost g P τ A) (by decide) (Nat.le_of_ble_eq_true rfl) ?_
  intro p e s m args below meth c ls0 A hx hb hml hr hown hlocks ht hnm hK hZ hA hB0 hl0
  have hb_20 : ∀ (x0 : Nat) (x1 : Int32) (x2 : Nat) (σ1 : Hp) (hk_x2 : ky x2 = 3) (H : Heap) (locs : List Loc) (ls : Array Slot), f_X6_adds_b20 x0 x1 x2 σ1 = some (r, τ) → tB g P σ1 A s.heap H locs → lv_has ls 3 [(0, .ref (P x0)), (1, .int x1), (2, .ref (gL g x2))] → WQ p l e { frames := 3, cells := 0, slots := 0, locals := 66 } s m args below meth c g P A (some (.int r)) τ H locs (F0 m 20 ls []) := by
    intro x0 x1 x2 σ1 hk_x2 H locs ls h hB hl
    unfold f_X6_adds_b20 at h
    refine lv_aload_n hx hb dX6_adds_20 rfl (lv_at hl 0 rfl) ?_
    refine lv_iload_n hx hb dX6_adds_21 rfl (lv_at hl 1 rfl) ?_
    refine lv_aload_n hx hb dX6_adds_22 rfl (lv_at hl 2 rfl) ?_
    replace h := ck_eq h; obtain ⟨q_6, h⟩ := h
    replace h := b2_eq h; obtain ⟨r_3, s_4, hc_5, h⟩ := h
    obtain ⟨rc, hrc⟩ := isLaw_cl q_6
    refine R_call (rest := []) [.int r_3] (R_runSU (n := 2) (As := [.int x1, .ref (gL g x2)]) ⟨hx, hb, hml, hown, ht⟩ (fun _ h9 => h9) hK hZ hA hB (c_X2_adds l g P σ1 x0 x1 x2 hk_x2 H.size hc_5) (isLaw_eq q_6).1 hrc tw872 tw861 tw854 tw253 tw852 tw10 ⟨by decide, by decide⟩ rfl rfl ⟨Nat.le_of_ble_eq_true rfl, Nat.le_of_ble_eq_true rfl⟩ rfl hl.1 rfl (Nat.le_of_ble_eq_true rfl) dX6_adds_23 ⟨Nat.zero_le _, Nat.zero_le _⟩) hB hA rfl (fun H locs hB => ?_)
    refine lv_iconst (v := 3) hx hb dX6_adds_26 (by decide) ?_
    refine lv_imul hx hb dX6_adds_27 ?_
    obtain ⟨rfl, rfl⟩ := Prod.mk.inj (Option.some.inj h)
    exact W.iret hx hb hr (R_end hB) hB.2.2.2.2 dX6_adds_28
  suffices hmain : ∀ (H : Heap) (locs : List Loc) (ls : Array Slot), tB g P σ A s.heap H locs → lv_has ls 3 [(0, .ref (P j0)), (1, .int a1), (2, .ref (gL g k2))] → WQ p l e { frames := 3, cells := 0, slots := 0, locals := 66 } s m args below meth c g P A (some (.int r)) τ H locs (F0 m 0 ls []) from hmain _ _ ls0 hB0 hl0
  intro H locs ls hB hl
  unfold f_X6_adds at h
  refine lv_aload_n hx hb dX6_adds_0 rfl (lv_at hl 2 rfl) ?_
  refine lv_iconst (v := 0) hx hb dX6_adds_1 (by decide) ?_
  refine lv_dup2_11 hx hb dX6_adds_2 rfl rfl ?_
  replace h := ck_eq h; obtain ⟨q_1, h⟩ := h
  refine R_iald hx hb hK hB hk_k2 (inb_eq q_1) dX6_adds_3 ?_
  refine lv_iconst (v := 1) hx hb dX6_adds_4 (by decide) ?_
  refine lv_iadd hx hb dX6_adds_5 ?_
  refine lv_dup_x2 hx hb dX6_adds_6 rfl rfl rfl ?_
  refine R_iast hx hb hK hB hk_k2 (inb_eq q_1) dX6_adds_7 (fun H locs hB => ?_)
  refine lv_aload_n hx hb dX6_adds_8 rfl (lv_at hl 2 rfl) ?_
  refine R_alenI hx hb (v := Int32.ofNat (ln k2)) hK hB hk_k2 rfl dX6_adds_9 ?_
  refine lv_icmp_ge (tgt := 20) hx hb dX6_adds_10 (by decide) (fun c_2 => ?_) (fun c_2 => ?_)
  · replace h := itp h c_2
    exact hb_20 j0 a1 k2 (sI σ k2 (0 : Int32).toNatClampNeg ((hI σ k2 (0 : Int32).toNatClampNeg) + (1 : Int32))) hk_k2 H locs ls h hB (lv_sub hl [0, 1, 2] rfl)
  · replace h := itn h c_2
    refine lv_aload_n hx hb dX6_adds_13 rfl (lv_at hl 2 rfl) ?_
    refine lv_aload_n hx hb dX6_adds_14 rfl (lv_at hl 2 rfl) ?_
    refine lv_iconst (v := 0) hx hb dX6_adds_15 (by decide) ?_
    refine R_iald hx hb hK hB hk_k2 (inb_eq q_1) dX6_adds_16 ?_
    refine lv_bipush (v := 30) hx hb dX6_adds_17 (by decide) ?_
    replace h := ck_eq h; obtain ⟨q_7, h⟩ := h
    refine R_iast hx hb hK hB hk_k2 (inb_eq q_7) dX6_adds_19 (fun H locs hB => ?_)
    exact hb_20 j0 a1 k2 (sI (sI σ k2 (0 : Int32).toNatClampNeg ((hI σ k2 (0 : Int32).toNatClampNeg) + (1 : Int32))) k2 (hI (sI σ k2 (0 : Int32).toNatClampNeg ((hI σ k2 (0 : Int32).toNatClampNeg) + (1 : Int32))) k2 (0 : Int32).toNatClampNeg).toNatClampNeg (30 : Int32)) hk_k2 H locs ls h hB (lv_sub hl [0, 1, 2] rfl)
def f_X0_adds_b20 (x0 : Nat) (x1 : Int32) (x2 : Nat) (σ1 : Hp) : Option (Int32 × Hp) := ck (isLaw σ1 x0 = true) (ck (isLaw σ1 x0 = true) (b2 (f_X6_adds x0 (x1 - (hI σ1 (100 + x0) 1)) x2 σ1) (fun r_4 s_5 => some (r_4, s_5))))
def f_X0_adds (j0 : Nat) (a1 : Int32) (k2 : Nat) (σ : Hp) : Option (Int32 × Hp) := ck (inb (0 : Int32) (ln k2) = true) (if (Int32.ofNat (ln k2)) ≤ ((hI σ k2 (0 : Int32).toNatClampNeg) + (1 : Int32)) then f_X0_adds_b20 j0 a1 k2 (sI σ k2 (0 : Int32).toNatClampNeg ((hI σ k2 (0 : Int32).toNatClampNeg) + (1 : Int32))) else ck (inb (hI (sI σ k2 (0 : Int32).toNatClampNeg ((hI σ k2 (0 : Int32).toNatClampNeg) + (1 : Int32))) k2 (0 : Int32).toNatClampNeg) (ln k2) = true) (f_X0_adds_b20 j0 a1 k2 (sI (sI σ k2 (0 : Int32).toNatClampNeg ((hI σ k2 (0 : Int32).toNatClampNeg) + (1 : Int32))) k2 (hI (sI σ k2 (0 : Int32).toNatClampNeg ((hI σ k2 (0 : Int32).toNatClampNeg) + (1 : Int32))) k2 (0 : Int32).toNatClampNeg).toNatClampNeg (71 : Int32))))
set_option maxHeartbeats 4000000 in
set_option maxRecDepth 100000 in
theorem c_X0_adds (l : Launch) (g : tG) (P : Nat → Nat) (σ : Hp) (j0 : Nat) (a1 : Int32) (k2 : Nat) (hk_k2 : ky k2 = 3) (sz : Nat) {r : Int32} {τ : Hp} (h : f_X0_adds j0 a1 k2 σ = some (r, τ)) : Met l yX0_adds (Cond.code yX0_adds cX0_adds 3 (some .int) :: tblG) ({ frames := 4, cells := 0, slots := 0, locals := 88 }) (va_Pc [.ref (P j0), .int a1, .ref (gL g k2)] (tPre g P σ sz)) (tQ (some (.int r)) (tPost g P τ (va_A (wC g P σ) sz)) (va_A (wC g P σ) sz)) 0 0 (va_A (wC g P σ) sz) := by
  refine T_start (B := fun A => tPost g P τ A) (by decide) (Nat.le_of_ble_eq_true rfl) ?_
  intro p e s m args below meth c ls0 A hx hb hml hr hown hlocks ht hnm hK hZ hA hB0 hl0
  have hb_20 : ∀ (x0 : Nat) (x1 : Int32) (x2 : Nat) (σ1 : Hp) (hk_x2 : ky x2 = 3) (H : Heap) (locs : List Loc) (ls : Array Slot), f_X0_adds_b20 x0 x1 x2 σ1 = some (r, τ) → tB g P σ1 A s.heap H locs → lv_has ls 3 [(0, .ref (P x0)), (1, .int x1), (2, .ref (gL g x2))] → WQ p l e { frames := 4, cells := 0, slots := 0, locals := 88 } s m args below meth c g P A (some (.int r)) τ H locs (F0 m 20 ls []) := by
    intro x0 x1 x2 σ1 hk_x2 H locs ls h hB hl
    unfold f_X0_adds_b20 at h
    refine lv_aload_n hx hb dX0_adds_20 rfl (lv_at hl 0 rfl) ?_
    refine lv_iload_n hx hb dX0_adds_21 rfl (lv_at hl 1 rfl) ?_
    refine lv_aload_n hx hb dX0_adds_22 rfl (lv_at hl 0 rfl) ?_
    replace h := ck_eq h; obtain ⟨q_3, h⟩ := h
    refine R_getP1 hx hb ht hown hK hB q_3 (ht _ tw388) (u_same (ht _ tw389)) dX0_adds_23 ?_
    refine lv_isub hx hb dX0_adds_26 ?_
    refine lv_aload_n hx hb dX0_adds_27 rfl (lv_at hl 2 rfl) ?_
    replace h := ck_eq h; obtain ⟨q_7, h⟩ := h
    replace h := b2_eq h; obtain ⟨r_4, s_5, hc_6, h⟩ := h
    obtain ⟨rc, hrc⟩ := isLaw_cl q_7
    refine R_call (rest := []) [.int r_4] (R_runSU (n := 2) (As := [.int (x1 - (hI σ1 (100 + x0) 1)), .ref (gL g x2)]) ⟨hx, hb, hml, hown, ht⟩ (fun _ h9 => h9) hK hZ hA hB (c_X6_adds l g P σ1 x0 (x1 - (hI σ1 (100 + x0) 1)) x2 hk_x2 H.size hc_6) (isLaw_eq q_7).1 hrc tw860 tw858 tw1359 tw249 tw859 tw12 ⟨by decide, by decide⟩ rfl rfl ⟨Nat.le_of_ble_eq_true rfl, Nat.le_of_ble_eq_true rfl⟩ rfl hl.1 rfl (Nat.le_of_ble_eq_true rfl) dX0_adds_28 ⟨Nat.zero_le _, Nat.zero_le _⟩) hB hA rfl (fun H locs hB => ?_)
    obtain ⟨rfl, rfl⟩ := Prod.mk.inj (Option.some.inj h)
    exact W.iret hx hb hr (R_end hB) hB.2.2.2.2 dX0_adds_31
  suffices hmain : ∀ (H : Heap) (locs : List Loc) (ls : Array Slot), tB g P σ A s.heap H locs → lv_has ls 3 [(0, .ref (P j0)), (1, .int a1), (2, .ref (gL g k2))] → WQ p l e { frames := 4, cells := 0, slots := 0, locals := 88 } s m args below meth c g P A (some (.int r)) τ H locs (F0 m 0 ls []) from hmain _ _ ls0 hB0 hl0
  intro H locs ls hB hl
  unfold f_X0_adds at h
  refine lv_aload_n hx hb dX0_adds_0 rfl (lv_at hl 2 rfl) ?_
  refine lv_iconst (v := 0) hx hb dX0_adds_1 (by decide) ?_
  refine lv_dup2_11 hx hb dX0_adds_2 rfl rfl ?_
  replace h := ck_eq h; obtain ⟨q_1, h⟩ := h
  refine R_iald hx hb hK hB hk_k2 (inb_eq q_1) dX0_adds_3 ?_
  refine lv_iconst (v := 1) hx hb dX0_adds_4 (by decide) ?_
  refine lv_iadd hx hb dX0_adds_5 ?_
  refine lv_dup_x2 hx hb dX0_adds_6 rfl rfl rfl ?_
  refine R_iast hx hb hK hB hk_k2 (inb_eq q_1) dX0_adds_7 (fun H locs hB => ?_)
  refine lv_aload_n hx hb dX0_adds_8 rfl (lv_at hl 2 rfl) ?_
  refine R_alenI hx hb (v := Int32.ofNat (ln k2)) hK hB hk_k2 rfl dX0_adds_9 ?_
  refine lv_icmp_ge (tgt := 20) hx hb dX0_adds_10 (by decide) (fun c_2 => ?_) (fun c_2 => ?_)
  · replace h := itp h c_2
    exact hb_20 j0 a1 k2 (sI σ k2 (0 : Int32).toNatClampNeg ((hI σ k2 (0 : Int32).toNatClampNeg) + (1 : Int32))) hk_k2 H locs ls h hB (lv_sub hl [0, 1, 2] rfl)
  · replace h := itn h c_2
    refine lv_aload_n hx hb dX0_adds_13 rfl (lv_at hl 2 rfl) ?_
    refine lv_aload_n hx hb dX0_adds_14 rfl (lv_at hl 2 rfl) ?_
    refine lv_iconst (v := 0) hx hb dX0_adds_15 (by decide) ?_
    refine R_iald hx hb hK hB hk_k2 (inb_eq q_1) dX0_adds_16 ?_
    refine lv_bipush (v := 71) hx hb dX0_adds_17 (by decide) ?_
    replace h := ck_eq h; obtain ⟨q_8, h⟩ := h
    refine R_iast hx hb hK hB hk_k2 (inb_eq q_8) dX0_adds_19 (fun H locs hB => ?_)
    exact hb_20 j0 a1 k2 (sI (sI σ k2 (0 : Int32).toNatClampNeg ((hI σ k2 (0 : Int32).toNatClampNeg) + (1 : Int32))) k2 (hI (sI σ k2 (0 : Int32).toNatClampNeg ((hI σ k2 (0 : Int32).toNatClampNeg) + (1 : Int32))) k2 (0 : Int32).toNatClampNeg).toNatClampNeg (71 : Int32)) hk_k2 H locs ls h hB (lv_sub hl [0, 1, 2] rfl)
def v_adds (j0 : Nat) (a1 : Int32) (k2 : Nat) (σ : Hp) : Option (Int32 × Hp) := if hC σ j0 = 0 then f_X0_adds j0 a1 k2 σ else if hC σ j0 = 1 then f_X2_adds j0 a1 k2 σ else if hC σ j0 = 2 then f_X3_adds j0 a1 k2 σ else if hC σ j0 = 5 then f_X6_adds j0 a1 k2 σ else if hC σ j0 = 7 then f_X2_adds j0 a1 k2 σ else if hC σ j0 = 8 then f_X2_adds j0 a1 k2 σ else if hC σ j0 = 9 then f_X6_adds j0 a1 k2 σ else none
set_option maxHeartbeats 4000000 in
set_option maxRecDepth 100000 in
theorem dv_adds {p : Program} {l : Launch} {e : Env} {R : Room} {s : State} {m : MethodId} {args : Array Value} {below : List Frame} {meth : Method} {c : Code} {H : Heap} {locs : List Loc} {cells slots : Nat} {cc : ByteArray} {pc : Nat} {ls : Array Slot} {rest : List Value} {g : tG} {P : Nat → Nat} {σ : Hp} {A : Nat → Prop} {own : String} {index nL : Nat} {st0 : List Value} (S : CallFix p m c cc nL s args tblG own) (hK : tK g s) (hZ : tZ g A s s.heap) (hA : ∀ q, s.heap.size ≤ q → A q) (hB : tB g P σ A s.heap H locs) {j0 : Nat} {a1 : Int32} {k2 : Nat} (hj : isLaw σ j0 = true) (hk_k2 : ky k2 = 3) (hl : Cond.methodLink own index ⟨"TurnedAbout$Law", "adds", "(I[I)I"⟩ ∈ tblG) {r : Int32} {τ : Hp} (hc : v_adds j0 a1 k2 σ = some (r, τ)) (hRf : 5 ≤ R.frames) (hRl : 110 ≤ R.locals) (hsize : ls.size = nL) (hst : st0 = [.int a1, .ref (gL g k2)].reverse ++ .ref (P j0) :: rest) (hW : (rest.map fun v => v.category).sum ≤ 8) (hdg : decode cc pc = .ok (.invokevirtual index, 3)) (hfc : cells ≤ R.cells) (hfs : slots ≤ R.slots) : va_Run p l e R s m args below meth c H locs cells slots 0 0 (F0 m pc ls st0) rest (tQ (some (.int r)) (tPost g P τ (va_A (wC g P σ) H.size)) (va_A (wC g P σ) H.size) (Value.ref (P j0) :: [.int a1, .ref (gL g k2)]).toArray) (va_A (wC g P σ) H.size) := by
  unfold v_adds at hc
  rcases (isLaw_eq hj).2 with q | q | q | q | q | q | q <;> rw [q] at hc
  · exact R_runU (C := RX0) (owner := "TurnedAbout$Law") (x := ⟨"TurnedAbout$Law", "adds", "(I[I)I"⟩) (n := 2) (As := [.int a1, .ref (gL g k2)]) S (fun _ h9 => h9) hK hZ hA hB (c_X0_adds l g P σ j0 a1 k2 hk_k2 H.size hc) (R_recvP hK hB (isLaw_eq hj).1 (r := (RX0, TX0, 2)) (by rw [q]; rfl)) tw857 hl tw854 tw852 tw872 tw856 tw855 tw16 ⟨by decide, by decide, by decide⟩ rfl rfl ⟨Nat.le_trans (Nat.le_of_ble_eq_true rfl) hRf, Nat.le_trans (Nat.le_of_ble_eq_true rfl) hRl⟩ rfl hsize hst hW hdg ⟨hfc, hfs⟩
  · exact R_runU (C := RX2) (owner := "TurnedAbout$Law") (x := ⟨"TurnedAbout$Law", "adds", "(I[I)I"⟩) (n := 2) (As := [.int a1, .ref (gL g k2)]) S (fun _ h9 => h9) hK hZ hA hB (c_X2_adds l g P σ j0 a1 k2 hk_k2 H.size hc) (R_recvP hK hB (isLaw_eq hj).1 (r := (RX2, TX2, 2)) (by rw [q]; rfl)) tw872 hl tw854 tw852 tw872 tw852 tw853 tw10 ⟨by decide, by decide, by decide⟩ rfl rfl ⟨Nat.le_trans (Nat.le_of_ble_eq_true rfl) hRf, Nat.le_trans (Nat.le_of_ble_eq_true rfl) hRl⟩ rfl hsize hst hW hdg ⟨hfc, hfs⟩
  · exact R_runU (C := RX3) (owner := "TurnedAbout$Law") (x := ⟨"TurnedAbout$Law", "adds", "(I[I)I"⟩) (n := 2) (As := [.int a1, .ref (gL g k2)]) S (fun _ h9 => h9) hK hZ hA hB (c_X3_adds l g P σ j0 a1 k2 hk_k2 H.size hc) (R_recvP hK hB (isLaw_eq hj).1 (r := (RX3, TX3, 2)) (by rw [q]; rfl)) tw864 hl tw854 tw852 tw872 tw863 tw862 tw13 ⟨by decide, by decide, by decide⟩ rfl rfl ⟨Nat.le_trans (Nat.le_of_ble_eq_true rfl) hRf, Nat.le_trans (Nat.le_of_ble_eq_true rfl) hRl⟩ rfl hsize hst hW hdg ⟨hfc, hfs⟩
  · exact R_runU (C := RX6) (owner := "TurnedAbout$Law") (x := ⟨"TurnedAbout$Law", "adds", "(I[I)I"⟩) (n := 2) (As := [.int a1, .ref (gL g k2)]) S (fun _ h9 => h9) hK hZ hA hB (c_X6_adds l g P σ j0 a1 k2 hk_k2 H.size hc) (R_recvP hK hB (isLaw_eq hj).1 (r := (RX6, TX6, 2)) (by rw [q]; rfl)) tw860 hl tw854 tw852 tw872 tw859 tw868 tw12 ⟨by decide, by decide, by decide⟩ rfl rfl ⟨Nat.le_trans (Nat.le_of_ble_eq_true rfl) hRf, Nat.le_trans (Nat.le_of_ble_eq_true rfl) hRl⟩ rfl hsize hst hW hdg ⟨hfc, hfs⟩
  · exact R_runU (C := RX8) (owner := "TurnedAbout$Law") (x := ⟨"TurnedAbout$Law", "adds", "(I[I)I"⟩) (n := 2) (As := [.int a1, .ref (gL g k2)]) S (fun _ h9 => h9) hK hZ hA hB (c_X2_adds l g P σ j0 a1 k2 hk_k2 H.size hc) (R_recvP hK hB (isLaw_eq hj).1 (r := (RX8, TX8, 2)) (by rw [q]; rfl)) tw872 hl tw854 tw852 tw872 tw852 tw869 tw10 ⟨by decide, by decide, by decide⟩ rfl rfl ⟨Nat.le_trans (Nat.le_of_ble_eq_true rfl) hRf, Nat.le_trans (Nat.le_of_ble_eq_true rfl) hRl⟩ rfl hsize hst hW hdg ⟨hfc, hfs⟩
  · exact R_runU (C := RX9) (owner := "TurnedAbout$Law") (x := ⟨"TurnedAbout$Law", "adds", "(I[I)I"⟩) (n := 2) (As := [.int a1, .ref (gL g k2)]) S (fun _ h9 => h9) hK hZ hA hB (c_X2_adds l g P σ j0 a1 k2 hk_k2 H.size hc) (R_recvP hK hB (isLaw_eq hj).1 (r := (RX9, TX9, 2)) (by rw [q]; rfl)) tw872 hl tw854 tw852 tw872 tw852 tw870 tw10 ⟨by decide, by decide, by decide⟩ rfl rfl ⟨Nat.le_trans (Nat.le_of_ble_eq_true rfl) hRf, Nat.le_trans (Nat.le_of_ble_eq_true rfl) hRl⟩ rfl hsize hst hW hdg ⟨hfc, hfs⟩
  · exact R_runU (C := RX10) (owner := "TurnedAbout$Law") (x := ⟨"TurnedAbout$Law", "adds", "(I[I)I"⟩) (n := 2) (As := [.int a1, .ref (gL g k2)]) S (fun _ h9 => h9) hK hZ hA hB (c_X6_adds l g P σ j0 a1 k2 hk_k2 H.size hc) (R_recvP hK hB (isLaw_eq hj).1 (r := (RX10, TX10, 2)) (by rw [q]; rfl)) tw860 hl tw854 tw852 tw872 tw859 tw871 tw12 ⟨by decide, by decide, by decide⟩ rfl rfl ⟨Nat.le_trans (Nat.le_of_ble_eq_true rfl) hRf, Nat.le_trans (Nat.le_of_ble_eq_true rfl) hRl⟩ rfl hsize hst hW hdg ⟨hfc, hfs⟩
def f_X2_reads_b20 (x0 : Nat) (x1 : Int32) (x2 : Nat) (σ1 : Hp) : Option (Int32 × Hp) := ck (isLaw σ1 x0 = true) (b2 (v_adds x0 x1 x2 σ1) (fun r_4 s_5 => ck (isLaw s_5 x0 = true) (ck (isLaw s_5 x0 = true) (b2 (v_turns x0 (x1 - (hI s_5 (100 + x0) 1)) x2 s_5) (fun r_9 s_10 => some ((r_4 ^^^ r_9), s_10))))))
def f_X2_reads (j0 : Nat) (a1 : Int32) (k2 : Nat) (σ : Hp) : Option (Int32 × Hp) := ck (inb (0 : Int32) (ln k2) = true) (if (Int32.ofNat (ln k2)) ≤ ((hI σ k2 (0 : Int32).toNatClampNeg) + (1 : Int32)) then f_X2_reads_b20 j0 a1 k2 (sI σ k2 (0 : Int32).toNatClampNeg ((hI σ k2 (0 : Int32).toNatClampNeg) + (1 : Int32))) else ck (inb (hI (sI σ k2 (0 : Int32).toNatClampNeg ((hI σ k2 (0 : Int32).toNatClampNeg) + (1 : Int32))) k2 (0 : Int32).toNatClampNeg) (ln k2) = true) (f_X2_reads_b20 j0 a1 k2 (sI (sI σ k2 (0 : Int32).toNatClampNeg ((hI σ k2 (0 : Int32).toNatClampNeg) + (1 : Int32))) k2 (hI (sI σ k2 (0 : Int32).toNatClampNeg ((hI σ k2 (0 : Int32).toNatClampNeg) + (1 : Int32))) k2 (0 : Int32).toNatClampNeg).toNatClampNeg (12 : Int32))))
set_option maxHeartbeats 4000000 in
set_option maxRecDepth 100000 in
theorem c_X2_reads (l : Launch) (g : tG) (P : Nat → Nat) (σ : Hp) (j0 : Nat) (a1 : Int32) (k2 : Nat) (hk_k2 : ky k2 = 3) (sz : Nat) {r : Int32} {τ : Hp} (h : f_X2_reads j0 a1 k2 σ = some (r, τ)) : Met l yX2_reads (Cond.code yX2_reads cX2_reads 4 (some .int) :: tblG) ({ frames := 5, cells := 0, slots := 0, locals := 110 }) (va_Pc [.ref (P j0), .int a1, .ref (gL g k2)] (tPre g P σ sz)) (tQ (some (.int r)) (tPost g P τ (va_A (wC g P σ) sz)) (va_A (wC g P σ) sz)) 0 0 (va_A (wC g P σ) sz) := by
  refine T_start (B := fun A => tPost g P τ A) (by decide) (Nat.le_of_ble_eq_true rfl) ?_
  intro p e s m args below meth c ls0 A hx hb hml hr hown hlocks ht hnm hK hZ hA hB0 hl0
  have hb_20 : ∀ (x0 : Nat) (x1 : Int32) (x2 : Nat) (σ1 : Hp) (hk_x2 : ky x2 = 3) (H : Heap) (locs : List Loc) (ls : Array Slot), f_X2_reads_b20 x0 x1 x2 σ1 = some (r, τ) → tB g P σ1 A s.heap H locs → lv_has ls 4 [(0, .ref (P x0)), (1, .int x1), (2, .ref (gL g x2))] → WQ p l e { frames := 5, cells := 0, slots := 0, locals := 110 } s m args below meth c g P A (some (.int r)) τ H locs (F0 m 20 ls []) := by
    intro x0 x1 x2 σ1 hk_x2 H locs ls h hB hl
    unfold f_X2_reads_b20 at h
    refine lv_aload_n hx hb dX2_reads_20 rfl (lv_at hl 0 rfl) ?_
    refine lv_iload_n hx hb dX2_reads_21 rfl (lv_at hl 1 rfl) ?_
    refine lv_aload_n hx hb dX2_reads_22 rfl (lv_at hl 2 rfl) ?_
    replace h := ck_eq h; obtain ⟨q_3, h⟩ := h
    replace h := b2_eq h; obtain ⟨r_4, s_5, hc_6, h⟩ := h
    refine R_call (rest := []) [.int r_4] (dv_adds ⟨hx, hb, hml, hown, ht⟩ hK hZ hA hB q_3 hk_x2 tw893 hc_6 (Nat.le_of_ble_eq_true rfl) (Nat.le_of_ble_eq_true rfl) hl.1 rfl (Nat.le_of_ble_eq_true rfl) dX2_reads_23 (Nat.zero_le _) (Nat.zero_le _)) hB hA rfl (fun H locs hB => ?_)
    refine lv_istore_n (lv' := [(3, .int r_4), (0, .ref (P x0)), (1, .int x1), (2, .ref (gL g x2))]) hx hb dX2_reads_26 rfl hl (by decide) rfl (fun ls hl => ?_)
    refine lv_iload_n hx hb dX2_reads_27 rfl (lv_at hl 0 rfl) ?_
    refine lv_aload_n hx hb dX2_reads_28 rfl (lv_at hl 1 rfl) ?_
    refine lv_iload_n hx hb dX2_reads_29 rfl (lv_at hl 2 rfl) ?_
    refine lv_aload_n hx hb dX2_reads_30 rfl (lv_at hl 1 rfl) ?_
    replace h := ck_eq h; obtain ⟨q_7, h⟩ := h
    refine R_getP1 hx hb ht hown hK hB q_7 (ht _ tw383) (fun _ h9 => h9) dX2_reads_31 ?_
    refine lv_isub hx hb dX2_reads_34 ?_
    refine lv_aload_n hx hb dX2_reads_35 rfl (lv_at hl 3 rfl) ?_
    replace h := ck_eq h; obtain ⟨q_8, h⟩ := h
    replace h := b2_eq h; obtain ⟨r_9, s_10, hc_11, h⟩ := h
    refine R_call (rest := [.int r_4]) [.int r_9, .int r_4] (dv_turns ⟨hx, hb, hml, hown, ht⟩ hK hZ hA hB q_8 hk_x2 tw873 hc_11 (Nat.le_of_ble_eq_true rfl) (Nat.le_of_ble_eq_true rfl) hl.1 rfl (Nat.le_of_ble_eq_true rfl) dX2_reads_36 (Nat.zero_le _) (Nat.zero_le _)) hB hA rfl (fun H locs hB => ?_)
    refine lv_ixor hx hb dX2_reads_39 ?_
    obtain ⟨rfl, rfl⟩ := Prod.mk.inj (Option.some.inj h)
    exact W.iret hx hb hr (R_end hB) hB.2.2.2.2 dX2_reads_40
  suffices hmain : ∀ (H : Heap) (locs : List Loc) (ls : Array Slot), tB g P σ A s.heap H locs → lv_has ls 4 [(0, .ref (P j0)), (1, .int a1), (2, .ref (gL g k2))] → WQ p l e { frames := 5, cells := 0, slots := 0, locals := 110 } s m args below meth c g P A (some (.int r)) τ H locs (F0 m 0 ls []) from hmain _ _ ls0 hB0 hl0
  intro H locs ls hB hl
  unfold f_X2_reads at h
  refine lv_aload_n hx hb dX2_reads_0 rfl (lv_at hl 2 rfl) ?_
  refine lv_iconst (v := 0) hx hb dX2_reads_1 (by decide) ?_
  refine lv_dup2_11 hx hb dX2_reads_2 rfl rfl ?_
  replace h := ck_eq h; obtain ⟨q_1, h⟩ := h
  refine R_iald hx hb hK hB hk_k2 (inb_eq q_1) dX2_reads_3 ?_
  refine lv_iconst (v := 1) hx hb dX2_reads_4 (by decide) ?_
  refine lv_iadd hx hb dX2_reads_5 ?_
  refine lv_dup_x2 hx hb dX2_reads_6 rfl rfl rfl ?_
  refine R_iast hx hb hK hB hk_k2 (inb_eq q_1) dX2_reads_7 (fun H locs hB => ?_)
  refine lv_aload_n hx hb dX2_reads_8 rfl (lv_at hl 2 rfl) ?_
  refine R_alenI hx hb (v := Int32.ofNat (ln k2)) hK hB hk_k2 rfl dX2_reads_9 ?_
  refine lv_icmp_ge (tgt := 20) hx hb dX2_reads_10 (by decide) (fun c_2 => ?_) (fun c_2 => ?_)
  · replace h := itp h c_2
    exact hb_20 j0 a1 k2 (sI σ k2 (0 : Int32).toNatClampNeg ((hI σ k2 (0 : Int32).toNatClampNeg) + (1 : Int32))) hk_k2 H locs ls h hB (lv_sub hl [0, 1, 2] rfl)
  · replace h := itn h c_2
    refine lv_aload_n hx hb dX2_reads_13 rfl (lv_at hl 2 rfl) ?_
    refine lv_aload_n hx hb dX2_reads_14 rfl (lv_at hl 2 rfl) ?_
    refine lv_iconst (v := 0) hx hb dX2_reads_15 (by decide) ?_
    refine R_iald hx hb hK hB hk_k2 (inb_eq q_1) dX2_reads_16 ?_
    refine lv_bipush (v := 12) hx hb dX2_reads_17 (by decide) ?_
    replace h := ck_eq h; obtain ⟨q_12, h⟩ := h
    refine R_iast hx hb hK hB hk_k2 (inb_eq q_12) dX2_reads_19 (fun H locs hB => ?_)
    exact hb_20 j0 a1 k2 (sI (sI σ k2 (0 : Int32).toNatClampNeg ((hI σ k2 (0 : Int32).toNatClampNeg) + (1 : Int32))) k2 (hI (sI σ k2 (0 : Int32).toNatClampNeg ((hI σ k2 (0 : Int32).toNatClampNeg) + (1 : Int32))) k2 (0 : Int32).toNatClampNeg).toNatClampNeg (12 : Int32)) hk_k2 H locs ls h hB (lv_sub hl [0, 1, 2] rfl)
def f_X9_reads_b20 (x0 : Nat) (x1 : Int32) (x2 : Nat) (σ1 : Hp) : Option (Int32 × Hp) := ck (isLaw σ1 x0 = true) (b2 (f_X2_reads x0 x1 x2 σ1) (fun r_3 s_4 => some ((-r_3), s_4)))
def f_X9_reads (j0 : Nat) (a1 : Int32) (k2 : Nat) (σ : Hp) : Option (Int32 × Hp) := ck (inb (0 : Int32) (ln k2) = true) (if (Int32.ofNat (ln k2)) ≤ ((hI σ k2 (0 : Int32).toNatClampNeg) + (1 : Int32)) then f_X9_reads_b20 j0 a1 k2 (sI σ k2 (0 : Int32).toNatClampNeg ((hI σ k2 (0 : Int32).toNatClampNeg) + (1 : Int32))) else ck (inb (hI (sI σ k2 (0 : Int32).toNatClampNeg ((hI σ k2 (0 : Int32).toNatClampNeg) + (1 : Int32))) k2 (0 : Int32).toNatClampNeg) (ln k2) = true) (f_X9_reads_b20 j0 a1 k2 (sI (sI σ k2 (0 : Int32).toNatClampNeg ((hI σ k2 (0 : Int32).toNatClampNeg) + (1 : Int32))) k2 (hI (sI σ k2 (0 : Int32).toNatClampNeg ((hI σ k2 (0 : Int32).toNatClampNeg) + (1 : Int32))) k2 (0 : Int32).toNatClampNeg).toNatClampNeg (50 : Int32))))
set_option maxHeartbeats 4000000 in
set_option maxRecDepth 100000 in
theorem c_X9_reads (l : Launch) (g : tG) (P : Nat → Nat) (σ : Hp) (j0 : Nat) (a1 : Int32) (k2 : Nat) (hk_k2 : ky k2 = 3) (sz : Nat) {r : Int32} {τ : Hp} (h : f_X9_reads j0 a1 k2 σ = some (r, τ)) : Met l yX9_reads (Cond.code yX9_reads cX9_reads 3 (some .int) :: tblG) ({ frames := 6, cells := 0, slots := 0, locals := 133 }) (va_Pc [.ref (P j0), .int a1, .ref (gL g k2)] (tPre g P σ sz)) (tQ (some (.int r)) (tPost g P τ (va_A (wC g P σ) sz)) (va_A (wC g P σ) sz)) 0 0 (va_A (wC g P σ) sz) := by
  refine T_start (B := fun A => tPost g P τ A) (by decide) (Nat.le_of_ble_eq_true rfl) ?_
  intro p e s m args below meth c ls0 A hx hb hml hr hown hlocks ht hnm hK hZ hA hB0 hl0
  have hb_20 : ∀ (x0 : Nat) (x1 : Int32) (x2 : Nat) (σ1 : Hp) (hk_x2 : ky x2 = 3) (H : Heap) (locs : List Loc) (ls : Array Slot), f_X9_reads_b20 x0 x1 x2 σ1 = some (r, τ) → tB g P σ1 A s.heap H locs → lv_has ls 3 [(0, .ref (P x0)), (1, .int x1), (2, .ref (gL g x2))] → WQ p l e { frames := 6, cells := 0, slots := 0, locals := 133 } s m args below meth c g P A (some (.int r)) τ H locs (F0 m 20 ls []) := by
    intro x0 x1 x2 σ1 hk_x2 H locs ls h hB hl
    unfold f_X9_reads_b20 at h
    refine lv_aload_n hx hb dX9_reads_20 rfl (lv_at hl 0 rfl) ?_
    refine lv_iload_n hx hb dX9_reads_21 rfl (lv_at hl 1 rfl) ?_
    refine lv_aload_n hx hb dX9_reads_22 rfl (lv_at hl 2 rfl) ?_
    replace h := ck_eq h; obtain ⟨q_6, h⟩ := h
    replace h := b2_eq h; obtain ⟨r_3, s_4, hc_5, h⟩ := h
    obtain ⟨rc, hrc⟩ := isLaw_cl q_6
    refine R_call (rest := []) [.int r_3] (R_runSU (n := 2) (As := [.int x1, .ref (gL g x2)]) ⟨hx, hb, hml, hown, ht⟩ (fun _ h9 => h9) hK hZ hA hB (c_X2_reads l g P σ1 x0 x1 x2 hk_x2 H.size hc_5) (isLaw_eq q_6).1 hrc tw892 tw885 tw877 tw269 tw875 tw10 ⟨by decide, by decide⟩ rfl rfl ⟨Nat.le_of_ble_eq_true rfl, Nat.le_of_ble_eq_true rfl⟩ rfl hl.1 rfl (Nat.le_of_ble_eq_true rfl) dX9_reads_23 ⟨Nat.zero_le _, Nat.zero_le _⟩) hB hA rfl (fun H locs hB => ?_)
    refine lv_ineg hx hb dX9_reads_26 ?_
    obtain ⟨rfl, rfl⟩ := Prod.mk.inj (Option.some.inj h)
    exact W.iret hx hb hr (R_end hB) hB.2.2.2.2 dX9_reads_27
  suffices hmain : ∀ (H : Heap) (locs : List Loc) (ls : Array Slot), tB g P σ A s.heap H locs → lv_has ls 3 [(0, .ref (P j0)), (1, .int a1), (2, .ref (gL g k2))] → WQ p l e { frames := 6, cells := 0, slots := 0, locals := 133 } s m args below meth c g P A (some (.int r)) τ H locs (F0 m 0 ls []) from hmain _ _ ls0 hB0 hl0
  intro H locs ls hB hl
  unfold f_X9_reads at h
  refine lv_aload_n hx hb dX9_reads_0 rfl (lv_at hl 2 rfl) ?_
  refine lv_iconst (v := 0) hx hb dX9_reads_1 (by decide) ?_
  refine lv_dup2_11 hx hb dX9_reads_2 rfl rfl ?_
  replace h := ck_eq h; obtain ⟨q_1, h⟩ := h
  refine R_iald hx hb hK hB hk_k2 (inb_eq q_1) dX9_reads_3 ?_
  refine lv_iconst (v := 1) hx hb dX9_reads_4 (by decide) ?_
  refine lv_iadd hx hb dX9_reads_5 ?_
  refine lv_dup_x2 hx hb dX9_reads_6 rfl rfl rfl ?_
  refine R_iast hx hb hK hB hk_k2 (inb_eq q_1) dX9_reads_7 (fun H locs hB => ?_)
  refine lv_aload_n hx hb dX9_reads_8 rfl (lv_at hl 2 rfl) ?_
  refine R_alenI hx hb (v := Int32.ofNat (ln k2)) hK hB hk_k2 rfl dX9_reads_9 ?_
  refine lv_icmp_ge (tgt := 20) hx hb dX9_reads_10 (by decide) (fun c_2 => ?_) (fun c_2 => ?_)
  · replace h := itp h c_2
    exact hb_20 j0 a1 k2 (sI σ k2 (0 : Int32).toNatClampNeg ((hI σ k2 (0 : Int32).toNatClampNeg) + (1 : Int32))) hk_k2 H locs ls h hB (lv_sub hl [0, 1, 2] rfl)
  · replace h := itn h c_2
    refine lv_aload_n hx hb dX9_reads_13 rfl (lv_at hl 2 rfl) ?_
    refine lv_aload_n hx hb dX9_reads_14 rfl (lv_at hl 2 rfl) ?_
    refine lv_iconst (v := 0) hx hb dX9_reads_15 (by decide) ?_
    refine R_iald hx hb hK hB hk_k2 (inb_eq q_1) dX9_reads_16 ?_
    refine lv_bipush (v := 50) hx hb dX9_reads_17 (by decide) ?_
    replace h := ck_eq h; obtain ⟨q_7, h⟩ := h
    refine R_iast hx hb hK hB hk_k2 (inb_eq q_7) dX9_reads_19 (fun H locs hB => ?_)
    exact hb_20 j0 a1 k2 (sI (sI σ k2 (0 : Int32).toNatClampNeg ((hI σ k2 (0 : Int32).toNatClampNeg) + (1 : Int32))) k2 (hI (sI σ k2 (0 : Int32).toNatClampNeg ((hI σ k2 (0 : Int32).toNatClampNeg) + (1 : Int32))) k2 (0 : Int32).toNatClampNeg).toNatClampNeg (50 : Int32)) hk_k2 H locs ls h hB (lv_sub hl [0, 1, 2] rfl)
def f_X10_reads_b20 (x0 : Nat) (x1 : Int32) (x2 : Nat) (σ1 : Hp) : Option (Int32 × Hp) := ck (isLaw σ1 x0 = true) (b2 (f_X2_reads x0 x1 x2 σ1) (fun r_3 s_4 => some ((r_3 ^^^ (5 : Int32)), s_4)))
def f_X10_reads (j0 : Nat) (a1 : Int32) (k2 : Nat) (σ : Hp) : Option (Int32 × Hp) := ck (inb (0 : Int32) (ln k2) = true) (if (Int32.ofNat (ln k2)) ≤ ((hI σ k2 (0 : Int32).toNatClampNeg) + (1 : Int32)) then f_X10_reads_b20 j0 a1 k2 (sI σ k2 (0 : Int32).toNatClampNeg ((hI σ k2 (0 : Int32).toNatClampNeg) + (1 : Int32))) else ck (inb (hI (sI σ k2 (0 : Int32).toNatClampNeg ((hI σ k2 (0 : Int32).toNatClampNeg) + (1 : Int32))) k2 (0 : Int32).toNatClampNeg) (ln k2) = true) (f_X10_reads_b20 j0 a1 k2 (sI (sI σ k2 (0 : Int32).toNatClampNeg ((hI σ k2 (0 : Int32).toNatClampNeg) + (1 : Int32))) k2 (hI (sI σ k2 (0 : Int32).toNatClampNeg ((hI σ k2 (0 : Int32).toNatClampNeg) + (1 : Int32))) k2 (0 : Int32).toNatClampNeg).toNatClampNeg (60 : Int32))))
set_option maxHeartbeats 4000000 in
set_option maxRecDepth 100000 in
theorem c_X10_reads (l : Launch) (g : tG) (P : Nat → Nat) (σ : Hp) (j0 : Nat) (a1 : Int32) (k2 : Nat) (hk_k2 : ky k2 = 3) (sz : Nat) {r : Int32} {τ : Hp} (h : f_X10_reads j0 a1 k2 σ = some (r, τ)) : Met l yX10_reads (Cond.code yX10_reads cX10_reads 3 (some .int) :: tblG) ({ frames := 6, cells := 0, slots := 0, locals := 133 }) (va_Pc [.ref (P j0), .int a1, .ref (gL g k2)] (tPre g P σ sz)) (tQ (some (.int r)) (tPost g P τ (va_A (wC g P σ) sz)) (va_A (wC g P σ) sz)) 0 0 (va_A (wC g P σ) sz) := by
  refine T_start (B := fun A => tPost g P τ A) (by decide) (Nat.le_of_ble_eq_true rfl) ?_
  intro p e s m args below meth c ls0 A hx hb hml hr hown hlocks ht hnm hK hZ hA hB0 hl0
  have hb_20 : ∀ (x0 : Nat) (x1 : Int32) (x2 : Nat) (σ1 : Hp) (hk_x2 : ky x2 = 3) (H : Heap) (locs : List Loc) (ls : Array Slot), f_X10_reads_b20 x0 x1 x2 σ1 = some (r, τ) → tB g P σ1 A s.heap H locs → lv_has ls 3 [(0, .ref (P x0)), (1, .int x1), (2, .ref (gL g x2))] → WQ p l e { frames := 6, cells := 0, slots := 0, locals := 133 } s m args below meth c g P A (some (.int r)) τ H locs (F0 m 20 ls []) := by
    intro x0 x1 x2 σ1 hk_x2 H locs ls h hB hl
    unfold f_X10_reads_b20 at h
    refine lv_aload_n hx hb dX10_reads_20 rfl (lv_at hl 0 rfl) ?_
    refine lv_iload_n hx hb dX10_reads_21 rfl (lv_at hl 1 rfl) ?_
    refine lv_aload_n hx hb dX10_reads_22 rfl (lv_at hl 2 rfl) ?_
    replace h := ck_eq h; obtain ⟨q_6, h⟩ := h
    replace h := b2_eq h; obtain ⟨r_3, s_4, hc_5, h⟩ := h
    obtain ⟨rc, hrc⟩ := isLaw_cl q_6
    refine R_call (rest := []) [.int r_3] (R_runSU2 (n := 2) (x := ⟨"TurnedAbout$Square", "reads", "(I[I)I"⟩) (owner := "TurnedAbout$Law") (As := [.int x1, .ref (gL g x2)]) ⟨hx, hb, hml, hown, ht⟩ hK hZ hA hB (c_X2_reads l g P σ1 x0 x1 x2 hk_x2 H.size hc_5) (isLaw_eq q_6).1 hrc tw892 tw889 tw890 tw274 tw253 tw875 tw10 ⟨by decide, by decide⟩ rfl rfl ⟨Nat.le_of_ble_eq_true rfl, Nat.le_of_ble_eq_true rfl⟩ rfl hl.1 rfl (Nat.le_of_ble_eq_true rfl) dX10_reads_23 ⟨Nat.zero_le _, Nat.zero_le _⟩) hB hA rfl (fun H locs hB => ?_)
    refine lv_iconst (v := 5) hx hb dX10_reads_26 (by decide) ?_
    refine lv_ixor hx hb dX10_reads_27 ?_
    obtain ⟨rfl, rfl⟩ := Prod.mk.inj (Option.some.inj h)
    exact W.iret hx hb hr (R_end hB) hB.2.2.2.2 dX10_reads_28
  suffices hmain : ∀ (H : Heap) (locs : List Loc) (ls : Array Slot), tB g P σ A s.heap H locs → lv_has ls 3 [(0, .ref (P j0)), (1, .int a1), (2, .ref (gL g k2))] → WQ p l e { frames := 6, cells := 0, slots := 0, locals := 133 } s m args below meth c g P A (some (.int r)) τ H locs (F0 m 0 ls []) from hmain _ _ ls0 hB0 hl0
  intro H locs ls hB hl
  unfold f_X10_reads at h
  refine lv_aload_n hx hb dX10_reads_0 rfl (lv_at hl 2 rfl) ?_
  refine lv_iconst (v := 0) hx hb dX10_reads_1 (by decide) ?_
  refine lv_dup2_11 hx hb dX10_reads_2 rfl rfl ?_
  replace h := ck_eq h; obtain ⟨q_1, h⟩ := h
  refine R_iald hx hb hK hB hk_k2 (inb_eq q_1) dX10_reads_3 ?_
  refine lv_iconst (v := 1) hx hb dX10_reads_4 (by decide) ?_
  refine lv_iadd hx hb dX10_reads_5 ?_
  refine lv_dup_x2 hx hb dX10_reads_6 rfl rfl rfl ?_
  refine R_iast hx hb hK hB hk_k2 (inb_eq q_1) dX10_reads_7 (fun H locs hB => ?_)
  refine lv_aload_n hx hb dX10_reads_8 rfl (lv_at hl 2 rfl) ?_
  refine R_alenI hx hb (v := Int32.ofNat (ln k2)) hK hB hk_k2 rfl dX10_reads_9 ?_
  refine lv_icmp_ge (tgt := 20) hx hb dX10_reads_10 (by decide) (fun c_2 => ?_) (fun c_2 => ?_)
  · replace h := itp h c_2
    exact hb_20 j0 a1 k2 (sI σ k2 (0 : Int32).toNatClampNeg ((hI σ k2 (0 : Int32).toNatClampNeg) + (1 : Int32))) hk_k2 H locs ls h hB (lv_sub hl [0, 1, 2] rfl)
  · replace h := itn h c_2
    refine lv_aload_n hx hb dX10_reads_13 rfl (lv_at hl 2 rfl) ?_
    refine lv_aload_n hx hb dX10_reads_14 rfl (lv_at hl 2 rfl) ?_
    refine lv_iconst (v := 0) hx hb dX10_reads_15 (by decide) ?_
    refine R_iald hx hb hK hB hk_k2 (inb_eq q_1) dX10_reads_16 ?_
    refine lv_bipush (v := 60) hx hb dX10_reads_17 (by decide) ?_
    replace h := ck_eq h; obtain ⟨q_7, h⟩ := h
    refine R_iast hx hb hK hB hk_k2 (inb_eq q_7) dX10_reads_19 (fun H locs hB => ?_)
    exact hb_20 j0 a1 k2 (sI (sI σ k2 (0 : Int32).toNatClampNeg ((hI σ k2 (0 : Int32).toNatClampNeg) + (1 : Int32))) k2 (hI (sI σ k2 (0 : Int32).toNatClampNeg ((hI σ k2 (0 : Int32).toNatClampNeg) + (1 : Int32))) k2 (0 : Int32).toNatClampNeg).toNatClampNeg (60 : Int32)) hk_k2 H locs ls h hB (lv_sub hl [0, 1, 2] rfl)
def v_reads (j0 : Nat) (a1 : Int32) (k2 : Nat) (σ : Hp) : Option (Int32 × Hp) := if hC σ j0 = 0 then f_X2_reads j0 a1 k2 σ else if hC σ j0 = 1 then f_X2_reads j0 a1 k2 σ else if hC σ j0 = 2 then f_X2_reads j0 a1 k2 σ else if hC σ j0 = 5 then f_X2_reads j0 a1 k2 σ else if hC σ j0 = 7 then f_X2_reads j0 a1 k2 σ else if hC σ j0 = 8 then f_X9_reads j0 a1 k2 σ else if hC σ j0 = 9 then f_X10_reads j0 a1 k2 σ else none
set_option maxHeartbeats 4000000 in
set_option maxRecDepth 100000 in
theorem dv_reads {p : Program} {l : Launch} {e : Env} {R : Room} {s : State} {m : MethodId} {args : Array Value} {below : List Frame} {meth : Method} {c : Code} {H : Heap} {locs : List Loc} {cells slots : Nat} {cc : ByteArray} {pc : Nat} {ls : Array Slot} {rest : List Value} {g : tG} {P : Nat → Nat} {σ : Hp} {A : Nat → Prop} {own : String} {index nL : Nat} {st0 : List Value} (S : CallFix p m c cc nL s args tblG own) (hK : tK g s) (hZ : tZ g A s s.heap) (hA : ∀ q, s.heap.size ≤ q → A q) (hB : tB g P σ A s.heap H locs) {j0 : Nat} {a1 : Int32} {k2 : Nat} (hj : isLaw σ j0 = true) (hk_k2 : ky k2 = 3) (hl : Cond.methodLink own index ⟨"TurnedAbout$Law", "reads", "(I[I)I"⟩ ∈ tblG) {r : Int32} {τ : Hp} (hc : v_reads j0 a1 k2 σ = some (r, τ)) (hRf : 7 ≤ R.frames) (hRl : 155 ≤ R.locals) (hsize : ls.size = nL) (hst : st0 = [.int a1, .ref (gL g k2)].reverse ++ .ref (P j0) :: rest) (hW : (rest.map fun v => v.category).sum ≤ 8) (hdg : decode cc pc = .ok (.invokevirtual index, 3)) (hfc : cells ≤ R.cells) (hfs : slots ≤ R.slots) : va_Run p l e R s m args below meth c H locs cells slots 0 0 (F0 m pc ls st0) rest (tQ (some (.int r)) (tPost g P τ (va_A (wC g P σ) H.size)) (va_A (wC g P σ) H.size) (Value.ref (P j0) :: [.int a1, .ref (gL g k2)]).toArray) (va_A (wC g P σ) H.size) := by
  unfold v_reads at hc
  rcases (isLaw_eq hj).2 with q | q | q | q | q | q | q <;> rw [q] at hc
  · exact R_runU (C := RX0) (owner := "TurnedAbout$Law") (x := ⟨"TurnedAbout$Law", "reads", "(I[I)I"⟩) (n := 2) (As := [.int a1, .ref (gL g k2)]) S (fun _ h9 => h9) hK hZ hA hB (c_X2_reads l g P σ j0 a1 k2 hk_k2 H.size hc) (R_recvP hK hB (isLaw_eq hj).1 (r := (RX0, TX0, 2)) (by rw [q]; rfl)) tw892 hl tw877 tw875 tw892 tw875 tw878 tw10 ⟨by decide, by decide, by decide⟩ rfl rfl ⟨Nat.le_trans (Nat.le_of_ble_eq_true rfl) hRf, Nat.le_trans (Nat.le_of_ble_eq_true rfl) hRl⟩ rfl hsize hst hW hdg ⟨hfc, hfs⟩
  · exact R_runU (C := RX2) (owner := "TurnedAbout$Law") (x := ⟨"TurnedAbout$Law", "reads", "(I[I)I"⟩) (n := 2) (As := [.int a1, .ref (gL g k2)]) S (fun _ h9 => h9) hK hZ hA hB (c_X2_reads l g P σ j0 a1 k2 hk_k2 H.size hc) (R_recvP hK hB (isLaw_eq hj).1 (r := (RX2, TX2, 2)) (by rw [q]; rfl)) tw892 hl tw877 tw875 tw892 tw875 tw876 tw10 ⟨by decide, by decide, by decide⟩ rfl rfl ⟨Nat.le_trans (Nat.le_of_ble_eq_true rfl) hRf, Nat.le_trans (Nat.le_of_ble_eq_true rfl) hRl⟩ rfl hsize hst hW hdg ⟨hfc, hfs⟩
  · exact R_runU (C := RX3) (owner := "TurnedAbout$Law") (x := ⟨"TurnedAbout$Law", "reads", "(I[I)I"⟩) (n := 2) (As := [.int a1, .ref (gL g k2)]) S (fun _ h9 => h9) hK hZ hA hB (c_X2_reads l g P σ j0 a1 k2 hk_k2 H.size hc) (R_recvP hK hB (isLaw_eq hj).1 (r := (RX3, TX3, 2)) (by rw [q]; rfl)) tw892 hl tw877 tw875 tw892 tw875 tw879 tw10 ⟨by decide, by decide, by decide⟩ rfl rfl ⟨Nat.le_trans (Nat.le_of_ble_eq_true rfl) hRf, Nat.le_trans (Nat.le_of_ble_eq_true rfl) hRl⟩ rfl hsize hst hW hdg ⟨hfc, hfs⟩
  · exact R_runU (C := RX6) (owner := "TurnedAbout$Law") (x := ⟨"TurnedAbout$Law", "reads", "(I[I)I"⟩) (n := 2) (As := [.int a1, .ref (gL g k2)]) S (fun _ h9 => h9) hK hZ hA hB (c_X2_reads l g P σ j0 a1 k2 hk_k2 H.size hc) (R_recvP hK hB (isLaw_eq hj).1 (r := (RX6, TX6, 2)) (by rw [q]; rfl)) tw892 hl tw877 tw875 tw892 tw875 tw880 tw10 ⟨by decide, by decide, by decide⟩ rfl rfl ⟨Nat.le_trans (Nat.le_of_ble_eq_true rfl) hRf, Nat.le_trans (Nat.le_of_ble_eq_true rfl) hRl⟩ rfl hsize hst hW hdg ⟨hfc, hfs⟩
  · exact R_runU (C := RX8) (owner := "TurnedAbout$Law") (x := ⟨"TurnedAbout$Law", "reads", "(I[I)I"⟩) (n := 2) (As := [.int a1, .ref (gL g k2)]) S (fun _ h9 => h9) hK hZ hA hB (c_X2_reads l g P σ j0 a1 k2 hk_k2 H.size hc) (R_recvP hK hB (isLaw_eq hj).1 (r := (RX8, TX8, 2)) (by rw [q]; rfl)) tw892 hl tw877 tw875 tw892 tw875 tw881 tw10 ⟨by decide, by decide, by decide⟩ rfl rfl ⟨Nat.le_trans (Nat.le_of_ble_eq_true rfl) hRf, Nat.le_trans (Nat.le_of_ble_eq_true rfl) hRl⟩ rfl hsize hst hW hdg ⟨hfc, hfs⟩
  · exact R_runU (C := RX9) (owner := "TurnedAbout$Law") (x := ⟨"TurnedAbout$Law", "reads", "(I[I)I"⟩) (n := 2) (As := [.int a1, .ref (gL g k2)]) S (fun _ h9 => h9) hK hZ hA hB (c_X9_reads l g P σ j0 a1 k2 hk_k2 H.size hc) (R_recvP hK hB (isLaw_eq hj).1 (r := (RX9, TX9, 2)) (by rw [q]; rfl)) tw884 hl tw877 tw875 tw892 tw883 tw882 tw14 ⟨by decide, by decide, by decide⟩ rfl rfl ⟨Nat.le_trans (Nat.le_of_ble_eq_true rfl) hRf, Nat.le_trans (Nat.le_of_ble_eq_true rfl) hRl⟩ rfl hsize hst hW hdg ⟨hfc, hfs⟩
  · exact R_runU (C := RX10) (owner := "TurnedAbout$Law") (x := ⟨"TurnedAbout$Law", "reads", "(I[I)I"⟩) (n := 2) (As := [.int a1, .ref (gL g k2)]) S (fun _ h9 => h9) hK hZ hA hB (c_X10_reads l g P σ j0 a1 k2 hk_k2 H.size hc) (R_recvP hK hB (isLaw_eq hj).1 (r := (RX10, TX10, 2)) (by rw [q]; rfl)) tw888 hl tw877 tw875 tw892 tw887 tw886 tw15 ⟨by decide, by decide, by decide⟩ rfl rfl ⟨Nat.le_trans (Nat.le_of_ble_eq_true rfl) hRf, Nat.le_trans (Nat.le_of_ble_eq_true rfl) hRl⟩ rfl hsize hst hW hdg ⟨hfc, hfs⟩
def f_X7_goBy (k0 : Nat) (j1 : Nat) (σ : Hp) : Option (Int32 × Hp) := b2 (f_X7_lastNumber k0 σ) (fun r_1 s_2 => if (lg_cmp r_1 (-1 : Int64)) = 0 then some ((0 : Int32), s_2) else b2 (f_X7_slateFull k0 s_2) (fun r_5 s_6 => if r_5 = 0 then ck (isLaw s_6 j1 = true) (b2 (v_onward j1 r_1 k0 s_6) (fun r_10 s_11 => if (lg_cmp r_10 (-1 : Int64)) = 0 then some ((0 : Int32), s_11) else b2 (f_X7_put k0 r_10 s_11) (fun r_14 s_15 => some ((1 : Int32), s_15)))) else some ((0 : Int32), s_6)))
set_option maxHeartbeats 4000000 in
set_option maxRecDepth 100000 in
theorem c_X7_goBy (l : Launch) (g : tG) (P : Nat → Nat) (σ : Hp) (k0 : Nat) (j1 : Nat) (hk_k0 : ky k0 = 1) (sz : Nat) {r : Int32} {τ : Hp} (h : f_X7_goBy k0 j1 σ = some (r, τ)) : Met l yX7_goBy (Cond.code yX7_goBy cX7_goBy 6 (some .boolean) :: tblG) ({ frames := 3, cells := 0, slots := 0, locals := 85 }) (va_Pc [.ref (gL g k0), .ref (P j1)] (tPre g P σ sz)) (tQ (some (.int r)) (tPost g P τ (va_A (wC g P σ) sz)) (va_A (wC g P σ) sz)) 0 0 (va_A (wC g P σ) sz) := by
  refine T_start (B := fun A => tPost g P τ A) (by decide) (Nat.le_of_ble_eq_true rfl) ?_
  intro p e s m args below meth c ls0 A hx hb hml hr hown hlocks ht hnm hK hZ hA hB0 hl0
  suffices hmain : ∀ (H : Heap) (locs : List Loc) (ls : Array Slot), tB g P σ A s.heap H locs → lv_has ls 6 [(0, .ref (gL g k0)), (1, .ref (P j1))] → WQ p l e { frames := 3, cells := 0, slots := 0, locals := 85 } s m args below meth c g P A (some (.int r)) τ H locs (F0 m 0 ls []) from hmain _ _ ls0 hB0 hl0
  intro H locs ls hB hl
  unfold f_X7_goBy at h
  refine lv_aload_n hx hb dX7_goBy_0 rfl (lv_at hl 0 rfl) ?_
  replace h := b2_eq h; obtain ⟨r_1, s_2, hc_3, h⟩ := h
  refine R_call (rest := []) [.long r_1] (R_runV (n := 0) (As := []) ⟨hx, hb, hml, hown, ht⟩ (fun _ h9 => h9) hK hZ hA hB (c_X7_lastNumber l g P σ k0 hk_k0 H.size hc_3) (R_recv hK hB (ky_in _ (by rw [hk_k0]; decide)) (cell_1 hk_k0) rfl) tw607 tw793 tw605 tw606 tw2 ⟨by decide, by decide, by decide⟩ rfl rfl ⟨Nat.le_of_ble_eq_true rfl, Nat.le_of_ble_eq_true rfl⟩ rfl hl.1 rfl (Nat.le_of_ble_eq_true rfl) dX7_goBy_1 ⟨Nat.zero_le _, Nat.zero_le _⟩) hB hA rfl (fun H locs hB => ?_)
  refine lv_lstore_n (lv' := [(2, .long r_1), (0, .ref (gL g k0)), (1, .ref (P j1))]) hx hb dX7_goBy_4 rfl hl (by decide) rfl (fun ls hl => ?_)
  refine lv_lload_n hx hb dX7_goBy_5 rfl (lv_at hl 0 rfl) ?_
  refine lv_ldc2 (v := -1) hx hb hown (ht _ tw608) dX7_goBy_6 ?_
  refine W.lcmp hx hb dX7_goBy_9 ?_
  refine lv_if_eq (tgt := 20) hx hb dX7_goBy_10 (by decide) (fun c_4 => ?_) (fun c_4 => ?_)
  · replace h := itp h c_4
    refine lv_iconst (v := 0) hx hb dX7_goBy_20 (by decide) ?_
    obtain ⟨rfl, rfl⟩ := Prod.mk.inj (Option.some.inj h)
    exact W.zret hx hb hr rfl (R_end hB) hB.2.2.2.2 dX7_goBy_21
  · replace h := itn h c_4
    refine lv_aload_n hx hb dX7_goBy_13 rfl (lv_at hl 1 rfl) ?_
    replace h := b2_eq h; obtain ⟨r_5, s_6, hc_7, h⟩ := h
    refine R_call (rest := []) [.int r_5] (R_runV (n := 0) (As := []) ⟨hx, hb, hml, hown, ht⟩ (fun _ h9 => h9) hK hZ hA hB (c_X7_slateFull l g P s_2 k0 hk_k0 H.size hc_7) (R_recv hK hB (ky_in _ (by rw [hk_k0]; decide)) (cell_1 hk_k0) rfl) tw592 tw794 tw590 tw591 tw2 ⟨by decide, by decide, by decide⟩ rfl rfl ⟨Nat.le_of_ble_eq_true rfl, Nat.le_of_ble_eq_true rfl⟩ rfl hl.1 rfl (Nat.le_of_ble_eq_true rfl) dX7_goBy_14 ⟨Nat.zero_le _, Nat.zero_le _⟩) hB hA rfl (fun H locs hB => ?_)
    refine lv_if_eq (tgt := 22) hx hb dX7_goBy_17 (by decide) (fun c_8 => ?_) (fun c_8 => ?_)
    · replace h := itp h c_8
      refine lv_aload_n hx hb dX7_goBy_22 rfl (lv_at hl 2 rfl) ?_
      refine lv_lload_n hx hb dX7_goBy_23 rfl (lv_at hl 0 rfl) ?_
      refine lv_aload_n hx hb dX7_goBy_24 rfl (lv_at hl 1 rfl) ?_
      replace h := ck_eq h; obtain ⟨q_9, h⟩ := h
      replace h := b2_eq h; obtain ⟨r_10, s_11, hc_12, h⟩ := h
      refine R_call (rest := []) [.long r_10] (dv_onward ⟨hx, hb, hml, hown, ht⟩ hK hZ hA hB q_9 hk_k0 tw795 hc_12 (Nat.le_of_ble_eq_true rfl) (Nat.le_of_ble_eq_true rfl) hl.1 rfl (Nat.le_of_ble_eq_true rfl) dX7_goBy_25 (Nat.zero_le _) (Nat.zero_le _)) hB hA rfl (fun H locs hB => ?_)
      refine lv_lstore (lv' := [(4, .long r_10), (2, .long r_1), (0, .ref (gL g k0)), (1, .ref (P j1))]) hx hb dX7_goBy_28 hl (by decide) rfl (fun ls hl => ?_)
      refine lv_lload hx hb dX7_goBy_30 (lv_at hl 0 rfl) ?_
      refine lv_ldc2 (v := -1) hx hb hown (ht _ tw608) dX7_goBy_32 ?_
      refine W.lcmp hx hb dX7_goBy_35 ?_
      refine lv_if_ne (tgt := 41) hx hb dX7_goBy_36 (by decide) (fun c_13 => ?_) (fun c_13 => ?_)
      · replace h := itn h c_13
        refine lv_aload_n hx hb dX7_goBy_41 rfl (lv_at hl 2 rfl) ?_
        refine lv_lload hx hb dX7_goBy_42 (lv_at hl 0 rfl) ?_
        replace h := b2_eq h; obtain ⟨r_14, s_15, hc_16, h⟩ := h
        refine R_call (rest := []) [] (R_runV (n := 1) (As := [.long r_10]) ⟨hx, hb, hml, hown, ht⟩ (fun _ h9 => h9) hK hZ hA hB (c_X7_put l g P s_11 k0 r_10 hk_k0 H.size hc_16) (R_recv hK hB (ky_in _ (by rw [hk_k0]; decide)) (cell_1 hk_k0) rfl) tw597 tw796 tw595 tw596 tw2 ⟨by decide, by decide, by decide⟩ rfl rfl ⟨Nat.le_of_ble_eq_true rfl, Nat.le_of_ble_eq_true rfl⟩ rfl hl.1 rfl (Nat.le_of_ble_eq_true rfl) dX7_goBy_44 ⟨Nat.zero_le _, Nat.zero_le _⟩) hB hA rfl (fun H locs hB => ?_)
        refine lv_iconst (v := 1) hx hb dX7_goBy_47 (by decide) ?_
        obtain ⟨rfl, rfl⟩ := Prod.mk.inj (Option.some.inj h)
        exact W.zret hx hb hr rfl (R_end hB) hB.2.2.2.2 dX7_goBy_48
      · replace h := itp h c_13
        refine lv_iconst (v := 0) hx hb dX7_goBy_39 (by decide) ?_
        obtain ⟨rfl, rfl⟩ := Prod.mk.inj (Option.some.inj h)
        exact W.zret hx hb hr rfl (R_end hB) hB.2.2.2.2 dX7_goBy_40
    · replace h := itn h c_8
      refine lv_iconst (v := 0) hx hb dX7_goBy_20 (by decide) ?_
      obtain ⟨rfl, rfl⟩ := Prod.mk.inj (Option.some.inj h)
      exact W.zret hx hb hr rfl (R_end hB) hB.2.2.2.2 dX7_goBy_21
