def f_X5_holdRow (k0 : Nat) (a1 : Int32) (a2 : Int32) (σ : Hp) : Option (Unit × Hp) := b2 (f_J7_fill_d0a16 (k0 + 8) (0 : Int64) (sI (sI (sI σ k0 1 a1) k0 2 a2) k0 3 (-1 : Int32))) (fun r_1 s_2 => some ((), s_2))
set_option maxHeartbeats 4000000 in
set_option maxRecDepth 100000 in
theorem c_X5_holdRow (l : Launch) (g : tG) (P : Nat → Nat) (σ : Hp) (k0 : Nat) (a1 : Int32) (a2 : Int32) (hk_k0 : ky k0 = 6) (sz : Nat) {r : Unit} {τ : Hp} (h : f_X5_holdRow k0 a1 a2 σ = some (r, τ)) : Met l yX5_holdRow (Cond.code yX5_holdRow cX5_holdRow 3 none :: tblG) ({ frames := 1, cells := 0, slots := 0, locals := 24 }) (va_Pc [.ref (gL g k0), .int a1, .int a2] (tPre g P σ sz)) (tQ none (tPost g P τ (va_A (wC g P σ) sz)) (va_A (wC g P σ) sz)) 0 0 (va_A (wC g P σ) sz) := by
  refine T_start (B := fun A => tPost g P τ A) (by decide) (Nat.le_of_ble_eq_true rfl) ?_
  intro p e s m args below meth c ls0 A hx hb hml hr hown hlocks ht hnm hK hZ hA hB0 hl0
  suffices hmain : ∀ (H : Heap) (locs : List Loc) (ls : Array Slot), tB g P σ A s.heap H locs → lv_has ls 3 [(0, .ref (gL g k0)), (1, .int a1), (2, .int a2)] → WQ p l e { frames := 1, cells := 0, slots := 0, locals := 24 } s m args below meth c g P A none τ H locs (F0 m 0 ls []) from hmain _ _ ls0 hB0 hl0
  intro H locs ls hB hl
  unfold f_X5_holdRow at h
  refine lv_aload_n hx hb dX5_holdRow_0 rfl (lv_at hl 0 rfl) ?_
  refine lv_iload_n hx hb dX5_holdRow_1 rfl (lv_at hl 1 rfl) ?_
  refine R_putI (v := a1) (ty := .int) hx hb ht ui_X5 tyX5 tyX5_ok nmX5 hown hK hB (ky_in _ (by rw [hk_k0]; decide)) (cell_6 hk_k0) rfl 1 (by decide) (ht _ tw85) (fun _ h9 => h9) rfl (by decide +kernel) rfl rfl (Nat.le_of_ble_eq_true rfl) (st6_1 hk_k0) dX5_holdRow_2 (fun H locs hB => ?_)
  refine lv_aload_n hx hb dX5_holdRow_5 rfl (lv_at hl 0 rfl) ?_
  refine lv_iload_n hx hb dX5_holdRow_6 rfl (lv_at hl 2 rfl) ?_
  refine R_putI (v := a2) (ty := .int) hx hb ht ui_X5 tyX5 tyX5_ok nmX5 hown hK hB (ky_in _ (by rw [hk_k0]; decide)) (cell_6 hk_k0) rfl 2 (by decide) (ht _ tw87) (fun _ h9 => h9) rfl (by decide +kernel) rfl rfl (Nat.le_of_ble_eq_true rfl) (st6_2 hk_k0) dX5_holdRow_7 (fun H locs hB => ?_)
  refine lv_aload_n hx hb dX5_holdRow_10 rfl (lv_at hl 0 rfl) ?_
  refine lv_iconst (v := -1) hx hb dX5_holdRow_11 (by decide) ?_
  refine R_putI (v := (-1 : Int32)) (ty := .int) hx hb ht ui_X5 tyX5 tyX5_ok nmX5 hown hK hB (ky_in _ (by rw [hk_k0]; decide)) (cell_6 hk_k0) rfl 3 (by decide) (ht _ tw90) (fun _ h9 => h9) rfl (by decide +kernel) rfl rfl (Nat.le_of_ble_eq_true rfl) (st6_3 hk_k0) dX5_holdRow_12 (fun H locs hB => ?_)
  refine lv_aload_n hx hb dX5_holdRow_15 rfl (lv_at hl 0 rfl) ?_
  refine R_get (v := .ref (gL g (k0 + 8))) hx hb ht ui_X5 hown hK hB (ky_in _ (by rw [hk_k0]; decide)) (cell_6 hk_k0) rfl 0 (by decide) (ht _ tw83) (fun _ h9 => h9) rfl dX5_holdRow_16 ?_
  refine lv_lconst (v := 0) hx hb dX5_holdRow_19 (by decide) ?_
  replace h := b2_eq h; obtain ⟨r_1, s_2, hc_3, h⟩ := h
  refine R_call (rest := []) [] (R_runS (n := 2) (As := [.ref (gL g (k0 + 8)), .long (0 : Int64)]) ⟨hx, hb, hml, hown, ht⟩ (fun _ h9 => h9) hK hZ hA hB (c_J7_fill_d0a16 l g P (sI (sI (sI σ k0 1 a1) k0 2 a2) k0 3 (-1 : Int32)) (k0 + 8) (0 : Int64) (ky_e8 hk_k0) H.size hc_3) tw185 tw183 tw184 tw6 ⟨by decide, by decide, by decide⟩ rfl rfl ⟨Nat.le_of_ble_eq_true rfl, Nat.le_of_ble_eq_true rfl⟩ rfl hl.1 rfl (Nat.le_of_ble_eq_true rfl) dX5_holdRow_20 ⟨Nat.zero_le _, Nat.zero_le _⟩) hB hA rfl (fun H locs hB => ?_)
  obtain ⟨rfl, rfl⟩ := Prod.mk.inj (Option.some.inj h)
  exact W.vret hx hb hr (R_end hB) hB.2.2.2.2 dX5_holdRow_23
def f_X5_holdLaw (k0 : Nat) (a1 : Int32) (σ : Hp) : Option (Unit × Hp) := some ((), (sI (sI (sI σ k0 1 (-1 : Int32)) k0 2 (0 : Int32)) k0 3 a1))
set_option maxHeartbeats 4000000 in
set_option maxRecDepth 100000 in
theorem c_X5_holdLaw (l : Launch) (g : tG) (P : Nat → Nat) (σ : Hp) (k0 : Nat) (a1 : Int32) (hk_k0 : ky k0 = 6) (sz : Nat) {r : Unit} {τ : Hp} (h : f_X5_holdLaw k0 a1 σ = some (r, τ)) : Met l yX5_holdLaw (Cond.code yX5_holdLaw cX5_holdLaw 2 none :: tblG) ({ frames := 0, cells := 0, slots := 0, locals := 0 }) (va_Pc [.ref (gL g k0), .int a1] (tPre g P σ sz)) (tQ none (tPost g P τ (va_A (wC g P σ) sz)) (va_A (wC g P σ) sz)) 0 0 (va_A (wC g P σ) sz) := by
  refine T_start (B := fun A => tPost g P τ A) (by decide) (Nat.le_of_ble_eq_true rfl) ?_
  intro p e s m args below meth c ls0 A hx hb hml hr hown hlocks ht hnm hK hZ hA hB0 hl0
  suffices hmain : ∀ (H : Heap) (locs : List Loc) (ls : Array Slot), tB g P σ A s.heap H locs → lv_has ls 2 [(0, .ref (gL g k0)), (1, .int a1)] → WQ p l e { frames := 0, cells := 0, slots := 0, locals := 0 } s m args below meth c g P A none τ H locs (F0 m 0 ls []) from hmain _ _ ls0 hB0 hl0
  intro H locs ls hB hl
  unfold f_X5_holdLaw at h
  refine lv_aload_n hx hb dX5_holdLaw_0 rfl (lv_at hl 0 rfl) ?_
  refine lv_iconst (v := -1) hx hb dX5_holdLaw_1 (by decide) ?_
  refine R_putI (v := (-1 : Int32)) (ty := .int) hx hb ht ui_X5 tyX5 tyX5_ok nmX5 hown hK hB (ky_in _ (by rw [hk_k0]; decide)) (cell_6 hk_k0) rfl 1 (by decide) (ht _ tw85) (fun _ h9 => h9) rfl (by decide +kernel) rfl rfl (Nat.le_of_ble_eq_true rfl) (st6_1 hk_k0) dX5_holdLaw_2 (fun H locs hB => ?_)
  refine lv_aload_n hx hb dX5_holdLaw_5 rfl (lv_at hl 0 rfl) ?_
  refine lv_iconst (v := 0) hx hb dX5_holdLaw_6 (by decide) ?_
  refine R_putI (v := (0 : Int32)) (ty := .int) hx hb ht ui_X5 tyX5 tyX5_ok nmX5 hown hK hB (ky_in _ (by rw [hk_k0]; decide)) (cell_6 hk_k0) rfl 2 (by decide) (ht _ tw87) (fun _ h9 => h9) rfl (by decide +kernel) rfl rfl (Nat.le_of_ble_eq_true rfl) (st6_2 hk_k0) dX5_holdLaw_7 (fun H locs hB => ?_)
  refine lv_aload_n hx hb dX5_holdLaw_10 rfl (lv_at hl 0 rfl) ?_
  refine lv_iload_n hx hb dX5_holdLaw_11 rfl (lv_at hl 1 rfl) ?_
  refine R_putI (v := a1) (ty := .int) hx hb ht ui_X5 tyX5 tyX5_ok nmX5 hown hK hB (ky_in _ (by rw [hk_k0]; decide)) (cell_6 hk_k0) rfl 3 (by decide) (ht _ tw90) (fun _ h9 => h9) rfl (by decide +kernel) rfl rfl (Nat.le_of_ble_eq_true rfl) (st6_3 hk_k0) dX5_holdLaw_12 (fun H locs hB => ?_)
  obtain ⟨rfl, rfl⟩ := Prod.mk.inj (Option.some.inj h)
  exact W.vret hx hb hr (R_end hB) hB.2.2.2.2 dX5_holdLaw_15
def f_X5_refusalOfRow (k0 : Nat) (σ : Hp) : Option (Int32 × Hp) := if (hI σ k0 3) = (-1 : Int32) then if (hI σ k0 1) = (-1 : Int32) then some ((-3 : Int32), σ) else some ((0 : Int32), σ) else some ((-2 : Int32), σ)
set_option maxHeartbeats 4000000 in
set_option maxRecDepth 100000 in
theorem c_X5_refusalOfRow (l : Launch) (g : tG) (P : Nat → Nat) (σ : Hp) (k0 : Nat) (hk_k0 : ky k0 = 6) (sz : Nat) {r : Int32} {τ : Hp} (h : f_X5_refusalOfRow k0 σ = some (r, τ)) : Met l yX5_refusalOfRow (Cond.code yX5_refusalOfRow cX5_refusalOfRow 1 (some .int) :: tblG) ({ frames := 0, cells := 0, slots := 0, locals := 0 }) (va_Pc [.ref (gL g k0)] (tPre g P σ sz)) (tQ (some (.int r)) (tPost g P τ (va_A (wC g P σ) sz)) (va_A (wC g P σ) sz)) 0 0 (va_A (wC g P σ) sz) := by
  refine T_start (B := fun A => tPost g P τ A) (by decide) (Nat.le_of_ble_eq_true rfl) ?_
  intro p e s m args below meth c ls0 A hx hb hml hr hown hlocks ht hnm hK hZ hA hB0 hl0
  suffices hmain : ∀ (H : Heap) (locs : List Loc) (ls : Array Slot), tB g P σ A s.heap H locs → lv_has ls 1 [(0, .ref (gL g k0))] → WQ p l e { frames := 0, cells := 0, slots := 0, locals := 0 } s m args below meth c g P A (some (.int r)) τ H locs (F0 m 0 ls []) from hmain _ _ ls0 hB0 hl0
  intro H locs ls hB hl
  unfold f_X5_refusalOfRow at h
  refine lv_aload_n hx hb dX5_refusalOfRow_0 rfl (lv_at hl 0 rfl) ?_
  refine R_get (v := .int (hI σ k0 3)) hx hb ht ui_X5 hown hK hB (ky_in _ (by rw [hk_k0]; decide)) (cell_6 hk_k0) rfl 3 (by decide) (ht _ tw90) (fun _ h9 => h9) rfl dX5_refusalOfRow_1 ?_
  refine lv_iconst (v := -1) hx hb dX5_refusalOfRow_4 (by decide) ?_
  refine lv_icmp_eq (tgt := 11) hx hb dX5_refusalOfRow_5 (by decide) (fun c_1 => ?_) (fun c_1 => ?_)
  · replace h := itp h c_1
    refine lv_aload_n hx hb dX5_refusalOfRow_11 rfl (lv_at hl 0 rfl) ?_
    refine R_get (v := .int (hI σ k0 1)) hx hb ht ui_X5 hown hK hB (ky_in _ (by rw [hk_k0]; decide)) (cell_6 hk_k0) rfl 1 (by decide) (ht _ tw85) (fun _ h9 => h9) rfl dX5_refusalOfRow_12 ?_
    refine lv_iconst (v := -1) hx hb dX5_refusalOfRow_15 (by decide) ?_
    refine lv_icmp_ne (tgt := 24) hx hb dX5_refusalOfRow_16 (by decide) (fun c_2 => ?_) (fun c_2 => ?_)
    · replace h := itn h c_2
      refine lv_iconst (v := 0) hx hb dX5_refusalOfRow_24 (by decide) ?_
      obtain ⟨rfl, rfl⟩ := Prod.mk.inj (Option.some.inj h)
      exact W.iret hx hb hr (R_end hB) hB.2.2.2.2 dX5_refusalOfRow_25
    · replace h := itp h c_2
      refine lv_bipush (v := -3) hx hb dX5_refusalOfRow_19 (by decide) ?_
      refine lv_goto (tgt := 25) hx hb dX5_refusalOfRow_21 (by decide) ?_
      obtain ⟨rfl, rfl⟩ := Prod.mk.inj (Option.some.inj h)
      exact W.iret hx hb hr (R_end hB) hB.2.2.2.2 dX5_refusalOfRow_25
  · replace h := itn h c_1
    refine lv_bipush (v := -2) hx hb dX5_refusalOfRow_8 (by decide) ?_
    obtain ⟨rfl, rfl⟩ := Prod.mk.inj (Option.some.inj h)
    exact W.iret hx hb hr (R_end hB) hB.2.2.2.2 dX5_refusalOfRow_10
def f_X5_has (k0 : Nat) (a1 : Int32) (a2 : Int32) (σ : Hp) : Option (Int32 × Hp) := if a1 < 0 then some ((0 : Int32), σ) else if (hI σ k0 2) < a2 then some ((0 : Int32), σ) else if ((hI σ k0 2) - a2) < a1 then some ((0 : Int32), σ) else some ((1 : Int32), σ)
set_option maxHeartbeats 4000000 in
set_option maxRecDepth 100000 in
theorem c_X5_has (l : Launch) (g : tG) (P : Nat → Nat) (σ : Hp) (k0 : Nat) (a1 : Int32) (a2 : Int32) (hk_k0 : ky k0 = 6) (sz : Nat) {r : Int32} {τ : Hp} (h : f_X5_has k0 a1 a2 σ = some (r, τ)) : Met l yX5_has (Cond.code yX5_has cX5_has 3 (some .boolean) :: tblG) ({ frames := 0, cells := 0, slots := 0, locals := 0 }) (va_Pc [.ref (gL g k0), .int a1, .int a2] (tPre g P σ sz)) (tQ (some (.int r)) (tPost g P τ (va_A (wC g P σ) sz)) (va_A (wC g P σ) sz)) 0 0 (va_A (wC g P σ) sz) := by
  refine T_start (B := fun A => tPost g P τ A) (by decide) (Nat.le_of_ble_eq_true rfl) ?_
  intro p e s m args below meth c ls0 A hx hb hml hr hown hlocks ht hnm hK hZ hA hB0 hl0
  suffices hmain : ∀ (H : Heap) (locs : List Loc) (ls : Array Slot), tB g P σ A s.heap H locs → lv_has ls 3 [(0, .ref (gL g k0)), (1, .int a1), (2, .int a2)] → WQ p l e { frames := 0, cells := 0, slots := 0, locals := 0 } s m args below meth c g P A (some (.int r)) τ H locs (F0 m 0 ls []) from hmain _ _ ls0 hB0 hl0
  intro H locs ls hB hl
  unfold f_X5_has at h
  refine lv_iload_n hx hb dX5_has_0 rfl (lv_at hl 1 rfl) ?_
  refine lv_if_lt (tgt := 26) hx hb dX5_has_1 (by decide) (fun c_1 => ?_) (fun c_1 => ?_)
  · replace h := itp h c_1
    refine lv_iconst (v := 0) hx hb dX5_has_26 (by decide) ?_
    obtain ⟨rfl, rfl⟩ := Prod.mk.inj (Option.some.inj h)
    exact W.zret hx hb hr rfl (R_end hB) hB.2.2.2.2 dX5_has_27
  · replace h := itn h c_1
    refine lv_iload_n hx hb dX5_has_4 rfl (lv_at hl 2 rfl) ?_
    refine lv_aload_n hx hb dX5_has_5 rfl (lv_at hl 0 rfl) ?_
    refine R_get (v := .int (hI σ k0 2)) hx hb ht ui_X5 hown hK hB (ky_in _ (by rw [hk_k0]; decide)) (cell_6 hk_k0) rfl 2 (by decide) (ht _ tw87) (fun _ h9 => h9) rfl dX5_has_6 ?_
    refine lv_icmp_gt (tgt := 26) hx hb dX5_has_9 (by decide) (fun c_2 => ?_) (fun c_2 => ?_)
    · replace h := itp h c_2
      refine lv_iconst (v := 0) hx hb dX5_has_26 (by decide) ?_
      obtain ⟨rfl, rfl⟩ := Prod.mk.inj (Option.some.inj h)
      exact W.zret hx hb hr rfl (R_end hB) hB.2.2.2.2 dX5_has_27
    · replace h := itn h c_2
      refine lv_iload_n hx hb dX5_has_12 rfl (lv_at hl 1 rfl) ?_
      refine lv_aload_n hx hb dX5_has_13 rfl (lv_at hl 0 rfl) ?_
      refine R_get (v := .int (hI σ k0 2)) hx hb ht ui_X5 hown hK hB (ky_in _ (by rw [hk_k0]; decide)) (cell_6 hk_k0) rfl 2 (by decide) (ht _ tw87) (fun _ h9 => h9) rfl dX5_has_14 ?_
      refine lv_iload_n hx hb dX5_has_17 rfl (lv_at hl 2 rfl) ?_
      refine lv_isub hx hb dX5_has_18 ?_
      refine lv_icmp_gt (tgt := 26) hx hb dX5_has_19 (by decide) (fun c_3 => ?_) (fun c_3 => ?_)
      · replace h := itp h c_3
        refine lv_iconst (v := 0) hx hb dX5_has_26 (by decide) ?_
        obtain ⟨rfl, rfl⟩ := Prod.mk.inj (Option.some.inj h)
        exact W.zret hx hb hr rfl (R_end hB) hB.2.2.2.2 dX5_has_27
      · replace h := itn h c_3
        refine lv_iconst (v := 1) hx hb dX5_has_22 (by decide) ?_
        refine lv_goto (tgt := 27) hx hb dX5_has_23 (by decide) ?_
        obtain ⟨rfl, rfl⟩ := Prod.mk.inj (Option.some.inj h)
        exact W.zret hx hb hr rfl (R_end hB) hB.2.2.2.2 dX5_has_27
def f_X5_elementAt (k0 : Nat) (a1 : Int32) (σ : Hp) : Option (Int64 × Hp) := if a1 < 0 then some ((0 : Int64), σ) else if (hI σ k0 2) ≤ a1 then some ((0 : Int64), σ) else if (160 : Int32) ≤ a1 then some ((0 : Int64), σ) else ck (inb a1 160 = true) (some ((hJ σ (k0 + 8) a1.toNatClampNeg), σ))
set_option maxHeartbeats 4000000 in
set_option maxRecDepth 100000 in
theorem c_X5_elementAt (l : Launch) (g : tG) (P : Nat → Nat) (σ : Hp) (k0 : Nat) (a1 : Int32) (hk_k0 : ky k0 = 6) (sz : Nat) {r : Int64} {τ : Hp} (h : f_X5_elementAt k0 a1 σ = some (r, τ)) : Met l yX5_elementAt (Cond.code yX5_elementAt cX5_elementAt 2 (some .long) :: tblG) ({ frames := 0, cells := 0, slots := 0, locals := 0 }) (va_Pc [.ref (gL g k0), .int a1] (tPre g P σ sz)) (tQ (some (.long r)) (tPost g P τ (va_A (wC g P σ) sz)) (va_A (wC g P σ) sz)) 0 0 (va_A (wC g P σ) sz) := by
  refine T_start (B := fun A => tPost g P τ A) (by decide) (Nat.le_of_ble_eq_true rfl) ?_
  intro p e s m args below meth c ls0 A hx hb hml hr hown hlocks ht hnm hK hZ hA hB0 hl0
  suffices hmain : ∀ (H : Heap) (locs : List Loc) (ls : Array Slot), tB g P σ A s.heap H locs → lv_has ls 2 [(0, .ref (gL g k0)), (1, .int a1)] → WQ p l e { frames := 0, cells := 0, slots := 0, locals := 0 } s m args below meth c g P A (some (.long r)) τ H locs (F0 m 0 ls []) from hmain _ _ ls0 hB0 hl0
  intro H locs ls hB hl
  unfold f_X5_elementAt at h
  refine lv_iload_n hx hb dX5_elementAt_0 rfl (lv_at hl 1 rfl) ?_
  refine lv_if_lt (tgt := 30) hx hb dX5_elementAt_1 (by decide) (fun c_1 => ?_) (fun c_1 => ?_)
  · replace h := itp h c_1
    refine lv_lconst (v := 0) hx hb dX5_elementAt_30 (by decide) ?_
    obtain ⟨rfl, rfl⟩ := Prod.mk.inj (Option.some.inj h)
    exact W.lret hx hb hr (R_end hB) hB.2.2.2.2 dX5_elementAt_31
  · replace h := itn h c_1
    refine lv_iload_n hx hb dX5_elementAt_4 rfl (lv_at hl 1 rfl) ?_
    refine lv_aload_n hx hb dX5_elementAt_5 rfl (lv_at hl 0 rfl) ?_
    refine R_get (v := .int (hI σ k0 2)) hx hb ht ui_X5 hown hK hB (ky_in _ (by rw [hk_k0]; decide)) (cell_6 hk_k0) rfl 2 (by decide) (ht _ tw87) (fun _ h9 => h9) rfl dX5_elementAt_6 ?_
    refine lv_icmp_ge (tgt := 30) hx hb dX5_elementAt_9 (by decide) (fun c_2 => ?_) (fun c_2 => ?_)
    · replace h := itp h c_2
      refine lv_lconst (v := 0) hx hb dX5_elementAt_30 (by decide) ?_
      obtain ⟨rfl, rfl⟩ := Prod.mk.inj (Option.some.inj h)
      exact W.lret hx hb hr (R_end hB) hB.2.2.2.2 dX5_elementAt_31
    · replace h := itn h c_2
      refine lv_iload_n hx hb dX5_elementAt_12 rfl (lv_at hl 1 rfl) ?_
      refine lv_aload_n hx hb dX5_elementAt_13 rfl (lv_at hl 0 rfl) ?_
      refine R_get (v := .ref (gL g (k0 + 8))) hx hb ht ui_X5 hown hK hB (ky_in _ (by rw [hk_k0]; decide)) (cell_6 hk_k0) rfl 0 (by decide) (ht _ tw83) (fun _ h9 => h9) rfl dX5_elementAt_14 ?_
      refine R_alenJ hx hb (v := (160 : Int32)) hK hB (ky_e8 hk_k0) (by rw [(ln_e8 hk_k0)]; rfl) dX5_elementAt_17 ?_
      refine lv_icmp_ge (tgt := 30) hx hb dX5_elementAt_18 (by decide) (fun c_3 => ?_) (fun c_3 => ?_)
      · replace h := itp h c_3
        refine lv_lconst (v := 0) hx hb dX5_elementAt_30 (by decide) ?_
        obtain ⟨rfl, rfl⟩ := Prod.mk.inj (Option.some.inj h)
        exact W.lret hx hb hr (R_end hB) hB.2.2.2.2 dX5_elementAt_31
      · replace h := itn h c_3
        refine lv_aload_n hx hb dX5_elementAt_21 rfl (lv_at hl 0 rfl) ?_
        refine R_get (v := .ref (gL g (k0 + 8))) hx hb ht ui_X5 hown hK hB (ky_in _ (by rw [hk_k0]; decide)) (cell_6 hk_k0) rfl 0 (by decide) (ht _ tw83) (fun _ h9 => h9) rfl dX5_elementAt_22 ?_
        refine lv_iload_n hx hb dX5_elementAt_25 rfl (lv_at hl 1 rfl) ?_
        replace h := ck_eq h; obtain ⟨q_4, h⟩ := h
        refine R_lald hx hb hK hB (ky_e8 hk_k0) (by rw [(ln_e8 hk_k0)]; exact inb_eq q_4) dX5_elementAt_26 ?_
        refine lv_goto (tgt := 31) hx hb dX5_elementAt_27 (by decide) ?_
        obtain ⟨rfl, rfl⟩ := Prod.mk.inj (Option.some.inj h)
        exact W.lret hx hb hr (R_end hB) hB.2.2.2.2 dX5_elementAt_31
def f_X5_letterAt (k0 : Nat) (a1 : Int32) (σ : Hp) : Option (Int32 × Hp) := b2 (f_X5_elementAt k0 a1 σ) (fun r_1 s_2 => some (r_1.toInt32, s_2))
set_option maxHeartbeats 4000000 in
set_option maxRecDepth 100000 in
theorem c_X5_letterAt (l : Launch) (g : tG) (P : Nat → Nat) (σ : Hp) (k0 : Nat) (a1 : Int32) (hk_k0 : ky k0 = 6) (sz : Nat) {r : Int32} {τ : Hp} (h : f_X5_letterAt k0 a1 σ = some (r, τ)) : Met l yX5_letterAt (Cond.code yX5_letterAt cX5_letterAt 2 (some .int) :: tblG) ({ frames := 1, cells := 0, slots := 0, locals := 21 }) (va_Pc [.ref (gL g k0), .int a1] (tPre g P σ sz)) (tQ (some (.int r)) (tPost g P τ (va_A (wC g P σ) sz)) (va_A (wC g P σ) sz)) 0 0 (va_A (wC g P σ) sz) := by
  refine T_start (B := fun A => tPost g P τ A) (by decide) (Nat.le_of_ble_eq_true rfl) ?_
  intro p e s m args below meth c ls0 A hx hb hml hr hown hlocks ht hnm hK hZ hA hB0 hl0
  suffices hmain : ∀ (H : Heap) (locs : List Loc) (ls : Array Slot), tB g P σ A s.heap H locs → lv_has ls 2 [(0, .ref (gL g k0)), (1, .int a1)] → WQ p l e { frames := 1, cells := 0, slots := 0, locals := 21 } s m args below meth c g P A (some (.int r)) τ H locs (F0 m 0 ls []) from hmain _ _ ls0 hB0 hl0
  intro H locs ls hB hl
  unfold f_X5_letterAt at h
  refine lv_aload_n hx hb dX5_letterAt_0 rfl (lv_at hl 0 rfl) ?_
  refine lv_iload_n hx hb dX5_letterAt_1 rfl (lv_at hl 1 rfl) ?_
  replace h := b2_eq h; obtain ⟨r_1, s_2, hc_3, h⟩ := h
  refine R_call (rest := []) [.long r_1] (R_runV (n := 1) (As := [.int a1]) ⟨hx, hb, hml, hown, ht⟩ (fun _ h9 => h9) hK hZ hA hB (c_X5_elementAt l g P σ k0 a1 hk_k0 H.size hc_3) (R_recv hK hB (ky_in _ (by rw [hk_k0]; decide)) (cell_6 hk_k0) rfl) tw220 tw496 tw218 tw219 tw3 ⟨by decide, by decide, by decide⟩ rfl rfl ⟨Nat.le_of_ble_eq_true rfl, Nat.le_of_ble_eq_true rfl⟩ rfl hl.1 rfl (Nat.le_of_ble_eq_true rfl) dX5_letterAt_2 ⟨Nat.zero_le _, Nat.zero_le _⟩) hB hA rfl (fun H locs hB => ?_)
  refine lv_l2i (v := r_1.toInt32) hx hb dX5_letterAt_5 rfl ?_
  obtain ⟨rfl, rfl⟩ := Prod.mk.inj (Option.some.inj h)
  exact W.iret hx hb hr (R_end hB) hB.2.2.2.2 dX5_letterAt_6
def f_X5_lowestBits (k0 : Nat) (a1 : Int64) (σ : Hp) : Option (Int64 × Hp) := if (hI σ k0 1) = 0 then some (a1.toInt32.toInt8.toInt32.toInt64, σ) else (if (hI σ k0 1) = 1 then some (a1.toInt32.toInt16.toInt32.toInt64, σ) else (if (hI σ k0 1) = 2 then some (a1.toInt32.toInt64, σ) else (some (a1, σ))))
set_option maxHeartbeats 4000000 in
set_option maxRecDepth 100000 in
theorem c_X5_lowestBits (l : Launch) (g : tG) (P : Nat → Nat) (σ : Hp) (k0 : Nat) (a1 : Int64) (hk_k0 : ky k0 = 6) (sz : Nat) {r : Int64} {τ : Hp} (h : f_X5_lowestBits k0 a1 σ = some (r, τ)) : Met l yX5_lowestBits (Cond.code yX5_lowestBits cX5_lowestBits 3 (some .long) :: tblG) ({ frames := 0, cells := 0, slots := 0, locals := 0 }) (va_Pc [.ref (gL g k0), .long a1] (tPre g P σ sz)) (tQ (some (.long r)) (tPost g P τ (va_A (wC g P σ) sz)) (va_A (wC g P σ) sz)) 0 0 (va_A (wC g P σ) sz) := by
  refine T_start (B := fun A => tPost g P τ A) (by decide) (Nat.le_of_ble_eq_true rfl) ?_
  intro p e s m args below meth c ls0 A hx hb hml hr hown hlocks ht hnm hK hZ hA hB0 hl0
  suffices hmain : ∀ (H : Heap) (locs : List Loc) (ls : Array Slot), tB g P σ A s.heap H locs → lv_has ls 3 [(0, .ref (gL g k0)), (1, .long a1)] → WQ p l e { frames := 0, cells := 0, slots := 0, locals := 0 } s m args below meth c g P A (some (.long r)) τ H locs (F0 m 0 ls []) from hmain _ _ ls0 hB0 hl0
  intro H locs ls hB hl
  unfold f_X5_lowestBits at h
  refine lv_aload_n hx hb dX5_lowestBits_0 rfl (lv_at hl 0 rfl) ?_
  refine R_get (v := .int (hI σ k0 1)) hx hb ht ui_X5 hown hK hB (ky_in _ (by rw [hk_k0]; decide)) (cell_6 hk_k0) rfl 1 (by decide) (ht _ tw85) (fun _ h9 => h9) rfl dX5_lowestBits_1 ?_
  by_cases c_1 : (hI σ k0 1) = 0
  · replace h := itp h c_1
    refine lv_tableIn (tgt := 32) hx hb dX5_lowestBits_4 (by rw [c_1]; decide) (by rw [c_1]; decide) (by rw [c_1]; rfl) (by decide) ?_
    refine lv_lload_n hx hb dX5_lowestBits_32 rfl (lv_at hl 1 rfl) ?_
    refine lv_l2i (v := a1.toInt32) hx hb dX5_lowestBits_33 rfl ?_
    refine lv_i2b (v := a1.toInt32.toInt8.toInt32) hx hb dX5_lowestBits_34 rfl ?_
    refine lv_i2l (v := a1.toInt32.toInt8.toInt32.toInt64) hx hb dX5_lowestBits_35 rfl ?_
    obtain ⟨rfl, rfl⟩ := Prod.mk.inj (Option.some.inj h)
    exact W.lret hx hb hr (R_end hB) hB.2.2.2.2 dX5_lowestBits_36
  · replace h := itn h c_1
    by_cases c_2 : (hI σ k0 1) = 1
    · replace h := itp h c_2
      refine lv_tableIn (tgt := 37) hx hb dX5_lowestBits_4 (by rw [c_2]; decide) (by rw [c_2]; decide) (by rw [c_2]; rfl) (by decide) ?_
      refine lv_lload_n hx hb dX5_lowestBits_37 rfl (lv_at hl 1 rfl) ?_
      refine lv_l2i (v := a1.toInt32) hx hb dX5_lowestBits_38 rfl ?_
      refine lv_i2s (v := a1.toInt32.toInt16.toInt32) hx hb dX5_lowestBits_39 rfl ?_
      refine lv_i2l (v := a1.toInt32.toInt16.toInt32.toInt64) hx hb dX5_lowestBits_40 rfl ?_
      obtain ⟨rfl, rfl⟩ := Prod.mk.inj (Option.some.inj h)
      exact W.lret hx hb hr (R_end hB) hB.2.2.2.2 dX5_lowestBits_41
    · replace h := itn h c_2
      by_cases c_3 : (hI σ k0 1) = 2
      · replace h := itp h c_3
        refine lv_tableIn (tgt := 42) hx hb dX5_lowestBits_4 (by rw [c_3]; decide) (by rw [c_3]; decide) (by rw [c_3]; rfl) (by decide) ?_
        refine lv_lload_n hx hb dX5_lowestBits_42 rfl (lv_at hl 1 rfl) ?_
        refine lv_l2i (v := a1.toInt32) hx hb dX5_lowestBits_43 rfl ?_
        refine lv_i2l (v := a1.toInt32.toInt64) hx hb dX5_lowestBits_44 rfl ?_
        obtain ⟨rfl, rfl⟩ := Prod.mk.inj (Option.some.inj h)
        exact W.lret hx hb hr (R_end hB) hB.2.2.2.2 dX5_lowestBits_45
      · replace h := itn h c_3
        refine lv_tableOut (tgt := 46) hx hb dX5_lowestBits_4 (sw_out (lo := 0) (hi := 2) (by decide) (by decide) (fun k h1 h2 => by rcases (show k = 0 ∨ k = 1 ∨ k = 2 by omega) with rfl | rfl | rfl <;> assumption)) (by decide) ?_
        refine lv_lload_n hx hb dX5_lowestBits_46 rfl (lv_at hl 1 rfl) ?_
        obtain ⟨rfl, rfl⟩ := Prod.mk.inj (Option.some.inj h)
        exact W.lret hx hb hr (R_end hB) hB.2.2.2.2 dX5_lowestBits_47
def f_X5_put (k0 : Nat) (a1 : Int32) (a2 : Int64) (σ : Hp) : Option (Unit × Hp) := if a1 < 0 then some ((), σ) else if (160 : Int32) ≤ a1 then some ((), σ) else b2 (f_X5_lowestBits k0 a2 σ) (fun r_3 s_4 => ck (inb a1 160 = true) (some ((), (sJ s_4 (k0 + 8) a1.toNatClampNeg r_3))))
set_option maxHeartbeats 4000000 in
set_option maxRecDepth 100000 in
theorem c_X5_put (l : Launch) (g : tG) (P : Nat → Nat) (σ : Hp) (k0 : Nat) (a1 : Int32) (a2 : Int64) (hk_k0 : ky k0 = 6) (sz : Nat) {r : Unit} {τ : Hp} (h : f_X5_put k0 a1 a2 σ = some (r, τ)) : Met l yX5_put (Cond.code yX5_put cX5_put 4 none :: tblG) ({ frames := 1, cells := 0, slots := 0, locals := 22 }) (va_Pc [.ref (gL g k0), .int a1, .long a2] (tPre g P σ sz)) (tQ none (tPost g P τ (va_A (wC g P σ) sz)) (va_A (wC g P σ) sz)) 0 0 (va_A (wC g P σ) sz) := by
  refine T_start (B := fun A => tPost g P τ A) (by decide) (Nat.le_of_ble_eq_true rfl) ?_
  intro p e s m args below meth c ls0 A hx hb hml hr hown hlocks ht hnm hK hZ hA hB0 hl0
  suffices hmain : ∀ (H : Heap) (locs : List Loc) (ls : Array Slot), tB g P σ A s.heap H locs → lv_has ls 4 [(0, .ref (gL g k0)), (1, .int a1), (2, .long a2)] → WQ p l e { frames := 1, cells := 0, slots := 0, locals := 22 } s m args below meth c g P A none τ H locs (F0 m 0 ls []) from hmain _ _ ls0 hB0 hl0
  intro H locs ls hB hl
  unfold f_X5_put at h
  refine lv_iload_n hx hb dX5_put_0 rfl (lv_at hl 1 rfl) ?_
  refine lv_if_lt (tgt := 24) hx hb dX5_put_1 (by decide) (fun c_1 => ?_) (fun c_1 => ?_)
  · replace h := itp h c_1
    obtain ⟨rfl, rfl⟩ := Prod.mk.inj (Option.some.inj h)
    exact W.vret hx hb hr (R_end hB) hB.2.2.2.2 dX5_put_24
  · replace h := itn h c_1
    refine lv_iload_n hx hb dX5_put_4 rfl (lv_at hl 1 rfl) ?_
    refine lv_aload_n hx hb dX5_put_5 rfl (lv_at hl 0 rfl) ?_
    refine R_get (v := .ref (gL g (k0 + 8))) hx hb ht ui_X5 hown hK hB (ky_in _ (by rw [hk_k0]; decide)) (cell_6 hk_k0) rfl 0 (by decide) (ht _ tw83) (fun _ h9 => h9) rfl dX5_put_6 ?_
    refine R_alenJ hx hb (v := (160 : Int32)) hK hB (ky_e8 hk_k0) (by rw [(ln_e8 hk_k0)]; rfl) dX5_put_9 ?_
    refine lv_icmp_ge (tgt := 24) hx hb dX5_put_10 (by decide) (fun c_2 => ?_) (fun c_2 => ?_)
    · replace h := itp h c_2
      obtain ⟨rfl, rfl⟩ := Prod.mk.inj (Option.some.inj h)
      exact W.vret hx hb hr (R_end hB) hB.2.2.2.2 dX5_put_24
    · replace h := itn h c_2
      refine lv_aload_n hx hb dX5_put_13 rfl (lv_at hl 0 rfl) ?_
      refine R_get (v := .ref (gL g (k0 + 8))) hx hb ht ui_X5 hown hK hB (ky_in _ (by rw [hk_k0]; decide)) (cell_6 hk_k0) rfl 0 (by decide) (ht _ tw83) (fun _ h9 => h9) rfl dX5_put_14 ?_
      refine lv_iload_n hx hb dX5_put_17 rfl (lv_at hl 1 rfl) ?_
      refine lv_aload_n hx hb dX5_put_18 rfl (lv_at hl 0 rfl) ?_
      refine lv_lload_n hx hb dX5_put_19 rfl (lv_at hl 2 rfl) ?_
      replace h := b2_eq h; obtain ⟨r_3, s_4, hc_5, h⟩ := h
      refine R_call (rest := [.int a1, .ref (gL g (k0 + 8))]) [.long r_3, .int a1, .ref (gL g (k0 + 8))] (R_runV (n := 1) (As := [.long a2]) ⟨hx, hb, hml, hown, ht⟩ (fun _ h9 => h9) hK hZ hA hB (c_X5_lowestBits l g P σ k0 a2 hk_k0 H.size hc_5) (R_recv hK hB (ky_in _ (by rw [hk_k0]; decide)) (cell_6 hk_k0) rfl) tw205 tw202 tw204 pw2 tw3 ⟨by decide, by decide, by decide⟩ rfl rfl ⟨Nat.le_of_ble_eq_true rfl, Nat.le_of_ble_eq_true rfl⟩ rfl hl.1 rfl (Nat.le_of_ble_eq_true rfl) dX5_put_20 ⟨Nat.zero_le _, Nat.zero_le _⟩) hB hA rfl (fun H locs hB => ?_)
      replace h := ck_eq h; obtain ⟨q_6, h⟩ := h
      refine R_last hx hb hK hB (ky_e8 hk_k0) (by rw [(ln_e8 hk_k0)]; exact inb_eq q_6) dX5_put_23 (fun H locs hB => ?_)
      obtain ⟨rfl, rfl⟩ := Prod.mk.inj (Option.some.inj h)
      exact W.vret hx hb hr (R_end hB) hB.2.2.2.2 dX5_put_24
